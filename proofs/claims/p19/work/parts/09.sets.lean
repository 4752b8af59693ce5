/-! ===== the class's sets ===== -/
theorem pp_clearSet {post : (Nat → Int64) → Prop} {f0 : Nat → Int64} {l : Nat} (hl : 2 * l + 1 < 24) (h : ∀ f, (∀ t j, j < 128 → (sp_mem f t j ↔ (sp_mem f0 t j ∧ ¬ t = l))) → post f) : wpX_clearSet post f0 (nI l) := by
  simp only [wpX_clearSet, sp_2s, nI_1, forall_eq]
  rw [nI_clamp (show 2 * l < 2 ^ 31 by omega), nI_clamp (show 2 * l + 1 < 2 ^ 31 by omega)]
  exact ⟨vp_in_nI (by omega) (by omega), vp_in_nI (by omega) (by omega), h _ (fun t j hj => sp_mClr hj)⟩
theorem pp_clearSet_2 {post : (Nat → Int64) → Prop} {f0 : Nat → Int64} {l : Nat} (hl : 2 * l + 1 < 32) (h : ∀ f, (∀ t j, j < 128 → (sp_mem f t j ↔ (sp_mem f0 t j ∧ ¬ t = l))) → post f) : wpX_clearSet_2 post f0 (nI l) := by
  simp only [wpX_clearSet_2, sp_2s, nI_1, forall_eq]
  rw [nI_clamp (show 2 * l < 2 ^ 31 by omega), nI_clamp (show 2 * l + 1 < 2 ^ 31 by omega)]
  exact ⟨vp_in_nI (by omega) (by omega), vp_in_nI (by omega) (by omega), h _ (fun t j hj => sp_mClr hj)⟩
theorem pp_addSet {post : (Nat → Int64) → Prop} {f0 : Nat → Int64} {l t : Nat} (hl : 2 * l + 1 < 24) (ht : 2 * t + 1 < 24) (h : ∀ f, (∀ r j, j < 128 → (sp_mem f r j ↔ (sp_mem f0 r j ∨ (r = t ∧ sp_mem f0 l j)))) → post f) : wpX_addSet post f0 (nI l) (nI t) := by
  simp only [wpX_addSet, sp_2s, nI_1, forall_eq]
  rw [nI_clamp (show 2 * l < 2 ^ 31 by omega), nI_clamp (show 2 * l + 1 < 2 ^ 31 by omega), nI_clamp (show 2 * t < 2 ^ 31 by omega), nI_clamp (show 2 * t + 1 < 2 ^ 31 by omega)]
  exact ⟨vp_in_nI (by omega) (by omega), vp_in_nI (by omega) (by omega), vp_in_nI (by omega) (by omega), vp_in_nI (by omega) (by omega), vp_in_nI (by omega) (by omega), vp_in_nI (by omega) (by omega), h _ (fun r j hj => sp_mOr' hj)⟩
theorem pp_addSet_2 {post : (Nat → Int64) × (Nat → Int64) → Prop} {f0 g0 : Nat → Int64} {l t : Nat} (hl : 2 * l + 1 < 24) (ht : 2 * t + 1 < 24) (h : ∀ f, (∀ r j, j < 128 → (sp_mem f r j ↔ (sp_mem g0 r j ∨ (r = t ∧ sp_mem f0 l j)))) → post (f0, f)) : wpX_addSet_2 post (f0, g0) (nI l) (nI t) := by
  simp only [wpX_addSet_2, sp_2s, nI_1, forall_eq]
  rw [nI_clamp (show 2 * l < 2 ^ 31 by omega), nI_clamp (show 2 * l + 1 < 2 ^ 31 by omega), nI_clamp (show 2 * t < 2 ^ 31 by omega), nI_clamp (show 2 * t + 1 < 2 ^ 31 by omega)]
  exact ⟨vp_in_nI (by omega) (by omega), vp_in_nI (by omega) (by omega), vp_in_nI (by omega) (by omega), vp_in_nI (by omega) (by omega), vp_in_nI (by omega) (by omega), vp_in_nI (by omega) (by omega), h _ (fun r j hj => sp_mOr hj)⟩
theorem pp_addStep {post : (Nat → Int64) → Prop} {f0 : Nat → Int64} {l k : Nat} (hl : 2 * l + 1 < 24) (hk : k < 128) (h : ∀ f, (∀ t j, j < 128 → (sp_mem f t j ↔ (sp_mem f0 t j ∨ (t = l ∧ j = k)))) → post f) : wpX_addStep post f0 (nI l) (nI k) := by
  simp only [wpX_addStep, sp_2s, sp_k6 hk, sp_k63 hk, nI_add, forall_eq]
  rw [nI_clamp (show 2 * l + k / 64 < 2 ^ 31 by omega)]
  exact ⟨vp_in_nI (by omega) (by omega), vp_in_nI (by omega) (by omega), h _ (fun t j hj => sp_mAdd hk hj)⟩
theorem pp_addStep_2 {post : (Nat → Int64) → Prop} {f0 : Nat → Int64} {l k : Nat} (hl : 2 * l + 1 < 32) (hk : k < 128) (h : ∀ f, (∀ t j, j < 128 → (sp_mem f t j ↔ (sp_mem f0 t j ∨ (t = l ∧ j = k)))) → post f) : wpX_addStep_2 post f0 (nI l) (nI k) := by
  simp only [wpX_addStep_2, sp_2s, sp_k6 hk, sp_k63 hk, nI_add, forall_eq]
  rw [nI_clamp (show 2 * l + k / 64 < 2 ^ 31 by omega)]
  exact ⟨vp_in_nI (by omega) (by omega), vp_in_nI (by omega) (by omega), h _ (fun t j hj => sp_mAdd hk hj)⟩
section
variable {g0 g1 g2 g3 g4 g5 g6 g7 g8 : Int32} {cop carg xc xAd xOp xIn xCe xMk lAd lIn lA lX lSp : Nat → Int32} {bef awa rd wr : Nat → Int64}
theorem pp_hasUnordered {post : Int32 → Prop} {c l : Nat} (hc : 2 * c + 1 < 32) (hl : 2 * l + 1 < 24) (h1 : (∃ j, j < 128 ∧ sp_mem wr c j ∧ ¬ sp_mem bef l j) → post 1) (h0 : (¬ ∃ j, j < 128 ∧ sp_mem wr c j ∧ ¬ sp_mem bef l j) → post 0) : wpX_hasUnordered post (g0, g1, g2, g3, g4, g5, g6, g7, g8, cop, carg, xc, xAd, xOp, xIn, xCe, xMk, lAd, lIn, lA, lX, lSp, bef, awa, rd, wr) (nI c) (nI l) := by
  simp only [wpX_hasUnordered, sp_2s, nI_1, forall_eq]
  rw [nI_clamp (show 2 * c < 2 ^ 31 by omega), nI_clamp (show 2 * c + 1 < 2 ^ 31 by omega), nI_clamp (show 2 * l < 2 ^ 31 by omega), nI_clamp (show 2 * l + 1 < 2 ^ 31 by omega)]
  refine ⟨vp_in_nI (by omega) (by omega), vp_in_nI (by omega) (by omega), vp_in_nI (by omega) (by omega), vp_in_nI (by omega) (by omega), fun z => h0 (fun e => ?_), fun z => h1 (sp_mUn.1 z)⟩
  exact sp_mUn.2 e z
theorem pp_hasUnordered_2 {post : Int32 → Prop} {c l : Nat} (hc : 2 * c + 1 < 32) (hl : 2 * l + 1 < 24) (h1 : (∃ j, j < 128 ∧ sp_mem rd c j ∧ ¬ sp_mem bef l j) → post 1) (h0 : (¬ ∃ j, j < 128 ∧ sp_mem rd c j ∧ ¬ sp_mem bef l j) → post 0) : wpX_hasUnordered_2 post (g0, g1, g2, g3, g4, g5, g6, g7, g8, cop, carg, xc, xAd, xOp, xIn, xCe, xMk, lAd, lIn, lA, lX, lSp, bef, awa, rd, wr) (nI c) (nI l) := by
  simp only [wpX_hasUnordered_2, sp_2s, nI_1, forall_eq]
  rw [nI_clamp (show 2 * c < 2 ^ 31 by omega), nI_clamp (show 2 * c + 1 < 2 ^ 31 by omega), nI_clamp (show 2 * l < 2 ^ 31 by omega), nI_clamp (show 2 * l + 1 < 2 ^ 31 by omega)]
  refine ⟨vp_in_nI (by omega) (by omega), vp_in_nI (by omega) (by omega), vp_in_nI (by omega) (by omega), vp_in_nI (by omega) (by omega), fun z => h0 (fun e => ?_), fun z => h1 (sp_mUn.1 z)⟩
  exact sp_mUn.2 e z
end

/-! ===== the class's sets ===== -/
section
variable {g0 g1 g2 g3 g4 g5 g6 g7 g8 : Int32} {cop carg xc xAd xOp xIn xCe xMk lAd lIn lA lX lSp : Nat → Int32} {bef awa rd wr : Nat → Int64}
theorem sp_xClr_before {post : SX → Prop} {l : Nat} (hl : 2 * l + 1 < 24) (h : ∀ f, (∀ t j, j < 128 → (sp_mem f t j ↔ (sp_mem bef t j ∧ ¬ t = l))) → post (g0, g1, g2, g3, g4, g5, g6, g7, g8, cop, carg, xc, xAd, xOp, xIn, xCe, xMk, lAd, lIn, lA, lX, lSp, f, awa, rd, wr)) : wpX_clearSet__before post (g0, g1, g2, g3, g4, g5, g6, g7, g8, cop, carg, xc, xAd, xOp, xIn, xCe, xMk, lAd, lIn, lA, lX, lSp, bef, awa, rd, wr) (nI l) := by
  simp only [wpX_clearSet__before, sp_2s, nI_1, forall_eq]
  rw [nI_clamp (show 2 * l < 2 ^ 31 by omega), nI_clamp (show 2 * l + 1 < 2 ^ 31 by omega)]
  exact ⟨vp_in_nI (by omega) (by omega), vp_in_nI (by omega) (by omega), h _ (fun t j hj => sp_mClr hj)⟩
theorem sp_xClr_awaited {post : SX → Prop} {l : Nat} (hl : 2 * l + 1 < 24) (h : ∀ f, (∀ t j, j < 128 → (sp_mem f t j ↔ (sp_mem awa t j ∧ ¬ t = l))) → post (g0, g1, g2, g3, g4, g5, g6, g7, g8, cop, carg, xc, xAd, xOp, xIn, xCe, xMk, lAd, lIn, lA, lX, lSp, bef, f, rd, wr)) : wpX_clearSet__awaited post (g0, g1, g2, g3, g4, g5, g6, g7, g8, cop, carg, xc, xAd, xOp, xIn, xCe, xMk, lAd, lIn, lA, lX, lSp, bef, awa, rd, wr) (nI l) := by
  simp only [wpX_clearSet__awaited, sp_2s, nI_1, forall_eq]
  rw [nI_clamp (show 2 * l < 2 ^ 31 by omega), nI_clamp (show 2 * l + 1 < 2 ^ 31 by omega)]
  exact ⟨vp_in_nI (by omega) (by omega), vp_in_nI (by omega) (by omega), h _ (fun t j hj => sp_mClr hj)⟩
theorem sp_xClr_readers {post : SX → Prop} {l : Nat} (hl : 2 * l + 1 < 32) (h : ∀ f, (∀ t j, j < 128 → (sp_mem f t j ↔ (sp_mem rd t j ∧ ¬ t = l))) → post (g0, g1, g2, g3, g4, g5, g6, g7, g8, cop, carg, xc, xAd, xOp, xIn, xCe, xMk, lAd, lIn, lA, lX, lSp, bef, awa, f, wr)) : wpX_clearSet__readers post (g0, g1, g2, g3, g4, g5, g6, g7, g8, cop, carg, xc, xAd, xOp, xIn, xCe, xMk, lAd, lIn, lA, lX, lSp, bef, awa, rd, wr) (nI l) := by
  simp only [wpX_clearSet__readers, sp_2s, nI_1, forall_eq]
  rw [nI_clamp (show 2 * l < 2 ^ 31 by omega), nI_clamp (show 2 * l + 1 < 2 ^ 31 by omega)]
  exact ⟨vp_in_nI (by omega) (by omega), vp_in_nI (by omega) (by omega), h _ (fun t j hj => sp_mClr hj)⟩
theorem sp_xClr_writers {post : SX → Prop} {l : Nat} (hl : 2 * l + 1 < 32) (h : ∀ f, (∀ t j, j < 128 → (sp_mem f t j ↔ (sp_mem wr t j ∧ ¬ t = l))) → post (g0, g1, g2, g3, g4, g5, g6, g7, g8, cop, carg, xc, xAd, xOp, xIn, xCe, xMk, lAd, lIn, lA, lX, lSp, bef, awa, rd, f)) : wpX_clearSet__writers post (g0, g1, g2, g3, g4, g5, g6, g7, g8, cop, carg, xc, xAd, xOp, xIn, xCe, xMk, lAd, lIn, lA, lX, lSp, bef, awa, rd, wr) (nI l) := by
  simp only [wpX_clearSet__writers, sp_2s, nI_1, forall_eq]
  rw [nI_clamp (show 2 * l < 2 ^ 31 by omega), nI_clamp (show 2 * l + 1 < 2 ^ 31 by omega)]
  exact ⟨vp_in_nI (by omega) (by omega), vp_in_nI (by omega) (by omega), h _ (fun t j hj => sp_mClr hj)⟩
theorem sp_xOr_before_before {post : SX → Prop} {l t : Nat} (hl : 2 * l + 1 < 24) (ht : 2 * t + 1 < 24) (h : ∀ f, (∀ r j, j < 128 → (sp_mem f r j ↔ (sp_mem bef r j ∨ (r = t ∧ sp_mem bef l j)))) → post (g0, g1, g2, g3, g4, g5, g6, g7, g8, cop, carg, xc, xAd, xOp, xIn, xCe, xMk, lAd, lIn, lA, lX, lSp, f, awa, rd, wr)) : wpX_addSet__before_before post (g0, g1, g2, g3, g4, g5, g6, g7, g8, cop, carg, xc, xAd, xOp, xIn, xCe, xMk, lAd, lIn, lA, lX, lSp, bef, awa, rd, wr) (nI l) (nI t) := by
  simp only [wpX_addSet__before_before, sp_2s, nI_1, forall_eq]
  rw [nI_clamp (show 2 * l < 2 ^ 31 by omega), nI_clamp (show 2 * l + 1 < 2 ^ 31 by omega), nI_clamp (show 2 * t < 2 ^ 31 by omega), nI_clamp (show 2 * t + 1 < 2 ^ 31 by omega)]
  exact ⟨vp_in_nI (by omega) (by omega), vp_in_nI (by omega) (by omega), vp_in_nI (by omega) (by omega), vp_in_nI (by omega) (by omega), vp_in_nI (by omega) (by omega), vp_in_nI (by omega) (by omega), h _ (fun r j hj => sp_mOr' hj)⟩
theorem sp_xOr_awaited_before {post : SX → Prop} {l t : Nat} (hl : 2 * l + 1 < 24) (ht : 2 * t + 1 < 24) (h : ∀ f, (∀ r j, j < 128 → (sp_mem f r j ↔ (sp_mem bef r j ∨ (r = t ∧ sp_mem awa l j)))) → post (g0, g1, g2, g3, g4, g5, g6, g7, g8, cop, carg, xc, xAd, xOp, xIn, xCe, xMk, lAd, lIn, lA, lX, lSp, f, awa, rd, wr)) : wpX_addSet__awaited_before post (g0, g1, g2, g3, g4, g5, g6, g7, g8, cop, carg, xc, xAd, xOp, xIn, xCe, xMk, lAd, lIn, lA, lX, lSp, bef, awa, rd, wr) (nI l) (nI t) := by
  simp only [wpX_addSet__awaited_before, sp_2s, nI_1, forall_eq]
  rw [nI_clamp (show 2 * l < 2 ^ 31 by omega), nI_clamp (show 2 * l + 1 < 2 ^ 31 by omega), nI_clamp (show 2 * t < 2 ^ 31 by omega), nI_clamp (show 2 * t + 1 < 2 ^ 31 by omega)]
  exact ⟨vp_in_nI (by omega) (by omega), vp_in_nI (by omega) (by omega), vp_in_nI (by omega) (by omega), vp_in_nI (by omega) (by omega), vp_in_nI (by omega) (by omega), vp_in_nI (by omega) (by omega), h _ (fun r j hj => sp_mOr hj)⟩
theorem sp_xOr_before_awaited {post : SX → Prop} {l t : Nat} (hl : 2 * l + 1 < 24) (ht : 2 * t + 1 < 24) (h : ∀ f, (∀ r j, j < 128 → (sp_mem f r j ↔ (sp_mem awa r j ∨ (r = t ∧ sp_mem bef l j)))) → post (g0, g1, g2, g3, g4, g5, g6, g7, g8, cop, carg, xc, xAd, xOp, xIn, xCe, xMk, lAd, lIn, lA, lX, lSp, bef, f, rd, wr)) : wpX_addSet__before_awaited post (g0, g1, g2, g3, g4, g5, g6, g7, g8, cop, carg, xc, xAd, xOp, xIn, xCe, xMk, lAd, lIn, lA, lX, lSp, bef, awa, rd, wr) (nI l) (nI t) := by
  simp only [wpX_addSet__before_awaited, sp_2s, nI_1, forall_eq]
  rw [nI_clamp (show 2 * l < 2 ^ 31 by omega), nI_clamp (show 2 * l + 1 < 2 ^ 31 by omega), nI_clamp (show 2 * t < 2 ^ 31 by omega), nI_clamp (show 2 * t + 1 < 2 ^ 31 by omega)]
  exact ⟨vp_in_nI (by omega) (by omega), vp_in_nI (by omega) (by omega), vp_in_nI (by omega) (by omega), vp_in_nI (by omega) (by omega), vp_in_nI (by omega) (by omega), vp_in_nI (by omega) (by omega), h _ (fun r j hj => sp_mOr hj)⟩
theorem sp_xAdd_before {post : SX → Prop} {l k : Nat} (hl : 2 * l + 1 < 24) (hk : k < 128) (h : ∀ f, (∀ t j, j < 128 → (sp_mem f t j ↔ (sp_mem bef t j ∨ (t = l ∧ j = k)))) → post (g0, g1, g2, g3, g4, g5, g6, g7, g8, cop, carg, xc, xAd, xOp, xIn, xCe, xMk, lAd, lIn, lA, lX, lSp, f, awa, rd, wr)) : wpX_addStep__before post (g0, g1, g2, g3, g4, g5, g6, g7, g8, cop, carg, xc, xAd, xOp, xIn, xCe, xMk, lAd, lIn, lA, lX, lSp, bef, awa, rd, wr) (nI l) (nI k) := by
  simp only [wpX_addStep__before, sp_2s, sp_k6 hk, sp_k63 hk, nI_add, forall_eq]
  rw [nI_clamp (show 2 * l + k / 64 < 2 ^ 31 by omega)]
  exact ⟨vp_in_nI (by omega) (by omega), vp_in_nI (by omega) (by omega), h _ (fun t j hj => sp_mAdd hk hj)⟩
theorem sp_xAdd_readers {post : SX → Prop} {l k : Nat} (hl : 2 * l + 1 < 32) (hk : k < 128) (h : ∀ f, (∀ t j, j < 128 → (sp_mem f t j ↔ (sp_mem rd t j ∨ (t = l ∧ j = k)))) → post (g0, g1, g2, g3, g4, g5, g6, g7, g8, cop, carg, xc, xAd, xOp, xIn, xCe, xMk, lAd, lIn, lA, lX, lSp, bef, awa, f, wr)) : wpX_addStep__readers post (g0, g1, g2, g3, g4, g5, g6, g7, g8, cop, carg, xc, xAd, xOp, xIn, xCe, xMk, lAd, lIn, lA, lX, lSp, bef, awa, rd, wr) (nI l) (nI k) := by
  simp only [wpX_addStep__readers, sp_2s, sp_k6 hk, sp_k63 hk, nI_add, forall_eq]
  rw [nI_clamp (show 2 * l + k / 64 < 2 ^ 31 by omega)]
  exact ⟨vp_in_nI (by omega) (by omega), vp_in_nI (by omega) (by omega), h _ (fun t j hj => sp_mAdd hk hj)⟩
theorem sp_xAdd_writers {post : SX → Prop} {l k : Nat} (hl : 2 * l + 1 < 32) (hk : k < 128) (h : ∀ f, (∀ t j, j < 128 → (sp_mem f t j ↔ (sp_mem wr t j ∨ (t = l ∧ j = k)))) → post (g0, g1, g2, g3, g4, g5, g6, g7, g8, cop, carg, xc, xAd, xOp, xIn, xCe, xMk, lAd, lIn, lA, lX, lSp, bef, awa, rd, f)) : wpX_addStep__writers post (g0, g1, g2, g3, g4, g5, g6, g7, g8, cop, carg, xc, xAd, xOp, xIn, xCe, xMk, lAd, lIn, lA, lX, lSp, bef, awa, rd, wr) (nI l) (nI k) := by
  simp only [wpX_addStep__writers, sp_2s, sp_k6 hk, sp_k63 hk, nI_add, forall_eq]
  rw [nI_clamp (show 2 * l + k / 64 < 2 ^ 31 by omega)]
  exact ⟨vp_in_nI (by omega) (by omega), vp_in_nI (by omega) (by omega), h _ (fun t j hj => sp_mAdd hk hj)⟩
theorem sp_xUn_readers {post : Int32 → Prop} {c l : Nat} (hc : 2 * c + 1 < 32) (hl : 2 * l + 1 < 24) (h1 : (∃ j, j < 128 ∧ sp_mem rd c j ∧ ¬ sp_mem bef l j) → post 1) (h0 : (¬ ∃ j, j < 128 ∧ sp_mem rd c j ∧ ¬ sp_mem bef l j) → post 0) : wpX_hasUnordered__readers post (g0, g1, g2, g3, g4, g5, g6, g7, g8, cop, carg, xc, xAd, xOp, xIn, xCe, xMk, lAd, lIn, lA, lX, lSp, bef, awa, rd, wr) (nI c) (nI l) := by
  simp only [wpX_hasUnordered__readers, sp_2s, nI_1, forall_eq]
  rw [nI_clamp (show 2 * c < 2 ^ 31 by omega), nI_clamp (show 2 * c + 1 < 2 ^ 31 by omega), nI_clamp (show 2 * l < 2 ^ 31 by omega), nI_clamp (show 2 * l + 1 < 2 ^ 31 by omega)]
  refine ⟨vp_in_nI (by omega) (by omega), vp_in_nI (by omega) (by omega), vp_in_nI (by omega) (by omega), vp_in_nI (by omega) (by omega), fun z => h0 (fun e => ?_), fun z => h1 (sp_mUn.1 z)⟩
  exact sp_mUn.2 e z
theorem sp_xUn_writers {post : Int32 → Prop} {c l : Nat} (hc : 2 * c + 1 < 32) (hl : 2 * l + 1 < 24) (h1 : (∃ j, j < 128 ∧ sp_mem wr c j ∧ ¬ sp_mem bef l j) → post 1) (h0 : (¬ ∃ j, j < 128 ∧ sp_mem wr c j ∧ ¬ sp_mem bef l j) → post 0) : wpX_hasUnordered__writers post (g0, g1, g2, g3, g4, g5, g6, g7, g8, cop, carg, xc, xAd, xOp, xIn, xCe, xMk, lAd, lIn, lA, lX, lSp, bef, awa, rd, wr) (nI c) (nI l) := by
  simp only [wpX_hasUnordered__writers, sp_2s, nI_1, forall_eq]
  rw [nI_clamp (show 2 * c < 2 ^ 31 by omega), nI_clamp (show 2 * c + 1 < 2 ^ 31 by omega), nI_clamp (show 2 * l < 2 ^ 31 by omega), nI_clamp (show 2 * l + 1 < 2 ^ 31 by omega)]
  refine ⟨vp_in_nI (by omega) (by omega), vp_in_nI (by omega) (by omega), vp_in_nI (by omega) (by omega), vp_in_nI (by omega) (by omega), fun z => h0 (fun e => ?_), fun z => h1 (sp_mUn.1 z)⟩
  exact sp_mUn.2 e z
theorem sp_xHas {post : Int32 → Prop} {l k : Nat} (hl : 2 * l + 1 < 24) (hk : k < 128) (h1 : sp_mem bef l k → post 1) (h0 : ¬ sp_mem bef l k → post 0) : wpX_hasStep__before post (g0, g1, g2, g3, g4, g5, g6, g7, g8, cop, carg, xc, xAd, xOp, xIn, xCe, xMk, lAd, lIn, lA, lX, lSp, bef, awa, rd, wr) (nI l) (nI k) := by
  simp only [wpX_hasStep__before, sp_2s, sp_k6 hk, sp_k63 hk, nI_add]
  rw [nI_clamp (show 2 * l + k / 64 < 2 ^ 31 by omega)]
  exact ⟨vp_in_nI (by omega) (by omega), fun z => h1 ((sp_bhas _ (by omega)).1 z), fun z => h0 (fun e => z ((sp_bhas _ (by omega)).2 e))⟩
end

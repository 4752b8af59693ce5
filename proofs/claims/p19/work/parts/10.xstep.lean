/-! ===== the class's step: recordStep, makeInstance, endInstance ===== -/
section
variable {g0 g1 g2 g3 g4 g5 g6 g7 g8 : Int32} {cop carg xc xAd xOp xIn xCe xMk lAd lIn lA lX lSp : Nat → Int32} {bef awa rd wr : Nat → Int64}
theorem sp_xNote {post : St2 → Prop} {oo e k : Nat} (ho : oo ≤ 11) (he : e < 16) (hk : k < 128)
    (h : ∀ f g, (∀ c j, j < 128 → (sp_mem f c j ↔ (sp_mem rd c j ∨ (¬ oo = 5 ∧ c = e ∧ j = k)))) → (∀ c j, j < 128 → (sp_mem g c j ↔ (sp_mem wr c j ∨ (oo = 5 ∧ c = e ∧ j = k)))) → post (g0, g1, g2, g3, g4, g5, g6, g7, g8, cop, carg, xc, xAd, xOp, xIn, xCe, xMk, lAd, lIn, lA, lX, lSp, bef, awa, f, g)) :
    wpX_noteAccess post (g0, g1, g2, g3, g4, g5, g6, g7, g8, cop, carg, xc, xAd, xOp, xIn, xCe, xMk, lAd, lIn, lA, lX, lSp, bef, awa, rd, wr) (nI oo) (nI e) (nI k) := by
  unfold wpX_noteAccess
  dsimp only
  refine pk_eq oo 5 (fun e5 => ?_) (fun n5 => ?_)
  · refine pp_addStep_2 (by omega) hk (fun f hf => ?_)
    refine h rd f (fun c j hj => ?_) (fun c j hj => ?_)
    · simp only [e5, not_true_eq_false, false_and, or_false]
    · rw [hf c j hj]; simp only [e5, true_and]
  · refine pp_addStep_2 (by omega) hk (fun f hf => ?_)
    refine h f wr (fun c j hj => ?_) (fun c j hj => ?_)
    · rw [hf c j hj]; simp only [n5, ne_eq, not_false_eq_true, true_and]
    · simp only [n5, false_and, or_false]
theorem sp_xMask {post : Int32 → Prop} {oo L e : Nat} (ho : oo ≤ 11) (hL : L < 12) (he : e < 16)
    (h : ∀ a b : Nat, a ≤ 1 → b ≤ 1 → (a = 1 ↔ ∃ j, j < 128 ∧ sp_mem wr e j ∧ ¬ sp_mem bef L j) → (b = 1 ↔ (oo = 5 ∧ ∃ j, j < 128 ∧ sp_mem rd e j ∧ ¬ sp_mem bef L j)) → post (nI (a + 2 * b))) :
    wpX_maskOf post (g0, g1, g2, g3, g4, g5, g6, g7, g8, cop, carg, xc, xAd, xOp, xIn, xCe, xMk, lAd, lIn, lA, lX, lSp, bef, awa, rd, wr) (nI L) (nI oo) (nI e) := by
  have key : ∀ a : Nat, a ≤ 1 → (a = 1 ↔ ∃ j, j < 128 ∧ sp_mem wr e j ∧ ¬ sp_mem bef L j) → wX_maskOf_19 post (nI L) (nI oo) (nI e) (nI a) (g0) (g1) (g2) (g3) (g4) (g5) (g6) (g7) (g8) (cop) (carg) (xc) (xAd) (xOp) (xIn) (xCe) (xMk) (lAd) (lIn) (lA) (lX) (lSp) (bef) (awa) (rd) (wr) := by
    intro a ha hw
    unfold wX_maskOf_19
    refine pk_eq oo 5 (fun e5 => ?_) (fun n5 => ?_)
    · refine pp_hasUnordered_2 (by omega) (by omega) (fun z => ?_) (fun z => ?_)
      · refine br_f (by decide) (nm_r (nI_add a 2) ?_)
        exact h a 1 ha (by omega) hw ⟨fun _ => ⟨e5, z⟩, fun _ => rfl⟩
      · refine br_t rfl ?_
        exact h a 0 ha (by omega) hw ⟨fun w => absurd w (by omega), fun w => absurd w.2 z⟩
    · exact h a 0 ha (by omega) hw ⟨fun w => absurd w (by omega), fun w => absurd w.1 n5⟩
  unfold wpX_maskOf
  dsimp only
  refine pp_hasUnordered (by omega) (by omega) (fun z => ?_) (fun z => ?_)
  · refine br_f (by decide) (nm_r (nI_add 0 1) ?_)
    exact key 1 (by omega) ⟨fun _ => z, fun _ => rfl⟩
  · refine br_t rfl ?_
    exact key 0 (by omega) ⟨fun w => absurd w (by omega), fun w => absurd w z⟩
theorem sp_xRec112 {post : St2 → Prop} {L k : Nat} (hL : L < 12) (hk : k < 128)
    (h : ∀ f, (∀ t j, j < 128 → (sp_mem f t j ↔ (sp_mem bef t j ∨ (t = L ∧ j = k)))) → post (g0, g1, g2, g3, g4, g5, nI (k + 1), g7, g8, cop, carg, xc, xAd, xOp, xIn, xCe, xMk, lAd, lIn, lA, lX, lSp, f, awa, rd, wr)) : wX_recordStep_112 post (nI L) (nI k) (g0) (g1) (g2) (g3) (g4) (g5) (g6) (g7) (g8) (cop) (carg) (xc) (xAd) (xOp) (xIn) (xCe) (xMk) (lAd) (lIn) (lA) (lX) (lSp) (bef) (awa) (rd) (wr) := by
  unfold wX_recordStep_112
  exact pp_addStep (by omega) hk (fun f hf => nm_r (nI_1 k) (h f hf))
theorem sp_xRec36 {post : St2 → Prop} {L oo k ce : Nat} {pv ev : Int32} (ho : oo ≤ 11) (hL : L < 12) (hk : k < 128) (hce : ce ≤ 16) (he : sp_ev ce oo ev)
    (h : ∀ mv f r w, (∀ t j, j < 128 → (sp_mem f t j ↔ (sp_mem bef t j ∨ (t = L ∧ j = k)))) →
      (∀ c, c < 16 → ∀ j, j < 128 → (sp_mem w c j ↔ (sp_mem wr c j ∨ (j = k ∧ ev = nI c ∧ oo = 5)))) → (∀ c, c < 16 → ∀ j, j < 128 → (sp_mem r c j ↔ (sp_mem rd c j ∨ (j = k ∧ ev = nI c ∧ ¬ oo = 5)))) →
      sp_mv oo L bef rd wr ev mv →
      post (g0, g1, g2, g3, g4, g5, nI (k + 1), g7, g8, cop, carg, xc, upd xAd k pv, upd xOp k (nI oo), upd xIn k (lIn L), upd xCe k ev, upd xMk k mv, lAd, lIn, lA, lX, lSp, f, awa, r, w)) :
    wX_recordStep_36 post (nI L) pv (nI oo) ev (nI k) (g0) (g1) (g2) (g3) (g4) (g5) (g6) (g7) (g8) (cop) (carg) (xc) (xAd) (xOp) (xIn) (xCe) (xMk) (lAd) (lIn) (lA) (lX) (lSp) (bef) (awa) (rd) (wr) := by
  have ik : vp_in (nI k) 128 := vp_in_nI hk (by omega)
  have ck : (nI k).toNatClampNeg = k := nI_clamp (by omega)
  have iL : vp_in (nI L) 12 := vp_in_nI hL (by omega)
  have cL : (nI L).toNatClampNeg = L := nI_clamp (by omega)
  unfold wX_recordStep_36
  rw [ck, cL]
  refine ⟨ik, nm_e ⟨ik, nm_e ⟨iL, ik, nm_e ⟨ik, nm_e ⟨ik, nm_e ?_⟩⟩⟩⟩⟩
  rcases he with ⟨ha, e, he1, he2⟩ | ⟨ha, he2⟩
  · have hne : ¬ ev = -1 := by rw [he2]; exact fun z => sp_m1n (by omega) z.symm
    refine br_f hne ?_
    rw [he2]
    refine sp_xMask ho hL (by omega) (fun a b a1 b1 ha' hb' => ?_)
    refine ⟨ik, nm_e ?_⟩
    refine sp_xNote ho (by omega) hk (fun r w hr hw => ?_)
    refine sp_xRec112 hL hk (fun f hf => ?_)
    have hu : upd (upd xMk k 0) k (nI (a + 2 * b)) = upd xMk k (nI (a + 2 * b)) := by
      funext t
      by_cases e : t = k
      · rw [e, pk_us, pk_us]
      · rw [pk_un e, pk_un e, pk_un e]
    rw [hu, ← he2]
    refine h (nI (a + 2 * b)) f r w hf ?_ ?_ ?_
    · intro c hc j hj
      rw [hw c j hj, he2, nI_eq (by omega) (by omega)]
      constructor
      · rintro (z | ⟨z1, z2, z3⟩)
        · exact Or.inl z
        · exact Or.inr ⟨z3, z2.symm, z1⟩
      · rintro (z | ⟨z1, z2, z3⟩)
        · exact Or.inl z
        · exact Or.inr ⟨z3, z2.symm, z1⟩
    · intro c hc j hj
      rw [hr c j hj, he2, nI_eq (by omega) (by omega)]
      constructor
      · rintro (z | ⟨z1, z2, z3⟩)
        · exact Or.inl z
        · exact Or.inr ⟨z3, z2.symm, z1⟩
      · rintro (z | ⟨z1, z2, z3⟩)
        · exact Or.inl z
        · exact Or.inr ⟨z3, z2.symm, z1⟩
    · refine ⟨fun z => absurd z hne, fun c hc z => ?_⟩
      rw [he2, nI_eq (by omega) (by omega)] at z
      rw [← z]
      exact ⟨a, b, a1, b1, rfl, ha', hb'⟩
  · refine br_t he2 ?_
    refine sp_xRec112 hL hk (fun f hf => ?_)
    refine h 0 f rd wr hf ?_ ?_ ?_
    · intro c hc j hj
      have z : ¬ ev = nI c := by rw [he2]; exact sp_m1n (by omega)
      simp only [z, false_and, and_false, or_false]
    · intro c hc j hj
      have z : ¬ ev = nI c := by rw [he2]; exact sp_m1n (by omega)
      simp only [z, false_and, and_false, or_false]
    · refine ⟨fun _ => rfl, fun c hc z => ?_⟩
      rw [he2] at z
      exact absurd z (sp_m1n (by omega))
theorem sp_xRec {post : St2 → Prop} {L oo k ce : Nat} {pv ev : Int32} (ho : oo ≤ 11) (hL : L < 12) (hk : k < 128) (hce : ce ≤ 16) (he : sp_ev ce oo ev)
    (h : ∀ mv f a r w, sp_rec oo L k ev mv bef awa rd wr f a r w →
      post (g0, g1, g2, g3, g4, g5, nI (k + 1), g7, g8, cop, carg, xc, upd xAd k pv, upd xOp k (nI oo), upd xIn k (lIn L), upd xCe k ev, upd xMk k mv, lAd, lIn, lA, lX, lSp, f, a, r, w)) :
    wpX_recordStep post (g0, g1, g2, g3, g4, g5, nI k, g7, g8, cop, carg, xc, xAd, xOp, xIn, xCe, xMk, lAd, lIn, lA, lX, lSp, bef, awa, rd, wr) (nI L) pv (nI oo) ev := by
  have hjoin : (oo = 1 ∨ oo = 0) → wX_recordStep_15 post (nI L) pv (nI oo) ev (nI k) (g0) (g1) (g2) (g3) (g4) (g5) (nI k) (g7) (g8) (cop) (carg) (xc) (xAd) (xOp) (xIn) (xCe) (xMk) (lAd) (lIn) (lA) (lX) (lSp) (bef) (awa) (rd) (wr) := by
    intro hj
    unfold wX_recordStep_15
    refine pp_addSet_2 (by omega) (by omega) (fun f1 hf1 => ?_)
    refine pp_clearSet (by omega) (fun a ha => ?_)
    refine sp_xRec36 ho hL hk hce he (fun mv f r w hf hw hr hm => h mv f a r w ⟨?_, ?_, hw, hr, ?_⟩)
    · intro t j hj'
      rw [hf t j hj', hf1 t j hj']
      constructor
      · rintro ((z | z) | z)
        · exact Or.inl z
        · exact Or.inr ⟨z.1, Or.inl ⟨hj, z.2⟩⟩
        · exact Or.inr ⟨z.1, Or.inr z.2⟩
      · rintro (z | ⟨z, (y | y)⟩)
        · exact Or.inl (Or.inl z)
        · exact Or.inl (Or.inr ⟨z, y.2⟩)
        · exact Or.inr ⟨z, y⟩
    · intro t j hj'
      rw [ha t j hj']
      simp only [hj, and_true]
    · refine ⟨hm.1, fun e he1 z => ?_⟩
      exfalso
      rcases he with ⟨y, _⟩ | ⟨_, y⟩
      · rcases y with y | y | y <;> omega
      · rw [y] at z
        exact sp_m1n (by omega) z
  unfold wpX_recordStep
  dsimp only
  refine pk_eq oo 1 (fun e1 => hjoin (Or.inl e1)) (fun n1 => pk_eq oo 0 (fun e0 => hjoin (Or.inr e0)) (fun n0 => ?_))
  have hj : ¬ (oo = 1 ∨ oo = 0) := by omega
  refine sp_xRec36 ho hL hk hce he (fun mv f r w hf hw hr hm => h mv f awa r w ⟨?_, ?_, hw, hr, hm⟩)
  · intro t j hj'
    rw [hf t j hj']
    simp only [hj, false_and, false_or]
  · intro t j hj'
    simp only [hj, and_false, not_false_eq_true, and_true]
theorem sp_xMake90 {post : St2 → Prop} {d i : Nat} (h : post (g0, g1, g2, g3, g4, g5, g6, nI (d + 1), nI (i + 1), cop, carg, xc, xAd, xOp, xIn, xCe, xMk, lAd, lIn, lA, lX, lSp, bef, awa, rd, wr)) : wX_makeInstance_90 post (nI d) (g0) (g1) (g2) (g3) (g4) (g5) (g6) (g7) (nI i) (cop) (carg) (xc) (xAd) (xOp) (xIn) (xCe) (xMk) (lAd) (lIn) (lA) (lX) (lSp) (bef) (awa) (rd) (wr) := by
  unfold wX_makeInstance_90
  exact nm_r (nI_1 d) (nm_r (nI_1 i) h)
theorem sp_xMake {post : St2 → Prop} {d i : Nat} {p0 p1 p2 p3 : Int32} (hd : d < 12)
    (h : ∀ f g, (∀ t j, j < 128 → (sp_mem f t j ↔ ((sp_mem bef t j ∧ ¬ t = d) ∨ (0 < d ∧ t = d ∧ sp_mem bef (d - 1) j)))) → (∀ t j, j < 128 → (sp_mem g t j ↔ (sp_mem awa t j ∧ ¬ t = d))) →
      post (g0, g1, g2, g3, g4, g5, g6, nI (d + 1), nI (i + 1), cop, carg, xc, xAd, xOp, xIn, xCe, xMk, upd lAd d p0, upd lIn d (nI i), upd lA d p1, upd lX d p2, upd lSp d p3, f, g, rd, wr)) :
    wpX_makeInstance post (g0, g1, g2, g3, g4, g5, g6, nI d, nI i, cop, carg, xc, xAd, xOp, xIn, xCe, xMk, lAd, lIn, lA, lX, lSp, bef, awa, rd, wr) p0 p1 p2 p3 := by
  have iD : vp_in (nI d) 12 := vp_in_nI hd (by omega)
  have cD : (nI d).toNatClampNeg = d := nI_clamp (by omega)
  unfold wpX_makeInstance
  dsimp only
  rw [cD]
  refine ⟨iD, nm_e ⟨iD, nm_e ⟨iD, nm_e ⟨iD, nm_e ⟨iD, nm_e ?_⟩⟩⟩⟩⟩
  refine pp_clearSet (by omega) (fun f hf => ?_)
  refine pp_clearSet (by omega) (fun g hg => ?_)
  by_cases h0 : d = 0
  · have z : nI d ≤ 0 := by rw [h0]; decide
    refine br_t z (sp_xMake90 (h f g (fun t j hj => ?_) hg))
    rw [hf t j hj]
    have z2 : ¬ 0 < d := by omega
    simp only [z2, false_and, or_false]
  · have z : ¬ nI d ≤ 0 := nI_nle (by omega) (by omega)
    have e1 : nI d - 1 = nI (d - 1) := pk_sub (b := 1) (by omega)
    refine br_f z ?_
    rw [e1]
    refine pp_addSet (by omega) (by omega) (fun f2 hf2 => sp_xMake90 (h f2 g (fun t j hj => ?_) hg))
    rw [hf2 t j hj, hf t j hj, hf (d - 1) j hj]
    have z2 : 0 < d := by omega
    have z3 : ¬ d - 1 = d := by omega
    simp only [z2, z3, true_and, not_false_eq_true, and_true]
theorem sp_xEnd0 {post : St2 → Prop} (h : post (g0, g1, g2, g3, g4, 2, g6, nI 0, g8, cop, carg, xc, xAd, xOp, xIn, xCe, xMk, lAd, lIn, lA, lX, lSp, bef, awa, rd, wr)) : wpX_endInstance post (g0, g1, g2, g3, g4, g5, g6, g7, g8, cop, carg, xc, xAd, xOp, xIn, xCe, xMk, lAd, lIn, lA, lX, lSp, bef, awa, rd, wr) (nI 0) := by
  unfold wpX_endInstance
  dsimp only
  exact br_t rfl h
theorem sp_xEnd {post : St2 → Prop} {p : Nat} (hp : p + 1 < 12)
    (hs : lSp (p + 1) = 1 → ∀ f, (∀ t j, j < 128 → (sp_mem f t j ↔ (sp_mem awa t j ∨ (t = p ∧ sp_mem bef (p + 1) j)))) → post (g0, g1, g2, g3, g4, g5, g6, nI (p + 1), g8, cop, carg, xc, xAd, xOp, xIn, xCe, xMk, lAd, lIn, lA, lX, lSp, bef, f, rd, wr))
    (hc : ¬ lSp (p + 1) = 1 → ∀ f, (∀ t j, j < 128 → (sp_mem f t j ↔ (sp_mem bef t j ∨ (t = p ∧ sp_mem bef (p + 1) j)))) → post (g0, g1, g2, g3, g4, g5, g6, nI (p + 1), g8, cop, carg, xc, xAd, xOp, xIn, xCe, xMk, lAd, lIn, upd lA p (lA (p + 1)), lX, lSp, f, awa, rd, wr)) :
    wpX_endInstance post (g0, g1, g2, g3, g4, g5, g6, g7, g8, cop, carg, xc, xAd, xOp, xIn, xCe, xMk, lAd, lIn, lA, lX, lSp, bef, awa, rd, wr) (nI (p + 1)) := by
  have iP : vp_in (nI (p + 1)) 12 := vp_in_nI hp (by omega)
  have iQ : vp_in (nI p) 12 := vp_in_nI (by omega) (by omega)
  have cP : (nI (p + 1)).toNatClampNeg = p + 1 := nI_clamp (by omega)
  have cQ : (nI p).toNatClampNeg = p := nI_clamp (by omega)
  unfold wpX_endInstance
  dsimp only
  refine br_f (nI_ne0 (by omega) (by omega)) (nm_r (nI_pred p) ⟨iP, ?_⟩)
  rw [cP, cQ]
  refine br_c (fun e => ?_) (fun e => ⟨iP, iQ, nm_e ?_⟩)
  · exact pp_addSet_2 (by omega) (by omega) (fun f hf => hs e f hf)
  · exact pp_addSet (by omega) (by omega) (fun f hf => hc e f hf)
end

/-! ===== the reference's search ===== -/
theorem sp_nb0 : vp_nar .boolean 0 = 0 := by decide
theorem sp_nb1 : vp_nar .boolean 1 = 1 := by decide
theorem sp_nr {r : Int32} (h : r = 0 ∨ r = 1) : narrow .boolean (.int r) = .int r := by
  rcases h with h | h
  · rw [h]; rfl
  · rw [h]; rfl
theorem sp_nrv {r : Int32} (h : r = 0 ∨ r = 1) : vp_nar .boolean r = r := by
  rcases h with h | h
  · rw [h]; exact sp_nb0
  · rw [h]; exact sp_nb1
def sp_YG (k md : Nat) (o n m : Nat → Nat) (yOp yIn mkr : Nat → Int32) : Prop :=
  (∀ t, t ≤ k → yOp t = nI (o t) ∧ o t ≤ 11) ∧ (∀ t, t ≤ k → yIn t = nI (n t) ∧ n t < md) ∧ md ≤ 32 ∧ (∀ i, ¬ i = 0 → i < md → mkr i = nI (m i) ∧ m i < 129) ∧ (∀ t, t ≤ k → ¬ n t = 0 → m (n t) < t) ∧ k < 129
section
variable {g0 g1 g2 g3 g4 g5 g6 g7 g8 : Int32} {cop carg yc stk nxt acc idx mkr yAd yOp yIn yCe lds : Nat → Int32}
variable {o n m : Nat → Nat} {k md : Nat}
theorem sp_yNext {post : Int32 → Prop} {i jb : Nat} {b : Prop} (G : sp_YG k md o n m yOp yIn mkr) (h01 : sp_01 lds) (hi : i < 32) (hj1 : jb ≤ 1) (hb : jb = 1 ↔ b) :
    ∀ d j, j + d = k → (∀ r, (r = 0 ∨ r = 1) → (r = 1 ↔ sp_vn o n i b j k (fun t => lds t = 1)) → post r) → wY_viaNext_5 post (nI i) (nI k) (nI jb) (g0) (g1) (g2) (g3) (g4) (g5) (g6) (g7) (g8) (cop) (carg) (yc) (stk) (nxt) (acc) (idx) (mkr) (yAd) (yOp) (yIn) (yCe) (lds) (d + 1) (nI (j + 1)) := by
  obtain ⟨gO, gN, gm, gM, gB, gk⟩ := G
  intro d
  induction d with
  | zero =>
    intro j hj h
    unfold wY_viaNext_5
    refine br_t (nI_lt (by omega) (by omega)) (h 0 (Or.inl rfl) ⟨fun z => absurd z (by decide), fun z => absurd z (sp_vn_no (by omega))⟩)
  | succ d ih =>
    intro j hj h
    unfold wY_viaNext_5
    refine br_f (nI_nlt (by omega) (by omega)) ?_
    have hO := gO (j + 1) (by omega)
    have hN := gN (j + 1) (by omega)
    have it : vp_in (nI (j + 1)) 129 := vp_in_nI (by omega) (by omega)
    have ct : (nI (j + 1)).toNatClampNeg = j + 1 := nI_clamp (by omega)
    have key : ∀ z : Nat, z ≤ 1 → (z = 1 ↔ (b → (o (j + 1) = 1 ∨ o (j + 1) = 0))) → wY_viaNext_42 post (wY_viaNext_5 post (nI i) (nI k) (nI jb) (g0) (g1) (g2) (g3) (g4) (g5) (g6) (g7) (g8) (cop) (carg) (yc) (stk) (nxt) (acc) (idx) (mkr) (yAd) (yOp) (yIn) (yCe) (lds) (d + 1)) (nI i) (nI k) (nI jb) (nI (j + 1)) (nI z) (g0) (g1) (g2) (g3) (g4) (g5) (g6) (g7) (g8) (cop) (carg) (yc) (stk) (nxt) (acc) (idx) (mkr) (yAd) (yOp) (yIn) (yCe) (lds) := by
      intro z hz hzb
      unfold wY_viaNext_42
      rw [ct, hN.1, nI_1]
      refine ⟨it, pk_eq (n (j + 1)) i (fun e => pk_eq z 0 (fun e0 => nm_e ?_) (fun n0 => ?_)) (fun ne => nm_e ?_)⟩
      · have hh : ¬ sp_hit o n i b (j + 1) := fun w => by have := hzb.2 w.2; omega
        exact ih (j + 1) (by omega) (fun r hr hv => h r hr (hv.trans (sp_vn_go hh).symm))
      · have hh : sp_hit o n i b (j + 1) := ⟨e, hzb.1 (by omega)⟩
        exact ⟨it, sp_nr (h01 _), h _ (h01 _) (sp_vn_hit (T := fun t => lds t = 1) (by omega) hh).symm⟩
      · have hh : ¬ sp_hit o n i b (j + 1) := fun w => ne w.1
        exact ih (j + 1) (by omega) (fun r hr hv => h r hr (hv.trans (sp_vn_go hh).symm))
    have key1 : (b → (o (j + 1) = 1 ∨ o (j + 1) = 0)) → wY_viaNext_37 post (wY_viaNext_5 post (nI i) (nI k) (nI jb) (g0) (g1) (g2) (g3) (g4) (g5) (g6) (g7) (g8) (cop) (carg) (yc) (stk) (nxt) (acc) (idx) (mkr) (yAd) (yOp) (yIn) (yCe) (lds) (d + 1)) (nI i) (nI k) (nI jb) (nI (j + 1)) (g0) (g1) (g2) (g3) (g4) (g5) (g6) (g7) (g8) (cop) (carg) (yc) (stk) (nxt) (acc) (idx) (mkr) (yAd) (yOp) (yIn) (yCe) (lds) := by
      intro w
      unfold wY_viaNext_37
      exact key 1 (by omega) ⟨fun _ => w, fun _ => rfl⟩
    refine pk_eq jb 0 (fun e0 => key1 (fun w => ?_)) (fun n0 => ⟨it, ?_⟩)
    · have := hb.2 w
      omega
    · rw [ct, hO.1]
      have hB : b := hb.1 (by omega)
      refine pk_eq (o (j + 1)) 1 (fun e1 => key1 (fun _ => Or.inl e1)) (fun n1 => ⟨it, pk_eq (o (j + 1)) 0 (fun e2 => key1 (fun _ => Or.inr e2)) (fun n2 => ?_)⟩)
      refine key 0 (by omega) ⟨fun w => absurd w (by omega), fun w => ?_⟩
      have := w hB
      omega
theorem sp_yVia {post : Int32 → Prop} {i jb j : Nat} {b : Prop} (G : sp_YG k md o n m yOp yIn mkr) (h01 : sp_01 lds) (hi : i < 32) (hj1 : jb ≤ 1) (hb : jb = 1 ↔ b) (hj : j ≤ k)
    (h : ∀ r, (r = 0 ∨ r = 1) → (r = 1 ↔ sp_vn o n i b j k (fun t => lds t = 1)) → post r) : wpY_viaNext post (g0, g1, g2, g3, g4, g5, g6, g7, g8, cop, carg, yc, stk, nxt, acc, idx, mkr, yAd, yOp, yIn, yCe, lds) (nI i) (nI j) (nI k) (nI jb) := by
  unfold wpY_viaNext
  dsimp only
  exact nm_r (nI_1 j) ⟨k - j + 1, sp_yNext G h01 hi hj1 hb (k - j) j (by omega) h⟩
theorem sp_y119 {post : Int32 → Prop} {j : Nat} (G : sp_YG k md o n m yOp yIn mkr) (h01 : sp_01 lds) (hj : j < k)
    (h : ∀ r, (r = 0 ∨ r = 1) → (r = 1 ↔ (¬ o j = 3 ∧ sp_vn o n (n j) False j k (fun t => lds t = 1))) → post r) : wY_viaEdge_119 post (nI j) (nI k) (nI (n j)) (nI (o j)) (g0) (g1) (g2) (g3) (g4) (g5) (g6) (g7) (g8) (cop) (carg) (yc) (stk) (nxt) (acc) (idx) (mkr) (yAd) (yOp) (yIn) (yCe) (lds) := by
  have hO := G.1 j (by omega)
  have hN := G.2.1 j (by omega)
  have gm := G.2.2.1
  unfold wY_viaEdge_119
  refine pk_eq (o j) 3 (fun e => h 0 (Or.inl rfl) ⟨fun z => absurd z (by decide), fun z => absurd e z.1⟩) (fun ne => ?_)
  refine sp_yVia (jb := 0) (b := False) G h01 (by omega) (by omega) ⟨fun z => by omega, fun z => z.elim⟩ (by omega) (fun r hr hv => ?_)
  rcases hr with e | e
  · rw [e] at hv ⊢
    exact br_t rfl (h 0 (Or.inl rfl) ⟨fun z => absurd z (by decide), fun z => hv.2 z.2⟩)
  · rw [e] at hv ⊢
    exact br_f (by decide) (h 1 (Or.inr rfl) ⟨fun _ => ⟨ne, hv.1 rfl⟩, fun _ => rfl⟩)
theorem sp_y79 {post : Int32 → Prop} {j : Nat} (G : sp_YG k md o n m yOp yIn mkr) (h01 : sp_01 lds) (hj : j < k) :
    ∀ d c, c + d = md → 1 ≤ c → (∀ r, (r = 0 ∨ r = 1) → (r = 1 ↔ ((∃ i, c ≤ i ∧ i < md ∧ m i = j ∧ sp_vn o n i False j k (fun t => lds t = 1)) ∨ (¬ o j = 3 ∧ sp_vn o n (n j) False j k (fun t => lds t = 1)))) → post r) →
      wY_viaEdge_79 post (nI j) (nI k) (nI (n j)) (nI (o j)) (g0) (g1) (g2) (g3) (g4) (g5) (g6) (g7) (nI md) (cop) (carg) (yc) (stk) (nxt) (acc) (idx) (mkr) (yAd) (yOp) (yIn) (yCe) (lds) (d + 1) (nI c) := by
  have gm := G.2.2.1
  have gk := G.2.2.2.2.2
  intro d
  induction d with
  | zero =>
    intro c hc h1 h
    unfold wY_viaEdge_79
    refine br_t (nI_le (by omega) (by omega)) (sp_y119 G h01 hj (fun r hr hv => h r hr (hv.trans ?_)))
    constructor
    · exact Or.inr
    · rintro (⟨i, i1, i2, _⟩ | z)
      · omega
      · exact z
  | succ d ih =>
    intro c hc h1 h
    have hM := G.2.2.2.1 c (by omega) (by omega)
    have ic : vp_in (nI c) 32 := vp_in_nI (by omega) (by omega)
    have cc' : (nI c).toNatClampNeg = c := nI_clamp (by omega)
    unfold wY_viaEdge_79
    refine br_f (nI_ge (by omega) (by omega)) ⟨ic, ?_⟩
    rw [cc', hM.1, nI_1]
    have go : ¬ (m c = j ∧ sp_vn o n c False j k (fun t => lds t = 1)) → wY_viaEdge_79 post (nI j) (nI k) (nI (n j)) (nI (o j)) (g0) (g1) (g2) (g3) (g4) (g5) (g6) (g7) (nI md) (cop) (carg) (yc) (stk) (nxt) (acc) (idx) (mkr) (yAd) (yOp) (yIn) (yCe) (lds) (d + 1) (nI (c + 1)) := by
      intro hn
      refine ih (c + 1) (by omega) (by omega) (fun r hr hv => h r hr (hv.trans ?_))
      constructor
      · rintro (⟨i, i1, i2⟩ | z)
        · exact Or.inl ⟨i, by omega, i2⟩
        · exact Or.inr z
      · rintro (⟨i, i1, i2, i3, i4⟩ | z)
        · by_cases e : i = c
          · rw [e] at i3 i4
            exact absurd ⟨i3, i4⟩ hn
          · exact Or.inl ⟨i, by omega, i2, i3, i4⟩
        · exact Or.inr z
    refine pk_eq (m c) j (fun e => ?_) (fun ne => nm_e (go (fun z => ne z.1)))
    refine sp_yVia (jb := 0) (b := False) G h01 (by omega) (by omega) ⟨fun z => by omega, fun z => z.elim⟩ (by omega) (fun r hr hv => ?_)
    rcases hr with e2 | e2
    · rw [e2] at hv ⊢
      exact br_t rfl (nm_e (go (fun z => absurd (hv.2 z.2) (by decide))))
    · rw [e2] at hv ⊢
      exact br_f (by decide) (h 1 (Or.inr rfl) ⟨fun _ => Or.inl ⟨c, by omega, by omega, e, hv.1 rfl⟩, fun _ => rfl⟩)
theorem sp_yEdge {post : Int32 → Prop} {j : Nat} (G : sp_YG k md o n m yOp yIn mkr) (h01 : sp_01 lds) (hj : j < k) (hmd : 1 ≤ md)
    (h : ∀ r, (r = 0 ∨ r = 1) → (r = 1 ↔ sp_ve o n m md j k (fun t => lds t = 1)) → post r) : wpY_viaEdge post (g0, g1, g2, g3, g4, g5, g6, g7, nI md, cop, carg, yc, stk, nxt, acc, idx, mkr, yAd, yOp, yIn, yCe, lds) (nI j) (nI k) := by
  have gm := G.2.2.1
  have gk := G.2.2.2.2.2
  have hO := G.1 j (by omega)
  have hN := G.2.1 j (by omega)
  have ij : vp_in (nI j) 129 := vp_in_nI (by omega) (by omega)
  have cj : (nI j).toNatClampNeg = j := nI_clamp (by omega)
  unfold wpY_viaEdge
  dsimp only
  rw [cj, hO.1, hN.1]
  refine ⟨ij, nm_e ⟨ij, nm_e (pk_eq (o j) 0 (fun e0 => ?_) (fun n0 => ?_))⟩⟩
  · refine pk_eq (n j) 0 (fun z0 => ?_) (fun nz => ?_)
    · refine h 0 (Or.inl rfl) ⟨fun z => absurd z (by decide), fun z => ?_⟩
      rcases z with z | z
      · exact absurd z0 z.2.1
      · exact absurd e0 z.1
    · have hM := G.2.2.2.1 (n j) nz hN.2
      have hB := G.2.2.2.2.1 j (by omega) nz
      have hO2 := G.1 (m (n j)) (by omega)
      have hN2 := G.2.1 (m (n j)) (by omega)
      have in1 : vp_in (nI (n j)) 32 := vp_in_nI (by omega) (by omega)
      have cn1 : (nI (n j)).toNatClampNeg = n j := nI_clamp (by omega)
      have im1 : vp_in (nI (m (n j))) 129 := vp_in_nI (by omega) (by omega)
      have cm1 : (nI (m (n j))).toNatClampNeg = m (n j) := nI_clamp (by omega)
      rw [cn1, hM.1]
      refine ⟨in1, nm_e ⟨im1, im1, ?_⟩⟩
      rw [cm1, hO2.1, hN2.1]
      refine pk_eq (o (m (n j))) 2 (fun e2 => ?_) (fun n2 => ?_)
      · unfold wY_viaEdge_60
        refine sp_yVia (jb := 1) (b := o (m (n j)) = 2) G h01 (by omega) (by omega) ⟨fun _ => e2, fun _ => rfl⟩ (by omega) (fun r hr hv => ⟨sp_nr hr, h r hr (hv.trans ?_)⟩)
        constructor
        · exact fun z => Or.inl ⟨e0, nz, z⟩
        · rintro (z | z)
          · exact z.2.2
          · exact absurd e0 z.1
      · unfold wY_viaEdge_60
        refine sp_yVia (jb := 0) (b := o (m (n j)) = 2) G h01 (by omega) (by omega) ⟨fun z => by omega, fun z => absurd z n2⟩ (by omega) (fun r hr hv => ⟨sp_nr hr, h r hr (hv.trans ?_)⟩)
        constructor
        · exact fun z => Or.inl ⟨e0, nz, z⟩
        · rintro (z | z)
          · exact z.2.2
          · exact absurd e0 z.1
  · have hmake : (o j = 2 ∨ o j = 3) → ∃ n79 : Nat, wY_viaEdge_79 post (nI j) (nI k) (nI (n j)) (nI (o j)) (g0) (g1) (g2) (g3) (g4) (g5) (g6) (g7) (nI md) (cop) (carg) (yc) (stk) (nxt) (acc) (idx) (mkr) (yAd) (yOp) (yIn) (yCe) (lds) n79 1 := by
      intro h23
      refine ⟨md - 1 + 1, sp_y79 G h01 hj (md - 1) 1 (by omega) (by omega) (fun r hr hv => h r hr (hv.trans ?_))⟩
      constructor
      · rintro (z | z)
        · exact Or.inr ⟨n0, Or.inl ⟨h23, z⟩⟩
        · exact Or.inr ⟨n0, Or.inr z⟩
      · rintro (z | ⟨_, (z | z)⟩)
        · exact absurd z.1 n0
        · exact Or.inl z.2
        · exact Or.inr z
    refine pk_eq (o j) 2 (fun e2 => hmake (Or.inl e2)) (fun n2 => pk_eq (o j) 3 (fun e3 => hmake (Or.inr e3)) (fun n3 => ?_))
    refine sp_y119 G h01 hj (fun r hr hv => h r hr (hv.trans ?_))
    constructor
    · exact fun z => Or.inr ⟨n0, Or.inr z⟩
    · rintro (z | ⟨_, (z | z)⟩)
      · exact absurd z.1 n0
      · omega
      · exact z
theorem sp_ySearch11 {post : SY → Prop} (G : sp_YG k md o n m yOp yIn mkr) (hmd : 1 ≤ md)
    (h : ∀ f, sp_01 f → (∀ t, t ≤ k → (f t = 1 ↔ sp_R (sp_E o n m) k t)) → post (g0, g1, g2, g3, g4, g5, g6, g7, nI md, cop, carg, yc, stk, nxt, acc, idx, mkr, yAd, yOp, yIn, yCe, f)) :
    ∀ c, c ≤ k → ∀ f, sp_01 f → (∀ t, c ≤ t → t ≤ k → (f t = 1 ↔ sp_R (sp_E o n m) k t)) →
      wY_search_11 post (nI k) g0 g1 g2 g3 g4 g5 g6 g7 (nI md) (c + 1) (nI c + (-1)) cop carg yc stk nxt acc idx mkr yAd yOp yIn yCe f := by
  have gk := G.2.2.2.2.2
  intro c
  induction c with
  | zero =>
    intro _ f hf hr
    unfold wY_search_11
    exact br_t (by decide) (h f hf (fun t ht => hr t (by omega) ht))
  | succ c ih =>
    intro hc f hf hr
    have ic : vp_in (nI c) 129 := vp_in_nI (by omega) (by omega)
    have cc' : (nI c).toNatClampNeg = c := nI_clamp (by omega)
    unfold wY_search_11
    rw [pk_m1, cc']
    refine br_f (nI_pos (by omega)) (sp_yEdge (lds := f) G hf (by omega) hmd (fun r hr2 hv => ⟨ic, nm_e (nm_e ?_)⟩))
    refine ih (by omega) _ ?_ ?_
    · intro t
      by_cases e : t = c
      · rw [e, pk_us, sp_nrv hr2]; exact hr2
      · rw [pk_un e]; exact hf t
    · intro t h1 h2
      by_cases e : t = c
      · rw [e, pk_us, sp_nrv hr2, hv, sp_veE (fun t ht => (G.2.1 t ht).2), sp_sr (show c < k by omega)]
        constructor
        · rintro ⟨s, s1, s2, s3⟩
          have := sp_E_lt s2
          exact ⟨s, s1, s2, (hr s (by omega) s1).1 s3⟩
        · rintro ⟨s, s1, s2, s3⟩
          have := sp_E_lt s2
          exact ⟨s, s1, s2, (hr s (by omega) s1).2 s3⟩
      · rw [pk_un e]; exact hr t (by omega) h2
theorem sp_ySearch {post : SY → Prop} (G : sp_YG k md o n m yOp yIn mkr) (hmd : 1 ≤ md) (h01 : sp_01 lds)
    (h : ∀ f, sp_01 f → (∀ t, t ≤ k → (f t = 1 ↔ sp_R (sp_E o n m) k t)) → post (g0, g1, g2, g3, g4, g5, g6, g7, nI md, cop, carg, yc, stk, nxt, acc, idx, mkr, yAd, yOp, yIn, yCe, f)) : wpY_search post (g0, g1, g2, g3, g4, g5, g6, g7, nI md, cop, carg, yc, stk, nxt, acc, idx, mkr, yAd, yOp, yIn, yCe, lds) (nI k) := by
  have gk := G.2.2.2.2.2
  have ik : vp_in (nI k) 129 := vp_in_nI (by omega) (by omega)
  have ck : (nI k).toNatClampNeg = k := nI_clamp (by omega)
  unfold wpY_search
  dsimp only
  rw [ck, sp_nb1]
  refine ⟨ik, nm_e (nm_r (Int32.sub_eq_add_neg (nI k) 1) ⟨k + 1, ?_⟩)⟩
  refine sp_ySearch11 G hmd h k (by omega) _ ?_ ?_
  · intro t
    by_cases e : t = k
    · rw [e, pk_us]; exact Or.inr rfl
    · rw [pk_un e]; exact h01 t
  · intro t h1 h2
    obtain rfl : t = k := by omega
    rw [pk_us]
    exact ⟨fun _ => sp_R_refl _ _, fun _ => rfl⟩
theorem sp_or1 : ∀ a, a ≤ 1 → ∀ b, b ≤ 1 → nI (a + 2 * b) ||| 1 = nI (1 + 2 * b) := by
  intro a ha b hb
  rcases (show a = 0 ∨ a = 1 by omega) with e | e <;> rcases (show b = 0 ∨ b = 1 by omega) with e2 | e2 <;> rw [e, e2] <;> decide
theorem sp_or2 : ∀ a, a ≤ 1 → ∀ b, b ≤ 1 → nI (a + 2 * b) ||| 2 = nI (a + 2 * 1) := by
  intro a ha b hb
  rcases (show a = 0 ∨ a = 1 by omega) with e | e <;> rcases (show b = 0 ∨ b = 1 by omega) with e2 | e2 <;> rw [e, e2] <;> decide
theorem sp_yRac34 {post : Int32 → SY → Prop} (hk : k < 129) (hO : ∀ t, t ≤ k → yOp t = nI (o t) ∧ o t ≤ 11) (h01 : sp_01 lds)
    (h : ∀ a b : Nat, a ≤ 1 → b ≤ 1 → (a = 1 ↔ ∃ i, i < k ∧ yCe i = yCe k ∧ o i = 5 ∧ ¬ lds i = 1) → (b = 1 ↔ (o k = 5 ∧ ∃ i, i < k ∧ yCe i = yCe k ∧ ¬ o i = 5 ∧ ¬ lds i = 1)) → post (nI (a + 2 * b)) (g0, g1, g2, g3, g4, g5, g6, g7, g8, cop, carg, yc, stk, nxt, acc, idx, mkr, yAd, yOp, yIn, yCe, lds)) :
    ∀ d j, j + d = k → ∀ a b : Nat, a ≤ 1 → b ≤ 1 → (a = 1 ↔ ∃ i, i < j ∧ yCe i = yCe k ∧ o i = 5 ∧ ¬ lds i = 1) → (b = 1 ↔ (o k = 5 ∧ ∃ i, i < j ∧ yCe i = yCe k ∧ ¬ o i = 5 ∧ ¬ lds i = 1)) →
      wY_racing_34 post (nI k) (g0) (g1) (g2) (g3) (g4) (g5) (g6) (g7) (g8) (cop) (carg) (yc) (stk) (nxt) (acc) (idx) (mkr) (yAd) (yOp) (yIn) (yCe) (lds) (d + 1) (nI (a + 2 * b)) (nI j) := by
  intro d
  induction d with
  | zero =>
    intro j hj a b ha hb hA hB
    obtain rfl : j = k := by omega
    unfold wY_racing_34
    exact br_t (nI_le (by omega) (by omega)) (h a b ha hb hA hB)
  | succ d ih =>
    intro j hj a b ha hb hA hB
    have ij : vp_in (nI j) 129 := vp_in_nI (by omega) (by omega)
    have cj : (nI j).toNatClampNeg = j := nI_clamp (by omega)
    have ik : vp_in (nI k) 129 := vp_in_nI (by omega) (by omega)
    have ck : (nI k).toNatClampNeg = k := nI_clamp (by omega)
    have keep : ¬ (yCe j = yCe k ∧ ¬ lds j = 1 ∧ (o j = 5 ∨ o k = 5)) → wY_racing_34 post (nI k) (g0) (g1) (g2) (g3) (g4) (g5) (g6) (g7) (g8) (cop) (carg) (yc) (stk) (nxt) (acc) (idx) (mkr) (yAd) (yOp) (yIn) (yCe) (lds) (d + 1) (nI (a + 2 * b)) (nI (j + 1)) := by
      intro hn
      refine ih (j + 1) (by omega) a b ha hb (hA.trans ?_) (hB.trans ?_)
      · constructor
        · rintro ⟨i, i1, i2⟩
          exact ⟨i, by omega, i2⟩
        · rintro ⟨i, i1, i2, i3, i4⟩
          by_cases e : i = j
          · rw [e] at i2 i3 i4
            exact absurd ⟨i2, i4, Or.inl i3⟩ hn
          · exact ⟨i, by omega, i2, i3, i4⟩
      · constructor
        · rintro ⟨z, i, i1, i2⟩
          exact ⟨z, i, by omega, i2⟩
        · rintro ⟨z, i, i1, i2, i3, i4⟩
          by_cases e : i = j
          · rw [e] at i2 i3 i4
            exact absurd ⟨i2, i4, Or.inr z⟩ hn
          · exact ⟨z, i, by omega, i2, i3, i4⟩
    unfold wY_racing_34
    rw [cj, ck, (hO j (by omega)).1, (hO k (by omega)).1, nI_1, sp_or1 a ha b hb, sp_or2 a ha b hb]
    refine br_f (nI_ge (by omega) (by omega)) ⟨ij, ik, br_c (fun e => ⟨ij, br_c (fun l0 => ⟨ij, ?_⟩) (fun l1 => nm_e (keep ?_))⟩) (fun ne => nm_e (keep (fun z => ne z.1)))⟩
    · have hl : ¬ lds j = 1 := by rw [l0]; decide
      have b1 := (hO j (by omega)).2
      have b2 := (hO k (by omega)).2
      refine pk_eq (o j) 5 (fun e5 => nm_e (nm_e ?_)) (fun n5 => ⟨ik, pk_eq (o k) 5 (fun e6 => nm_e (nm_e ?_)) (fun n6 => nm_e (keep (fun z => ?_)))⟩)
      · refine ih (j + 1) (by omega) 1 b (by omega) hb ⟨fun _ => ⟨j, by omega, e, e5, hl⟩, fun _ => rfl⟩ (hB.trans ?_)
        constructor
        · rintro ⟨z, i, i1, i2⟩
          exact ⟨z, i, by omega, i2⟩
        · rintro ⟨z, i, i1, i2, i3, i4⟩
          by_cases e' : i = j
          · rw [e'] at i3
            exact absurd e5 i3
          · exact ⟨z, i, by omega, i2, i3, i4⟩
      · refine ih (j + 1) (by omega) a 1 ha (by omega) (hA.trans ?_) ⟨fun _ => ⟨e6, j, by omega, e, n5, hl⟩, fun _ => rfl⟩
        constructor
        · rintro ⟨i, i1, i2⟩
          exact ⟨i, by omega, i2⟩
        · rintro ⟨i, i1, i2, i3, i4⟩
          by_cases e' : i = j
          · rw [e'] at i3
            exact absurd i3 n5
          · exact ⟨i, by omega, i2, i3, i4⟩
      · omega
    · intro z
      rcases h01 j with w | w
      · exact l1 w
      · exact z.2.1 w
end

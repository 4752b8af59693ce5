/-! ===== racing, concurrent, races, firstRace ===== -/
section
variable {cc ce dc ic len s cnt dep md : Nat} {o n m st q ad : Nat → Nat} {cop carg xc xAd xOp xIn xCe xMk lAd lIn lA lX lSp yc stk nxt acc idx mkr yAd yOp yIn yCe lds : Nat → Int32} {bef awa rd wr : Nat → Int64}
theorem sp_Qlds (h : sp_Q cc ce dc ic len s cnt dep md o n m st q ad cop carg xc xAd xOp xIn xCe xMk lAd lIn lA lX lSp bef awa rd wr yc stk nxt acc idx mkr yAd yOp yIn yCe lds) {f : Nat → Int32} (hf : sp_01 f) : sp_Q cc ce dc ic len s cnt dep md o n m st q ad cop carg xc xAd xOp xIn xCe xMk lAd lIn lA lX lSp bef awa rd wr yc stk nxt acc idx mkr yAd yOp yIn yCe (f) := by
  obtain ⟨hK, hC, hc0, hAd, hxO, hyO, hxI, hyI, hCe, hS, hV, hMr, hRW, hMk, h01, H, IL⟩ := h
  exact ⟨hK, hC, hc0, hAd, hxO, hyO, hxI, hyI, hCe, hS, hV, hMr, hRW, hMk, hf, H, IL⟩
theorem sp_yRacing {post : Int32 → SY → Prop} {k : Nat} (h : sp_Q cc ce dc ic len s cnt dep md o n m st q ad cop carg xc xAd xOp xIn xCe xMk lAd lIn lA lX lSp bef awa rd wr yc stk nxt acc idx mkr yAd yOp yIn yCe lds) (hk : k < cnt) (hp : ∀ f, sp_01 f → post (xMk k) (nI cc, nI ce, nI dc, nI ic, nI s, nI len, nI cnt, nI dep, nI md, cop, carg, yc, stk, nxt, acc, idx, mkr, yAd, yOp, yIn, yCe, f)) : wpY_racing post (nI cc, nI ce, nI dc, nI ic, nI s, nI len, nI cnt, nI dep, nI md, cop, carg, yc, stk, nxt, acc, idx, mkr, yAd, yOp, yIn, yCe, lds) (nI k) := by
  obtain ⟨hK, hC, hc0, hAd, hxO, hyO, hxI, hyI, hCe, hS, hV, hMr, hRW, hMk, h01, H, IL⟩ := h
  unfold sp_K at hK
  have hmd := H.1 k hk
  have ik : vp_in (nI k) 129 := vp_in_nI (by omega) (by omega)
  have ck : (nI k).toNatClampNeg = k := nI_clamp (by omega)
  have hOk : ∀ t, t ≤ k → yOp t = nI (o t) ∧ o t ≤ 11 := fun t ht => ⟨hyO t (by omega), (hS t (by omega)).1⟩
  unfold wpY_racing
  dsimp only
  rw [ck]
  refine br_f (nI_pos (by omega)) (br_t (nI_lt hk (by omega)) ⟨ik, ?_⟩)
  rcases (hS k hk).2 with ⟨_, e, he1, he2⟩ | ⟨_, he2⟩
  · have G : sp_YG k md o n m yOp yIn mkr :=
      ⟨hOk, fun t ht => ⟨hyI t (by omega), H.1 t (by omega)⟩, by omega, fun i i0 hi => ⟨hMr i i0 hi, by have := (H.2.2 i i0 hi).1; omega⟩, fun t ht t0 => H.2.1 t (by omega) t0, by omega⟩
    have z : (0 : Int32) ≤ yCe k := by rw [he2]; exact nI_pos' (by omega)
    refine br_t z (sp_ySearch G (by omega) h01 (fun f hf hR => ⟨k + 1, ?_⟩))
    refine sp_yRac34 (by omega) hOk hf (fun a b a1 b1 hA hB => ?_) k 0 (by omega) 0 0 (by omega) (by omega) ⟨fun w => absurd w (by omega), fun ⟨i, i1, _⟩ => by omega⟩ ⟨fun w => absurd w (by omega), fun ⟨_, i, i1, _⟩ => by omega⟩
    have hm : sp_mk o n m yCe k (nI (a + 2 * b)) := by
      refine ⟨fun w => ?_, fun _ => ⟨a, b, a1, b1, rfl, hA.trans ?_, hB.trans ?_⟩⟩
      · rw [he2] at w
        exact absurd w.symm (sp_m1n (by omega))
      · constructor
        · rintro ⟨i, i1, i2, i3, i4⟩
          exact ⟨i, i1, i2, i3, fun w => i4 ((hR i (by omega)).2 w)⟩
        · rintro ⟨i, i1, i2, i3, i4⟩
          exact ⟨i, i1, i2, i3, fun w => i4 ((hR i (by omega)).1 w)⟩
      · constructor
        · rintro ⟨w, i, i1, i2, i3, i4⟩
          exact ⟨w, i, i1, i2, i3, fun w => i4 ((hR i (by omega)).2 w)⟩
        · rintro ⟨w, i, i1, i2, i3, i4⟩
          exact ⟨w, i, i1, i2, i3, fun w => i4 ((hR i (by omega)).1 w)⟩
    have w := hp f hf
    rw [sp_mk_u (hMk k hk) hm] at w
    exact w
  · have z : ¬ (0 : Int32) ≤ yCe k := by rw [he2]; decide
    have w := hp lds h01
    rw [(hMk k hk).1 he2] at w
    exact br_f z w
theorem sp_xRacesOn {post : Int32 → Prop} {j : Nat} {c : Int32} (hj : j < 128) (h1 : xCe j = c → ¬ xMk j = 0 → post 1) (h0 : (xCe j = c → xMk j = 0) → post 0) : wpX_racesOn post (nI cc, nI ce, nI dc, nI ic, nI len, nI s, nI cnt, nI dep, nI md, cop, carg, xc, xAd, xOp, xIn, xCe, xMk, lAd, lIn, lA, lX, lSp, bef, awa, rd, wr) (nI j) c := by
  have ij : vp_in (nI j) 128 := vp_in_nI (by omega) (by omega)
  have cj : (nI j).toNatClampNeg = j := nI_clamp (by omega)
  unfold wpX_racesOn
  dsimp only
  rw [cj]
  exact ⟨ij, br_c (fun e => ⟨ij, br_c (fun e2 => h0 (fun _ => e2)) (fun e2 => h1 e e2)⟩) (fun ne => h0 (fun e => absurd e ne))⟩
theorem sp_races (h : sp_Q cc ce dc ic len s cnt dep md o n m st q ad cop carg xc xAd xOp xIn xCe xMk lAd lIn lA lX lSp bef awa rd wr yc stk nxt acc idx mkr yAd yOp yIn yCe lds) (c : Int32) : ∀ d j, j + d = cnt → ∀ a : Int32, ∃ r,
    (∀ post : Int32 → Prop, post r → wX_races_14 post c (nI cc) (nI ce) (nI dc) (nI ic) (nI len) (nI s) (nI cnt) (nI dep) (nI md) (cop) (carg) (xc) (xAd) (xOp) (xIn) (xCe) (xMk) (lAd) (lIn) (lA) (lX) (lSp) (bef) (awa) (rd) (wr) (d + 1) a (nI j)) ∧
    (∀ (f : Nat → Int32) (post : Int32 → SY → Prop), sp_01 f → (∀ g, sp_01 g → post r (nI cc, nI ce, nI dc, nI ic, nI s, nI len, nI cnt, nI dep, nI md, cop, carg, yc, stk, nxt, acc, idx, mkr, yAd, yOp, yIn, yCe, g)) → wY_races_18 post c (d + 1) a (nI j) (nI cc) (nI ce) (nI dc) (nI ic) (nI s) (nI len) (nI cnt) (nI dep) (nI md) (cop) (carg) (yc) (stk) (nxt) (acc) (idx) (mkr) (yAd) (yOp) (yIn) (yCe) (f)) := by
  have hK := h.1
  have hCe := h.2.2.2.2.2.2.2.2.1
  unfold sp_K at hK
  intro d
  induction d with
  | zero =>
    intro j hj a
    refine ⟨a, fun post hp => ?_, fun f post hf hp => ?_⟩
    · unfold wX_races_14
      exact br_t (nI_le (by omega) (by omega)) hp
    · unfold wY_races_18
      exact br_t (nI_le (by omega) (by omega)) (hp f hf)
  | succ d ih =>
    intro j hj a
    have hjc : j < cnt := by omega
    have iy : vp_in (nI j) 129 := vp_in_nI (by omega) (by omega)
    have cj : (nI j).toNatClampNeg = j := nI_clamp (by omega)
    have eC := hCe j hjc
    by_cases hc : yCe j = c
    · by_cases hm : xMk j = 0
      · obtain ⟨r, X1, Y1⟩ := ih (j + 1) (by omega) a
        refine ⟨r, fun post hp => ?_, fun f post hf hp => ?_⟩
        · unfold wX_races_14
          exact br_f (nI_ge (by omega) (by omega)) (sp_xRacesOn (by omega) (fun _ w => absurd hm w) (fun _ => br_t rfl (nm_r (nI_1 j) (X1 post hp))))
        · unfold wY_races_18
          rw [cj]
          exact br_f (nI_ge (by omega) (by omega)) ⟨iy, br_t hc (sp_yRacing (sp_Qlds h hf) hjc (fun f2 hf2 => br_t hm (nm_r (nI_1 j) (Y1 f2 post hf2 hp))))⟩
      · obtain ⟨r, X1, Y1⟩ := ih (j + 1) (by omega) (a + 1)
        refine ⟨r, fun post hp => ?_, fun f post hf hp => ?_⟩
        · unfold wX_races_14
          exact br_f (nI_ge (by omega) (by omega)) (sp_xRacesOn (by omega) (fun _ _ => br_f (by decide) (nm_e (nm_r (nI_1 j) (X1 post hp)))) (fun w => absurd (w (eC.trans hc)) hm))
        · unfold wY_races_18
          rw [cj]
          exact br_f (nI_ge (by omega) (by omega)) ⟨iy, br_t hc (sp_yRacing (sp_Qlds h hf) hjc (fun f2 hf2 => br_f hm (nm_e (nm_r (nI_1 j) (Y1 f2 post hf2 hp)))))⟩
    · obtain ⟨r, X1, Y1⟩ := ih (j + 1) (by omega) a
      refine ⟨r, fun post hp => ?_, fun f post hf hp => ?_⟩
      · unfold wX_races_14
        exact br_f (nI_ge (by omega) (by omega)) (sp_xRacesOn (by omega) (fun w _ => absurd (eC.symm.trans w) hc) (fun _ => br_t rfl (nm_r (nI_1 j) (X1 post hp))))
      · unfold wY_races_18
        rw [cj]
        exact br_f (nI_ge (by omega) (by omega)) ⟨iy, br_f hc (nm_r (nI_1 j) (Y1 f post hf hp))⟩
theorem sp_first (h : sp_Q cc ce dc ic len s cnt dep md o n m st q ad cop carg xc xAd xOp xIn xCe xMk lAd lIn lA lX lSp bef awa rd wr yc stk nxt acc idx mkr yAd yOp yIn yCe lds) (c : Int32) : ∀ d j, j + d = cnt → ∃ r,
    (∀ post : Int32 → Prop, post r → wX_firstRace_12 post c (nI cc) (nI ce) (nI dc) (nI ic) (nI len) (nI s) (nI cnt) (nI dep) (nI md) (cop) (carg) (xc) (xAd) (xOp) (xIn) (xCe) (xMk) (lAd) (lIn) (lA) (lX) (lSp) (bef) (awa) (rd) (wr) (d + 1) (nI j)) ∧
    (∀ (f : Nat → Int32) (post : Int32 → SY → Prop), sp_01 f → (∀ g, sp_01 g → post r (nI cc, nI ce, nI dc, nI ic, nI s, nI len, nI cnt, nI dep, nI md, cop, carg, yc, stk, nxt, acc, idx, mkr, yAd, yOp, yIn, yCe, g)) → wY_firstRace_16 post c (d + 1) (nI j) (nI cc) (nI ce) (nI dc) (nI ic) (nI s) (nI len) (nI cnt) (nI dep) (nI md) (cop) (carg) (yc) (stk) (nxt) (acc) (idx) (mkr) (yAd) (yOp) (yIn) (yCe) (f)) := by
  have hK := h.1
  have hCe := h.2.2.2.2.2.2.2.2.1
  unfold sp_K at hK
  intro d
  induction d with
  | zero =>
    intro j hj
    refine ⟨-1, fun post hp => ?_, fun f post hf hp => ?_⟩
    · unfold wX_firstRace_12
      exact br_t (nI_le (by omega) (by omega)) hp
    · unfold wY_firstRace_16
      exact br_t (nI_le (by omega) (by omega)) (hp f hf)
  | succ d ih =>
    intro j hj
    have hjc : j < cnt := by omega
    have iy : vp_in (nI j) 129 := vp_in_nI (by omega) (by omega)
    have cj : (nI j).toNatClampNeg = j := nI_clamp (by omega)
    have eC := hCe j hjc
    by_cases hc : yCe j = c
    · by_cases hm : xMk j = 0
      · obtain ⟨r, X1, Y1⟩ := ih (j + 1) (by omega)
        refine ⟨r, fun post hp => ?_, fun f post hf hp => ?_⟩
        · unfold wX_firstRace_12
          exact br_f (nI_ge (by omega) (by omega)) (sp_xRacesOn (by omega) (fun _ w => absurd hm w) (fun _ => br_t rfl (nm_r (nI_1 j) (X1 post hp))))
        · unfold wY_firstRace_16
          rw [cj]
          exact br_f (nI_ge (by omega) (by omega)) ⟨iy, br_t hc (sp_yRacing (sp_Qlds h hf) hjc (fun f2 hf2 => br_t hm (nm_r (nI_1 j) (Y1 f2 post hf2 hp))))⟩
      · refine ⟨nI j, fun post hp => ?_, fun f post hf hp => ?_⟩
        · unfold wX_firstRace_12
          exact br_f (nI_ge (by omega) (by omega)) (sp_xRacesOn (by omega) (fun _ _ => br_f (by decide) hp) (fun w => absurd (w (eC.trans hc)) hm))
        · unfold wY_firstRace_16
          rw [cj]
          exact br_f (nI_ge (by omega) (by omega)) ⟨iy, br_t hc (sp_yRacing (sp_Qlds h hf) hjc (fun f2 hf2 => br_f hm (hp f2 hf2)))⟩
    · obtain ⟨r, X1, Y1⟩ := ih (j + 1) (by omega)
      refine ⟨r, fun post hp => ?_, fun f post hf hp => ?_⟩
      · unfold wX_firstRace_12
        exact br_f (nI_ge (by omega) (by omega)) (sp_xRacesOn (by omega) (fun w _ => absurd (eC.symm.trans w) hc) (fun _ => br_t rfl (nm_r (nI_1 j) (X1 post hp))))
      · unfold wY_firstRace_16
        rw [cj]
        exact br_f (nI_ge (by omega) (by omega)) ⟨iy, br_f hc (nm_r (nI_1 j) (Y1 f post hf hp))⟩
end
theorem i_vc_racing {k : Nat} {u : SX} {v : SY} (I : i_Rel k u v) (hk : k + 3 ≤ 1540) (v1 : Int32) : wpX_racing (fun r => wpY_racing (fun r' v' => r' = r ∧ i_Rel (k + 3) u v') v v1) u v1 := by
  have J := I
  obtain ⟨cc, ce, dc, ic, len, s, cnt, dep, md, o, n, m, st, q, ad, cop, carg, xc, xAd, xOp, xIn, xCe, xMk, lAd, lIn, lA, lX, lSp, bef, awa, rd, wr, yc, stk, nxt, acc, idx, mkr, yAd, yOp, yIn, yCe, lds, rfl, rfl, hQ⟩ := I
  have hK := hQ.1
  unfold sp_K at hK
  unfold wpX_racing
  dsimp only
  refine sp_xIsStep v1 (by omega) (fun j hj e => ?_) (fun z => br_t rfl ?_)
  · subst e
    refine br_f (by decide) ⟨vp_in_nI (by omega) (by omega), ?_⟩
    rw [nI_clamp (show j < 2 ^ 31 by omega)]
    exact sp_yRacing hQ hj (fun f hf => ⟨rfl, sp_mkRel (k + 3) (sp_Qlds hQ hf)⟩)
  · unfold wpY_racing
    dsimp only
    rcases z with z | z
    · exact br_t z ⟨rfl, J⟩
    · exact br_f (sp_ngt (by omega) z) (br_f (sp_nlt z) ⟨rfl, J⟩)
theorem i_vc_races {k : Nat} {u : SX} {v : SY} (I : i_Rel k u v) (hk : k + 3 ≤ 1540) (v1 : Int32) : wpX_races (fun r => wpY_races (fun r' v' => r' = r ∧ i_Rel (k + 3) u v') v v1) u v1 := by
  have J := I
  obtain ⟨cc, ce, dc, ic, len, s, cnt, dep, md, o, n, m, st, q, ad, cop, carg, xc, xAd, xOp, xIn, xCe, xMk, lAd, lIn, lA, lX, lSp, bef, awa, rd, wr, yc, stk, nxt, acc, idx, mkr, yAd, yOp, yIn, yCe, lds, rfl, rfl, hQ⟩ := I
  have hK := hQ.1
  have h01 := hQ.2.2.2.2.2.2.2.2.2.2.2.2.2.2.1
  unfold sp_K at hK
  unfold wpX_races
  dsimp only
  refine sp_xCell v1 (by omega) (fun j hj e => ?_) (fun z => br_t rfl ?_)
  · subst e
    obtain ⟨r, X1, Y1⟩ := sp_races hQ (nI j) cnt 0 (by omega) 0
    refine br_f (by decide) ⟨cnt + 1, X1 _ ?_⟩
    unfold wpY_races
    dsimp only
    exact br_f (nI_pos (by omega)) (br_t (nI_lt hj (by omega)) ⟨cnt + 1, Y1 lds _ h01 (fun g hg => ⟨rfl, sp_mkRel (k + 3) (sp_Qlds hQ hg)⟩)⟩)
  · unfold wpY_races
    dsimp only
    rcases z with z | z
    · exact br_t z ⟨rfl, J⟩
    · exact br_f (sp_ngt (by omega) z) (br_f (sp_nlt z) ⟨rfl, J⟩)
theorem i_vc_firstRace {k : Nat} {u : SX} {v : SY} (I : i_Rel k u v) (hk : k + 3 ≤ 1540) (v1 : Int32) : wpX_firstRace (fun r => wpY_firstRace (fun r' v' => r' = r ∧ i_Rel (k + 3) u v') v v1) u v1 := by
  have J := I
  obtain ⟨cc, ce, dc, ic, len, s, cnt, dep, md, o, n, m, st, q, ad, cop, carg, xc, xAd, xOp, xIn, xCe, xMk, lAd, lIn, lA, lX, lSp, bef, awa, rd, wr, yc, stk, nxt, acc, idx, mkr, yAd, yOp, yIn, yCe, lds, rfl, rfl, hQ⟩ := I
  have hK := hQ.1
  have h01 := hQ.2.2.2.2.2.2.2.2.2.2.2.2.2.2.1
  unfold sp_K at hK
  unfold wpX_firstRace
  dsimp only
  refine sp_xCell v1 (by omega) (fun j hj e => ?_) (fun z => br_t rfl ?_)
  · subst e
    obtain ⟨r, X1, Y1⟩ := sp_first hQ (nI j) cnt 0 (by omega)
    refine br_f (by decide) ⟨cnt + 1, X1 _ ?_⟩
    unfold wpY_firstRace
    dsimp only
    exact br_f (nI_pos (by omega)) (br_t (nI_lt hj (by omega)) ⟨cnt + 1, Y1 lds _ h01 (fun g hg => ⟨rfl, sp_mkRel (k + 3) (sp_Qlds hQ hg)⟩)⟩)
  · unfold wpY_firstRace
    dsimp only
    rcases z with z | z
    · exact br_t z ⟨rfl, J⟩
    · exact br_f (sp_ngt (by omega) z) (br_f (sp_nlt z) ⟨rfl, J⟩)
theorem i_vc_concurrent {k : Nat} {u : SX} {v : SY} (I : i_Rel k u v) (hk : k + 3 ≤ 1540) (v1 : Int32) : wpX_concurrent (fun r => wpY_concurrent (fun r' v' => r' = r ∧ i_Rel (k + 3) u v') v v1) u v1 := by
  have J := I
  obtain ⟨cc, ce, dc, ic, len, s, cnt, dep, md, o, n, m, st, q, ad, cop, carg, xc, xAd, xOp, xIn, xCe, xMk, lAd, lIn, lA, lX, lSp, bef, awa, rd, wr, yc, stk, nxt, acc, idx, mkr, yAd, yOp, yIn, yCe, lds, rfl, rfl, hQ⟩ := I
  obtain ⟨hK, hC, hc0, hAd, hxO, hyO, hxI, hyI, hCe, hS, hV, hMr, hRW, hMk, h01, H, IL⟩ := hQ
  unfold sp_K at hK
  unfold wpX_concurrent
  dsimp only
  by_cases d0 : dep = 0
  · have z : nI dep = 0 := by rw [d0]; rfl
    refine br_t z ?_
    unfold wpY_concurrent
    dsimp only
    exact br_t z ⟨rfl, J⟩
  · obtain ⟨L, rfl⟩ : ∃ L, dep = L + 1 := ⟨dep - 1, by omega⟩
    have z : ¬ nI (L + 1) = 0 := nI_ne0 (by omega) (by omega)
    refine br_f z (sp_xIsStep v1 (by omega) (fun j hj e => ?_) (fun w => br_t rfl ?_))
    · subst e
      rw [nI_pred]
      have hst := IL.2.2.1 L (by omega)
      have hvL := hV L (by omega)
      have X : sp_X o n m (sp_u o cnt 4) (sp_u n cnt (st L)) m cnt md := sp_X1
      have hH := sp_H1 H (oo := 4) hst
      have hask := fun t (ht : t < 128) (htc : t < cnt) => sp_ask H IL X rfl sp_us (by rw [sp_us]; decide) (by rw [sp_us]; decide) ht htc
      have cc1 : (nI cnt).toNatClampNeg = cnt := nI_clamp (by omega)
      have cL : (nI L).toNatClampNeg = L := nI_clamp (by omega)
      have cj : (nI j).toNatClampNeg = j := nI_clamp (by omega)
      have ij : vp_in (nI j) 129 := vp_in_nI (by omega) (by omega)
      have ict : vp_in (nI cnt) 129 := vp_in_nI (by omega) (by omega)
      have iL : vp_in (nI L) 12 := vp_in_nI (by omega) (by omega)
      have hyO' : sp_rep (cnt + 1) (upd yOp cnt (nI 4)) (sp_u o cnt 4) := sp_rep_u hyO
      have hyI' : sp_rep (cnt + 1) (upd yIn cnt (nI (st L))) (sp_u n cnt (st L)) := sp_rep_u hyI
      have G : sp_YG cnt md (sp_u o cnt 4) (sp_u n cnt (st L)) m (upd yOp cnt (nI 4)) (upd yIn cnt (nI (st L))) mkr := by
        refine ⟨fun t ht => ⟨hyO' t (by omega), ?_⟩, fun t ht => ⟨hyI' t (by omega), hH.1 t (by omega)⟩, by omega, fun i i0 hi => ⟨hMr i i0 hi, by have := (H.2.2 i i0 hi).1; omega⟩, fun t ht t0 => hH.2.1 t (by omega) t0, by omega⟩
        by_cases e : t = cnt
        · rw [e, sp_us]; omega
        · rw [sp_un e]; exact (hS t (by omega)).1
      have key : ∀ (r : Int32), (r = 1 ↔ ¬ sp_mem bef L j) → (r = 0 ∨ r = 1) → wpY_concurrent (fun r' v' => r' = r ∧ i_Rel (k + 3) (nI cc, nI ce, nI dc, nI ic, nI len, nI s, nI cnt, nI (L + 1), nI md, cop, carg, xc, xAd, xOp, xIn, xCe, xMk, lAd, lIn, lA, lX, lSp, bef, awa, rd, wr) v') (nI cc, nI ce, nI dc, nI ic, nI s, nI len, nI cnt, nI (L + 1), nI md, cop, carg, yc, stk, nxt, acc, idx, mkr, yAd, yOp, yIn, yCe, lds) (nI j) := by
        intro r hr hr01
        unfold wpY_concurrent
        dsimp only
        rw [nI_pred, cc1, cL, cj, hvL.2.2.2.2.1]
        refine br_f z (br_f (nI_pos (by omega)) (br_t (nI_lt hj (by omega)) ⟨iL, ict, nm_e ⟨ict, nm_e ?_⟩⟩))
        refine sp_ySearch G (by omega) h01 (fun f hf hR => ⟨ij, ?_⟩)
        have hRel : i_Rel (k + 3) (nI cc, nI ce, nI dc, nI ic, nI len, nI s, nI cnt, nI (L + 1), nI md, cop, carg, xc, xAd, xOp, xIn, xCe, xMk, lAd, lIn, lA, lX, lSp, bef, awa, rd, wr) (nI cc, nI ce, nI dc, nI ic, nI s, nI len, nI cnt, nI (L + 1), nI md, cop, carg, yc, stk, nxt, acc, idx, mkr, yAd, upd yOp cnt (nI 4), upd yIn cnt (nI (st L)), yCe, f) := sp_mkRel (k + 3) ⟨by unfold sp_K; omega, hC, hc0, hAd, hxO, sp_rep_k hyO, hxI, sp_rep_k hyI, hCe, hS, hV, hMr, hRW, hMk, hf, H, IL⟩
        have h1 : f j = 1 ↔ sp_mem bef L j := (hR j (by omega)).trans (hask j (by omega) hj)
        refine br_c (fun e => ⟨?_, hRel⟩) (fun e => ⟨?_, hRel⟩)
        · have : ¬ sp_mem bef L j := fun w => by
            have e' : f j = 0 := e
            have h5 := h1.2 w
            rw [e'] at h5
            exact absurd h5 (by decide)
          exact (hr.2 this).symm
        · have h2 : f j = 1 := (hf j).resolve_left e
          rcases hr01 with w | w
          · exact w.symm
          · exact absurd (h1.1 h2) (hr.1 w)
      refine br_f (by decide) (sp_xHas (by omega) (by omega) (fun w => br_f (by decide) ?_) (fun w => br_t rfl ?_))
      · exact key 0 ⟨fun y => absurd y (by decide), fun y => absurd w y⟩ (Or.inl rfl)
      · exact key 1 ⟨fun _ => w, fun _ => rfl⟩ (Or.inr rfl)
    · unfold wpY_concurrent
      dsimp only
      rcases w with w | w
      · exact br_f z (br_t w ⟨rfl, J⟩)
      · exact br_f z (br_f (sp_ngt (by omega) w) (br_f (sp_nlt w) ⟨rfl, J⟩))

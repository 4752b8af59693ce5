/-! ===== advance and run ===== -/
section
variable {cc ce dc ic len s cnt dep md : Nat} {o n m st q ad : Nat → Nat} {cop carg xc xAd xOp xIn xCe xMk lAd lIn lA lX lSp yc stk nxt acc idx mkr yAd yOp yIn yCe lds : Nat → Int32} {bef awa rd wr : Nat → Int64}
theorem sp_Qs {s' : Nat} (h : sp_Q cc ce dc ic len (1) cnt dep md o n m st q ad cop carg xc xAd xOp xIn xCe xMk lAd lIn lA lX lSp bef awa rd wr yc stk nxt acc idx mkr yAd yOp yIn yCe lds) (h1 : 3 ≤ s') (h2 : s' ≤ 5) : sp_Q cc ce dc ic len (s') cnt dep md o n m st q ad cop carg xc xAd xOp xIn xCe xMk lAd lIn lA lX lSp bef awa rd wr yc stk nxt acc idx mkr yAd yOp yIn yCe lds := by
  obtain ⟨hK, hC, hc0, hAd, hxO, hyO, hxI, hyI, hCe, hS, hV, hMr, hRW, hMk, h01, H, IL⟩ := h
  unfold sp_K at hK
  exact ⟨by unfold sp_K; omega, hC, hc0, hAd, hxO, hyO, hxI, hyI, hCe, hS, hV, hMr, hRW, hMk, h01, H, IL⟩
theorem sp_adv {post : St2 → Prop} (h : sp_Q cc ce dc ic len (1) cnt dep md o n m st q ad cop carg xc xAd xOp xIn xCe xMk lAd lIn lA lX lSp bef awa rd wr yc stk nxt acc idx mkr yAd yOp yIn yCe lds) (D : sp_D o n m cnt md dep st) (hp : ∀ u1, pp_R ce u1 → post u1) : wpX_advance post (nI cc, nI ce, nI dc, nI ic, nI len, nI 1, nI cnt, nI dep, nI md, cop, carg, xc, xAd, xOp, xIn, xCe, xMk, lAd, lIn, lA, lX, lSp, bef, awa, rd, wr) := by
  have hQ := h
  obtain ⟨hK, hC, hc0, hAd, hxO, hyO, hxI, hyI, hCe, hS, hV, hMr, hRW, hMk, h01, H, IL⟩ := h
  unfold sp_K at hK
  obtain ⟨L, rfl⟩ : ∃ L, dep = L + 1 := ⟨dep - 1, by omega⟩
  have hv := hV L (by omega)
  have hst := IL.2.2.1 L (by omega)
  obtain ⟨oo, arg, hf⟩ := sp_ftEx hC (ad L)
  have ho := hf.2.1
  by_cases hk : cnt < 128
  · have hm : ((oo = 2 ∨ oo = 3) → L + 1 < dc ∧ md < ic) ∨ ((oo = 2 ∨ oo = 3) ∧ L + 1 = dc) ∨ ((oo = 2 ∨ oo = 3) ∧ L + 1 < dc ∧ md = ic) := by omega
    have hc : nI cnt < 128 := nI_lt (b := 128) hk (by omega)
    have hc' : ¬ nI cnt = 128 := fun z => by
      have z2 : nI cnt = nI 128 := z
      rw [nI_eq (by omega) (by omega)] at z2
      omega
    rcases hm with hm | ⟨h23, hd⟩ | ⟨h23, hd, hi⟩
    · refine sp_both hQ hk hf hm hp (fun e ev he hev mv f a r w hr P hP => ?_)
      have hT := hf.2.2
      rcases (show oo = 0 ∨ oo = 1 ∨ oo = 2 ∨ oo = 3 ∨ oo = 4 ∨ oo = 5 ∨ oo = 6 ∨ oo = 7 ∨ oo = 8 ∨ oo = 9 ∨ oo = 10 ∨ oo = 11 by omega) with rfl | rfl | rfl | rfl | rfl | rfl | rfl | rfl | rfl | rfl | rfl | rfl
      · obtain rfl : ev = -1 := hev.elim (fun z => absurd z.1 (by unfold sp_acc; omega)) (fun z => z.2)
        cases L with
        | zero => exact sp_o0r hQ D hk he hr hP
        | succ p => exact sp_o0 hQ D hk he hr hP
      · obtain rfl : ev = -1 := hev.elim (fun z => absurd z.1 (by unfold sp_acc; omega)) (fun z => z.2)
        exact sp_o1 hQ D hk he hr hP
      · obtain rfl : ev = -1 := hev.elim (fun z => absurd z.1 (by unfold sp_acc; omega)) (fun z => z.2)
        obtain ⟨t, ht, rfl⟩ := hT (Or.inl rfl)
        exact sp_o2 ht hQ D hk he hr hP (hm (Or.inl rfl)).1 (hm (Or.inl rfl)).2
      · obtain rfl : ev = -1 := hev.elim (fun z => absurd z.1 (by unfold sp_acc; omega)) (fun z => z.2)
        obtain ⟨t, ht, rfl⟩ := hT (Or.inr (Or.inl rfl))
        exact sp_o3 ht hQ D hk he hr hP (hm (Or.inr rfl)).1 (hm (Or.inr rfl)).2
      · obtain rfl : ev = nI e := hev.elim (fun z => z.2) (fun z => absurd (Or.inl rfl) z.1)
        exact sp_o4 hQ D hk he hr hP
      · obtain rfl : ev = nI e := hev.elim (fun z => z.2) (fun z => absurd (Or.inr (Or.inl rfl)) z.1)
        exact sp_o5 hQ D hk he hr hP
      · obtain rfl : ev = nI e := hev.elim (fun z => z.2) (fun z => absurd (Or.inr (Or.inr rfl)) z.1)
        exact sp_o6 hQ D hk he hr hP
      · obtain rfl : ev = -1 := hev.elim (fun z => absurd z.1 (by unfold sp_acc; omega)) (fun z => z.2)
        exact sp_o7 hQ D hk he hr hP
      · obtain rfl : ev = -1 := hev.elim (fun z => absurd z.1 (by unfold sp_acc; omega)) (fun z => z.2)
        exact sp_o8 hQ D hk he hr hP
      · obtain rfl : ev = -1 := hev.elim (fun z => absurd z.1 (by unfold sp_acc; omega)) (fun z => z.2)
        exact sp_o9 hQ D hk he hr hP
      · obtain rfl : ev = -1 := hev.elim (fun z => absurd z.1 (by unfold sp_acc; omega)) (fun z => z.2)
        obtain ⟨t, ht, rfl⟩ := hT (Or.inr (Or.inr (Or.inl rfl)))
        exact sp_o10 ht hQ D hk he hr hP
      · obtain rfl : ev = -1 := hev.elim (fun z => absurd z.1 (by unfold sp_acc; omega)) (fun z => z.2)
        obtain ⟨t, ht, rfl⟩ := hT (Or.inr (Or.inr (Or.inr rfl)))
        exact sp_o11 ht hQ D hk he hr hP
    · refine sp_xFt (by omega) (by omega) (by omega) hv.1 hf ?_
      have hd1 : nI (L + 1) = nI dc := by rw [hd]
      have hd2 : ¬ nI (L + 1) < nI dc := nI_nlt (by omega) (by omega)
      unfold wX_advance_51
      refine br_f hc' (sp_xMks ho (fun _ => br_f (by decide) (br_t hd1 ?_)) (fun z => absurd h23 z))
      exact hp _ (pp_mk (s := 4) (sp_Qs hQ (by omega) (by omega)) D)
    · refine sp_xFt (by omega) (by omega) (by omega) hv.1 hf ?_
      have hd1 : ¬ nI (L + 1) = nI dc := fun z => by
        rw [nI_eq (by omega) (by omega)] at z
        omega
      have hd2 : nI (L + 1) < nI dc := nI_lt (by omega) (by omega)
      have hi1 : nI md = nI ic := by rw [hi]
      have hi2 : ¬ nI md < nI ic := nI_nlt (by omega) (by omega)
      unfold wX_advance_51
      refine br_f hc' (sp_xMks ho (fun _ => br_f (by decide) (br_f hd1 ?_)) (fun z => absurd h23 z))
      unfold wX_advance_97
      refine sp_xMks ho (fun _ => br_f (by decide) (br_t hi1 ?_)) (fun z => absurd h23 z)
      exact hp _ (pp_mk (s := 5) (sp_Qs hQ (by omega) (by omega)) D)
  · have hc' : nI cnt = 128 := by
      have e : cnt = 128 := by omega
      rw [e]; rfl
    have hc : ¬ nI cnt < 128 := nI_nlt (b := 128) (by omega) (by omega)
    refine sp_xFt (by omega) (by omega) (by omega) hv.1 hf ?_
    unfold wX_advance_51
    refine br_t hc' ?_
    exact hp _ (pp_mk (s := 3) (sp_Qs hQ (by omega) (by omega)) D)
theorem sp_loop {post : Int32 → St2 → Prop} {N CE : Nat} (hN : N ≤ 32) (hp : ∀ r u', pp_R CE u' → post r u') : ∀ d j, j + d = N → ∀ {cc ce dc ic len s cnt dep md : Nat} {o n m st q ad : Nat → Nat} {cop carg xc xAd xOp xIn xCe xMk lAd lIn lA lX lSp yc stk nxt acc idx mkr yAd yOp yIn yCe lds : Nat → Int32} {bef awa rd wr : Nat → Int64}, ce = CE → sp_Q cc ce dc ic len s cnt dep md o n m st q ad cop carg xc xAd xOp xIn xCe xMk lAd lIn lA lX lSp bef awa rd wr yc stk nxt acc idx mkr yAd yOp yIn yCe lds → sp_D o n m cnt md dep st →
    wX_run_20 post (nI N) (d + 1) (nI j) (nI cc) (nI ce) (nI dc) (nI ic) (nI len) (nI s) (nI cnt) (nI dep) (nI md) (cop) (carg) (xc) (xAd) (xOp) (xIn) (xCe) (xMk) (lAd) (lIn) (lA) (lX) (lSp) (bef) (awa) (rd) (wr) := by
  intro d
  induction d with
  | zero =>
    intro j hj cc ce dc ic len s cnt dep md o n m st q ad cop carg xc xAd xOp xIn xCe xMk lAd lIn lA lX lSp yc stk nxt acc idx mkr yAd yOp yIn yCe lds bef awa rd wr hce h D
    subst hce
    unfold wX_run_20
    exact br_t (nI_le (by omega) (by omega)) (hp _ _ (pp_mk h D))
  | succ d ih =>
    intro j hj cc ce dc ic len s cnt dep md o n m st q ad cop carg xc xAd xOp xIn xCe xMk lAd lIn lA lX lSp yc stk nxt acc idx mkr yAd yOp yIn yCe lds bef awa rd wr hce h D
    subst hce
    have hK := h.1
    unfold sp_K at hK
    unfold wX_run_20
    refine br_f (nI_ge (by omega) (by omega)) ?_
    by_cases s1 : s = 1
    · subst s1
      refine br_t rfl ?_
      refine sp_adv h D (fun u1 hR => ?_)
      obtain ⟨cc', ce', dc', ic', len', s', cnt', dep', md', o', n', m', st', q', ad', cop', carg', xc', xAd', xOp', xIn', xCe', xMk', lAd', lIn', lA', lX', lSp', bef', awa', rd', wr', yc', stk', nxt', acc', idx', mkr', yAd', yOp', yIn', yCe', lds', rfl, hce', hQ', hD'⟩ := hR
      exact nm_r (nI_1 j) (ih (j + 1) (by omega) hce' hQ' hD')
    · have zs : ¬ nI s = 1 := fun w => by
        have w2 : nI s = nI 1 := w
        rw [nI_eq (by omega) (by omega)] at w2
        exact s1 w2
      exact br_f zs (hp _ _ (pp_mk h D))
end
theorem pp_run {CE : Nat} {u : St2} {post : Int32 → St2 → Prop} (I : pp_R CE u) (v1 : Int32) (hp : ∀ r u', pp_R CE u' → post r u') : wpX_run post u v1 := by
  have J := I
  obtain ⟨cc, ce, dc, ic, len, s, cnt, dep, md, o, n, m, st, q, ad, cop, carg, xc, xAd, xOp, xIn, xCe, xMk, lAd, lIn, lA, lX, lSp, bef, awa, rd, wr, yc, stk, nxt, acc, idx, mkr, yAd, yOp, yIn, yCe, lds, rfl, rfl, hQ, hD⟩ := I
  have hK := hQ.1
  unfold sp_K at hK
  unfold wpX_run
  dsimp only
  by_cases s1 : s = 1
  · have z1 : nI s = 1 := by rw [s1]; rfl
    obtain ⟨N, a0, b0, e0⟩ := sp_clEx v1 (lo := 0) (hi := 32) (by omega) (by omega)
    exact br_t z1 (sp_xClamp (lo := 0) (hi := 32) e0 ⟨N + 1, sp_loop b0 hp N 0 (by omega) rfl hQ hD⟩)
  · have z1 : ¬ nI s = 1 := fun w => by
      have w2 : nI s = nI 1 := w
      rw [nI_eq (by omega) (by omega)] at w2
      exact s1 w2
    exact br_f z1 (hp _ _ J)

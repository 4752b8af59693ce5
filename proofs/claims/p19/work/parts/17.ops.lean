/-! ===== a step of both machines, and run ===== -/
section
variable {cc ce dc ic len s cnt dep md : Nat} {o n m st q ad : Nat → Nat} {cop carg xc xAd xOp xIn xCe xMk lAd lIn lA lX lSp yc stk nxt acc idx mkr yAd yOp yIn yCe lds : Nat → Int32} {bef awa rd wr : Nat → Int64}
theorem sp_both {post : St2 → Prop} {L oo : Nat} {arg : Int32} (h : sp_Q cc ce dc ic len (1) cnt (L + 1) md o n m st q ad cop carg xc xAd xOp xIn xCe xMk lAd lIn lA lX lSp bef awa rd wr yc stk nxt acc idx mkr yAd yOp yIn yCe lds) (hk : cnt < 128) (hf : sp_ft len cop carg (ad L) oo arg) (hm : (oo = 2 ∨ oo = 3) → L + 1 < dc ∧ md < ic)
    (hp : ∀ u1, pp_R ce u1 → post u1)
    (hx : ∀ e ev, e < ce → ((sp_acc oo ∧ ev = nI e) ∨ (¬ sp_acc oo ∧ ev = -1)) → ∀ mv f a r w, sp_rec oo L cnt ev mv bef awa rd wr f a r w → ∀ P : St2 → Prop, (∀ u1, pp_R ce u1 → P u1) →
      wpX_execute P (nI cc, nI ce, nI dc, nI ic, nI len, nI 1, nI (cnt + 1), nI (L + 1), nI md, cop, carg, xc, upd xAd cnt (nI (ad L)), upd xOp cnt (nI oo), upd xIn cnt (nI (st L)), upd xCe cnt ev, upd xMk cnt mv, upd lAd L (nI (ad L + 1)), lIn, lA, lX, lSp, f, a, r, w) (nI L) (nI oo) arg ev) :
    wpX_advance post (nI cc, nI ce, nI dc, nI ic, nI len, nI 1, nI cnt, nI (L + 1), nI md, cop, carg, xc, xAd, xOp, xIn, xCe, xMk, lAd, lIn, lA, lX, lSp, bef, awa, rd, wr) := by
  have hQ := h
  obtain ⟨hK, hC, hc0, hAd, hxO, hyO, hxI, hyI, hCe, hS, hV, hMr, hRW, hMk, h01, H, IL⟩ := h
  unfold sp_K at hK
  obtain ⟨e, he, r1, r2⟩ := sp_rem (arg + lX L) (c := ce) (by omega) (by omega)
  have hevx : ∃ ev : Int32, (sp_acc oo ∧ ev = nI e) ∨ (¬ sp_acc oo ∧ ev = -1) := by
    by_cases z : sp_acc oo
    · exact ⟨nI e, Or.inl ⟨z, rfl⟩⟩
    · exact ⟨-1, Or.inr ⟨z, rfl⟩⟩
  obtain ⟨ev, hev⟩ := hevx
  exact sp_xGo (e := e) (ev := ev) hQ hk hf hm he r1 r2 hev (fun mv f a r w hr P hP => hx e ev he hev mv f a r w hr P (fun u1 hR => hP u1 (hp u1 hR)))
theorem sp_o1 {P : St2 → Prop} {L e : Nat} {arg mv : Int32} {f a r w : Nat → Int64} (h : sp_Q cc ce dc ic len (1) cnt (L + 1) md o n m st q ad cop carg xc xAd xOp xIn xCe xMk lAd lIn lA lX lSp bef awa rd wr yc stk nxt acc idx mkr yAd yOp yIn yCe lds) (D : sp_D o n m cnt md (L + 1) st) (hk : cnt < 128) (he : e < ce) (hr : sp_rec 1 L cnt (-1) mv bef awa rd wr f a r w)
    (hp : ∀ u1, pp_R ce u1 → P u1) : wpX_execute P (nI cc, nI ce, nI dc, nI ic, nI len, nI 1, nI (cnt + 1), nI (L + 1), nI md, cop, carg, xc, upd xAd cnt (nI (ad L)), upd xOp cnt (nI 1), upd xIn cnt (nI (st L)), upd xCe cnt (-1), upd xMk cnt mv, upd lAd L (nI (ad L + 1)), lIn, lA, lX, lSp, f, a, r, w) (nI L) (nI 1) arg (-1) := by
  have hQ := h
  obtain ⟨hK, hC, hc0, hAd, hxO, hyO, hxI, hyI, hCe, hS, hV, hMr, hRW, hMk, h01, H, IL⟩ := h
  unfold sp_K at hK
  have hv := hV L (by omega)
  have hst := IL.2.2.1 L (by omega)
  exact sp_xE1 (by omega) (hp _ (pp_mk (sp_QA (xc' := xc) (yc' := yc) (lAd' := upd lAd L (nI (ad L + 1))) (nxt' := upd nxt (st L) (nI (ad L + 1))) (lA' := lA) (acc' := acc) (lX' := lX) (idx' := idx) (a1 := ad L + 1) (pv := nI (ad L)) hQ rfl (by omega) (by omega) hk (by omega) (by omega) (by omega) (by omega) (Or.inr ⟨by unfold sp_acc; omega, rfl⟩) hr (by omega) hc0 (fun l hl => pk_un (by omega)) pk_us (fun i hi => pk_un hi) pk_us (fun _ _ => rfl) (fun _ _ => rfl) hv.2.2.2.2.2.1 (fun _ _ => rfl) (fun _ _ => rfl) hv.2.2.2.2.2.2.1) (sp_dA H IL D rfl (by omega) (by omega) (by omega))))
theorem sp_o4 {P : St2 → Prop} {L e : Nat} {arg mv : Int32} {f a r w : Nat → Int64} (h : sp_Q cc ce dc ic len (1) cnt (L + 1) md o n m st q ad cop carg xc xAd xOp xIn xCe xMk lAd lIn lA lX lSp bef awa rd wr yc stk nxt acc idx mkr yAd yOp yIn yCe lds) (D : sp_D o n m cnt md (L + 1) st) (hk : cnt < 128) (he : e < ce) (hr : sp_rec 4 L cnt (nI e) mv bef awa rd wr f a r w)
    (hp : ∀ u1, pp_R ce u1 → P u1) : wpX_execute P (nI cc, nI ce, nI dc, nI ic, nI len, nI 1, nI (cnt + 1), nI (L + 1), nI md, cop, carg, xc, upd xAd cnt (nI (ad L)), upd xOp cnt (nI 4), upd xIn cnt (nI (st L)), upd xCe cnt (nI e), upd xMk cnt mv, upd lAd L (nI (ad L + 1)), lIn, lA, lX, lSp, f, a, r, w) (nI L) (nI 4) arg (nI e) := by
  have hQ := h
  obtain ⟨hK, hC, hc0, hAd, hxO, hyO, hxI, hyI, hCe, hS, hV, hMr, hRW, hMk, h01, H, IL⟩ := h
  unfold sp_K at hK
  have hv := hV L (by omega)
  have hst := IL.2.2.1 L (by omega)
  exact sp_xE4 (by omega) (by omega) (hp _ (pp_mk (sp_QA (xc' := xc) (yc' := yc) (lAd' := upd lAd L (nI (ad L + 1))) (nxt' := upd nxt (st L) (nI (ad L + 1))) (lA' := upd lA L (xc e)) (acc' := upd acc (st L) (yc e)) (lX' := lX) (idx' := idx) (a1 := ad L + 1) (pv := nI (ad L)) hQ rfl (by omega) (by omega) hk (by omega) (by omega) (by omega) (by omega) (Or.inl ⟨by unfold sp_acc; omega, e, he, rfl⟩) hr (by omega) hc0 (fun l hl => pk_un (by omega)) pk_us (fun i hi => pk_un hi) pk_us (fun l hl => pk_un (by omega)) (fun i hi => pk_un hi) (by rw [pk_us, pk_us]; exact hc0 e he) (fun _ _ => rfl) (fun _ _ => rfl) hv.2.2.2.2.2.2.1) (sp_dA H IL D rfl (by omega) (by omega) (by omega))))
theorem sp_o5 {P : St2 → Prop} {L e : Nat} {arg mv : Int32} {f a r w : Nat → Int64} (h : sp_Q cc ce dc ic len (1) cnt (L + 1) md o n m st q ad cop carg xc xAd xOp xIn xCe xMk lAd lIn lA lX lSp bef awa rd wr yc stk nxt acc idx mkr yAd yOp yIn yCe lds) (D : sp_D o n m cnt md (L + 1) st) (hk : cnt < 128) (he : e < ce) (hr : sp_rec 5 L cnt (nI e) mv bef awa rd wr f a r w)
    (hp : ∀ u1, pp_R ce u1 → P u1) : wpX_execute P (nI cc, nI ce, nI dc, nI ic, nI len, nI 1, nI (cnt + 1), nI (L + 1), nI md, cop, carg, xc, upd xAd cnt (nI (ad L)), upd xOp cnt (nI 5), upd xIn cnt (nI (st L)), upd xCe cnt (nI e), upd xMk cnt mv, upd lAd L (nI (ad L + 1)), lIn, lA, lX, lSp, f, a, r, w) (nI L) (nI 5) arg (nI e) := by
  have hQ := h
  obtain ⟨hK, hC, hc0, hAd, hxO, hyO, hxI, hyI, hCe, hS, hV, hMr, hRW, hMk, h01, H, IL⟩ := h
  unfold sp_K at hK
  have hv := hV L (by omega)
  have hst := IL.2.2.1 L (by omega)
  exact sp_xE5 (by omega) (by omega) (hp _ (pp_mk (sp_QA (xc' := upd xc e (lA L)) (yc' := upd yc e (acc (st L))) (lAd' := upd lAd L (nI (ad L + 1))) (nxt' := upd nxt (st L) (nI (ad L + 1))) (lA' := lA) (acc' := acc) (lX' := lX) (idx' := idx) (a1 := ad L + 1) (pv := nI (ad L)) hQ rfl (by omega) (by omega) hk (by omega) (by omega) (by omega) (by omega) (Or.inl ⟨by unfold sp_acc; omega, e, he, rfl⟩) hr (by omega) (fun t ht => by by_cases z : t = e; (rw [z, pk_us, pk_us]; exact hv.2.2.2.2.2.1); (rw [pk_un z, pk_un z]; exact hc0 t ht)) (fun l hl => pk_un (by omega)) pk_us (fun i hi => pk_un hi) pk_us (fun _ _ => rfl) (fun _ _ => rfl) hv.2.2.2.2.2.1 (fun _ _ => rfl) (fun _ _ => rfl) hv.2.2.2.2.2.2.1) (sp_dA H IL D rfl (by omega) (by omega) (by omega))))
theorem sp_o6 {P : St2 → Prop} {L e : Nat} {arg mv : Int32} {f a r w : Nat → Int64} (h : sp_Q cc ce dc ic len (1) cnt (L + 1) md o n m st q ad cop carg xc xAd xOp xIn xCe xMk lAd lIn lA lX lSp bef awa rd wr yc stk nxt acc idx mkr yAd yOp yIn yCe lds) (D : sp_D o n m cnt md (L + 1) st) (hk : cnt < 128) (he : e < ce) (hr : sp_rec 6 L cnt (nI e) mv bef awa rd wr f a r w)
    (hp : ∀ u1, pp_R ce u1 → P u1) : wpX_execute P (nI cc, nI ce, nI dc, nI ic, nI len, nI 1, nI (cnt + 1), nI (L + 1), nI md, cop, carg, xc, upd xAd cnt (nI (ad L)), upd xOp cnt (nI 6), upd xIn cnt (nI (st L)), upd xCe cnt (nI e), upd xMk cnt mv, upd lAd L (nI (ad L + 1)), lIn, lA, lX, lSp, f, a, r, w) (nI L) (nI 6) arg (nI e) := by
  have hQ := h
  obtain ⟨hK, hC, hc0, hAd, hxO, hyO, hxI, hyI, hCe, hS, hV, hMr, hRW, hMk, h01, H, IL⟩ := h
  unfold sp_K at hK
  have hv := hV L (by omega)
  have hst := IL.2.2.1 L (by omega)
  exact sp_xE6 (by omega) (by omega) (hp _ (pp_mk (sp_QA (xc' := xc) (yc' := yc) (lAd' := upd lAd L (nI (ad L + 1))) (nxt' := upd nxt (st L) (nI (ad L + 1))) (lA' := upd lA L (lA L + xc e)) (acc' := upd acc (st L) (acc (st L) + yc e)) (lX' := lX) (idx' := idx) (a1 := ad L + 1) (pv := nI (ad L)) hQ rfl (by omega) (by omega) hk (by omega) (by omega) (by omega) (by omega) (Or.inl ⟨by unfold sp_acc; omega, e, he, rfl⟩) hr (by omega) hc0 (fun l hl => pk_un (by omega)) pk_us (fun i hi => pk_un hi) pk_us (fun l hl => pk_un (by omega)) (fun i hi => pk_un hi) (by rw [pk_us, pk_us, hv.2.2.2.2.2.1, hc0 e he]) (fun _ _ => rfl) (fun _ _ => rfl) hv.2.2.2.2.2.2.1) (sp_dA H IL D rfl (by omega) (by omega) (by omega))))
theorem sp_o7 {P : St2 → Prop} {L e : Nat} {arg mv : Int32} {f a r w : Nat → Int64} (h : sp_Q cc ce dc ic len (1) cnt (L + 1) md o n m st q ad cop carg xc xAd xOp xIn xCe xMk lAd lIn lA lX lSp bef awa rd wr yc stk nxt acc idx mkr yAd yOp yIn yCe lds) (D : sp_D o n m cnt md (L + 1) st) (hk : cnt < 128) (he : e < ce) (hr : sp_rec 7 L cnt (-1) mv bef awa rd wr f a r w)
    (hp : ∀ u1, pp_R ce u1 → P u1) : wpX_execute P (nI cc, nI ce, nI dc, nI ic, nI len, nI 1, nI (cnt + 1), nI (L + 1), nI md, cop, carg, xc, upd xAd cnt (nI (ad L)), upd xOp cnt (nI 7), upd xIn cnt (nI (st L)), upd xCe cnt (-1), upd xMk cnt mv, upd lAd L (nI (ad L + 1)), lIn, lA, lX, lSp, f, a, r, w) (nI L) (nI 7) arg (-1) := by
  have hQ := h
  obtain ⟨hK, hC, hc0, hAd, hxO, hyO, hxI, hyI, hCe, hS, hV, hMr, hRW, hMk, h01, H, IL⟩ := h
  unfold sp_K at hK
  have hv := hV L (by omega)
  have hst := IL.2.2.1 L (by omega)
  exact sp_xE7 (by omega) (hp _ (pp_mk (sp_QA (xc' := xc) (yc' := yc) (lAd' := upd lAd L (nI (ad L + 1))) (nxt' := upd nxt (st L) (nI (ad L + 1))) (lA' := upd lA L arg) (acc' := upd acc (st L) arg) (lX' := lX) (idx' := idx) (a1 := ad L + 1) (pv := nI (ad L)) hQ rfl (by omega) (by omega) hk (by omega) (by omega) (by omega) (by omega) (Or.inr ⟨by unfold sp_acc; omega, rfl⟩) hr (by omega) hc0 (fun l hl => pk_un (by omega)) pk_us (fun i hi => pk_un hi) pk_us (fun l hl => pk_un (by omega)) (fun i hi => pk_un hi) (by rw [pk_us, pk_us]) (fun _ _ => rfl) (fun _ _ => rfl) hv.2.2.2.2.2.2.1) (sp_dA H IL D rfl (by omega) (by omega) (by omega))))
theorem sp_o8 {P : St2 → Prop} {L e : Nat} {arg mv : Int32} {f a r w : Nat → Int64} (h : sp_Q cc ce dc ic len (1) cnt (L + 1) md o n m st q ad cop carg xc xAd xOp xIn xCe xMk lAd lIn lA lX lSp bef awa rd wr yc stk nxt acc idx mkr yAd yOp yIn yCe lds) (D : sp_D o n m cnt md (L + 1) st) (hk : cnt < 128) (he : e < ce) (hr : sp_rec 8 L cnt (-1) mv bef awa rd wr f a r w)
    (hp : ∀ u1, pp_R ce u1 → P u1) : wpX_execute P (nI cc, nI ce, nI dc, nI ic, nI len, nI 1, nI (cnt + 1), nI (L + 1), nI md, cop, carg, xc, upd xAd cnt (nI (ad L)), upd xOp cnt (nI 8), upd xIn cnt (nI (st L)), upd xCe cnt (-1), upd xMk cnt mv, upd lAd L (nI (ad L + 1)), lIn, lA, lX, lSp, f, a, r, w) (nI L) (nI 8) arg (-1) := by
  have hQ := h
  obtain ⟨hK, hC, hc0, hAd, hxO, hyO, hxI, hyI, hCe, hS, hV, hMr, hRW, hMk, h01, H, IL⟩ := h
  unfold sp_K at hK
  have hv := hV L (by omega)
  have hst := IL.2.2.1 L (by omega)
  exact sp_xE8 (by omega) (hp _ (pp_mk (sp_QA (xc' := xc) (yc' := yc) (lAd' := upd lAd L (nI (ad L + 1))) (nxt' := upd nxt (st L) (nI (ad L + 1))) (lA' := upd lA L (lA L + arg)) (acc' := upd acc (st L) (acc (st L) + arg)) (lX' := lX) (idx' := idx) (a1 := ad L + 1) (pv := nI (ad L)) hQ rfl (by omega) (by omega) hk (by omega) (by omega) (by omega) (by omega) (Or.inr ⟨by unfold sp_acc; omega, rfl⟩) hr (by omega) hc0 (fun l hl => pk_un (by omega)) pk_us (fun i hi => pk_un hi) pk_us (fun l hl => pk_un (by omega)) (fun i hi => pk_un hi) (by rw [pk_us, pk_us, hv.2.2.2.2.2.1]) (fun _ _ => rfl) (fun _ _ => rfl) hv.2.2.2.2.2.2.1) (sp_dA H IL D rfl (by omega) (by omega) (by omega))))
theorem sp_o9 {P : St2 → Prop} {L e : Nat} {arg mv : Int32} {f a r w : Nat → Int64} (h : sp_Q cc ce dc ic len (1) cnt (L + 1) md o n m st q ad cop carg xc xAd xOp xIn xCe xMk lAd lIn lA lX lSp bef awa rd wr yc stk nxt acc idx mkr yAd yOp yIn yCe lds) (D : sp_D o n m cnt md (L + 1) st) (hk : cnt < 128) (he : e < ce) (hr : sp_rec 9 L cnt (-1) mv bef awa rd wr f a r w)
    (hp : ∀ u1, pp_R ce u1 → P u1) : wpX_execute P (nI cc, nI ce, nI dc, nI ic, nI len, nI 1, nI (cnt + 1), nI (L + 1), nI md, cop, carg, xc, upd xAd cnt (nI (ad L)), upd xOp cnt (nI 9), upd xIn cnt (nI (st L)), upd xCe cnt (-1), upd xMk cnt mv, upd lAd L (nI (ad L + 1)), lIn, lA, lX, lSp, f, a, r, w) (nI L) (nI 9) arg (-1) := by
  have hQ := h
  obtain ⟨hK, hC, hc0, hAd, hxO, hyO, hxI, hyI, hCe, hS, hV, hMr, hRW, hMk, h01, H, IL⟩ := h
  unfold sp_K at hK
  have hv := hV L (by omega)
  have hst := IL.2.2.1 L (by omega)
  exact sp_xE9 (by omega) (hp _ (pp_mk (sp_QA (xc' := xc) (yc' := yc) (lAd' := upd lAd L (nI (ad L + 1))) (nxt' := upd nxt (st L) (nI (ad L + 1))) (lA' := lA) (acc' := acc) (lX' := upd lX L (lX L + arg)) (idx' := upd idx (st L) (idx (st L) + arg)) (a1 := ad L + 1) (pv := nI (ad L)) hQ rfl (by omega) (by omega) hk (by omega) (by omega) (by omega) (by omega) (Or.inr ⟨by unfold sp_acc; omega, rfl⟩) hr (by omega) hc0 (fun l hl => pk_un (by omega)) pk_us (fun i hi => pk_un hi) pk_us (fun _ _ => rfl) (fun _ _ => rfl) hv.2.2.2.2.2.1 (fun l hl => pk_un (by omega)) (fun i hi => pk_un hi) (by rw [pk_us, pk_us, hv.2.2.2.2.2.2.1])) (sp_dA H IL D rfl (by omega) (by omega) (by omega))))
theorem sp_o11 {P : St2 → Prop} {L e : Nat} {mv : Int32} {t : Nat} (ht : t < 48) {f a r w : Nat → Int64} (h : sp_Q cc ce dc ic len (1) cnt (L + 1) md o n m st q ad cop carg xc xAd xOp xIn xCe xMk lAd lIn lA lX lSp bef awa rd wr yc stk nxt acc idx mkr yAd yOp yIn yCe lds) (D : sp_D o n m cnt md (L + 1) st) (hk : cnt < 128) (he : e < ce) (hr : sp_rec 11 L cnt (-1) mv bef awa rd wr f a r w)
    (hp : ∀ u1, pp_R ce u1 → P u1) : wpX_execute P (nI cc, nI ce, nI dc, nI ic, nI len, nI 1, nI (cnt + 1), nI (L + 1), nI md, cop, carg, xc, upd xAd cnt (nI (ad L)), upd xOp cnt (nI 11), upd xIn cnt (nI (st L)), upd xCe cnt (-1), upd xMk cnt mv, upd lAd L (nI (ad L + 1)), lIn, lA, lX, lSp, f, a, r, w) (nI L) (nI 11) (nI t) (-1) := by
  have hQ := h
  obtain ⟨hK, hC, hc0, hAd, hxO, hyO, hxI, hyI, hCe, hS, hV, hMr, hRW, hMk, h01, H, IL⟩ := h
  unfold sp_K at hK
  have hv := hV L (by omega)
  have hst := IL.2.2.1 L (by omega)
  exact sp_xE11 (by omega) (hp _ (pp_mk (sp_QA (xc' := xc) (yc' := yc) (lAd' := upd (upd lAd L (nI (ad L + 1))) L (nI t)) (nxt' := upd (upd nxt (st L) (nI (ad L + 1))) (st L) (nI t)) (lA' := lA) (acc' := acc) (lX' := lX) (idx' := idx) (a1 := t) (pv := nI (ad L)) hQ rfl (by omega) (by omega) hk (by omega) (by omega) (by omega) (by omega) (Or.inr ⟨by unfold sp_acc; omega, rfl⟩) hr (by omega) hc0 (fun l hl => by rw [pk_un (by omega), pk_un (by omega)]) pk_us (fun i hi => by rw [pk_un hi, pk_un hi]) pk_us (fun _ _ => rfl) (fun _ _ => rfl) hv.2.2.2.2.2.1 (fun _ _ => rfl) (fun _ _ => rfl) hv.2.2.2.2.2.2.1) (sp_dA H IL D rfl (by omega) (by omega) (by omega))))
theorem sp_o10 {P : St2 → Prop} {L e : Nat} {mv : Int32} {t : Nat} (ht : t < 48) {f a r w : Nat → Int64} (h : sp_Q cc ce dc ic len (1) cnt (L + 1) md o n m st q ad cop carg xc xAd xOp xIn xCe xMk lAd lIn lA lX lSp bef awa rd wr yc stk nxt acc idx mkr yAd yOp yIn yCe lds) (D : sp_D o n m cnt md (L + 1) st) (hk : cnt < 128) (he : e < ce) (hr : sp_rec 10 L cnt (-1) mv bef awa rd wr f a r w)
    (hp : ∀ u1, pp_R ce u1 → P u1) : wpX_execute P (nI cc, nI ce, nI dc, nI ic, nI len, nI 1, nI (cnt + 1), nI (L + 1), nI md, cop, carg, xc, upd xAd cnt (nI (ad L)), upd xOp cnt (nI 10), upd xIn cnt (nI (st L)), upd xCe cnt (-1), upd xMk cnt mv, upd lAd L (nI (ad L + 1)), lIn, lA, lX, lSp, f, a, r, w) (nI L) (nI 10) (nI t) (-1) := by
  have hQ := h
  obtain ⟨hK, hC, hc0, hAd, hxO, hyO, hxI, hyI, hCe, hS, hV, hMr, hRW, hMk, h01, H, IL⟩ := h
  unfold sp_K at hK
  have hv := hV L (by omega)
  have hst := IL.2.2.1 L (by omega)
  have ev6 := hv.2.2.2.2.2.1
  refine sp_xE10 (by omega) (fun z => ?_) (fun z => ?_)
  · rw [ev6] at z
    exact hp _ (pp_mk (sp_QA (xc' := xc) (yc' := yc) (lAd' := upd (upd lAd L (nI (ad L + 1))) L (nI t)) (nxt' := upd (upd nxt (st L) (nI (ad L + 1))) (st L) (nI t)) (lA' := lA) (acc' := acc) (lX' := lX) (idx' := idx) (a1 := t) (pv := nI (ad L)) hQ rfl (by omega) (by omega) hk (by omega) (by omega) (by omega) (by omega) (Or.inr ⟨by unfold sp_acc; omega, rfl⟩) hr (by omega) hc0 (fun l hl => by rw [pk_un (by omega), pk_un (by omega)]) pk_us (fun i hi => by rw [pk_un hi, pk_un hi]) pk_us (fun _ _ => rfl) (fun _ _ => rfl) hv.2.2.2.2.2.1 (fun _ _ => rfl) (fun _ _ => rfl) hv.2.2.2.2.2.2.1) (sp_dA H IL D rfl (by omega) (by omega) (by omega)))
  · rw [ev6] at z
    exact hp _ (pp_mk (sp_QA (xc' := xc) (yc' := yc) (lAd' := upd lAd L (nI (ad L + 1))) (nxt' := upd nxt (st L) (nI (ad L + 1))) (lA' := lA) (acc' := acc) (lX' := lX) (idx' := idx) (a1 := ad L + 1) (pv := nI (ad L)) hQ rfl (by omega) (by omega) hk (by omega) (by omega) (by omega) (by omega) (Or.inr ⟨by unfold sp_acc; omega, rfl⟩) hr (by omega) hc0 (fun l hl => pk_un (by omega)) pk_us (fun i hi => pk_un hi) pk_us (fun _ _ => rfl) (fun _ _ => rfl) hv.2.2.2.2.2.1 (fun _ _ => rfl) (fun _ _ => rfl) hv.2.2.2.2.2.2.1) (sp_dA H IL D rfl (by omega) (by omega) (by omega)))
theorem sp_o2 {P : St2 → Prop} {L e : Nat} {mv : Int32} {t : Nat} (ht : t < 48) {f a r w : Nat → Int64} (h : sp_Q cc ce dc ic len (1) cnt (L + 1) md o n m st q ad cop carg xc xAd xOp xIn xCe xMk lAd lIn lA lX lSp bef awa rd wr yc stk nxt acc idx mkr yAd yOp yIn yCe lds) (D : sp_D o n m cnt md (L + 1) st) (hk : cnt < 128) (he : e < ce) (hr : sp_rec 2 L cnt (-1) mv bef awa rd wr f a r w)
    (hp : ∀ u1, pp_R ce u1 → P u1) (hd : L + 1 < dc) (hi : md < ic) : wpX_execute P (nI cc, nI ce, nI dc, nI ic, nI len, nI 1, nI (cnt + 1), nI (L + 1), nI md, cop, carg, xc, upd xAd cnt (nI (ad L)), upd xOp cnt (nI 2), upd xIn cnt (nI (st L)), upd xCe cnt (-1), upd xMk cnt mv, upd lAd L (nI (ad L + 1)), lIn, lA, lX, lSp, f, a, r, w) (nI L) (nI 2) (nI t) (-1) := by
  have hQ := h
  obtain ⟨hK, hC, hc0, hAd, hxO, hyO, hxI, hyI, hCe, hS, hV, hMr, hRW, hMk, h01, H, IL⟩ := h
  unfold sp_K at hK
  have hv := hV L (by omega)
  have hst := IL.2.2.1 L (by omega)
  refine sp_xE2 (by omega) (sp_xMake (by omega) (fun f2 g2 hf2 hg2 => ?_))
  exact hp _ (pp_mk (sp_QM (bef'' := f2) (awa'' := g2) (sv := 1) (t := t) (p := ad L) (pv := nI (ad L)) hQ rfl (by omega) (by omega) hk hd hi (by omega) hr (fun l j hj => by have := hf2 l j hj; simpa using this) hg2 rfl ht (fun z => by first | rfl | exact absurd z (by decide)) (fun z => by first | rfl | exact absurd rfl z)) (sp_dM H IL D rfl (by omega)))
theorem sp_o3 {P : St2 → Prop} {L e : Nat} {mv : Int32} {t : Nat} (ht : t < 48) {f a r w : Nat → Int64} (h : sp_Q cc ce dc ic len (1) cnt (L + 1) md o n m st q ad cop carg xc xAd xOp xIn xCe xMk lAd lIn lA lX lSp bef awa rd wr yc stk nxt acc idx mkr yAd yOp yIn yCe lds) (D : sp_D o n m cnt md (L + 1) st) (hk : cnt < 128) (he : e < ce) (hr : sp_rec 3 L cnt (-1) mv bef awa rd wr f a r w)
    (hp : ∀ u1, pp_R ce u1 → P u1) (hd : L + 1 < dc) (hi : md < ic) : wpX_execute P (nI cc, nI ce, nI dc, nI ic, nI len, nI 1, nI (cnt + 1), nI (L + 1), nI md, cop, carg, xc, upd xAd cnt (nI (ad L)), upd xOp cnt (nI 3), upd xIn cnt (nI (st L)), upd xCe cnt (-1), upd xMk cnt mv, upd lAd L (nI (ad L + 1)), lIn, lA, lX, lSp, f, a, r, w) (nI L) (nI 3) (nI t) (-1) := by
  have hQ := h
  obtain ⟨hK, hC, hc0, hAd, hxO, hyO, hxI, hyI, hCe, hS, hV, hMr, hRW, hMk, h01, H, IL⟩ := h
  unfold sp_K at hK
  have hv := hV L (by omega)
  have hst := IL.2.2.1 L (by omega)
  refine sp_xE3 (by omega) (sp_xMake (by omega) (fun f2 g2 hf2 hg2 => ?_))
  exact hp _ (pp_mk (sp_QM (bef'' := f2) (awa'' := g2) (sv := 0) (t := t) (p := ad L) (pv := nI (ad L)) hQ rfl (by omega) (by omega) hk hd hi (by omega) hr (fun l j hj => by have := hf2 l j hj; simpa using this) hg2 rfl ht (fun z => by first | rfl | exact absurd z (by decide)) (fun z => by first | rfl | exact absurd rfl z)) (sp_dM H IL D rfl (by omega)))
theorem sp_o0r {P : St2 → Prop} {e : Nat} {arg mv : Int32} {f a r w : Nat → Int64} (h : sp_Q cc ce dc ic len (1) cnt (0 + 1) md o n m st q ad cop carg xc xAd xOp xIn xCe xMk lAd lIn lA lX lSp bef awa rd wr yc stk nxt acc idx mkr yAd yOp yIn yCe lds) (D : sp_D o n m cnt md (0 + 1) st) (hk : cnt < 128) (he : e < ce) (hr : sp_rec 0 0 cnt (-1) mv bef awa rd wr f a r w)
    (hp : ∀ u1, pp_R ce u1 → P u1) : wpX_execute P (nI cc, nI ce, nI dc, nI ic, nI len, nI 1, nI (cnt + 1), nI (0 + 1), nI md, cop, carg, xc, upd xAd cnt (nI (ad 0)), upd xOp cnt (nI 0), upd xIn cnt (nI (st 0)), upd xCe cnt (-1), upd xMk cnt mv, upd lAd 0 (nI (ad 0 + 1)), lIn, lA, lX, lSp, f, a, r, w) (nI 0) (nI 0) arg (-1) := by
  have hQ := h
  obtain ⟨hK, hC, hc0, hAd, hxO, hyO, hxI, hyI, hCe, hS, hV, hMr, hRW, hMk, h01, H, IL⟩ := h
  unfold sp_K at hK
  have hv := hV 0 (by omega)
  have hst := IL.2.2.1 0 (by omega)
  have e0 : st 0 = 0 := IL.1 (by omega)
  exact sp_xE0 (sp_xEnd0 (hp _ (pp_mk (s := 2) (sp_QR0' (lAd' := upd lAd 0 (nI (ad 0 + 1))) (nxt' := upd nxt (st 0) (nI (ad 0 + 1))) (pv := nI (ad 0)) e0 hQ rfl hk hr) (sp_dR0 H IL D rfl))))
theorem sp_o0 {P : St2 → Prop} {p e : Nat} {arg mv : Int32} {f a r w : Nat → Int64} (h : sp_Q cc ce dc ic len (1) cnt (p + 1 + 1) md o n m st q ad cop carg xc xAd xOp xIn xCe xMk lAd lIn lA lX lSp bef awa rd wr yc stk nxt acc idx mkr yAd yOp yIn yCe lds) (D : sp_D o n m cnt md (p + 1 + 1) st) (hk : cnt < 128) (he : e < ce) (hr : sp_rec 0 (p + 1) cnt (-1) mv bef awa rd wr f a r w)
    (hp : ∀ u1, pp_R ce u1 → P u1) : wpX_execute P (nI cc, nI ce, nI dc, nI ic, nI len, nI 1, nI (cnt + 1), nI (p + 1 + 1), nI md, cop, carg, xc, upd xAd cnt (nI (ad (p + 1))), upd xOp cnt (nI 0), upd xIn cnt (nI (st (p + 1))), upd xCe cnt (-1), upd xMk cnt mv, upd lAd (p + 1) (nI (ad (p + 1) + 1)), lIn, lA, lX, lSp, f, a, r, w) (nI (p + 1)) (nI 0) arg (-1) := by
  have hQ := h
  obtain ⟨hK, hC, hc0, hAd, hxO, hyO, hxI, hyI, hCe, hS, hV, hMr, hRW, hMk, h01, H, IL⟩ := h
  unfold sp_K at hK
  have hv := hV (p + 1) (by omega)
  have hst := IL.2.2.1 (p + 1) (by omega)
  have hv0 := hV p (by omega)
  have hst0 := IL.2.2.1 p (by omega)
  have hps := sp_pos H IL (show 0 < p + 1 by omega) (show p + 1 < p + 1 + 1 by omega)
  have em := hMr (st (p + 1)) hps.1 hst
  have eo : upd yOp cnt (nI 0) (m (st (p + 1))) = nI (o (m (st (p + 1)))) := by
    rw [pk_un (by omega)]
    exact hyO _ hps.2.1
  have hob := (hS (m (st (p + 1))) hps.2.1).1
  refine sp_xE0 (sp_xEnd (by omega) (fun es f2 hf2 => ?_) (fun ec f2 hf2 => ?_))
  · have h2 : o (m (st (p + 1))) = 2 := by
      apply Classical.byContradiction
      intro z
      have := hv.2.2.2.2.2.2.2.2.2 (by omega) z
      rw [this] at es
      exact absurd es (by decide)
    refine hp _ (pp_mk (sp_QRs (awa'' := f2) (lAd' := upd lAd (p + 1) (nI (ad (p + 1) + 1))) (nxt' := upd nxt (st (p + 1)) (nI (ad (p + 1) + 1))) (pv := nI (ad (p + 1))) hQ rfl (by omega) (by omega) hk h2 hr hf2 (fun l hl => pk_un (by omega)) (fun i hi => pk_un hi)) (sp_dR H IL D rfl))
  · have h2 : ¬ o (m (st (p + 1))) = 2 := fun z => ec (hv.2.2.2.2.2.2.2.2.1 (by omega) z)
    refine hp _ (pp_mk (sp_QRc (bef'' := f2) (lAd' := upd lAd (p + 1) (nI (ad (p + 1) + 1))) (nxt' := upd nxt (st (p + 1)) (nI (ad (p + 1) + 1))) (pv := nI (ad (p + 1))) hQ rfl (by omega) (by omega) hk h2 hr hf2 (fun l hl => pk_un (by omega)) (fun i hi => pk_un hi)) (sp_dR H IL D rfl))
end

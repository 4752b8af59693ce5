/-! ===== one turn of the loop of run ===== -/
/-- the instruction at address p -/
def sp_ft (len : Nat) (cop carg : Nat → Int32) (p oo : Nat) (arg : Int32) : Prop :=
  ((len ≤ p ∧ oo = 0 ∧ arg = 0) ∨ (p < len ∧ cop p = nI oo ∧ carg p = arg)) ∧ oo ≤ 11 ∧ ((oo = 2 ∨ oo = 3 ∨ oo = 10 ∨ oo = 11) → ∃ b : Nat, b < 48 ∧ arg = nI b)
theorem sp_ftEx {len : Nat} {cop carg : Nat → Int32} (h : sp_C len cop carg) (p : Nat) : ∃ oo arg, sp_ft len cop carg p oo arg := by
  by_cases hp : p < len
  · obtain ⟨a, a1, a2, a3⟩ := h p hp
    exact ⟨a, carg p, Or.inr ⟨hp, a2, rfl⟩, a1, a3⟩
  · exact ⟨0, 0, Or.inl ⟨by omega, rfl, rfl⟩, by omega, fun z => by omega⟩
section
variable {cc ce dc ic len s cnt dep md : Nat} {o n m st q ad : Nat → Nat} {cop carg xc xAd xOp xIn xCe xMk lAd lIn lA lX lSp yc stk nxt acc idx mkr yAd yOp yIn yCe lds : Nat → Int32} {bef awa rd wr : Nat → Int64}
theorem sp_xFt {post : St2 → Prop} {L p oo : Nat} {arg : Int32} (hL : L < 12) (hlen : len ≤ 48) (hp : p < 2 ^ 30) (ea : lAd L = nI p) (hf : sp_ft len cop carg p oo arg)
    (h : wX_advance_51 post (nI L) (nI p) (nI oo) arg (nI cc) (nI ce) (nI dc) (nI ic) (nI len) (nI s) (nI cnt) (nI (L + 1)) (nI md) (cop) (carg) (xc) (xAd) (xOp) (xIn) (xCe) (xMk) (lAd) (lIn) (lA) (lX) (lSp) (bef) (awa) (rd) (wr)) : wpX_advance post (nI cc, nI ce, nI dc, nI ic, nI len, nI s, nI cnt, nI (L + 1), nI md, cop, carg, xc, xAd, xOp, xIn, xCe, xMk, lAd, lIn, lA, lX, lSp, bef, awa, rd, wr) := by
  have iL : vp_in (nI L) 12 := vp_in_nI hL (by omega)
  have cL : (nI L).toNatClampNeg = L := nI_clamp (by omega)
  have cP : (nI p).toNatClampNeg = p := nI_clamp (by omega)
  unfold wpX_advance
  dsimp only
  refine nm_r (nI_pred L) ⟨iL, ?_⟩
  rw [cL, ea]
  rcases hf.1 with ⟨a, b, c⟩ | ⟨a, b, c⟩
  · have z : nI len ≤ nI p := nI_le a (by omega)
    refine nm_e (br_t z ?_)
    unfold wX_advance_32
    refine br_t z ?_
    rw [b, c] at h
    exact h
  · have z : ¬ nI len ≤ nI p := nI_ge a (by omega)
    have iP : vp_in (nI p) 48 := vp_in_nI (by omega) (by omega)
    refine nm_e (br_f z ⟨iP, ?_⟩)
    unfold wX_advance_32
    rw [cP, b, c]
    exact br_f z ⟨iP, h⟩
theorem sp_xAcc {post : Int32 → Prop} {oo : Nat} (ho : oo ≤ 11) (h1 : sp_acc oo → post 1) (h0 : ¬ sp_acc oo → post 0) : wpX_isAccess post () (nI oo) := by
  unfold wpX_isAccess
  exact pk_eq oo 4 (fun z => h1 (Or.inl z)) (fun n4 => pk_eq oo 5 (fun z => h1 (Or.inr (Or.inl z))) (fun n5 => pk_eq oo 6 (fun z => h1 (Or.inr (Or.inr z))) (fun n6 => h0 (by unfold sp_acc; omega))))
theorem sp_xMks {post : Int32 → Prop} {oo : Nat} (ho : oo ≤ 11) (h1 : (oo = 2 ∨ oo = 3) → post 1) (h0 : ¬ (oo = 2 ∨ oo = 3) → post 0) : wpX_makesInstance post () (nI oo) := by
  unfold wpX_makesInstance
  exact pk_eq oo 2 (fun z => h1 (Or.inl z)) (fun n2 => pk_eq oo 3 (fun z => h1 (Or.inr z)) (fun n3 => h0 (by omega)))
/-- the class executes -/
theorem sp_xGo {post : St2 → Prop} {L oo e : Nat} {arg ev : Int32} (h : sp_Q cc ce dc ic len (1) cnt (L + 1) md o n m st q ad cop carg xc xAd xOp xIn xCe xMk lAd lIn lA lX lSp bef awa rd wr yc stk nxt acc idx mkr yAd yOp yIn yCe lds) (hk : cnt < 128) (hf : sp_ft len cop carg (ad L) oo arg) (hm : (oo = 2 ∨ oo = 3) → L + 1 < dc ∧ md < ic) (he : e < ce)
    (r1 : arg + lX L - (arg + lX L) / nI ce * nI ce < 0 → arg + lX L - (arg + lX L) / nI ce * nI ce + nI ce = nI e) (r2 : ¬ arg + lX L - (arg + lX L) / nI ce * nI ce < 0 → arg + lX L - (arg + lX L) / nI ce * nI ce = nI e)
    (hev : (sp_acc oo ∧ ev = nI e) ∨ (¬ sp_acc oo ∧ ev = -1))
    (hw : ∀ mv f a r w, sp_rec oo L cnt ev mv bef awa rd wr f a r w → ∀ P : St2 → Prop, (∀ u, post u → P u) →
      wpX_execute P (nI cc, nI ce, nI dc, nI ic, nI len, nI 1, nI (cnt + 1), nI (L + 1), nI md, cop, carg, xc, upd xAd cnt (nI (ad L)), upd xOp cnt (nI oo), upd xIn cnt (nI (st L)), upd xCe cnt ev, upd xMk cnt mv, upd lAd L (nI (ad L + 1)), lIn, lA, lX, lSp, f, a, r, w) (nI L) (nI oo) arg ev) :
    wpX_advance post (nI cc, nI ce, nI dc, nI ic, nI len, nI 1, nI cnt, nI (L + 1), nI md, cop, carg, xc, xAd, xOp, xIn, xCe, xMk, lAd, lIn, lA, lX, lSp, bef, awa, rd, wr) := by
  obtain ⟨hK, hC, hc0, hAd, hxO, hyO, hxI, hyI, hCe, hS, hV, hMr, hRW, hMk, h01, H, IL⟩ := h
  unfold sp_K at hK
  have ho := hf.2.1
  have hst := IL.2.2.1 L (by omega)
  have hv := hV L (by omega)
  have iL : vp_in (nI L) 12 := vp_in_nI (by omega) (by omega)
  have cL : (nI L).toNatClampNeg = L := nI_clamp (by omega)
  have he' : sp_ev ce oo ev := by
    rcases hev with z | z
    · exact Or.inl ⟨z.1, e, he, z.2⟩
    · exact Or.inr z
  have h141 : wX_advance_141 post (nI L) (nI (ad L)) (nI oo) arg ev (nI cc) (nI ce) (nI dc) (nI ic) (nI len) (nI 1) (nI cnt) (nI (L + 1)) (nI md) (cop) (carg) (xc) (xAd) (xOp) (xIn) (xCe) (xMk) (lAd) (lIn) (lA) (lX) (lSp) (bef) (awa) (rd) (wr) := by
    unfold wX_advance_141
    refine sp_xRec (ce := ce) ho (by omega) hk (by omega) he' (fun mv f a r w hr => ⟨iL, ?_⟩)
    rw [cL, nI_1, hv.2.2.2.1]
    refine nm_e (hw mv f a r w hr _ (fun u hu => ?_))
    obtain ⟨f_codeCap, f_cellCount, f_depthCap, f_instanceCap, f_codeLength, f_state, f_stepCount, f_levelCount, f_instancesMade, a_codeOp, a_codeArg, a_cells, a_stepAddress, a_stepOp, a_stepInstance, a_stepCell, a_stepMask, a_levelAddress, a_levelInstance, a_levelA, a_levelX, a_levelSpawned, a_before, a_awaited, a_readers, a_writers⟩ := u
    exact hu
  have h123 : wX_advance_123 post (nI L) (nI (ad L)) (nI oo) arg (nI cc) (nI ce) (nI dc) (nI ic) (nI len) (nI 1) (nI cnt) (nI (L + 1)) (nI md) (cop) (carg) (xc) (xAd) (xOp) (xIn) (xCe) (xMk) (lAd) (lIn) (lA) (lX) (lSp) (bef) (awa) (rd) (wr) := by
    unfold wX_advance_123
    refine sp_xAcc ho (fun ha => br_f (by decide) ?_) (fun ha => br_t rfl ?_)
    · have ee : ev = nI e := by
        rcases hev with z | z
        · exact z.2
        · exact absurd ha z.1
      rw [ee] at h141
      unfold wpX_cellFor
      dsimp only
      rw [cL]
      refine ⟨iL, nI_ne0 (by omega) (by omega), nm_e ?_⟩
      by_cases z : arg + lX L - (arg + lX L) / nI ce * nI ce < 0
      · refine br_f (sp_nle z) ?_
        rw [r1 z]
        exact h141
      · refine br_t (Int32.not_lt.mp z) ?_
        rw [r2 z]
        exact h141
    · have ee : ev = -1 := by
        rcases hev with z | z
        · exact absurd z.1 ha
        · exact z.2
      rw [ee] at h141
      exact h141
  have h97 : wX_advance_97 post (nI L) (nI (ad L)) (nI oo) arg (nI cc) (nI ce) (nI dc) (nI ic) (nI len) (nI 1) (nI cnt) (nI (L + 1)) (nI md) (cop) (carg) (xc) (xAd) (xOp) (xIn) (xCe) (xMk) (lAd) (lIn) (lA) (lX) (lSp) (bef) (awa) (rd) (wr) := by
    unfold wX_advance_97
    refine sp_xMks ho (fun ha => br_f (by decide) (br_f (fun z => ?_) h123)) (fun ha => br_t rfl h123)
    have := (hm ha).2
    rw [nI_eq (by omega) (by omega)] at z
    omega
  refine sp_xFt (by omega) (by omega) (by omega) hv.1 hf ?_
  unfold wX_advance_51
  refine br_f (fun z => ?_) (sp_xMks ho (fun ha => br_f (by decide) (br_f (fun z => ?_) h97)) (fun ha => br_t rfl h97))
  · have z2 : nI cnt = nI 128 := z
    rw [nI_eq (by omega) (by omega)] at z2
    omega
  · have := (hm ha).1
    rw [nI_eq (by omega) (by omega)] at z
    omega
theorem sp_QR0' {bef' awa' rd' wr' : Nat → Int64} {mv pv : Int32} {lAd' nxt' : Nat → Int32} {i : Nat} (hi : i = 0) (h : sp_Q cc ce dc ic len s cnt dep md o n m st q ad cop carg xc xAd xOp xIn xCe xMk lAd lIn lA lX lSp bef awa rd wr yc stk nxt acc idx mkr yAd yOp yIn yCe lds) (hL : 1 = dep) (hk : cnt < 128) (hr : sp_rec 0 0 cnt (-1) mv bef awa rd wr bef' awa' rd' wr') :
    sp_Q cc ce dc ic len (2) (cnt + 1) (0) md (sp_u o cnt 0) (sp_u n cnt i) m st q ad cop carg xc (upd xAd cnt pv) (upd xOp cnt (nI 0)) (upd xIn cnt (nI i)) (upd xCe cnt (-1)) (upd xMk cnt mv) (lAd') lIn lA lX lSp (bef') (awa') (rd') (wr') yc stk (nxt') acc idx mkr (upd yAd cnt pv) (upd yOp cnt (nI 0)) (upd yIn cnt (nI i)) (upd yCe cnt (-1)) lds := by
  subst hi
  exact sp_QR0 h hL hk hr
end

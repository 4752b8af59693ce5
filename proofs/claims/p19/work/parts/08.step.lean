/-! ===== one step, in the facts alone ===== -/
/-- what recordStep does to the sets and the mask -/
def sp_rec (oo L cnt : Nat) (ev mv : Int32) (bef awa rd wr bef' awa' rd' wr' : Nat → Int64) : Prop :=
  (∀ l j, j < 128 → (sp_mem bef' l j ↔ (sp_mem bef l j ∨ (l = L ∧ (((oo = 1 ∨ oo = 0) ∧ sp_mem awa L j) ∨ j = cnt))))) ∧
  (∀ l j, j < 128 → (sp_mem awa' l j ↔ (sp_mem awa l j ∧ ¬ (l = L ∧ (oo = 1 ∨ oo = 0))))) ∧
  (∀ c, c < 16 → ∀ j, j < 128 → (sp_mem wr' c j ↔ (sp_mem wr c j ∨ (j = cnt ∧ ev = nI c ∧ oo = 5)))) ∧
  (∀ c, c < 16 → ∀ j, j < 128 → (sp_mem rd' c j ↔ (sp_mem rd c j ∨ (j = cnt ∧ ev = nI c ∧ ¬ oo = 5)))) ∧
  sp_mv oo L bef rd wr ev mv
section
variable {cc ce dc ic len s cnt dep md : Nat} {o n m st q ad : Nat → Nat} {cop carg xc xAd xOp xIn xCe xMk lAd lIn lA lX lSp yc stk nxt acc idx mkr yAd yOp yIn yCe lds : Nat → Int32} {bef awa rd wr : Nat → Int64}
variable {bef' awa' rd' wr' bef'' awa'' : Nat → Int64} {ev mv pv : Int32} {oo L : Nat} {xc' yc' lAd' nxt' lA' acc' lX' idx' : Nat → Int32}
theorem sp_QA (h : sp_Q cc ce dc ic len s cnt dep md o n m st q ad cop carg xc xAd xOp xIn xCe xMk lAd lIn lA lX lSp bef awa rd wr yc stk nxt acc idx mkr yAd yOp yIn yCe lds) (hL : L + 1 = dep) (hs : ¬ s = 0) (hs2 : ¬ s = 2) (hk : cnt < 128) (ho : oo ≤ 11) (h0 : ¬ oo = 0) (h2 : ¬ oo = 2) (h3 : ¬ oo = 3) (he : sp_ev ce oo ev)
    (hr : sp_rec oo L cnt ev mv bef awa rd wr bef' awa' rd' wr') {a1 : Nat} (ha : a1 ≤ 48 + (cnt + 1)) (hc : sp_eq ce xc' yc')
    (k1 : ∀ l, l < L → lAd' l = lAd l) (k1' : lAd' L = nI a1) (k2 : ∀ i, ¬ i = st L → nxt' i = nxt i) (k2' : nxt' (st L) = nI a1)
    (k3 : ∀ l, l < L → lA' l = lA l) (k4 : ∀ i, ¬ i = st L → acc' i = acc i) (k5 : lA' L = acc' (st L))
    (k6 : ∀ l, l < L → lX' l = lX l) (k7 : ∀ i, ¬ i = st L → idx' i = idx i) (k8 : lX' L = idx' (st L)) :
    sp_Q cc ce dc ic len s (cnt + 1) dep md (sp_u o cnt oo) (sp_u n cnt (st L)) m st (sp_u q L cnt) (sp_u ad L a1) cop carg (xc') (upd xAd cnt pv) (upd xOp cnt (nI oo)) (upd xIn cnt (nI (st L))) (upd xCe cnt ev) (upd xMk cnt mv) (lAd') lIn (lA') (lX') lSp (bef') (awa') (rd') (wr') (yc') stk (nxt') (acc') (idx') mkr (upd yAd cnt pv) (upd yOp cnt (nI oo)) (upd yIn cnt (nI (st L))) (upd yCe cnt ev) lds := by
  obtain ⟨hK, hC, hc0, hAd, hxO, hyO, hxI, hyI, hCe, hS, hV, hMr, hRW, hMk, h01, H, I⟩ := h
  obtain ⟨r1, r2, r3, r4, r5⟩ := hr
  have X : sp_X o n m (sp_u o cnt oo) (sp_u n cnt (st L)) m cnt md := sp_X1
  have hI := sp_tA (B' := sp_mem bef') (A' := sp_mem awa') H I hL h0 h2 h3
    (fun l hl j hj => by
      have e : ¬ l = L := by omega
      rw [r1 l j hj]; simp only [e, false_and, or_false])
    (fun j hj => by
      rw [r1 L j hj]; simp only [h0, or_false, true_and])
    (fun l hl j hj => by
      have e : ¬ l = L := by omega
      rw [r2 l j hj]; simp only [e, false_and, not_false_eq_true, and_true])
    (fun j hj => by
      rw [r2 L j hj]; simp only [h0, or_false, true_and])
  unfold sp_K at hK
  refine ⟨?_, hC, hc, sp_eq_u hAd, sp_rep_u hxO, sp_rep_u hyO, sp_rep_u hxI, sp_rep_u hyI, sp_eq_u hCe, sp_S_u hS ho he,
    sp_VlA H I hV hL ha k1 k1' k2 k2' k3 k4 k5 k6 k7 k8, hMr, sp_RW_u hRW r3 r4, sp_Mk_u H X hMk ?_, h01, hI.1, hI.2⟩
  · unfold sp_K
    omega
  · exact sp_mv_mk H I X hL sp_us sp_us (by omega) (by omega) he hRW r5
theorem sp_QM (h : sp_Q cc ce dc ic len s cnt dep md o n m st q ad cop carg xc xAd xOp xIn xCe xMk lAd lIn lA lX lSp bef awa rd wr yc stk nxt acc idx mkr yAd yOp yIn yCe lds) (hL : L + 1 = dep) (hs : ¬ s = 0) (hs2 : ¬ s = 2) (hk : cnt < 128) (hd : dep < dc) (hi : md < ic) (h2 : oo = 2 ∨ oo = 3)
    (hr : sp_rec oo L cnt (-1) mv bef awa rd wr bef' awa' rd' wr')
    (rB : ∀ l j, j < 128 → (sp_mem bef'' l j ↔ ((sp_mem bef' l j ∧ ¬ l = dep) ∨ (l = dep ∧ sp_mem bef' L j))))
    (rA : ∀ l j, j < 128 → (sp_mem awa'' l j ↔ (sp_mem awa' l j ∧ ¬ l = dep)))
    {p t : Nat} (hp : p = ad L) (ht : t < 48) {sv : Int32} (v2 : oo = 2 → sv = 1) (v3 : ¬ oo = 2 → sv = 0) :
    sp_Q cc ce dc ic len s (cnt + 1) (dep + 1) (md + 1) (sp_u o cnt oo) (sp_u n cnt (st L)) (sp_u m md cnt) (sp_u st dep md) (sp_u (sp_u q L cnt) dep cnt) (sp_u (sp_u ad L (p + 1)) dep t) cop carg xc (upd xAd cnt pv) (upd xOp cnt (nI oo)) (upd xIn cnt (nI (st L))) (upd xCe cnt (-1)) (upd xMk cnt mv) (upd (upd lAd L (nI (p + 1))) dep (nI t)) (upd lIn dep (nI md)) (upd lA dep (lA L)) (upd lX dep (lX L)) (upd lSp dep sv) (bef'') (awa'') (rd') (wr') yc (upd stk dep (nI md)) (upd (upd nxt (st L) (nI (p + 1))) md (nI t)) (upd acc md (acc (st L))) (upd idx md (idx (st L))) (upd mkr md (nI cnt)) (upd yAd cnt pv) (upd yOp cnt (nI oo)) (upd yIn cnt (nI (st L))) (upd yCe cnt (-1)) lds := by
  obtain ⟨hK, hC, hc0, hAd, hxO, hyO, hxI, hyI, hCe, hS, hV, hMr, hRW, hMk, h01, H, I⟩ := h
  obtain ⟨r1, r2, r3, r4, r5⟩ := hr
  have X : sp_X o n m (sp_u o cnt oo) (sp_u n cnt (st L)) (sp_u m md cnt) cnt md := sp_X2
  have he : sp_ev ce oo (-1) := Or.inr ⟨by unfold sp_acc; omega, rfl⟩
  have hj : ¬ (oo = 1 ∨ oo = 0) := by omega
  have hI := sp_tM (B' := sp_mem bef'') (A' := sp_mem awa'') H I hL h2
    (fun l hl j hj' => by
      have e : ¬ l = L := by omega
      have e2 : ¬ l = dep := by omega
      rw [rB l j hj', r1 l j hj']; simp only [e, e2, false_and, or_false, not_false_eq_true, and_true])
    (fun j hj' => by
      have e2 : ¬ L = dep := by omega
      rw [rB L j hj', r1 L j hj']; simp only [e2, hj, false_and, false_or, or_false, not_false_eq_true, and_true, true_and])
    (fun j hj' => by
      rw [rB dep j hj', r1 L j hj']; simp only [hj, false_and, false_or, not_true_eq_false, and_false, true_and])
    (fun l hl j hj' => by
      have e2 : ¬ l = dep := by omega
      rw [rA l j hj', r2 l j hj']; simp only [e2, hj, and_false, not_false_eq_true, and_true])
    (fun j hj' z => absurd rfl ((rA dep j hj').1 z).2)
  unfold sp_K at hK
  refine ⟨?_, hC, hc0, sp_eq_u hAd, sp_rep_u hxO, sp_rep_u hyO, sp_rep_u hxI, sp_rep_u hyI, sp_eq_u hCe, sp_S_u hS (by omega) he,
    sp_VlM H I hV hL hp ht v2 v3, ?_, sp_RW_u hRW r3 r4, sp_Mk_u H X hMk ?_, h01, hI.1, hI.2⟩
  · unfold sp_K
    omega
  · intro i i0 hi'
    by_cases e : i = md
    · rw [e, pk_us, sp_us]
    · rw [pk_un e, sp_un e]; exact hMr i i0 (by omega)
  · exact sp_mv_mk H I X hL sp_us sp_us (by omega) (by omega) he hRW r5
theorem sp_QR0 (h : sp_Q cc ce dc ic len s cnt dep md o n m st q ad cop carg xc xAd xOp xIn xCe xMk lAd lIn lA lX lSp bef awa rd wr yc stk nxt acc idx mkr yAd yOp yIn yCe lds) (hL : 1 = dep) (hk : cnt < 128) (hr : sp_rec 0 0 cnt (-1) mv bef awa rd wr bef' awa' rd' wr') :
    sp_Q cc ce dc ic len (2) (cnt + 1) (0) md (sp_u o cnt 0) (sp_u n cnt 0) m st q ad cop carg xc (upd xAd cnt pv) (upd xOp cnt (nI 0)) (upd xIn cnt (nI 0)) (upd xCe cnt (-1)) (upd xMk cnt mv) (lAd') lIn lA lX lSp (bef') (awa') (rd') (wr') yc stk (nxt') acc idx mkr (upd yAd cnt pv) (upd yOp cnt (nI 0)) (upd yIn cnt (nI 0)) (upd yCe cnt (-1)) lds := by
  obtain ⟨hK, hC, hc0, hAd, hxO, hyO, hxI, hyI, hCe, hS, hV, hMr, hRW, hMk, h01, H, I⟩ := h
  obtain ⟨r1, r2, r3, r4, r5⟩ := hr
  have hst : st 0 = 0 := I.1 (by omega)
  have hmd := I.2.2.1 0 (by omega)
  have X : sp_X o n m (sp_u o cnt 0) (sp_u n cnt 0) m cnt md := sp_X1
  have he : sp_ev ce 0 (-1) := Or.inr ⟨by unfold sp_acc; omega, rfl⟩
  have hI := sp_tR0 (o := o) (n := n) (m := m) (st := st) (q := q) (B' := sp_mem bef') (A' := sp_mem awa') H (by omega)
  unfold sp_K at hK
  refine ⟨?_, hC, hc0, sp_eq_u hAd, sp_rep_u hxO, sp_rep_u hyO, sp_rep_u hxI, sp_rep_u hyI, sp_eq_u hCe, sp_S_u hS (by omega) he,
    fun l hl => by omega, hMr, sp_RW_u hRW r3 r4, sp_Mk_u H X hMk ?_, h01, hI.1, hI.2⟩
  · unfold sp_K
    omega
  · exact sp_mv_mk (L := 0) H I X (by omega) (by rw [hst]; exact sp_us) sp_us (by omega) (by omega) he hRW r5
theorem sp_QRs (h : sp_Q cc ce dc ic len s cnt dep md o n m st q ad cop carg xc xAd xOp xIn xCe xMk lAd lIn lA lX lSp bef awa rd wr yc stk nxt acc idx mkr yAd yOp yIn yCe lds) {p : Nat} (hL : p + 1 + 1 = dep) (hs : ¬ s = 0) (hs2 : ¬ s = 2) (hk : cnt < 128) (hsp : o (m (st (p + 1))) = 2)
    (hr : sp_rec 0 (p + 1) cnt (-1) mv bef awa rd wr bef' awa' rd' wr')
    (rA : ∀ l j, j < 128 → (sp_mem awa'' l j ↔ (sp_mem awa' l j ∨ (l = p ∧ sp_mem bef' (p + 1) j))))
    (k1 : ∀ l, l < p + 1 → lAd' l = lAd l) (k2 : ∀ i, ¬ i = st (p + 1) → nxt' i = nxt i) :
    sp_Q cc ce dc ic len s (cnt + 1) (p + 1) md (sp_u o cnt 0) (sp_u n cnt (st (p + 1))) m st q ad cop carg xc (upd xAd cnt pv) (upd xOp cnt (nI 0)) (upd xIn cnt (nI (st (p + 1)))) (upd xCe cnt (-1)) (upd xMk cnt mv) (lAd') lIn lA lX lSp (bef') (awa'') (rd') (wr') yc stk (nxt') acc idx mkr (upd yAd cnt pv) (upd yOp cnt (nI 0)) (upd yIn cnt (nI (st (p + 1)))) (upd yCe cnt (-1)) lds := by
  obtain ⟨hK, hC, hc0, hAd, hxO, hyO, hxI, hyI, hCe, hS, hV, hMr, hRW, hMk, h01, H, I⟩ := h
  obtain ⟨r1, r2, r3, r4, r5⟩ := hr
  have X : sp_X o n m (sp_u o cnt 0) (sp_u n cnt (st (p + 1))) m cnt md := sp_X1
  have he : sp_ev ce 0 (-1) := Or.inr ⟨by unfold sp_acc; omega, rfl⟩
  have hI := sp_tRs (B' := sp_mem bef') (A' := sp_mem awa'') H I hL hsp
    (fun l hl j hj => by
      have e : ¬ l = p + 1 := by omega
      rw [r1 l j hj]; simp only [e, false_and, or_false])
    (fun l hl j hj => by
      have e : ¬ l = p + 1 := by omega
      have e2 : ¬ l = p := by omega
      rw [rA l j hj, r2 l j hj]; simp only [e, e2, false_and, or_false, not_false_eq_true, and_true])
    (fun j hj => by
      have e : ¬ p = p + 1 := by omega
      rw [rA p j hj, r2 p j hj, r1 (p + 1) j hj]; simp only [e, false_and, not_false_eq_true, and_true, true_and, or_true])
  unfold sp_K at hK
  have gp := hV p (by omega)
  refine ⟨?_, hC, hc0, sp_eq_u hAd, sp_rep_u hxO, sp_rep_u hyO, sp_rep_u hxI, sp_rep_u hyI, sp_eq_u hCe, sp_S_u hS (by omega) he,
    sp_VlR H I hV hL k1 k2 (fun _ _ => rfl) (fun _ _ => rfl) gp.2.2.2.2.2.1, hMr, sp_RW_u hRW r3 r4, sp_Mk_u H X hMk ?_, h01, hI.1, hI.2⟩
  · unfold sp_K
    omega
  · exact sp_mv_mk H I X hL sp_us sp_us (by omega) (by omega) he hRW r5
theorem sp_QRc (h : sp_Q cc ce dc ic len s cnt dep md o n m st q ad cop carg xc xAd xOp xIn xCe xMk lAd lIn lA lX lSp bef awa rd wr yc stk nxt acc idx mkr yAd yOp yIn yCe lds) {p : Nat} (hL : p + 1 + 1 = dep) (hs : ¬ s = 0) (hs2 : ¬ s = 2) (hk : cnt < 128) (hsp : ¬ o (m (st (p + 1))) = 2)
    (hr : sp_rec 0 (p + 1) cnt (-1) mv bef awa rd wr bef' awa' rd' wr')
    (rB : ∀ l j, j < 128 → (sp_mem bef'' l j ↔ (sp_mem bef' l j ∨ (l = p ∧ sp_mem bef' (p + 1) j))))
    (k1 : ∀ l, l < p + 1 → lAd' l = lAd l) (k2 : ∀ i, ¬ i = st (p + 1) → nxt' i = nxt i) :
    sp_Q cc ce dc ic len s (cnt + 1) (p + 1) md (sp_u o cnt 0) (sp_u n cnt (st (p + 1))) m st (sp_u q p cnt) ad cop carg xc (upd xAd cnt pv) (upd xOp cnt (nI 0)) (upd xIn cnt (nI (st (p + 1)))) (upd xCe cnt (-1)) (upd xMk cnt mv) (lAd') lIn (upd lA p (lA (p + 1))) lX lSp (bef'') (awa') (rd') (wr') yc stk (nxt') (upd acc (st p) (acc (st (p + 1)))) idx mkr (upd yAd cnt pv) (upd yOp cnt (nI 0)) (upd yIn cnt (nI (st (p + 1)))) (upd yCe cnt (-1)) lds := by
  obtain ⟨hK, hC, hc0, hAd, hxO, hyO, hxI, hyI, hCe, hS, hV, hMr, hRW, hMk, h01, H, I⟩ := h
  obtain ⟨r1, r2, r3, r4, r5⟩ := hr
  have X : sp_X o n m (sp_u o cnt 0) (sp_u n cnt (st (p + 1))) m cnt md := sp_X1
  have he : sp_ev ce 0 (-1) := Or.inr ⟨by unfold sp_acc; omega, rfl⟩
  have hI := sp_tRc (B' := sp_mem bef'') (A' := sp_mem awa') H I hL hsp
    (fun l hl j hj => by
      have e : ¬ l = p + 1 := by omega
      have e2 : ¬ l = p := by omega
      rw [rB l j hj, r1 l j hj]; simp only [e, e2, false_and, or_false])
    (fun j hj => by
      have e : ¬ p = p + 1 := by omega
      rw [rB p j hj, r1 p j hj, r1 (p + 1) j hj]; simp only [e, false_and, or_false, true_and, or_true])
    (fun l hl j hj => by
      have e : ¬ l = p + 1 := by omega
      rw [r2 l j hj]; simp only [e, false_and, not_false_eq_true, and_true])
  unfold sp_K at hK
  have gp := hV (p + 1) (by omega)
  refine ⟨?_, hC, hc0, sp_eq_u hAd, sp_rep_u hxO, sp_rep_u hyO, sp_rep_u hxI, sp_rep_u hyI, sp_eq_u hCe, sp_S_u hS (by omega) he,
    sp_VlR H I hV hL k1 k2 (fun l hl => pk_un (by omega)) (fun i hi => pk_un hi) (by rw [pk_us, pk_us]; exact gp.2.2.2.2.2.1), hMr, sp_RW_u hRW r3 r4, sp_Mk_u H X hMk ?_, h01, hI.1, hI.2⟩
  · unfold sp_K
    omega
  · exact sp_mv_mk H I X hL sp_us sp_us (by omega) (by omega) he hRW r5
end

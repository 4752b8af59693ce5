/-! ===== the constructors, emit, poke, start, reset ===== -/
def sp_cl (v : Int32) (lo hi c : Nat) : Prop := (¬ nI lo ≤ v ∧ c = lo) ∨ (nI lo ≤ v ∧ ¬ v ≤ nI hi ∧ c = hi) ∨ (nI lo ≤ v ∧ v ≤ nI hi ∧ v = nI c)
theorem sp_clEx (v : Int32) {lo hi : Nat} (h : lo ≤ hi) (hh : hi < 2 ^ 31) : ∃ c, lo ≤ c ∧ c ≤ hi ∧ sp_cl v lo hi c := by
  by_cases h1 : nI lo ≤ v
  · by_cases h2 : v ≤ nI hi
    · obtain ⟨c, hc, e⟩ := nI_of (x := v) (sp_ngt (by omega) h1)
      rw [e, nI_leI (by omega) hc] at h1
      rw [e, nI_leI hc hh] at h2
      exact ⟨c, h1, h2, Or.inr (Or.inr ⟨by rw [e]; exact nI_le h1 hc, by rw [e]; exact nI_le h2 hh, e⟩)⟩
    · exact ⟨hi, h, Nat.le_refl _, Or.inr (Or.inl ⟨h1, h2, rfl⟩)⟩
  · exact ⟨lo, Nat.le_refl _, h, Or.inl ⟨h1, rfl⟩⟩
theorem sp_yClamp {v : Int32} {lo hi c : Nat} (hc : sp_cl v lo hi c) {W1 W2 W3 : Prop} (h1 : v = nI c → W1) (h2 : c = hi → W2) (h3 : c = lo → W3) : (nI lo ≤ v → ((v ≤ nI hi → W1) ∧ (¬ v ≤ nI hi → W2))) ∧ (¬ nI lo ≤ v → W3) := by
  rcases hc with ⟨a, b⟩ | ⟨a, b, d⟩ | ⟨a, b, d⟩
  · exact br_f a (h3 b)
  · exact br_t a (br_f b (h2 d))
  · exact br_t a (br_t b (h1 d))
theorem sp_xClamp {post : Int32 → Prop} {v : Int32} {lo hi c : Nat} (hc : sp_cl v lo hi c) (h : post (nI c)) : wpX_clamp post () v (nI lo) (nI hi) := by
  unfold wpX_clamp
  exact sp_yClamp hc (fun e => by rw [e]; exact h) (fun e => by rw [← e]; exact h) (fun e => by rw [← e]; exact h)
theorem sp_L0 {o n m st q : Nat → Nat} {k md : Nat} {B A : Nat → Nat → Prop} : sp_L o n m k 0 md st q B A :=
  ⟨fun h => by omega, fun _ _ _ h => by omega, fun _ h => by omega, fun _ h => by omega, fun _ h => by omega, fun _ h => by omega, fun _ _ h => by omega, fun _ _ h => by omega, fun _ h => by omega, fun _ h => by omega⟩
theorem sp_H0 {o n m : Nat → Nat} : sp_H o n m 0 0 := ⟨fun _ h => by omega, fun _ h => by omega, fun _ _ h => by omega⟩
section
variable {cc ce dc ic len s cnt dep md : Nat} {o n m st q ad : Nat → Nat} {cop carg xc xAd xOp xIn xCe xMk lAd lIn lA lX lSp yc stk nxt acc idx mkr yAd yOp yIn yCe lds : Nat → Int32} {bef awa rd wr : Nat → Int64}
/-- no run, status EDIT -/
theorem sp_Q0 (h1 : 8 ≤ cc) (h2 : cc ≤ 48) (h3 : 2 ≤ ce) (h4 : ce ≤ 16) (h5 : 2 ≤ dc) (h6 : dc ≤ 12) (h7 : 2 ≤ ic) (h8 : ic ≤ 32) (h9 : len ≤ cc) (hC : sp_C len cop carg) (hc : sp_eq ce xc yc)
    (hr : ∀ c, c < 16 → ∀ j, j < 128 → ¬ sp_mem wr c j ∧ ¬ sp_mem rd c j) (h01 : sp_01 lds) : sp_Q cc ce dc ic len (0) (0) (0) (0) o n m st q ad cop carg xc xAd xOp xIn xCe xMk lAd lIn lA lX lSp bef awa rd wr yc stk nxt acc idx mkr yAd yOp yIn yCe lds := by
  refine ⟨by unfold sp_K; omega, hC, hc, fun t ht => by omega, fun t ht => by omega, fun t ht => by omega, fun t ht => by omega, fun t ht => by omega, fun t ht => by omega, fun t ht => by omega, fun l hl => by omega, fun i _ hi => by omega, ?_, fun t ht => by omega, h01, sp_H0, sp_L0⟩
  intro c hc' j hj
  obtain ⟨a, b⟩ := hr c hc' j hj
  exact ⟨⟨fun z => absurd z a, fun z => by omega⟩, ⟨fun z => absurd z b, fun z => by omega⟩⟩
end
theorem sp_xTarget {post : Int32 → Prop} {a : Nat} (ha : a < 12) (h1 : (a = 2 ∨ a = 3 ∨ a = 10 ∨ a = 11) → post 1) (h0 : ¬ (a = 2 ∨ a = 3 ∨ a = 10 ∨ a = 11) → post 0) : wpX_takesTarget post () (nI a) := by
  unfold wpX_takesTarget wpX_makesInstance
  refine pk_eq a 2 (fun e => br_f (by decide) (h1 (by omega))) (fun n2 => pk_eq a 3 (fun e => br_f (by decide) (h1 (by omega))) (fun n3 => br_t rfl (pk_eq a 10 (fun e => h1 (by omega)) (fun n10 => pk_eq a 11 (fun e => h1 (by omega)) (fun n11 => h0 (by omega))))))
theorem pp_init {CE : Nat} {post : St2 → Prop} {mc ms : Nat} (h1 : 17 ≤ mc) (h2 : 924 ≤ ms) (hc2 : 2 ≤ CE) (hc16 : CE ≤ 16) (k0 k2 k3 : Int32) (hp : ∀ u, pp_R CE u → post u) : wpX_init post mc ms (0, 0, 0, 0, 0, 0, 0, 0, 0) k0 (nI CE) k2 k3 := by
  obtain ⟨c0, a0, b0, e0⟩ := sp_clEx k0 (lo := 8) (hi := 48) (by omega) (by omega)
  obtain ⟨c2, a2, b2, e2⟩ := sp_clEx k2 (lo := 2) (hi := 12) (by omega) (by omega)
  obtain ⟨c3, a3, b3, e3⟩ := sp_clEx k3 (lo := 2) (hi := 32) (by omega) (by omega)
  have e1 : sp_cl (nI CE) 2 16 CE := Or.inr (Or.inr ⟨nI_le (by omega) (by omega), nI_le (by omega) (by omega), rfl⟩)
  have hQ := sp_Q0 (cc := c0) (ce := CE) (dc := c2) (ic := c3) (len := 0) (o := fun _ => 0) (n := fun _ => 0) (m := fun _ => 0) (st := fun _ => 0) (q := fun _ => 0) (ad := fun _ => 0) (cop := fun _ => 0) (carg := fun _ => 0) (xc := fun _ => 0) (yc := fun _ => 0)
    (xAd := fun _ => 0) (xOp := fun _ => 0) (xIn := fun _ => 0) (xCe := fun _ => 0) (xMk := fun _ => 0) (lAd := fun _ => 0) (lIn := fun _ => 0) (lA := fun _ => 0) (lX := fun _ => 0) (lSp := fun _ => 0) (bef := fun _ => 0) (awa := fun _ => 0) (rd := fun _ => 0) (wr := fun _ => 0)
    (stk := fun _ => 0) (nxt := fun _ => 0) (acc := fun _ => 0) (idx := fun _ => 0) (mkr := fun _ => 0) (yAd := fun _ => 0) (yOp := fun _ => 0) (yIn := fun _ => 0) (yCe := fun _ => 0) (lds := fun _ => 0)
    a0 b0 hc2 hc16 a2 b2 a3 b3 (by omega) (fun p hp => by omega) (fun _ _ => rfl) (fun c _ j _ => ⟨sp_b0 _, sp_b0 _⟩) (fun _ => Or.inl rfl)
  have hR := hp _ (pp_mk hQ (sp_d0 0 (by omega)))
  unfold wpX_init
  dsimp only
  refine ⟨by omega, by omega, by omega, by omega, by omega, by omega, by omega, by omega, by omega, by omega, by omega, by omega, by omega, by omega, by omega, by omega, by omega, by omega, by omega, by omega, by omega, by omega, by omega, by omega, by omega, by omega, by omega, by omega, by omega, by omega, by omega, by omega, by omega, by omega, ?_⟩
  exact sp_xClamp (lo := 8) (hi := 48) e0 (sp_xClamp (lo := 2) (hi := 16) e1 (sp_xClamp (lo := 2) (hi := 12) e2 (sp_xClamp (lo := 2) (hi := 32) e3 hR)))
theorem pp_emit {CE : Nat} {u : St2} {post : Int32 → St2 → Prop} (I : pp_R CE u) (v1 v2 : Int32) (hp : ∀ r u', pp_R CE u' → post r u') : wpX_emit post u v1 v2 := by
  have J := I
  obtain ⟨cc, ce, dc, ic, len, s, cnt, dep, md, o, n, m, st, q, ad, cop, carg, xc, xAd, xOp, xIn, xCe, xMk, lAd, lIn, lA, lX, lSp, bef, awa, rd, wr, yc, stk, nxt, acc, idx, mkr, yAd, yOp, yIn, yCe, lds, rfl, rfl, hQ, hD⟩ := I
  have hQ2 := hQ
  obtain ⟨hK, hC, hc0, hAd, hxO, hyO, hxI, hyI, hCe, hS, hV, hMr, hRW, hMk, h01, H, IL⟩ := hQ2
  unfold sp_K at hK
  unfold wpX_emit
  dsimp only
  by_cases s0 : s = 0
  · have z0 : nI s = 0 := by rw [s0]; rfl
    refine br_t z0 (sp_xWithin v1 (n := 12) (by omega) (by decide) (fun a ha e => br_f (by decide) ?_) (fun z => br_t rfl (hp _ _ J)))
    subst e
    have hK' : ¬ len = cc → sp_K cc ce dc ic (len + 1) s cnt dep md := fun ne => by unfold sp_K; omega
    have fin : ((a = 2 ∨ a = 3 ∨ a = 10 ∨ a = 11) → ∃ b : Nat, b < 48 ∧ v2 = nI b) → wX_emit_42 post (nI a) v2 (nI cc) (nI ce) (nI dc) (nI ic) (nI len) (nI s) (nI cnt) (nI dep) (nI md) (cop) (carg) (xc) (xAd) (xOp) (xIn) (xCe) (xMk) (lAd) (lIn) (lA) (lX) (lSp) (bef) (awa) (rd) (wr) := by
      intro hT
      unfold wX_emit_42
      refine pk_eq len cc (fun e => hp _ _ J) (fun ne => ?_)
      have il : vp_in (nI len) 48 := vp_in_nI (by omega) (by omega)
      have cl : (nI len).toNatClampNeg = len := nI_clamp (by omega)
      rw [cl]
      refine ⟨il, nm_e ⟨il, nm_e (nm_r (nI_1 len) (hp _ _ (pp_mk ⟨hK' ne, ?_, hc0, hAd, hxO, hyO, hxI, hyI, hCe, hS, hV, hMr, hRW, hMk, h01, H, IL⟩ hD)))⟩⟩
      intro p hp'
      by_cases e : p = len
      · rw [e, pk_us, pk_us]
        exact ⟨a, by omega, rfl, hT⟩
      · rw [pk_un e, pk_un e]
        exact hC p (by omega)
    refine sp_xTarget ha (fun ht => br_f (by decide) ?_) (fun ht => br_t rfl (fin (fun w => absurd w ht)))
    refine sp_xWithin v2 (n := cc) (by omega) rfl (fun b hb e => br_f (by decide) ?_) (fun z => br_t rfl (hp _ _ J))
    subst e
    exact fin (fun _ => ⟨b, by omega, rfl⟩)
  · exact br_f (nI_ne0 (by omega) (by omega)) (hp _ _ J)
theorem pp_poke {CE : Nat} {u : St2} {post : Int32 → St2 → Prop} (I : pp_R CE u) (v1 v2 : Int32) (hp : ∀ r u', pp_R CE u' → post r u') : wpX_poke post u v1 v2 := by
  have J := I
  obtain ⟨cc, ce, dc, ic, len, s, cnt, dep, md, o, n, m, st, q, ad, cop, carg, xc, xAd, xOp, xIn, xCe, xMk, lAd, lIn, lA, lX, lSp, bef, awa, rd, wr, yc, stk, nxt, acc, idx, mkr, yAd, yOp, yIn, yCe, lds, rfl, rfl, hQ, hD⟩ := I
  obtain ⟨hK, hC, hc0, hAd, hxO, hyO, hxI, hyI, hCe, hS, hV, hMr, hRW, hMk, h01, H, IL⟩ := hQ
  have hK2 := hK
  unfold sp_K at hK
  unfold wpX_poke
  dsimp only
  by_cases s0 : s = 0
  · have z0 : nI s = 0 := by rw [s0]; rfl
    refine br_t z0 (sp_xCell v1 (by omega) (fun j hj e => br_f (by decide) ?_) (fun z => br_t rfl (hp _ _ J)))
    subst e
    have ij : vp_in (nI j) 16 := vp_in_nI (by omega) (by omega)
    have cj : (nI j).toNatClampNeg = j := nI_clamp (by omega)
    rw [cj]
    refine ⟨ij, nm_e (hp _ _ (pp_mk (yc := upd xc j v2) ⟨hK2, hC, fun _ _ => rfl, hAd, hxO, hyO, hxI, hyI, hCe, hS, hV, hMr, hRW, hMk, h01, H, IL⟩ hD))⟩
  · exact br_f (nI_ne0 (by omega) (by omega)) (hp _ _ J)
theorem pp_start {CE : Nat} {u : St2} {post : Int32 → St2 → Prop} (I : pp_R CE u) (hp : ∀ r u', pp_R CE u' → post r u') : wpX_start post u := by
  have J := I
  obtain ⟨cc, ce, dc, ic, len, s, cnt, dep, md, o, n, m, st, q, ad, cop, carg, xc, xAd, xOp, xIn, xCe, xMk, lAd, lIn, lA, lX, lSp, bef, awa, rd, wr, yc, stk, nxt, acc, idx, mkr, yAd, yOp, yIn, yCe, lds, rfl, rfl, hQ, hD⟩ := I
  obtain ⟨hK, hC, hc0, hAd, hxO, hyO, hxI, hyI, hCe, hS, hV, hMr, hRW, hMk, h01, H, IL⟩ := hQ
  unfold sp_K at hK
  unfold wpX_start
  dsimp only
  by_cases s0 : s = 0
  · have z0 : nI s = 0 := by rw [s0]; rfl
    obtain ⟨rfl, rfl, rfl⟩ : cnt = 0 ∧ dep = 0 ∧ md = 0 := by omega
    refine br_t z0 (sp_xMake (by omega) (fun f g hf hg => hp _ _ ?_))
    have hT := sp_t0 (o := o) (n := n) (m := m) (q := q) (B' := sp_mem f) (A' := sp_mem g)
      (fun j hj w => by
        rcases (hf 0 j hj).1 w with y | y
        · exact y.2 rfl
        · omega)
      (fun j hj w => ((hg 0 j hj).1 w).2 rfl)
    refine pp_mk (s := 1) (cnt := 0) (dep := 1) (md := 1) (st := fun _ => 0) (ad := fun _ => 0) (stk := fun _ => 0) (nxt := fun _ => 0) (acc := fun _ => 0) (idx := fun _ => 0) (mkr := mkr) ⟨by unfold sp_K; omega, hC, hc0, hAd, hxO, hyO, hxI, hyI, hCe, hS, ?_, fun i i0 hi => by omega, hRW, hMk, h01, hT.1, hT.2⟩ (sp_d0 1 (by omega))
    intro l hl
    obtain rfl : l = 0 := by omega
    exact ⟨rfl, rfl, Nat.zero_le _, rfl, rfl, rfl, rfl, fun _ => rfl, fun w => by omega, fun w => by omega⟩
  · exact br_f (nI_ne0 (by omega) (by omega)) (hp _ _ J)
section
variable {g0 g1 g2 g3 g4 g5 g6 g7 g8 : Int32} {cop carg xc xAd xOp xIn xCe xMk lAd lIn lA lX lSp : Nat → Int32} {bef awa rd wr : Nat → Int64}
theorem sp_xForget17 {post : St2 → Prop} (h : ∀ r w, (∀ c, c < 16 → ∀ j, j < 128 → ¬ sp_mem w c j ∧ ¬ sp_mem r c j) → post (g0, g1, g2, g3, g4, g5, g6, g7, g8, cop, carg, xc, xAd, xOp, xIn, xCe, xMk, lAd, lIn, lA, lX, lSp, bef, awa, r, w)) :
    ∀ d c, c + d = 16 → ∀ r w, (∀ t, t < c → ∀ j, j < 128 → ¬ sp_mem w t j ∧ ¬ sp_mem r t j) → wX_forgetRun_17 post (d + 1) (nI c) (g0) (g1) (g2) (g3) (g4) (g5) (g6) (g7) (g8) (cop) (carg) (xc) (xAd) (xOp) (xIn) (xCe) (xMk) (lAd) (lIn) (lA) (lX) (lSp) (bef) (awa) (r) (w) := by
  intro d
  induction d with
  | zero =>
    intro c hc r w hrw
    unfold wX_forgetRun_17
    exact br_t (nI_le (a := 16) (by omega) (by omega)) (h r w (fun t ht => hrw t (by omega)))
  | succ d ih =>
    intro c hc r w hrw
    unfold wX_forgetRun_17
    refine br_f (nI_ge (b := 16) (by omega) (by omega)) (pp_clearSet_2 (by omega) (fun r2 hr2 => pp_clearSet_2 (by omega) (fun w2 hw2 => nm_r (nI_1 c) ?_)))
    refine ih (c + 1) (by omega) r2 w2 (fun t ht j hj => ?_)
    rw [hr2 t j hj, hw2 t j hj]
    by_cases e : t = c
    · exact ⟨fun z => z.2 e, fun z => z.2 e⟩
    · have := hrw t (by omega) j hj
      exact ⟨fun z => this.1 z.1, fun z => this.2 z.1⟩
theorem sp_xReset6 {post : St2 → Prop} (h : ∀ f : Nat → Int32, (∀ c, c < 16 → f c = 0) → post (g0, g1, g2, g3, g4, 0, g6, g7, g8, cop, carg, f, xAd, xOp, xIn, xCe, xMk, lAd, lIn, lA, lX, lSp, bef, awa, rd, wr)) :
    ∀ d c, c + d = 16 → ∀ f : Nat → Int32, (∀ t, t < c → f t = 0) → wX_reset_6 post g0 g1 g2 g3 g4 g5 g6 g7 g8 (d + 1) (nI c) cop carg f xAd xOp xIn xCe xMk lAd lIn lA lX lSp bef awa rd wr := by
  intro d
  induction d with
  | zero =>
    intro c hc f hf
    unfold wX_reset_6
    exact br_t (nI_le (a := 16) (by omega) (by omega)) (h f (fun t ht => hf t (by omega)))
  | succ d ih =>
    intro c hc f hf
    have ic : vp_in (nI c) 16 := vp_in_nI (by omega) (by omega)
    have cc' : (nI c).toNatClampNeg = c := nI_clamp (by omega)
    unfold wX_reset_6
    rw [cc']
    refine br_f (nI_ge (b := 16) (by omega) (by omega)) ⟨ic, nm_e (nm_r (nI_1 c) (ih (c + 1) (by omega) _ (fun t ht => ?_)))⟩
    by_cases e : t = c
    · rw [e, pk_us]
    · rw [pk_un e]; exact hf t (by omega)
end
theorem pp_reset {CE : Nat} {u : St2} {post : St2 → Prop} (I : pp_R CE u) (hp : ∀ u', pp_R CE u' → post u') : wpX_reset post u := by
  obtain ⟨cc, ce, dc, ic, len, s, cnt, dep, md, o, n, m, st, q, ad, cop, carg, xc, xAd, xOp, xIn, xCe, xMk, lAd, lIn, lA, lX, lSp, bef, awa, rd, wr, yc, stk, nxt, acc, idx, mkr, yAd, yOp, yIn, yCe, lds, rfl, rfl, hQ, hD⟩ := I
  obtain ⟨hK, hC, hc0, hAd, hxO, hyO, hxI, hyI, hCe, hS, hV, hMr, hRW, hMk, h01, H, IL⟩ := hQ
  unfold sp_K at hK
  unfold wpX_reset wpX_forgetRun
  dsimp only
  refine ⟨17, sp_xForget17 (fun r w hrw => ⟨17, sp_xReset6 (fun f hf => hp _ ?_) 16 0 (by omega) xc (fun t ht => by omega)⟩) 16 0 (by omega) rd wr (fun t ht => by omega)⟩
  exact pp_mk (s := 0) (cnt := 0) (dep := 0) (md := 0) (sp_Q0 (o := o) (n := n) (m := m) (st := fun _ => 0) (q := q) (ad := ad) (yc := f) (stk := stk) (nxt := nxt) (acc := acc) (idx := idx) (mkr := mkr) (yAd := yAd) (yOp := yOp) (yIn := yIn) (yCe := yCe) (by omega) (by omega) (by omega) (by omega) (by omega) (by omega) (by omega) (by omega) (by omega) hC (fun _ _ => rfl) hrw h01) (sp_d0 0 (by omega))

/-! ===== small methods of the class ===== -/
theorem sp_m1lt {j : Nat} (h : j < 2 ^ 31) : (-1 : Int32) < nI j := by
  rw [Int32.lt_iff_toInt_lt, nI_toInt h]
  have e : (-1 : Int32).toInt = -1 := by decide
  rw [e]; omega
theorem sp_xWithin {post : Int32 → Prop} (v : Int32) {n : Nat} {hi : Int32} (hn : n < 2 ^ 31) (hhi : hi = nI n - 1) (h1 : ∀ j, j < n → v = nI j → post 1) (h0 : (v < 0 ∨ nI n ≤ v) → post 0) : wpX_isWithin post v 0 hi := by
  unfold wpX_isWithin
  by_cases hv : v < 0
  · exact br_t hv (h0 (Or.inl hv))
  · refine br_f hv ?_
    obtain ⟨j, hj, rfl⟩ := nI_of hv
    by_cases hjn : j < n
    · have e : hi = nI (n - 1) := by
        rw [hhi]; exact pk_sub (b := 1) (by omega)
      rw [e]
      exact br_f (nI_nlt (by omega) (by omega)) (h1 j hjn rfl)
    · have z : hi < nI j := by
        rw [hhi]
        by_cases n0 : n = 0
        · rw [n0]
          exact sp_m1lt hj
        · have e : nI n - 1 = nI (n - 1) := pk_sub (b := 1) (by omega)
          rw [e]
          exact nI_lt (by omega) (by omega)
      exact br_t z (h0 (Or.inr (nI_le (by omega) (by omega))))
section
variable {g0 g1 g2 g3 g4 g5 g6 g7 g8 : Int32} {cop carg xc xAd xOp xIn xCe xMk lAd lIn lA lX lSp : Nat → Int32} {bef awa rd wr : Nat → Int64}
theorem sp_xCell {post : Int32 → Prop} {ce : Nat} (v : Int32) (hn : ce < 2 ^ 31) (h1 : ∀ j, j < ce → v = nI j → post 1) (h0 : (v < 0 ∨ nI ce ≤ v) → post 0) : wpX_isCell post (g0, nI ce, g2, g3, g4, g5, g6, g7, g8, cop, carg, xc, xAd, xOp, xIn, xCe, xMk, lAd, lIn, lA, lX, lSp, bef, awa, rd, wr) v := by
  unfold wpX_isCell
  dsimp only
  exact sp_xWithin v hn rfl (fun j hj e => ⟨rfl, h1 j hj e⟩) (fun z => ⟨rfl, h0 z⟩)
theorem sp_xIsStep {post : Int32 → Prop} {cnt : Nat} (v : Int32) (hn : cnt < 2 ^ 31) (h1 : ∀ j, j < cnt → v = nI j → post 1) (h0 : (v < 0 ∨ nI cnt ≤ v) → post 0) : wpX_isStep post (g0, g1, g2, g3, g4, g5, nI cnt, g7, g8, cop, carg, xc, xAd, xOp, xIn, xCe, xMk, lAd, lIn, lA, lX, lSp, bef, awa, rd, wr) v := by
  unfold wpX_isStep
  dsimp only
  exact sp_xWithin v hn rfl (fun j hj e => ⟨rfl, h1 j hj e⟩) (fun z => ⟨rfl, h0 z⟩)
end
theorem sp_ngt {v : Int32} {n : Nat} (h : n < 2 ^ 31) (z : nI n ≤ v) : ¬ v < 0 := by
  intro w
  have h1 := Int32.le_iff_toInt_le.mp z
  have h2 := Int32.lt_iff_toInt_lt.mp w
  rw [nI_toInt h] at h1
  have e : (0 : Int32).toInt = 0 := by decide
  rw [e] at h2
  omega
theorem sp_nlt {v w : Int32} (z : w ≤ v) : ¬ v < w := Int32.not_lt.mpr z
theorem sp_nle {v w : Int32} (z : w < v) : ¬ v ≤ w := Int32.not_le.mpr z
/-! ===== the calls that only ask ===== -/
theorem i_vc_status {k : Nat} {u : SX} {v : SY} (I : i_Rel k u v) (hk : k + 3 ≤ 1540) : wpX_status (fun r => wpY_status (fun r' => r' = r ∧ i_Rel (k + 3) u v) v) u := by
  have J := I
  obtain ⟨cc, ce, dc, ic, len, s, cnt, dep, md, o, n, m, st, q, ad, cop, carg, xc, xAd, xOp, xIn, xCe, xMk, lAd, lIn, lA, lX, lSp, bef, awa, rd, wr, yc, stk, nxt, acc, idx, mkr, yAd, yOp, yIn, yCe, lds, rfl, rfl, hQ⟩ := I
  exact ⟨rfl, J⟩
theorem i_vc_steps {k : Nat} {u : SX} {v : SY} (I : i_Rel k u v) (hk : k + 3 ≤ 1540) : wpX_steps (fun r => wpY_steps (fun r' => r' = r ∧ i_Rel (k + 3) u v) v) u := by
  have J := I
  obtain ⟨cc, ce, dc, ic, len, s, cnt, dep, md, o, n, m, st, q, ad, cop, carg, xc, xAd, xOp, xIn, xCe, xMk, lAd, lIn, lA, lX, lSp, bef, awa, rd, wr, yc, stk, nxt, acc, idx, mkr, yAd, yOp, yIn, yCe, lds, rfl, rfl, hQ⟩ := I
  exact ⟨rfl, J⟩
theorem i_vc_depth {k : Nat} {u : SX} {v : SY} (I : i_Rel k u v) (hk : k + 3 ≤ 1540) : wpX_depth (fun r => wpY_depth (fun r' => r' = r ∧ i_Rel (k + 3) u v) v) u := by
  have J := I
  obtain ⟨cc, ce, dc, ic, len, s, cnt, dep, md, o, n, m, st, q, ad, cop, carg, xc, xAd, xOp, xIn, xCe, xMk, lAd, lIn, lA, lX, lSp, bef, awa, rd, wr, yc, stk, nxt, acc, idx, mkr, yAd, yOp, yIn, yCe, lds, rfl, rfl, hQ⟩ := I
  exact ⟨rfl, J⟩
theorem i_vc_cell {k : Nat} {u : SX} {v : SY} (I : i_Rel k u v) (hk : k + 3 ≤ 1540) (v1 : Int32) : wpX_cell (fun r => wpY_cell (fun r' => r' = r ∧ i_Rel (k + 3) u v) v v1) u v1 := by
  have J := I
  obtain ⟨cc, ce, dc, ic, len, s, cnt, dep, md, o, n, m, st, q, ad, cop, carg, xc, xAd, xOp, xIn, xCe, xMk, lAd, lIn, lA, lX, lSp, bef, awa, rd, wr, yc, stk, nxt, acc, idx, mkr, yAd, yOp, yIn, yCe, lds, rfl, rfl, hQ⟩ := I
  obtain ⟨hK, hC, hc0, hAd, hxO, hyO, hxI, hyI, hCe, hS, hV, hMr, hRW, hMk, h01, H, IL⟩ := hQ
  unfold sp_K at hK
  unfold wpX_cell
  dsimp only
  refine sp_xCell v1 (by omega) (fun j hj e => ?_) (fun z => br_t rfl ?_)
  · subst e
    refine br_f (by decide) ⟨vp_in_nI (by omega) (by omega), ?_⟩
    unfold wpY_cell
    dsimp only
    rw [nI_clamp (show j < 2 ^ 31 by omega)]
    exact br_f (nI_pos (by omega)) (br_t (nI_lt hj (by omega)) ⟨vp_in_nI (by omega) (by omega), (hc0 j hj).symm, J⟩)
  · unfold wpY_cell
    dsimp only
    rcases z with z | z
    · exact br_t z ⟨rfl, J⟩
    · exact br_f (sp_ngt (by omega) z) (br_f (sp_nlt z) ⟨rfl, J⟩)
theorem i_vc_code {k : Nat} {u : SX} {v : SY} (I : i_Rel k u v) (hk : k + 3 ≤ 1540) (v1 : Int32) (v2 : Int32) : wpX_code (fun r => wpY_code (fun r' => r' = r ∧ i_Rel (k + 3) u v) v v1 v2) u v1 v2 := by
  have J := I
  obtain ⟨cc, ce, dc, ic, len, s, cnt, dep, md, o, n, m, st, q, ad, cop, carg, xc, xAd, xOp, xIn, xCe, xMk, lAd, lIn, lA, lX, lSp, bef, awa, rd, wr, yc, stk, nxt, acc, idx, mkr, yAd, yOp, yIn, yCe, lds, rfl, rfl, hQ⟩ := I
  obtain ⟨hK, hC, hc0, hAd, hxO, hyO, hxI, hyI, hCe, hS, hV, hMr, hRW, hMk, h01, H, IL⟩ := hQ
  unfold sp_K at hK
  unfold wpX_code
  dsimp only
  refine sp_xWithin v1 (n := len) (by omega) rfl (fun j hj e => ?_) (fun z => br_t rfl ?_)
  · subst e
    have cj : (nI j).toNatClampNeg = j := nI_clamp (by omega)
    have ij : vp_in (nI j) 48 := vp_in_nI (by omega) (by omega)
    refine br_f (by decide) ?_
    have y0 : ¬ nI j < 0 := nI_pos (by omega)
    have y1 : ¬ nI len ≤ nI j := nI_ge hj (by omega)
    rw [cj]
    by_cases e0 : v2 = 0
    · refine br_t e0 ⟨ij, ?_⟩
      subst e0
      unfold wpY_code
      dsimp only
      exact br_f y0 (br_f y1 (br_f (by decide) (br_t (by decide) (br_t rfl ⟨ij, by rw [cj], J⟩))))
    · refine br_f e0 ?_
      by_cases e1 : v2 = 1
      · refine br_t e1 ⟨ij, ?_⟩
        subst e1
        unfold wpY_code
        dsimp only
        exact br_f y0 (br_f y1 (br_f (by decide) (br_t (by decide) (br_f (by decide) ⟨ij, by rw [cj], J⟩))))
      · refine br_f e1 ?_
        unfold wpY_code
        dsimp only
        refine br_f y0 (br_f y1 ?_)
        by_cases p0 : v2 < 0
        · exact br_t p0 ⟨rfl, J⟩
        · refine br_f p0 ?_
          have p1 : ¬ v2 ≤ 1 := by
            intro w
            obtain ⟨x, hx, rfl⟩ := nI_of2 (x := v2) (M := 1) (n := 1) (by decide) p0 w
            rcases (show x = 0 ∨ x = 1 by omega) with rfl | rfl
            · exact e0 rfl
            · exact e1 rfl
          exact br_f p1 ⟨rfl, J⟩
  · unfold wpY_code
    dsimp only
    rcases z with z | z
    · exact br_t z ⟨rfl, J⟩
    · exact br_f (sp_ngt (by omega) z) (br_t z ⟨rfl, J⟩)
theorem i_vc_step {k : Nat} {u : SX} {v : SY} (I : i_Rel k u v) (hk : k + 3 ≤ 1540) (v1 : Int32) (v2 : Int32) : wpX_step (fun r => wpY_step (fun r' => r' = r ∧ i_Rel (k + 3) u v) v v1 v2) u v1 v2 := by
  have J := I
  obtain ⟨cc, ce, dc, ic, len, s, cnt, dep, md, o, n, m, st, q, ad, cop, carg, xc, xAd, xOp, xIn, xCe, xMk, lAd, lIn, lA, lX, lSp, bef, awa, rd, wr, yc, stk, nxt, acc, idx, mkr, yAd, yOp, yIn, yCe, lds, rfl, rfl, hQ⟩ := I
  obtain ⟨hK, hC, hc0, hAd, hxO, hyO, hxI, hyI, hCe, hS, hV, hMr, hRW, hMk, h01, H, IL⟩ := hQ
  unfold sp_K at hK
  unfold wpX_step
  dsimp only
  refine sp_xIsStep v1 (by omega) (fun j hj e => ?_) (fun z => br_t rfl ?_)
  · subst e
    have cj : (nI j).toNatClampNeg = j := nI_clamp (by omega)
    have ix : vp_in (nI j) 128 := vp_in_nI (by omega) (by omega)
    have iy : vp_in (nI j) 129 := vp_in_nI (by omega) (by omega)
    have y0 : ¬ nI j < 0 := nI_pos (by omega)
    have y1 : ¬ nI cnt ≤ nI j := nI_ge hj (by omega)
    refine br_f (by decide) ?_
    by_cases p0 : v2 < 0
    · refine br_t p0 ?_
      unfold wpY_step
      dsimp only
      exact br_f y0 (br_f y1 (br_t p0 ⟨rfl, J⟩))
    · by_cases p3 : 3 < v2
      · refine br_f p0 (br_t p3 ?_)
        unfold wpY_step
        dsimp only
        exact br_f y0 (br_f y1 (br_f p0 (br_f (sp_nle p3) ⟨rfl, J⟩)))
      · obtain ⟨w, hw, rfl⟩ := nI_of2 (x := v2) (M := 3) (n := 3) (by decide) p0 (Int32.not_lt.mp p3)
        refine br_f p0 (br_f p3 ?_)
        rw [cj]
        rcases (show w = 0 ∨ w = 1 ∨ w = 2 ∨ w = 3 by omega) with rfl | rfl | rfl | rfl
        · refine br_t (by decide) ⟨ix, ?_⟩
          unfold wpY_step
          dsimp only
          rw [cj]
          exact br_f y0 (br_f y1 (br_f p0 (br_t (by decide) (br_t (by decide) ⟨iy, (hAd j hj).symm, J⟩))))
        · refine br_f (by decide) (br_t (by decide) ⟨ix, ?_⟩)
          unfold wpY_step
          dsimp only
          rw [cj]
          exact br_f y0 (br_f y1 (br_f p0 (br_t (by decide) (br_f (by decide) (br_t (by decide) ⟨iy, (hyO j hj).trans (hxO j hj).symm, J⟩)))))
        · refine br_f (by decide) (br_f (by decide) (br_t (by decide) ⟨ix, ?_⟩))
          unfold wpY_step
          dsimp only
          rw [cj]
          exact br_f y0 (br_f y1 (br_f p0 (br_t (by decide) (br_f (by decide) (br_f (by decide) (br_t (by decide) ⟨iy, (hyI j hj).trans (hxI j hj).symm, J⟩))))))
        · refine br_f (by decide) (br_f (by decide) (br_f (by decide) (br_t (by decide) ⟨ix, ?_⟩)))
          unfold wpY_step
          dsimp only
          rw [cj]
          exact br_f y0 (br_f y1 (br_f p0 (br_t (by decide) (br_f (by decide) (br_f (by decide) (br_f (by decide) ⟨iy, (hCe j hj).symm, J⟩))))))
  · unfold wpY_step
    dsimp only
    rcases z with z | z
    · exact br_t z ⟨rfl, J⟩
    · exact br_f (sp_ngt (by omega) z) (br_t z ⟨rfl, J⟩)
theorem i_vc_frame {k : Nat} {u : SX} {v : SY} (I : i_Rel k u v) (hk : k + 3 ≤ 1540) (v1 : Int32) (v2 : Int32) : wpX_frame (fun r => wpY_frame (fun r' => r' = r ∧ i_Rel (k + 3) u v) v v1 v2) u v1 v2 := by
  have J := I
  obtain ⟨cc, ce, dc, ic, len, s, cnt, dep, md, o, n, m, st, q, ad, cop, carg, xc, xAd, xOp, xIn, xCe, xMk, lAd, lIn, lA, lX, lSp, bef, awa, rd, wr, yc, stk, nxt, acc, idx, mkr, yAd, yOp, yIn, yCe, lds, rfl, rfl, hQ⟩ := I
  obtain ⟨hK, hC, hc0, hAd, hxO, hyO, hxI, hyI, hCe, hS, hV, hMr, hRW, hMk, h01, H, IL⟩ := hQ
  unfold sp_K at hK
  unfold wpX_frame
  dsimp only
  refine sp_xWithin v1 (n := dep) (by omega) rfl (fun j hj e => ?_) (fun z => br_t rfl ?_)
  · subst e
    obtain ⟨w1, w2, w3, w4, w5, w6, w7, w8, w9, w10⟩ := hV j hj
    have hst := IL.2.2.1 j hj
    have cj : (nI j).toNatClampNeg = j := nI_clamp (by omega)
    have ix : vp_in (nI j) 12 := vp_in_nI (by omega) (by omega)
    have cs : (nI (st j)).toNatClampNeg = st j := nI_clamp (by omega)
    have is' : vp_in (nI (st j)) 32 := vp_in_nI (by omega) (by omega)
    have y0 : ¬ nI j < 0 := nI_pos (by omega)
    have y1 : ¬ nI dep ≤ nI j := nI_ge hj (by omega)
    refine br_f (by decide) ?_
    by_cases p0 : v2 < 0
    · refine br_t p0 ?_
      unfold wpY_frame
      dsimp only
      exact br_f y0 (br_f y1 (br_t p0 ⟨rfl, J⟩))
    · by_cases p3 : 4 < v2
      · refine br_f p0 (br_t p3 ?_)
        unfold wpY_frame
        dsimp only
        exact br_f y0 (br_f y1 (br_f p0 (br_f (sp_nle p3) ⟨rfl, J⟩)))
      · obtain ⟨w, hw, rfl⟩ := nI_of2 (x := v2) (M := 4) (n := 4) (by decide) p0 (Int32.not_lt.mp p3)
        refine br_f p0 (br_f p3 ?_)
        rw [cj]
        rcases (show w = 0 ∨ w = 1 ∨ w = 2 ∨ w = 3 ∨ w = 4 by omega) with rfl | rfl | rfl | rfl | rfl
        · refine br_t (by decide) ⟨ix, ?_⟩
          unfold wpY_frame
          dsimp only
          rw [cj, w5]
          refine br_f y0 (br_f y1 (br_f p0 (br_t (by decide) ⟨ix, nm_e ?_⟩)))
          rw [cs]
          exact br_f (by decide) (br_t (by decide) ⟨is', w2.trans w1.symm, J⟩)
        · refine br_f (by decide) (br_t (by decide) ⟨ix, ?_⟩)
          unfold wpY_frame
          dsimp only
          rw [cj, w5]
          refine br_f y0 (br_f y1 (br_f p0 (br_t (by decide) ⟨ix, nm_e ?_⟩)))
          rw [cs]
          exact br_f (by decide) (br_f (by decide) (br_t (by decide) ⟨w4.symm, J⟩))
        · refine br_f (by decide) (br_f (by decide) (br_t (by decide) ⟨ix, ?_⟩))
          unfold wpY_frame
          dsimp only
          rw [cj, w5]
          refine br_f y0 (br_f y1 (br_f p0 (br_t (by decide) ⟨ix, nm_e ?_⟩)))
          rw [cs]
          exact br_f (by decide) (br_f (by decide) (br_f (by decide) (br_t (by decide) ⟨is', w6.symm, J⟩)))
        · refine br_f (by decide) (br_f (by decide) (br_f (by decide) (br_t (by decide) ⟨ix, ?_⟩)))
          unfold wpY_frame
          dsimp only
          rw [cj, w5]
          refine br_f y0 (br_f y1 (br_f p0 (br_t (by decide) ⟨ix, nm_e ?_⟩)))
          rw [cs]
          exact br_f (by decide) (br_f (by decide) (br_f (by decide) (br_f (by decide) ⟨is', w7.symm, J⟩)))
        · refine br_f (by decide) (br_f (by decide) (br_f (by decide) (br_f (by decide) (br_t (by decide) ⟨ix, ?_⟩))))
          unfold wpY_frame
          dsimp only
          rw [cj, w5]
          refine br_f y0 (br_f y1 (br_f p0 (br_t (by decide) ⟨ix, nm_e ?_⟩)))
          rw [cs]
          refine br_t (by decide) ?_
          by_cases j0 : j = 0
          · have e0 : st j = 0 := by rw [j0]; exact IL.1 (by omega)
            have z : nI (st j) ≤ 0 := by rw [e0]; decide
            exact br_t z ⟨(w8 j0).symm, J⟩
          · have hp := sp_pos H IL (show 0 < j by omega) hj
            have em := hMr (st j) hp.1 hst
            have cm : (nI (m (st j))).toNatClampNeg = m (st j) := nI_clamp (by omega)
            have eo := hyO (m (st j)) hp.2.1
            rw [em, cm, eo]
            refine br_f (nI_nle (by omega) (by omega)) ⟨is', vp_in_nI (by omega) (by omega), ?_⟩
            have ho := (hS (m (st j)) hp.2.1).1
            exact pk_eq (o (m (st j))) 2 (fun e => ⟨(w9 (by omega) e).symm, J⟩) (fun e => ⟨(w10 (by omega) e).symm, J⟩)
  · unfold wpY_frame
    dsimp only
    rcases z with z | z
    · exact br_t z ⟨rfl, J⟩
    · exact br_f (sp_ngt (by omega) z) (br_t z ⟨rfl, J⟩)

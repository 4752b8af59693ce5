/-! ===== small methods of the class ===== -/
theorem sp_m1lt {j : Nat} (h : j < 2 ^ 31) : (-1 : Int32) < nI j := by
  rw [Int32.lt_iff_toInt_lt, nI_toInt h]
  have e : (-1 : Int32).toInt = -1 := by decide
  rw [e]; omega
theorem sp_xWithin {post : Int32 → Prop} (v : Int32) {n : Nat} {hi : Int32} (hn : n < 2 ^ 31) (hhi : hi = nI n - 1) (h1 : ∀ j, j < n → v = nI j → post 1) (h0 : (v < 0 ∨ nI n ≤ v) → post 0) : wpX_isWithin post () v 0 hi := by
  unfold wpX_isWithin
  by_cases hv : v < 0
  · exact br_t hv (h0 (Or.inl hv))
  · refine br_f hv ?_
    obtain ⟨j, hj, rfl⟩ := nI_of hv
    by_cases hjn : j < n
    · have e : hi = nI (n - 1) := by
        rw [hhi]; exact pk_sub (b := 1) (by omega)
      rw [e]
      exact br_f (nI_nlt (by omega) (by omega)) (h1 j hjn rfl)
    · have z : hi < nI j := by
        rw [hhi]
        by_cases n0 : n = 0
        · rw [n0]
          exact sp_m1lt hj
        · have e : nI n - 1 = nI (n - 1) := pk_sub (b := 1) (by omega)
          rw [e]
          exact nI_lt (by omega) (by omega)
      exact br_t z (h0 (Or.inr (nI_le (by omega) (by omega))))
section
variable {g0 g1 g2 g3 g4 g5 g6 g7 g8 : Int32} {cop carg xc xAd xOp xIn xCe xMk lAd lIn lA lX lSp : Nat → Int32} {bef awa rd wr : Nat → Int64}
theorem sp_xCell {post : Int32 → Prop} {ce : Nat} (v : Int32) (hn : ce < 2 ^ 31) (h1 : ∀ j, j < ce → v = nI j → post 1) (h0 : (v < 0 ∨ nI ce ≤ v) → post 0) : wpX_isCell post (g0, nI ce, g2, g3, g4, g5, g6, g7, g8, cop, carg, xc, xAd, xOp, xIn, xCe, xMk, lAd, lIn, lA, lX, lSp, bef, awa, rd, wr) v := by
  unfold wpX_isCell
  dsimp only
  exact sp_xWithin v hn rfl (fun j hj e => ⟨rfl, h1 j hj e⟩) (fun z => ⟨rfl, h0 z⟩)
theorem sp_xIsStep {post : Int32 → Prop} {cnt : Nat} (v : Int32) (hn : cnt < 2 ^ 31) (h1 : ∀ j, j < cnt → v = nI j → post 1) (h0 : (v < 0 ∨ nI cnt ≤ v) → post 0) : wpX_isStep post (g0, g1, g2, g3, g4, g5, nI cnt, g7, g8, cop, carg, xc, xAd, xOp, xIn, xCe, xMk, lAd, lIn, lA, lX, lSp, bef, awa, rd, wr) v := by
  unfold wpX_isStep
  dsimp only
  exact sp_xWithin v hn rfl (fun j hj e => ⟨rfl, h1 j hj e⟩) (fun z => ⟨rfl, h0 z⟩)
end
theorem sp_ngt {v : Int32} {n : Nat} (h : n < 2 ^ 31) (z : nI n ≤ v) : ¬ v < 0 := by
  intro w
  have h1 := Int32.le_iff_toInt_le.mp z
  have h2 := Int32.lt_iff_toInt_lt.mp w
  rw [nI_toInt h] at h1
  have e : (0 : Int32).toInt = 0 := by decide
  rw [e] at h2
  omega
theorem sp_nlt {v w : Int32} (z : w ≤ v) : ¬ v < w := Int32.not_lt.mpr z
theorem sp_nle {v w : Int32} (z : w < v) : ¬ v ≤ w := Int32.not_le.mpr z

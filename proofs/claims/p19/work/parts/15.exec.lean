/-! ===== execute, on both sides, an opcode each ===== -/
section
variable {g0 g1 g2 g3 g4 g5 g6 g7 g8 : Int32} {cop carg xc xAd xOp xIn xCe xMk lAd lIn lA lX lSp : Nat → Int32} {bef awa rd wr : Nat → Int64}
theorem sp_xE1 {post : St2 → Prop} {L : Nat} {arg ev : Int32} (hL : L < 12) (h : post (g0, g1, g2, g3, g4, g5, g6, g7, g8, cop, carg, xc, xAd, xOp, xIn, xCe, xMk, lAd, lIn, lA, lX, lSp, bef, awa, rd, wr)) : wpX_execute post (g0, g1, g2, g3, g4, g5, g6, g7, g8, cop, carg, xc, xAd, xOp, xIn, xCe, xMk, lAd, lIn, lA, lX, lSp, bef, awa, rd, wr) (nI L) (nI 1) arg ev := by
  have iL : vp_in (nI L) 12 := vp_in_nI hL (by omega)
  have cL : (nI L).toNatClampNeg = L := nI_clamp (by omega)
  unfold wpX_execute
  dsimp only
  rw [cL]
  exact br_f (by decide) (br_f (by decide) (br_f (by decide) (br_t (by decide) h)))
theorem sp_xE2 {post : St2 → Prop} {L : Nat} {arg ev : Int32} (hL : L < 12) (h : wpX_makeInstance post (g0, g1, g2, g3, g4, g5, g6, g7, g8, cop, carg, xc, xAd, xOp, xIn, xCe, xMk, lAd, lIn, lA, lX, lSp, bef, awa, rd, wr) arg (lA L) (lX L) 1) : wpX_execute post (g0, g1, g2, g3, g4, g5, g6, g7, g8, cop, carg, xc, xAd, xOp, xIn, xCe, xMk, lAd, lIn, lA, lX, lSp, bef, awa, rd, wr) (nI L) (nI 2) arg ev := by
  have iL : vp_in (nI L) 12 := vp_in_nI hL (by omega)
  have cL : (nI L).toNatClampNeg = L := nI_clamp (by omega)
  unfold wpX_execute
  dsimp only
  rw [cL]
  exact br_f (by decide) (br_f (by decide) (br_f (by decide) (br_f (by decide) (br_t (by decide) ⟨iL, iL, h⟩))))
theorem sp_xE3 {post : St2 → Prop} {L : Nat} {arg ev : Int32} (hL : L < 12) (h : wpX_makeInstance post (g0, g1, g2, g3, g4, g5, g6, g7, g8, cop, carg, xc, xAd, xOp, xIn, xCe, xMk, lAd, lIn, lA, lX, lSp, bef, awa, rd, wr) arg (lA L) (lX L) 0) : wpX_execute post (g0, g1, g2, g3, g4, g5, g6, g7, g8, cop, carg, xc, xAd, xOp, xIn, xCe, xMk, lAd, lIn, lA, lX, lSp, bef, awa, rd, wr) (nI L) (nI 3) arg ev := by
  have iL : vp_in (nI L) 12 := vp_in_nI hL (by omega)
  have cL : (nI L).toNatClampNeg = L := nI_clamp (by omega)
  unfold wpX_execute
  dsimp only
  rw [cL]
  exact br_f (by decide) (br_f (by decide) (br_f (by decide) (br_f (by decide) (br_f (by decide) (br_t (by decide) ⟨iL, iL, h⟩)))))
theorem sp_xE4 {post : St2 → Prop} {L e : Nat} {arg : Int32} (hL : L < 12) (he : e < 16) (h : post (g0, g1, g2, g3, g4, g5, g6, g7, g8, cop, carg, xc, xAd, xOp, xIn, xCe, xMk, lAd, lIn, upd lA L (xc e), lX, lSp, bef, awa, rd, wr)) : wpX_execute post (g0, g1, g2, g3, g4, g5, g6, g7, g8, cop, carg, xc, xAd, xOp, xIn, xCe, xMk, lAd, lIn, lA, lX, lSp, bef, awa, rd, wr) (nI L) (nI 4) arg (nI e) := by
  have iL : vp_in (nI L) 12 := vp_in_nI hL (by omega)
  have cL : (nI L).toNatClampNeg = L := nI_clamp (by omega)
  have iE : vp_in (nI e) 16 := vp_in_nI he (by omega)
  have cE : (nI e).toNatClampNeg = e := nI_clamp (by omega)
  unfold wpX_execute
  dsimp only
  rw [cL, cE]
  exact br_f (by decide) (br_f (by decide) (br_f (by decide) (br_f (by decide) (br_f (by decide) (br_f (by decide) (br_t (by decide) ⟨iE, iL, nm_e h⟩))))))
theorem sp_xE5 {post : St2 → Prop} {L e : Nat} {arg : Int32} (hL : L < 12) (he : e < 16) (h : post (g0, g1, g2, g3, g4, g5, g6, g7, g8, cop, carg, upd xc e (lA L), xAd, xOp, xIn, xCe, xMk, lAd, lIn, lA, lX, lSp, bef, awa, rd, wr)) : wpX_execute post (g0, g1, g2, g3, g4, g5, g6, g7, g8, cop, carg, xc, xAd, xOp, xIn, xCe, xMk, lAd, lIn, lA, lX, lSp, bef, awa, rd, wr) (nI L) (nI 5) arg (nI e) := by
  have iL : vp_in (nI L) 12 := vp_in_nI hL (by omega)
  have cL : (nI L).toNatClampNeg = L := nI_clamp (by omega)
  have iE : vp_in (nI e) 16 := vp_in_nI he (by omega)
  have cE : (nI e).toNatClampNeg = e := nI_clamp (by omega)
  unfold wpX_execute
  dsimp only
  rw [cL, cE]
  exact br_f (by decide) (br_f (by decide) (br_f (by decide) (br_f (by decide) (br_f (by decide) (br_f (by decide) (br_f (by decide) (br_t (by decide) ⟨iL, iE, nm_e h⟩)))))))
theorem sp_xE6 {post : St2 → Prop} {L e : Nat} {arg : Int32} (hL : L < 12) (he : e < 16) (h : post (g0, g1, g2, g3, g4, g5, g6, g7, g8, cop, carg, xc, xAd, xOp, xIn, xCe, xMk, lAd, lIn, upd lA L (lA L + xc e), lX, lSp, bef, awa, rd, wr)) : wpX_execute post (g0, g1, g2, g3, g4, g5, g6, g7, g8, cop, carg, xc, xAd, xOp, xIn, xCe, xMk, lAd, lIn, lA, lX, lSp, bef, awa, rd, wr) (nI L) (nI 6) arg (nI e) := by
  have iL : vp_in (nI L) 12 := vp_in_nI hL (by omega)
  have cL : (nI L).toNatClampNeg = L := nI_clamp (by omega)
  have iE : vp_in (nI e) 16 := vp_in_nI he (by omega)
  have cE : (nI e).toNatClampNeg = e := nI_clamp (by omega)
  unfold wpX_execute
  dsimp only
  rw [cL, cE]
  exact br_f (by decide) (br_f (by decide) (br_f (by decide) (br_f (by decide) (br_f (by decide) (br_f (by decide) (br_f (by decide) (br_f (by decide) (br_t (by decide) ⟨iL, iE, iL, nm_e h⟩))))))))
theorem sp_xE7 {post : St2 → Prop} {L : Nat} {arg ev : Int32} (hL : L < 12) (h : post (g0, g1, g2, g3, g4, g5, g6, g7, g8, cop, carg, xc, xAd, xOp, xIn, xCe, xMk, lAd, lIn, upd lA L arg, lX, lSp, bef, awa, rd, wr)) : wpX_execute post (g0, g1, g2, g3, g4, g5, g6, g7, g8, cop, carg, xc, xAd, xOp, xIn, xCe, xMk, lAd, lIn, lA, lX, lSp, bef, awa, rd, wr) (nI L) (nI 7) arg ev := by
  have iL : vp_in (nI L) 12 := vp_in_nI hL (by omega)
  have cL : (nI L).toNatClampNeg = L := nI_clamp (by omega)
  unfold wpX_execute
  dsimp only
  rw [cL]
  exact br_f (by decide) (br_f (by decide) (br_f (by decide) (br_f (by decide) (br_f (by decide) (br_f (by decide) (br_f (by decide) (br_f (by decide) (br_f (by decide) (br_t (by decide) ⟨iL, nm_e h⟩)))))))))
theorem sp_xE8 {post : St2 → Prop} {L : Nat} {arg ev : Int32} (hL : L < 12) (h : post (g0, g1, g2, g3, g4, g5, g6, g7, g8, cop, carg, xc, xAd, xOp, xIn, xCe, xMk, lAd, lIn, upd lA L (lA L + arg), lX, lSp, bef, awa, rd, wr)) : wpX_execute post (g0, g1, g2, g3, g4, g5, g6, g7, g8, cop, carg, xc, xAd, xOp, xIn, xCe, xMk, lAd, lIn, lA, lX, lSp, bef, awa, rd, wr) (nI L) (nI 8) arg ev := by
  have iL : vp_in (nI L) 12 := vp_in_nI hL (by omega)
  have cL : (nI L).toNatClampNeg = L := nI_clamp (by omega)
  unfold wpX_execute
  dsimp only
  rw [cL]
  exact br_f (by decide) (br_f (by decide) (br_f (by decide) (br_f (by decide) (br_f (by decide) (br_f (by decide) (br_f (by decide) (br_f (by decide) (br_f (by decide) (br_f (by decide) (br_t (by decide) ⟨iL, iL, nm_e h⟩))))))))))
theorem sp_xE9 {post : St2 → Prop} {L : Nat} {arg ev : Int32} (hL : L < 12) (h : post (g0, g1, g2, g3, g4, g5, g6, g7, g8, cop, carg, xc, xAd, xOp, xIn, xCe, xMk, lAd, lIn, lA, upd lX L (lX L + arg), lSp, bef, awa, rd, wr)) : wpX_execute post (g0, g1, g2, g3, g4, g5, g6, g7, g8, cop, carg, xc, xAd, xOp, xIn, xCe, xMk, lAd, lIn, lA, lX, lSp, bef, awa, rd, wr) (nI L) (nI 9) arg ev := by
  have iL : vp_in (nI L) 12 := vp_in_nI hL (by omega)
  have cL : (nI L).toNatClampNeg = L := nI_clamp (by omega)
  unfold wpX_execute
  dsimp only
  rw [cL]
  exact br_f (by decide) (br_f (by decide) (br_f (by decide) (br_f (by decide) (br_f (by decide) (br_f (by decide) (br_f (by decide) (br_f (by decide) (br_f (by decide) (br_f (by decide) (br_f (by decide) (br_t (by decide) ⟨iL, iL, nm_e h⟩)))))))))))
theorem sp_xE11 {post : St2 → Prop} {L : Nat} {arg ev : Int32} (hL : L < 12) (h : post (g0, g1, g2, g3, g4, g5, g6, g7, g8, cop, carg, xc, xAd, xOp, xIn, xCe, xMk, upd lAd L arg, lIn, lA, lX, lSp, bef, awa, rd, wr)) : wpX_execute post (g0, g1, g2, g3, g4, g5, g6, g7, g8, cop, carg, xc, xAd, xOp, xIn, xCe, xMk, lAd, lIn, lA, lX, lSp, bef, awa, rd, wr) (nI L) (nI 11) arg ev := by
  have iL : vp_in (nI L) 12 := vp_in_nI hL (by omega)
  have cL : (nI L).toNatClampNeg = L := nI_clamp (by omega)
  unfold wpX_execute
  dsimp only
  rw [cL]
  exact br_f (by decide) (br_f (by decide) (br_f (by decide) (br_f (by decide) (br_f (by decide) (br_f (by decide) (br_f (by decide) (br_f (by decide) (br_f (by decide) (br_f (by decide) (br_f (by decide) (br_f (by decide) (br_f (by decide) (br_t (by decide) ⟨iL, nm_e h⟩)))))))))))))
theorem sp_xE10 {post : St2 → Prop} {L : Nat} {arg ev : Int32} (hL : L < 12) (h1 : lA L = 0 → post (g0, g1, g2, g3, g4, g5, g6, g7, g8, cop, carg, xc, xAd, xOp, xIn, xCe, xMk, upd lAd L arg, lIn, lA, lX, lSp, bef, awa, rd, wr)) (h0 : ¬ lA L = 0 → post (g0, g1, g2, g3, g4, g5, g6, g7, g8, cop, carg, xc, xAd, xOp, xIn, xCe, xMk, lAd, lIn, lA, lX, lSp, bef, awa, rd, wr)) : wpX_execute post (g0, g1, g2, g3, g4, g5, g6, g7, g8, cop, carg, xc, xAd, xOp, xIn, xCe, xMk, lAd, lIn, lA, lX, lSp, bef, awa, rd, wr) (nI L) (nI 10) arg ev := by
  have iL : vp_in (nI L) 12 := vp_in_nI hL (by omega)
  have cL : (nI L).toNatClampNeg = L := nI_clamp (by omega)
  unfold wpX_execute
  dsimp only
  rw [cL]
  exact br_f (by decide) (br_f (by decide) (br_f (by decide) (br_f (by decide) (br_f (by decide) (br_f (by decide) (br_f (by decide) (br_f (by decide) (br_f (by decide) (br_f (by decide) (br_f (by decide) (br_f (by decide) (br_t (by decide) ⟨iL, br_c (fun z => ⟨iL, nm_e (h1 z)⟩) h0⟩))))))))))))
theorem sp_xE0 {post : St2 → Prop} {L : Nat} {arg ev : Int32} (h : wpX_endInstance post (g0, g1, g2, g3, g4, g5, g6, g7, g8, cop, carg, xc, xAd, xOp, xIn, xCe, xMk, lAd, lIn, lA, lX, lSp, bef, awa, rd, wr) (nI L)) : wpX_execute post (g0, g1, g2, g3, g4, g5, g6, g7, g8, cop, carg, xc, xAd, xOp, xIn, xCe, xMk, lAd, lIn, lA, lX, lSp, bef, awa, rd, wr) (nI L) (nI 0) arg ev := by
  unfold wpX_execute
  dsimp only
  exact br_f (by decide) (br_f (by decide) (br_t (by decide) h))
end

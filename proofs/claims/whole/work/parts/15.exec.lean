/-! ===== execute, on both sides, an opcode each ===== -/
section
variable {g0 g1 g2 g3 g4 g5 g6 g7 g8 : Int32} {cop carg xc xAd xOp xIn xCe xMk lAd lIn lA lX lSp : Nat → Int32} {bef awa rd wr : Nat → Int64}
theorem sp_xE1 {post : SX → Prop} {L : Nat} {arg ev : Int32} (hL : L < 12) (h : post (g0, g1, g2, g3, g4, g5, g6, g7, g8, cop, carg, xc, xAd, xOp, xIn, xCe, xMk, lAd, lIn, lA, lX, lSp, bef, awa, rd, wr)) : wpX_execute post (g0, g1, g2, g3, g4, g5, g6, g7, g8, cop, carg, xc, xAd, xOp, xIn, xCe, xMk, lAd, lIn, lA, lX, lSp, bef, awa, rd, wr) (nI L) (nI 1) arg ev := by
  have iL : vp_in (nI L) 12 := vp_in_nI hL (by omega)
  have cL : (nI L).toNatClampNeg = L := nI_clamp (by omega)
  unfold wpX_execute
  dsimp only
  rw [cL]
  exact br_f (by decide) (br_f (by decide) (br_f (by decide) (br_t (by decide) h)))
theorem sp_xE2 {post : SX → Prop} {L : Nat} {arg ev : Int32} (hL : L < 12) (h : wpX_makeInstance post (g0, g1, g2, g3, g4, g5, g6, g7, g8, cop, carg, xc, xAd, xOp, xIn, xCe, xMk, lAd, lIn, lA, lX, lSp, bef, awa, rd, wr) arg (lA L) (lX L) 1) : wpX_execute post (g0, g1, g2, g3, g4, g5, g6, g7, g8, cop, carg, xc, xAd, xOp, xIn, xCe, xMk, lAd, lIn, lA, lX, lSp, bef, awa, rd, wr) (nI L) (nI 2) arg ev := by
  have iL : vp_in (nI L) 12 := vp_in_nI hL (by omega)
  have cL : (nI L).toNatClampNeg = L := nI_clamp (by omega)
  unfold wpX_execute
  dsimp only
  rw [cL]
  exact br_f (by decide) (br_f (by decide) (br_f (by decide) (br_f (by decide) (br_t (by decide) ⟨iL, iL, h⟩))))
theorem sp_xE3 {post : SX → Prop} {L : Nat} {arg ev : Int32} (hL : L < 12) (h : wpX_makeInstance post (g0, g1, g2, g3, g4, g5, g6, g7, g8, cop, carg, xc, xAd, xOp, xIn, xCe, xMk, lAd, lIn, lA, lX, lSp, bef, awa, rd, wr) arg (lA L) (lX L) 0) : wpX_execute post (g0, g1, g2, g3, g4, g5, g6, g7, g8, cop, carg, xc, xAd, xOp, xIn, xCe, xMk, lAd, lIn, lA, lX, lSp, bef, awa, rd, wr) (nI L) (nI 3) arg ev := by
  have iL : vp_in (nI L) 12 := vp_in_nI hL (by omega)
  have cL : (nI L).toNatClampNeg = L := nI_clamp (by omega)
  unfold wpX_execute
  dsimp only
  rw [cL]
  exact br_f (by decide) (br_f (by decide) (br_f (by decide) (br_f (by decide) (br_f (by decide) (br_t (by decide) ⟨iL, iL, h⟩)))))
theorem sp_xE4 {post : SX → Prop} {L e : Nat} {arg : Int32} (hL : L < 12) (he : e < 16) (h : post (g0, g1, g2, g3, g4, g5, g6, g7, g8, cop, carg, xc, xAd, xOp, xIn, xCe, xMk, lAd, lIn, upd lA L (xc e), lX, lSp, bef, awa, rd, wr)) : wpX_execute post (g0, g1, g2, g3, g4, g5, g6, g7, g8, cop, carg, xc, xAd, xOp, xIn, xCe, xMk, lAd, lIn, lA, lX, lSp, bef, awa, rd, wr) (nI L) (nI 4) arg (nI e) := by
  have iL : vp_in (nI L) 12 := vp_in_nI hL (by omega)
  have cL : (nI L).toNatClampNeg = L := nI_clamp (by omega)
  have iE : vp_in (nI e) 16 := vp_in_nI he (by omega)
  have cE : (nI e).toNatClampNeg = e := nI_clamp (by omega)
  unfold wpX_execute
  dsimp only
  rw [cL, cE]
  exact br_f (by decide) (br_f (by decide) (br_f (by decide) (br_f (by decide) (br_f (by decide) (br_f (by decide) (br_t (by decide) ⟨iE, iL, nm_e h⟩))))))
theorem sp_xE5 {post : SX → Prop} {L e : Nat} {arg : Int32} (hL : L < 12) (he : e < 16) (h : post (g0, g1, g2, g3, g4, g5, g6, g7, g8, cop, carg, upd xc e (lA L), xAd, xOp, xIn, xCe, xMk, lAd, lIn, lA, lX, lSp, bef, awa, rd, wr)) : wpX_execute post (g0, g1, g2, g3, g4, g5, g6, g7, g8, cop, carg, xc, xAd, xOp, xIn, xCe, xMk, lAd, lIn, lA, lX, lSp, bef, awa, rd, wr) (nI L) (nI 5) arg (nI e) := by
  have iL : vp_in (nI L) 12 := vp_in_nI hL (by omega)
  have cL : (nI L).toNatClampNeg = L := nI_clamp (by omega)
  have iE : vp_in (nI e) 16 := vp_in_nI he (by omega)
  have cE : (nI e).toNatClampNeg = e := nI_clamp (by omega)
  unfold wpX_execute
  dsimp only
  rw [cL, cE]
  exact br_f (by decide) (br_f (by decide) (br_f (by decide) (br_f (by decide) (br_f (by decide) (br_f (by decide) (br_f (by decide) (br_t (by decide) ⟨iL, iE, nm_e h⟩)))))))
theorem sp_xE6 {post : SX → Prop} {L e : Nat} {arg : Int32} (hL : L < 12) (he : e < 16) (h : post (g0, g1, g2, g3, g4, g5, g6, g7, g8, cop, carg, xc, xAd, xOp, xIn, xCe, xMk, lAd, lIn, upd lA L (lA L + xc e), lX, lSp, bef, awa, rd, wr)) : wpX_execute post (g0, g1, g2, g3, g4, g5, g6, g7, g8, cop, carg, xc, xAd, xOp, xIn, xCe, xMk, lAd, lIn, lA, lX, lSp, bef, awa, rd, wr) (nI L) (nI 6) arg (nI e) := by
  have iL : vp_in (nI L) 12 := vp_in_nI hL (by omega)
  have cL : (nI L).toNatClampNeg = L := nI_clamp (by omega)
  have iE : vp_in (nI e) 16 := vp_in_nI he (by omega)
  have cE : (nI e).toNatClampNeg = e := nI_clamp (by omega)
  unfold wpX_execute
  dsimp only
  rw [cL, cE]
  exact br_f (by decide) (br_f (by decide) (br_f (by decide) (br_f (by decide) (br_f (by decide) (br_f (by decide) (br_f (by decide) (br_f (by decide) (br_t (by decide) ⟨iL, iE, iL, nm_e h⟩))))))))
theorem sp_xE7 {post : SX → Prop} {L : Nat} {arg ev : Int32} (hL : L < 12) (h : post (g0, g1, g2, g3, g4, g5, g6, g7, g8, cop, carg, xc, xAd, xOp, xIn, xCe, xMk, lAd, lIn, upd lA L arg, lX, lSp, bef, awa, rd, wr)) : wpX_execute post (g0, g1, g2, g3, g4, g5, g6, g7, g8, cop, carg, xc, xAd, xOp, xIn, xCe, xMk, lAd, lIn, lA, lX, lSp, bef, awa, rd, wr) (nI L) (nI 7) arg ev := by
  have iL : vp_in (nI L) 12 := vp_in_nI hL (by omega)
  have cL : (nI L).toNatClampNeg = L := nI_clamp (by omega)
  unfold wpX_execute
  dsimp only
  rw [cL]
  exact br_f (by decide) (br_f (by decide) (br_f (by decide) (br_f (by decide) (br_f (by decide) (br_f (by decide) (br_f (by decide) (br_f (by decide) (br_f (by decide) (br_t (by decide) ⟨iL, nm_e h⟩)))))))))
theorem sp_xE8 {post : SX → Prop} {L : Nat} {arg ev : Int32} (hL : L < 12) (h : post (g0, g1, g2, g3, g4, g5, g6, g7, g8, cop, carg, xc, xAd, xOp, xIn, xCe, xMk, lAd, lIn, upd lA L (lA L + arg), lX, lSp, bef, awa, rd, wr)) : wpX_execute post (g0, g1, g2, g3, g4, g5, g6, g7, g8, cop, carg, xc, xAd, xOp, xIn, xCe, xMk, lAd, lIn, lA, lX, lSp, bef, awa, rd, wr) (nI L) (nI 8) arg ev := by
  have iL : vp_in (nI L) 12 := vp_in_nI hL (by omega)
  have cL : (nI L).toNatClampNeg = L := nI_clamp (by omega)
  unfold wpX_execute
  dsimp only
  rw [cL]
  exact br_f (by decide) (br_f (by decide) (br_f (by decide) (br_f (by decide) (br_f (by decide) (br_f (by decide) (br_f (by decide) (br_f (by decide) (br_f (by decide) (br_f (by decide) (br_t (by decide) ⟨iL, iL, nm_e h⟩))))))))))
theorem sp_xE9 {post : SX → Prop} {L : Nat} {arg ev : Int32} (hL : L < 12) (h : post (g0, g1, g2, g3, g4, g5, g6, g7, g8, cop, carg, xc, xAd, xOp, xIn, xCe, xMk, lAd, lIn, lA, upd lX L (lX L + arg), lSp, bef, awa, rd, wr)) : wpX_execute post (g0, g1, g2, g3, g4, g5, g6, g7, g8, cop, carg, xc, xAd, xOp, xIn, xCe, xMk, lAd, lIn, lA, lX, lSp, bef, awa, rd, wr) (nI L) (nI 9) arg ev := by
  have iL : vp_in (nI L) 12 := vp_in_nI hL (by omega)
  have cL : (nI L).toNatClampNeg = L := nI_clamp (by omega)
  unfold wpX_execute
  dsimp only
  rw [cL]
  exact br_f (by decide) (br_f (by decide) (br_f (by decide) (br_f (by decide) (br_f (by decide) (br_f (by decide) (br_f (by decide) (br_f (by decide) (br_f (by decide) (br_f (by decide) (br_f (by decide) (br_t (by decide) ⟨iL, iL, nm_e h⟩)))))))))))
theorem sp_xE11 {post : SX → Prop} {L : Nat} {arg ev : Int32} (hL : L < 12) (h : post (g0, g1, g2, g3, g4, g5, g6, g7, g8, cop, carg, xc, xAd, xOp, xIn, xCe, xMk, upd lAd L arg, lIn, lA, lX, lSp, bef, awa, rd, wr)) : wpX_execute post (g0, g1, g2, g3, g4, g5, g6, g7, g8, cop, carg, xc, xAd, xOp, xIn, xCe, xMk, lAd, lIn, lA, lX, lSp, bef, awa, rd, wr) (nI L) (nI 11) arg ev := by
  have iL : vp_in (nI L) 12 := vp_in_nI hL (by omega)
  have cL : (nI L).toNatClampNeg = L := nI_clamp (by omega)
  unfold wpX_execute
  dsimp only
  rw [cL]
  exact br_f (by decide) (br_f (by decide) (br_f (by decide) (br_f (by decide) (br_f (by decide) (br_f (by decide) (br_f (by decide) (br_f (by decide) (br_f (by decide) (br_f (by decide) (br_f (by decide) (br_f (by decide) (br_f (by decide) (br_t (by decide) ⟨iL, nm_e h⟩)))))))))))))
theorem sp_xE10 {post : SX → Prop} {L : Nat} {arg ev : Int32} (hL : L < 12) (h1 : lA L = 0 → post (g0, g1, g2, g3, g4, g5, g6, g7, g8, cop, carg, xc, xAd, xOp, xIn, xCe, xMk, upd lAd L arg, lIn, lA, lX, lSp, bef, awa, rd, wr)) (h0 : ¬ lA L = 0 → post (g0, g1, g2, g3, g4, g5, g6, g7, g8, cop, carg, xc, xAd, xOp, xIn, xCe, xMk, lAd, lIn, lA, lX, lSp, bef, awa, rd, wr)) : wpX_execute post (g0, g1, g2, g3, g4, g5, g6, g7, g8, cop, carg, xc, xAd, xOp, xIn, xCe, xMk, lAd, lIn, lA, lX, lSp, bef, awa, rd, wr) (nI L) (nI 10) arg ev := by
  have iL : vp_in (nI L) 12 := vp_in_nI hL (by omega)
  have cL : (nI L).toNatClampNeg = L := nI_clamp (by omega)
  unfold wpX_execute
  dsimp only
  rw [cL]
  exact br_f (by decide) (br_f (by decide) (br_f (by decide) (br_f (by decide) (br_f (by decide) (br_f (by decide) (br_f (by decide) (br_f (by decide) (br_f (by decide) (br_f (by decide) (br_f (by decide) (br_f (by decide) (br_t (by decide) ⟨iL, br_c (fun z => ⟨iL, nm_e (h1 z)⟩) h0⟩))))))))))))
theorem sp_xE0 {post : SX → Prop} {L : Nat} {arg ev : Int32} (h : wpX_endInstance post (g0, g1, g2, g3, g4, g5, g6, g7, g8, cop, carg, xc, xAd, xOp, xIn, xCe, xMk, lAd, lIn, lA, lX, lSp, bef, awa, rd, wr) (nI L)) : wpX_execute post (g0, g1, g2, g3, g4, g5, g6, g7, g8, cop, carg, xc, xAd, xOp, xIn, xCe, xMk, lAd, lIn, lA, lX, lSp, bef, awa, rd, wr) (nI L) (nI 0) arg ev := by
  unfold wpX_execute
  dsimp only
  exact br_f (by decide) (br_f (by decide) (br_t (by decide) h))
end
section
variable {g0 g1 g2 g3 g4 g5 g6 g7 g8 : Int32} {cop carg yc stk nxt acc idx mkr yAd yOp yIn yCe lds : Nat → Int32}
theorem sp_yE1 {post : SY → Prop} {i e t p : Nat} {arg ev : Int32} (hi : i < 32) (he : e < 16) (ht : t < 129) (h : post (g0, g1, g2, g3, g4, g5, nI (t + 1), g7, g8, cop, carg, yc, stk, upd nxt i (nI (p + 1)), acc, idx, mkr, yAd, yOp, yIn, upd yCe t ev, lds)) : wY_execute_90 post (nI i) (nI p) (nI 1) arg (nI e) ev (nI t) (g0) (g1) (g2) (g3) (g4) (g5) (nI t) (g7) (g8) (cop) (carg) (yc) (stk) (nxt) (acc) (idx) (mkr) (yAd) (yOp) (yIn) (yCe) (lds) := by
  have iI : vp_in (nI i) 32 := vp_in_nI hi (by omega)
  have cI : (nI i).toNatClampNeg = i := nI_clamp (by omega)
  have iT : vp_in (nI t) 129 := vp_in_nI ht (by omega)
  have cT : (nI t).toNatClampNeg = t := nI_clamp (by omega)
  have iE : vp_in (nI e) 16 := vp_in_nI he (by omega)
  have cE : (nI e).toNatClampNeg = e := nI_clamp (by omega)
  unfold wY_execute_90
  rw [cT, cI, cE, nI_1, nI_1]
  exact ⟨iT, nm_e ⟨iI, nm_e (br_f (by decide) (br_f (by decide) (br_f (by decide) (br_f (by decide) (br_f (by decide) (br_f (by decide) (br_f (by decide) (br_f (by decide) (br_f (by decide) (br_f (by decide) (br_f (by decide) (nm_e h))))))))))))⟩⟩
theorem sp_yE4 {post : SY → Prop} {i e t p : Nat} {arg ev : Int32} (hi : i < 32) (he : e < 16) (ht : t < 129) (h : post (g0, g1, g2, g3, g4, g5, nI (t + 1), g7, g8, cop, carg, yc, stk, upd nxt i (nI (p + 1)), upd acc i (yc e), idx, mkr, yAd, yOp, yIn, upd yCe t ev, lds)) : wY_execute_90 post (nI i) (nI p) (nI 4) arg (nI e) ev (nI t) (g0) (g1) (g2) (g3) (g4) (g5) (nI t) (g7) (g8) (cop) (carg) (yc) (stk) (nxt) (acc) (idx) (mkr) (yAd) (yOp) (yIn) (yCe) (lds) := by
  have iI : vp_in (nI i) 32 := vp_in_nI hi (by omega)
  have cI : (nI i).toNatClampNeg = i := nI_clamp (by omega)
  have iT : vp_in (nI t) 129 := vp_in_nI ht (by omega)
  have cT : (nI t).toNatClampNeg = t := nI_clamp (by omega)
  have iE : vp_in (nI e) 16 := vp_in_nI he (by omega)
  have cE : (nI e).toNatClampNeg = e := nI_clamp (by omega)
  unfold wY_execute_90
  rw [cT, cI, cE, nI_1, nI_1]
  exact ⟨iT, nm_e ⟨iI, nm_e (br_f (by decide) (br_f (by decide) (br_f (by decide) (br_t (by decide) ⟨iE, iI, nm_e (nm_e h)⟩))))⟩⟩
theorem sp_yE5 {post : SY → Prop} {i e t p : Nat} {arg ev : Int32} (hi : i < 32) (he : e < 16) (ht : t < 129) (h : post (g0, g1, g2, g3, g4, g5, nI (t + 1), g7, g8, cop, carg, upd yc e (acc i), stk, upd nxt i (nI (p + 1)), acc, idx, mkr, yAd, yOp, yIn, upd yCe t ev, lds)) : wY_execute_90 post (nI i) (nI p) (nI 5) arg (nI e) ev (nI t) (g0) (g1) (g2) (g3) (g4) (g5) (nI t) (g7) (g8) (cop) (carg) (yc) (stk) (nxt) (acc) (idx) (mkr) (yAd) (yOp) (yIn) (yCe) (lds) := by
  have iI : vp_in (nI i) 32 := vp_in_nI hi (by omega)
  have cI : (nI i).toNatClampNeg = i := nI_clamp (by omega)
  have iT : vp_in (nI t) 129 := vp_in_nI ht (by omega)
  have cT : (nI t).toNatClampNeg = t := nI_clamp (by omega)
  have iE : vp_in (nI e) 16 := vp_in_nI he (by omega)
  have cE : (nI e).toNatClampNeg = e := nI_clamp (by omega)
  unfold wY_execute_90
  rw [cT, cI, cE, nI_1, nI_1]
  exact ⟨iT, nm_e ⟨iI, nm_e (br_f (by decide) (br_f (by decide) (br_f (by decide) (br_f (by decide) (br_t (by decide) ⟨iI, iE, nm_e (nm_e h)⟩)))))⟩⟩
theorem sp_yE6 {post : SY → Prop} {i e t p : Nat} {arg ev : Int32} (hi : i < 32) (he : e < 16) (ht : t < 129) (h : post (g0, g1, g2, g3, g4, g5, nI (t + 1), g7, g8, cop, carg, yc, stk, upd nxt i (nI (p + 1)), upd acc i (acc i + yc e), idx, mkr, yAd, yOp, yIn, upd yCe t ev, lds)) : wY_execute_90 post (nI i) (nI p) (nI 6) arg (nI e) ev (nI t) (g0) (g1) (g2) (g3) (g4) (g5) (nI t) (g7) (g8) (cop) (carg) (yc) (stk) (nxt) (acc) (idx) (mkr) (yAd) (yOp) (yIn) (yCe) (lds) := by
  have iI : vp_in (nI i) 32 := vp_in_nI hi (by omega)
  have cI : (nI i).toNatClampNeg = i := nI_clamp (by omega)
  have iT : vp_in (nI t) 129 := vp_in_nI ht (by omega)
  have cT : (nI t).toNatClampNeg = t := nI_clamp (by omega)
  have iE : vp_in (nI e) 16 := vp_in_nI he (by omega)
  have cE : (nI e).toNatClampNeg = e := nI_clamp (by omega)
  unfold wY_execute_90
  rw [cT, cI, cE, nI_1, nI_1]
  exact ⟨iT, nm_e ⟨iI, nm_e (br_f (by decide) (br_f (by decide) (br_f (by decide) (br_f (by decide) (br_f (by decide) (br_t (by decide) ⟨iI, iE, iI, nm_e (nm_e h)⟩))))))⟩⟩
theorem sp_yE7 {post : SY → Prop} {i e t p : Nat} {arg ev : Int32} (hi : i < 32) (he : e < 16) (ht : t < 129) (h : post (g0, g1, g2, g3, g4, g5, nI (t + 1), g7, g8, cop, carg, yc, stk, upd nxt i (nI (p + 1)), upd acc i arg, idx, mkr, yAd, yOp, yIn, upd yCe t ev, lds)) : wY_execute_90 post (nI i) (nI p) (nI 7) arg (nI e) ev (nI t) (g0) (g1) (g2) (g3) (g4) (g5) (nI t) (g7) (g8) (cop) (carg) (yc) (stk) (nxt) (acc) (idx) (mkr) (yAd) (yOp) (yIn) (yCe) (lds) := by
  have iI : vp_in (nI i) 32 := vp_in_nI hi (by omega)
  have cI : (nI i).toNatClampNeg = i := nI_clamp (by omega)
  have iT : vp_in (nI t) 129 := vp_in_nI ht (by omega)
  have cT : (nI t).toNatClampNeg = t := nI_clamp (by omega)
  have iE : vp_in (nI e) 16 := vp_in_nI he (by omega)
  have cE : (nI e).toNatClampNeg = e := nI_clamp (by omega)
  unfold wY_execute_90
  rw [cT, cI, cE, nI_1, nI_1]
  exact ⟨iT, nm_e ⟨iI, nm_e (br_f (by decide) (br_f (by decide) (br_f (by decide) (br_f (by decide) (br_f (by decide) (br_f (by decide) (br_t (by decide) ⟨iI, nm_e (nm_e h)⟩)))))))⟩⟩
theorem sp_yE8 {post : SY → Prop} {i e t p : Nat} {arg ev : Int32} (hi : i < 32) (he : e < 16) (ht : t < 129) (h : post (g0, g1, g2, g3, g4, g5, nI (t + 1), g7, g8, cop, carg, yc, stk, upd nxt i (nI (p + 1)), upd acc i (acc i + arg), idx, mkr, yAd, yOp, yIn, upd yCe t ev, lds)) : wY_execute_90 post (nI i) (nI p) (nI 8) arg (nI e) ev (nI t) (g0) (g1) (g2) (g3) (g4) (g5) (nI t) (g7) (g8) (cop) (carg) (yc) (stk) (nxt) (acc) (idx) (mkr) (yAd) (yOp) (yIn) (yCe) (lds) := by
  have iI : vp_in (nI i) 32 := vp_in_nI hi (by omega)
  have cI : (nI i).toNatClampNeg = i := nI_clamp (by omega)
  have iT : vp_in (nI t) 129 := vp_in_nI ht (by omega)
  have cT : (nI t).toNatClampNeg = t := nI_clamp (by omega)
  have iE : vp_in (nI e) 16 := vp_in_nI he (by omega)
  have cE : (nI e).toNatClampNeg = e := nI_clamp (by omega)
  unfold wY_execute_90
  rw [cT, cI, cE, nI_1, nI_1]
  exact ⟨iT, nm_e ⟨iI, nm_e (br_f (by decide) (br_f (by decide) (br_f (by decide) (br_f (by decide) (br_f (by decide) (br_f (by decide) (br_f (by decide) (br_t (by decide) ⟨iI, iI, nm_e (nm_e h)⟩))))))))⟩⟩
theorem sp_yE9 {post : SY → Prop} {i e t p : Nat} {arg ev : Int32} (hi : i < 32) (he : e < 16) (ht : t < 129) (h : post (g0, g1, g2, g3, g4, g5, nI (t + 1), g7, g8, cop, carg, yc, stk, upd nxt i (nI (p + 1)), acc, upd idx i (idx i + arg), mkr, yAd, yOp, yIn, upd yCe t ev, lds)) : wY_execute_90 post (nI i) (nI p) (nI 9) arg (nI e) ev (nI t) (g0) (g1) (g2) (g3) (g4) (g5) (nI t) (g7) (g8) (cop) (carg) (yc) (stk) (nxt) (acc) (idx) (mkr) (yAd) (yOp) (yIn) (yCe) (lds) := by
  have iI : vp_in (nI i) 32 := vp_in_nI hi (by omega)
  have cI : (nI i).toNatClampNeg = i := nI_clamp (by omega)
  have iT : vp_in (nI t) 129 := vp_in_nI ht (by omega)
  have cT : (nI t).toNatClampNeg = t := nI_clamp (by omega)
  have iE : vp_in (nI e) 16 := vp_in_nI he (by omega)
  have cE : (nI e).toNatClampNeg = e := nI_clamp (by omega)
  unfold wY_execute_90
  rw [cT, cI, cE, nI_1, nI_1]
  exact ⟨iT, nm_e ⟨iI, nm_e (br_f (by decide) (br_f (by decide) (br_f (by decide) (br_f (by decide) (br_f (by decide) (br_f (by decide) (br_f (by decide) (br_f (by decide) (br_t (by decide) ⟨iI, iI, nm_e (nm_e h)⟩)))))))))⟩⟩
theorem sp_y414 {post : SY → Prop} {i t : Nat} {arg : Int32} (hi : i < 32) (h : post (g0, g1, g2, g3, g4, g5, nI (t + 1), g7, g8, cop, carg, yc, stk, upd nxt i arg, acc, idx, mkr, yAd, yOp, yIn, yCe, lds)) : wY_execute_414 post (nI i) arg (g0) (g1) (g2) (g3) (g4) (g5) (nI t) (g7) (g8) (cop) (carg) (yc) (stk) (nxt) (acc) (idx) (mkr) (yAd) (yOp) (yIn) (yCe) (lds) := by
  have iI : vp_in (nI i) 32 := vp_in_nI hi (by omega)
  have cI : (nI i).toNatClampNeg = i := nI_clamp (by omega)
  unfold wY_execute_414
  rw [cI, nI_1]
  exact ⟨iI, nm_e (nm_e h)⟩
theorem sp_yE11 {post : SY → Prop} {i e t p : Nat} {arg ev : Int32} (hi : i < 32) (he : e < 16) (ht : t < 129) (h : post (g0, g1, g2, g3, g4, g5, nI (t + 1), g7, g8, cop, carg, yc, stk, upd (upd nxt i (nI (p + 1))) i arg, acc, idx, mkr, yAd, yOp, yIn, upd yCe t ev, lds)) : wY_execute_90 post (nI i) (nI p) (nI 11) arg (nI e) ev (nI t) (g0) (g1) (g2) (g3) (g4) (g5) (nI t) (g7) (g8) (cop) (carg) (yc) (stk) (nxt) (acc) (idx) (mkr) (yAd) (yOp) (yIn) (yCe) (lds) := by
  have iI : vp_in (nI i) 32 := vp_in_nI hi (by omega)
  have cI : (nI i).toNatClampNeg = i := nI_clamp (by omega)
  have iT : vp_in (nI t) 129 := vp_in_nI ht (by omega)
  have cT : (nI t).toNatClampNeg = t := nI_clamp (by omega)
  have iE : vp_in (nI e) 16 := vp_in_nI he (by omega)
  have cE : (nI e).toNatClampNeg = e := nI_clamp (by omega)
  unfold wY_execute_90
  rw [cT, cI, cE, nI_1, nI_1]
  exact ⟨iT, nm_e ⟨iI, nm_e (br_f (by decide) (br_f (by decide) (br_f (by decide) (br_f (by decide) (br_f (by decide) (br_f (by decide) (br_f (by decide) (br_f (by decide) (br_f (by decide) (br_t (by decide) (sp_y414 hi h)))))))))))⟩⟩
theorem sp_yE10 {post : SY → Prop} {i e t p : Nat} {arg ev : Int32} (hi : i < 32) (he : e < 16) (ht : t < 129) (h1 : acc i = 0 → post (g0, g1, g2, g3, g4, g5, nI (t + 1), g7, g8, cop, carg, yc, stk, upd (upd nxt i (nI (p + 1))) i arg, acc, idx, mkr, yAd, yOp, yIn, upd yCe t ev, lds)) (h0 : ¬ acc i = 0 → post (g0, g1, g2, g3, g4, g5, nI (t + 1), g7, g8, cop, carg, yc, stk, upd nxt i (nI (p + 1)), acc, idx, mkr, yAd, yOp, yIn, upd yCe t ev, lds)) : wY_execute_90 post (nI i) (nI p) (nI 10) arg (nI e) ev (nI t) (g0) (g1) (g2) (g3) (g4) (g5) (nI t) (g7) (g8) (cop) (carg) (yc) (stk) (nxt) (acc) (idx) (mkr) (yAd) (yOp) (yIn) (yCe) (lds) := by
  have iI : vp_in (nI i) 32 := vp_in_nI hi (by omega)
  have cI : (nI i).toNatClampNeg = i := nI_clamp (by omega)
  have iT : vp_in (nI t) 129 := vp_in_nI ht (by omega)
  have cT : (nI t).toNatClampNeg = t := nI_clamp (by omega)
  have iE : vp_in (nI e) 16 := vp_in_nI he (by omega)
  have cE : (nI e).toNatClampNeg = e := nI_clamp (by omega)
  unfold wY_execute_90
  rw [cT, cI, cE, nI_1, nI_1]
  exact ⟨iT, nm_e ⟨iI, nm_e (br_f (by decide) (br_f (by decide) (br_f (by decide) (br_f (by decide) (br_f (by decide) (br_f (by decide) (br_f (by decide) (br_f (by decide) (br_f (by decide) (br_f (by decide) (br_t (by decide) ⟨iI, br_c (fun z => sp_y414 hi (h1 z)) (fun z => nm_e (h0 z))⟩)))))))))))⟩⟩
theorem sp_y179 {post : SY → Prop} {i t d md : Nat} {arg : Int32} (hi : i < 32) (hd : d < 12) (hm : md < 32) (h : post (g0, g1, g2, g3, g4, g5, nI (t + 1), nI (d + 1), nI (md + 1), cop, carg, yc, upd stk d (nI md), upd nxt md arg, upd acc md (acc i), upd idx md (idx i), upd mkr md (nI t), yAd, yOp, yIn, yCe, lds)) : wY_execute_179 post (nI i) arg (g0) (g1) (g2) (g3) (g4) (g5) (nI t) (nI d) (nI md) (cop) (carg) (yc) (stk) (nxt) (acc) (idx) (mkr) (yAd) (yOp) (yIn) (yCe) (lds) := by
  have iI : vp_in (nI i) 32 := vp_in_nI hi (by omega)
  have cI : (nI i).toNatClampNeg = i := nI_clamp (by omega)
  have iD : vp_in (nI d) 12 := vp_in_nI hd (by omega)
  have cD : (nI d).toNatClampNeg = d := nI_clamp (by omega)
  have iM : vp_in (nI md) 32 := vp_in_nI hm (by omega)
  have cM : (nI md).toNatClampNeg = md := nI_clamp (by omega)
  unfold wY_execute_179
  rw [cI, cD, cM]
  exact ⟨iM, nm_e ⟨iI, iM, nm_e ⟨iI, iM, nm_e ⟨iM, nm_e ⟨iD, nm_e (nm_r (nI_1 d) (nm_r (nI_1 md) (nm_r (nI_1 t) h)))⟩⟩⟩⟩⟩
theorem sp_yE2 {post : SY → Prop} {i e t p : Nat} {arg ev : Int32} (hi : i < 32) (he : e < 16) (ht : t < 129) {d md : Nat} (hd : d < 12) (hm : md < 32) (h : post (g0, g1, g2, g3, g4, g5, nI (t + 1), nI (d + 1), nI (md + 1), cop, carg, yc, upd stk d (nI md), upd (upd nxt i (nI (p + 1))) md arg, upd acc md (acc i), upd idx md (idx i), upd mkr md (nI t), yAd, yOp, yIn, upd yCe t ev, lds)) : wY_execute_90 post (nI i) (nI p) (nI 2) arg (nI e) ev (nI t) (g0) (g1) (g2) (g3) (g4) (g5) (nI t) (nI d) (nI md) (cop) (carg) (yc) (stk) (nxt) (acc) (idx) (mkr) (yAd) (yOp) (yIn) (yCe) (lds) := by
  have iI : vp_in (nI i) 32 := vp_in_nI hi (by omega)
  have cI : (nI i).toNatClampNeg = i := nI_clamp (by omega)
  have iT : vp_in (nI t) 129 := vp_in_nI ht (by omega)
  have cT : (nI t).toNatClampNeg = t := nI_clamp (by omega)
  have iE : vp_in (nI e) 16 := vp_in_nI he (by omega)
  have cE : (nI e).toNatClampNeg = e := nI_clamp (by omega)
  unfold wY_execute_90
  rw [cT, cI, nI_1 p]
  exact ⟨iT, nm_e ⟨iI, nm_e (br_f (by decide) (br_t (by decide) (sp_y179 hi hd hm h)))⟩⟩
theorem sp_yE3 {post : SY → Prop} {i e t p : Nat} {arg ev : Int32} (hi : i < 32) (he : e < 16) (ht : t < 129) {d md : Nat} (hd : d < 12) (hm : md < 32) (h : post (g0, g1, g2, g3, g4, g5, nI (t + 1), nI (d + 1), nI (md + 1), cop, carg, yc, upd stk d (nI md), upd (upd nxt i (nI (p + 1))) md arg, upd acc md (acc i), upd idx md (idx i), upd mkr md (nI t), yAd, yOp, yIn, upd yCe t ev, lds)) : wY_execute_90 post (nI i) (nI p) (nI 3) arg (nI e) ev (nI t) (g0) (g1) (g2) (g3) (g4) (g5) (nI t) (nI d) (nI md) (cop) (carg) (yc) (stk) (nxt) (acc) (idx) (mkr) (yAd) (yOp) (yIn) (yCe) (lds) := by
  have iI : vp_in (nI i) 32 := vp_in_nI hi (by omega)
  have cI : (nI i).toNatClampNeg = i := nI_clamp (by omega)
  have iT : vp_in (nI t) 129 := vp_in_nI ht (by omega)
  have cT : (nI t).toNatClampNeg = t := nI_clamp (by omega)
  have iE : vp_in (nI e) 16 := vp_in_nI he (by omega)
  have cE : (nI e).toNatClampNeg = e := nI_clamp (by omega)
  unfold wY_execute_90
  rw [cT, cI, nI_1 p]
  exact ⟨iT, nm_e ⟨iI, nm_e (br_f (by decide) (br_f (by decide) (br_t (by decide) (sp_y179 hi hd hm h))))⟩⟩
theorem sp_yE0r {post : SY → Prop} {i e t p : Nat} {arg ev : Int32} (hi : i < 32) (he : e < 16) (ht : t < 129) (h : post (g0, g1, g2, g3, 2, g5, nI (t + 1), nI 0, g8, cop, carg, yc, stk, upd nxt i (nI (p + 1)), acc, idx, mkr, yAd, yOp, yIn, upd yCe t ev, lds)) : wY_execute_90 post (nI i) (nI p) (nI 0) arg (nI e) ev (nI t) (g0) (g1) (g2) (g3) (g4) (g5) (nI t) (nI 1) (g8) (cop) (carg) (yc) (stk) (nxt) (acc) (idx) (mkr) (yAd) (yOp) (yIn) (yCe) (lds) := by
  have iI : vp_in (nI i) 32 := vp_in_nI hi (by omega)
  have cI : (nI i).toNatClampNeg = i := nI_clamp (by omega)
  have iT : vp_in (nI t) 129 := vp_in_nI ht (by omega)
  have cT : (nI t).toNatClampNeg = t := nI_clamp (by omega)
  have iE : vp_in (nI e) 16 := vp_in_nI he (by omega)
  have cE : (nI e).toNatClampNeg = e := nI_clamp (by omega)
  unfold wY_execute_90
  rw [cT, cI, nI_1 p]
  exact ⟨iT, nm_e ⟨iI, nm_e (br_t (by decide) (nm_r (nI_pred 0) (br_t rfl (nm_r (nI_1 t) h))))⟩⟩
theorem sp_yE0 {post : SY → Prop} {i e t p : Nat} {arg ev : Int32} (hi : i < 32) (he : e < 16) (ht : t < 129) {d a b s : Nat} (hd : d + 1 < 12) (ha : a < 129) (hs : s < 32) (ea : mkr i = nI a) (eb : yOp a = nI b) (hb : b ≤ 11) (es : stk d = nI s)
    (h3 : b = 3 → post (g0, g1, g2, g3, g4, g5, nI (t + 1), nI (d + 1), g8, cop, carg, yc, stk, upd nxt i (nI (p + 1)), upd acc s (acc i), idx, mkr, yAd, yOp, yIn, upd yCe t ev, lds)) (h2 : ¬ b = 3 → post (g0, g1, g2, g3, g4, g5, nI (t + 1), nI (d + 1), g8, cop, carg, yc, stk, upd nxt i (nI (p + 1)), acc, idx, mkr, yAd, yOp, yIn, upd yCe t ev, lds)) : wY_execute_90 post (nI i) (nI p) (nI 0) arg (nI e) ev (nI t) (g0) (g1) (g2) (g3) (g4) (g5) (nI t) (nI (d + 2)) (g8) (cop) (carg) (yc) (stk) (nxt) (acc) (idx) (mkr) (yAd) (yOp) (yIn) (yCe) (lds) := by
  have iI : vp_in (nI i) 32 := vp_in_nI hi (by omega)
  have cI : (nI i).toNatClampNeg = i := nI_clamp (by omega)
  have iT : vp_in (nI t) 129 := vp_in_nI ht (by omega)
  have cT : (nI t).toNatClampNeg = t := nI_clamp (by omega)
  have iE : vp_in (nI e) 16 := vp_in_nI he (by omega)
  have cE : (nI e).toNatClampNeg = e := nI_clamp (by omega)
  have iA : vp_in (nI a) 129 := vp_in_nI ha (by omega)
  have cA : (nI a).toNatClampNeg = a := nI_clamp (by omega)
  have iS : vp_in (nI s) 32 := vp_in_nI hs (by omega)
  have cS : (nI s).toNatClampNeg = s := nI_clamp (by omega)
  have iD : vp_in (nI d) 12 := vp_in_nI (by omega) (by omega)
  have cD : (nI d).toNatClampNeg = d := nI_clamp (by omega)
  unfold wY_execute_90
  rw [cT, cI, nI_1 p, nI_1 t]
  refine ⟨iT, nm_e ⟨iI, nm_e (br_t (by decide) (nm_r (nI_pred (d + 1)) (br_f (nI_ne0 (by omega) (by omega)) ⟨iI, ?_⟩)))⟩⟩
  rw [ea, cA, eb, nI_pred d, cD, es, cS]
  exact ⟨iA, pk_eq b 3 (fun z => ⟨iD, iI, iS, nm_e (nm_e (h3 z))⟩) (fun z => nm_e (h2 z))⟩
theorem sp_yEx {post : SY → Prop} {i ce cnt oo : Nat} {pv arg : Int32} (hi : i < 32) (hc0 : 0 < ce) (hc : ce ≤ 16) (ht : cnt < 129) (ho : oo ≤ 11)
    (h : ∀ e, e < ce → (arg + idx i - (arg + idx i) / nI ce * nI ce < 0 → arg + idx i - (arg + idx i) / nI ce * nI ce + nI ce = nI e) → (¬ arg + idx i - (arg + idx i) / nI ce * nI ce < 0 → arg + idx i - (arg + idx i) / nI ce * nI ce = nI e) →
      ∀ ev, ((sp_acc oo ∧ ev = nI e) ∨ (¬ sp_acc oo ∧ ev = -1)) → wY_execute_90 post (nI i) pv (nI oo) arg (nI e) ev (nI cnt) (g0) (nI ce) (g2) (g3) (g4) (g5) (nI cnt) (g7) (g8) (cop) (carg) (yc) (stk) (nxt) (acc) (idx) (mkr) (upd yAd cnt pv) (upd yOp cnt (nI oo)) (upd yIn cnt (nI i)) (yCe) (lds)) :
    wpY_execute post (g0, nI ce, g2, g3, g4, g5, nI cnt, g7, g8, cop, carg, yc, stk, nxt, acc, idx, mkr, yAd, yOp, yIn, yCe, lds) (nI i) pv (nI oo) arg := by
  have iI : vp_in (nI i) 32 := vp_in_nI hi (by omega)
  have cI : (nI i).toNatClampNeg = i := nI_clamp (by omega)
  have iT : vp_in (nI cnt) 129 := vp_in_nI ht (by omega)
  have cT : (nI cnt).toNatClampNeg = cnt := nI_clamp (by omega)
  obtain ⟨e, he, r1, r2⟩ := sp_rem (arg + idx i) hc0 hc
  have key : wY_execute_30 post (nI i) pv (nI oo) arg (nI e) (g0) (nI ce) (g2) (g3) (g4) (g5) (nI cnt) (g7) (g8) (cop) (carg) (yc) (stk) (nxt) (acc) (idx) (mkr) (yAd) (yOp) (yIn) (yCe) (lds) := by
    have h84 : sp_acc oo → wY_execute_84 post (nI i) pv (nI oo) arg (nI e) (nI cnt) (g0) (nI ce) (g2) (g3) (g4) (g5) (nI cnt) (g7) (g8) (cop) (carg) (yc) (stk) (nxt) (acc) (idx) (mkr) (upd yAd cnt pv) (upd yOp cnt (nI oo)) (upd yIn cnt (nI i)) (yCe) (lds) := by
      intro ha
      unfold wY_execute_84
      exact h e he r1 r2 (nI e) (Or.inl ⟨ha, rfl⟩)
    unfold wY_execute_30
    rw [cT]
    refine ⟨iT, nm_e ⟨iT, nm_e ⟨iT, nm_e ?_⟩⟩⟩
    refine pk_eq oo 4 (fun z => h84 (Or.inl z)) (fun n4 => pk_eq oo 5 (fun z => h84 (Or.inr (Or.inl z))) (fun n5 => pk_eq oo 6 (fun z => h84 (Or.inr (Or.inr z))) (fun n6 => ?_)))
    exact h e he r1 r2 (-1) (Or.inr ⟨by unfold sp_acc; omega, rfl⟩)
  unfold wpY_execute
  dsimp only
  rw [cI]
  refine ⟨iI, nI_ne0 hc0 (by omega), nm_e ?_⟩
  by_cases z : arg + idx i - (arg + idx i) / nI ce * nI ce < 0
  · refine br_f (sp_nle z) (nm_r (r1 z) key)
  · have z2 := Int32.not_lt.mp z
    have r3 := r2 z
    refine br_t z2 ?_
    rw [r3]
    exact key
end

/-! ===== the relation ===== -/
def sp_Q (cc ce dc ic len s cnt dep md : Nat) (o n m st q ad : Nat → Nat) (cop carg xc xAd xOp xIn xCe xMk lAd lIn lA lX lSp : Nat → Int32) (bef awa rd wr : Nat → Int64) (yc stk nxt acc idx mkr yAd yOp yIn yCe lds : Nat → Int32) : Prop :=
  sp_K cc ce dc ic len s cnt dep md ∧ sp_C len cop carg ∧ sp_eq ce xc yc ∧ sp_eq cnt xAd yAd ∧ sp_rep cnt xOp o ∧ sp_rep cnt yOp o ∧ sp_rep cnt xIn n ∧ sp_rep cnt yIn n ∧ sp_eq cnt xCe yCe ∧
  sp_S cnt ce o yCe ∧ sp_Vl dep cnt o m st ad lAd lIn lA lX lSp stk nxt acc idx ∧ sp_Mr md m mkr ∧ sp_RW cnt o yCe rd wr ∧ sp_Mk cnt o n m yCe xMk ∧ sp_01 lds ∧
  sp_H o n m cnt md ∧ sp_L o n m cnt dep md st q (sp_mem bef) (sp_mem awa)
/-- the relation at the head of a turn -/
def i_Rel (_ : Nat) (u : SX) (v : SY) : Prop :=
  ∃ (cc ce dc ic len s cnt dep md : Nat) (o n m st q ad : Nat → Nat) (cop carg xc xAd xOp xIn xCe xMk lAd lIn lA lX lSp : Nat → Int32) (bef awa rd wr : Nat → Int64) (yc stk nxt acc idx mkr yAd yOp yIn yCe lds : Nat → Int32), u = (nI cc, nI ce, nI dc, nI ic, nI len, nI s, nI cnt, nI dep, nI md, cop, carg, xc, xAd, xOp, xIn, xCe, xMk, lAd, lIn, lA, lX, lSp, bef, awa, rd, wr) ∧ v = (nI cc, nI ce, nI dc, nI ic, nI s, nI len, nI cnt, nI dep, nI md, cop, carg, yc, stk, nxt, acc, idx, mkr, yAd, yOp, yIn, yCe, lds) ∧ sp_Q cc ce dc ic len s cnt dep md o n m st q ad cop carg xc xAd xOp xIn xCe xMk lAd lIn lA lX lSp bef awa rd wr yc stk nxt acc idx mkr yAd yOp yIn yCe lds
theorem i_up {k : Nat} {u : SX} {v : SY} (h : i_Rel k u v) : i_Rel (k + 3) u v := h
section
variable {cc ce dc ic len s cnt dep md : Nat} {o n m st q ad : Nat → Nat} {cop carg xc xAd xOp xIn xCe xMk lAd lIn lA lX lSp yc stk nxt acc idx mkr yAd yOp yIn yCe lds : Nat → Int32} {bef awa rd wr : Nat → Int64}
theorem sp_mkRel (j : Nat) (h : sp_Q cc ce dc ic len s cnt dep md o n m st q ad cop carg xc xAd xOp xIn xCe xMk lAd lIn lA lX lSp bef awa rd wr yc stk nxt acc idx mkr yAd yOp yIn yCe lds) : i_Rel j (nI cc, nI ce, nI dc, nI ic, nI len, nI s, nI cnt, nI dep, nI md, cop, carg, xc, xAd, xOp, xIn, xCe, xMk, lAd, lIn, lA, lX, lSp, bef, awa, rd, wr) (nI cc, nI ce, nI dc, nI ic, nI s, nI len, nI cnt, nI dep, nI md, cop, carg, yc, stk, nxt, acc, idx, mkr, yAd, yOp, yIn, yCe, lds) := ⟨cc, ce, dc, ic, len, s, cnt, dep, md, o, n, m, st, q, ad, cop, carg, xc, xAd, xOp, xIn, xCe, xMk, lAd, lIn, lA, lX, lSp, bef, awa, rd, wr, yc, stk, nxt, acc, idx, mkr, yAd, yOp, yIn, yCe, lds, rfl, rfl, h⟩
end

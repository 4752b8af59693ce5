/-! ===== the picture of a state ===== -/
def sp_Q (cc ce dc ic len s cnt dep md : Nat) (o n m st q ad : Nat → Nat) (cop carg xc xAd xOp xIn xCe xMk lAd lIn lA lX lSp : Nat → Int32) (bef awa rd wr : Nat → Int64) (yc stk nxt acc idx mkr yAd yOp yIn yCe lds : Nat → Int32) : Prop :=
  sp_K cc ce dc ic len s cnt dep md ∧ sp_C len cop carg ∧ sp_eq ce xc yc ∧ sp_eq cnt xAd yAd ∧ sp_rep cnt xOp o ∧ sp_rep cnt yOp o ∧ sp_rep cnt xIn n ∧ sp_rep cnt yIn n ∧ sp_eq cnt xCe yCe ∧
  sp_S cnt ce o yCe ∧ sp_Vl dep cnt o m st ad lAd lIn lA lX lSp stk nxt acc idx ∧ sp_Mr md m mkr ∧ sp_RW cnt o yCe rd wr ∧ sp_Mk cnt o n m yCe xMk ∧ sp_01 lds ∧
  sp_H o n m cnt md ∧ sp_L o n m cnt dep md st q (sp_mem bef) (sp_mem awa)
/-- a state of the class: cells ce, and status s where it is told -/
def pp_R (CE : Nat) (u : St2) : Prop :=
  ∃ (cc ce dc ic len s cnt dep md : Nat) (o n m st q ad : Nat → Nat) (cop carg xc xAd xOp xIn xCe xMk lAd lIn lA lX lSp : Nat → Int32) (bef awa rd wr : Nat → Int64) (yc stk nxt acc idx mkr yAd yOp yIn yCe lds : Nat → Int32), u = (nI cc, nI ce, nI dc, nI ic, nI len, nI s, nI cnt, nI dep, nI md, cop, carg, xc, xAd, xOp, xIn, xCe, xMk, lAd, lIn, lA, lX, lSp, bef, awa, rd, wr) ∧ ce = CE ∧ sp_Q cc ce dc ic len s cnt dep md o n m st q ad cop carg xc xAd xOp xIn xCe xMk lAd lIn lA lX lSp bef awa rd wr yc stk nxt acc idx mkr yAd yOp yIn yCe lds ∧ sp_D o n m cnt md dep st
section
variable {cc ce dc ic len s cnt dep md : Nat} {o n m st q ad : Nat → Nat} {cop carg xc xAd xOp xIn xCe xMk lAd lIn lA lX lSp yc stk nxt acc idx mkr yAd yOp yIn yCe lds : Nat → Int32} {bef awa rd wr : Nat → Int64}
theorem pp_mk (h : sp_Q cc ce dc ic len s cnt dep md o n m st q ad cop carg xc xAd xOp xIn xCe xMk lAd lIn lA lX lSp bef awa rd wr yc stk nxt acc idx mkr yAd yOp yIn yCe lds) (d : sp_D o n m cnt md dep st) : pp_R ce (nI cc, nI ce, nI dc, nI ic, nI len, nI s, nI cnt, nI dep, nI md, cop, carg, xc, xAd, xOp, xIn, xCe, xMk, lAd, lIn, lA, lX, lSp, bef, awa, rd, wr) := ⟨cc, ce, dc, ic, len, s, cnt, dep, md, o, n, m, st, q, ad, cop, carg, xc, xAd, xOp, xIn, xCe, xMk, lAd, lIn, lA, lX, lSp, bef, awa, rd, wr, yc, stk, nxt, acc, idx, mkr, yAd, yOp, yIn, yCe, lds, rfl, rfl, h, d⟩
end

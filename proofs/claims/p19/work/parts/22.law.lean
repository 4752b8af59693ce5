/-! ===== the law ===== -/
theorem pp_mod {post : Int32 → Prop} {v : Int32} (d : Nat) (h0 : 0 < d) (hd : d < 2 ^ 31) (h : ∀ r, r < d → post (nI r)) : wpL_mod post () v (nI d) := by
  unfold wpL_mod
  refine ⟨nI_ne0 h0 hd, ?_⟩
  rw [pk_and v (m := 2147483647) 31 (by decide), pk_rem (Nat.mod_lt _ (by decide)) h0 hd]
  exact h _ (Nat.mod_lt _ h0)
theorem pp_cell {post : Int32 → Prop} {Ls : Nat} {xs : Nat → Int32} {a : Nat} (hL : Ls ≤ 260) (ha : a < 2 ^ 31) (h : ∀ r, post r) : wpL_cell post Ls xs () (nI a) := by
  unfold wpL_cell
  exact pk_le Ls a (fun _ => h _) (fun z => ⟨vp_in_nI z (by omega), h _⟩)
theorem pp_op {post : Int32 → Prop} {a b : Int32} (h : ∀ r, post r) : wpL_op post () a b := by
  simp [wpL_op, h]
theorem pp_arg {post : Int32 → Prop} {a b c d : Int32} (hd : ¬ d = 0) (h : ∀ r, post r) : wpL_arg post () a b c d := by
  simp [wpL_arg, wL_arg_22, wL_arg_27, wpL_mod, h, hd]
def pp_J1 (J : Int32 → Int32 → Int32 → Int32 → Int32 → Int32 → Int32 → Int32 → Int32 → Int32 → Int32 → Int32 → (Nat → Int32) → (Nat → Int32) → (Nat → Int32) → (Nat → Int32) → (Nat → Int32) → (Nat → Int32) → (Nat → Int32) → (Nat → Int32) → (Nat → Int32) → (Nat → Int32) → (Nat → Int32) → (Nat → Int32) → (Nat → Int32) → (Nat → Int64) → (Nat → Int64) → (Nat → Int64) → (Nat → Int64) → Prop) (x4 x5 x6 : Int32) (u : St2) : Prop := match u with
  | (u1, u2, u3, u4, u5, u6, u7, u8, u9, u10, u11, u12, u13, u14, u15, u16, u17, u18, u19, u20, u21, u22, u23, u24, u25, u26) => J x4 x5 x6 u1 u2 u3 u4 u5 u6 u7 u8 u9 u10 u11 u12 u13 u14 u15 u16 u17 u18 u19 u20 u21 u22 u23 u24 u25 u26
def pp_J2 (J : Int32 → Int32 → Int32 → Int32 → Int32 → Int32 → Int32 → Int32 → Int32 → Int32 → Int32 → (Nat → Int32) → (Nat → Int32) → (Nat → Int32) → (Nat → Int32) → (Nat → Int32) → (Nat → Int32) → (Nat → Int32) → (Nat → Int32) → (Nat → Int32) → (Nat → Int32) → (Nat → Int32) → (Nat → Int32) → (Nat → Int32) → (Nat → Int64) → (Nat → Int64) → (Nat → Int64) → (Nat → Int64) → Prop) (x4 x8 : Int32) (u : St2) : Prop := match u with
  | (u1, u2, u3, u4, u5, u6, u7, u8, u9, u10, u11, u12, u13, u14, u15, u16, u17, u18, u19, u20, u21, u22, u23, u24, u25, u26) => J x4 x8 u1 u2 u3 u4 u5 u6 u7 u8 u9 u10 u11 u12 u13 u14 u15 u16 u17 u18 u19 u20 u21 u22 u23 u24 u25 u26
section
variable {post : Int32 → Prop} {Ls : Nat} {xs : Nat → Int32} {J71 : Int32 → Int32 → Int32 → Int32 → Int32 → Int32 → Int32 → Int32 → Int32 → Int32 → Int32 → Int32 → (Nat → Int32) → (Nat → Int32) → (Nat → Int32) → (Nat → Int32) → (Nat → Int32) → (Nat → Int32) → (Nat → Int32) → (Nat → Int32) → (Nat → Int32) → (Nat → Int32) → (Nat → Int32) → (Nat → Int32) → (Nat → Int32) → (Nat → Int64) → (Nat → Int64) → (Nat → Int64) → (Nat → Int64) → Prop} {J249 : Int32 → Int32 → Int32 → Int32 → Int32 → Int32 → Int32 → Int32 → Int32 → Int32 → Int32 → (Nat → Int32) → (Nat → Int32) → (Nat → Int32) → (Nat → Int32) → (Nat → Int32) → (Nat → Int32) → (Nat → Int32) → (Nat → Int32) → (Nat → Int32) → (Nat → Int32) → (Nat → Int32) → (Nat → Int32) → (Nat → Int32) → (Nat → Int64) → (Nat → Int64) → (Nat → Int64) → (Nat → Int64) → Prop} {J308 : Int32 → Prop} {J323 : Int32 → Int32 → Int32 → Prop} {J371 : Int64 → Int64 → Int32 → Prop} {J447 : Int64 → Int64 → Int32 → Int32 → Int32 → Prop} {x1 x2 x4 x5 x6 x8 x9 x10 x11 x12 x13 x14 : Int32} {kc ks : Nat}
variable {CE : Nat}
theorem pp_827 {u : St2} (I : pp_R CE u) (h : ∀ u', pp_R CE u' → pp_J1 J71 x4 x5 (x6 + 1) u') : (match u with | (u1, u2, u3, u4, u5, u6, u7, u8, u9, u10, u11, u12, u13, u14, u15, u16, u17, u18, u19, u20, u21, u22, u23, u24, u25, u26) => wL_law_827 post Ls xs J71 x1 x2 x4 x5 x6 kc ks u1 u2 u3 u4 u5 u6 u7 u8 u9 u10 u11 u12 u13 u14 u15 u16 u17 u18 u19 u20 u21 u22 u23 u24 u25 u26) := by
  obtain ⟨u1, u2, u3, u4, u5, u6, u7, u8, u9, u10, u11, u12, u13, u14, u15, u16, u17, u18, u19, u20, u21, u22, u23, u24, u25, u26⟩ := u
  show wL_law_827 post Ls xs J71 x1 x2 x4 x5 x6 kc ks u1 u2 u3 u4 u5 u6 u7 u8 u9 u10 u11 u12 u13 u14 u15 u16 u17 u18 u19 u20 u21 u22 u23 u24 u25 u26
  unfold wL_law_827
  refine pp_reset I (fun u' hu' => ?_)
  obtain ⟨u1, u2, u3, u4, u5, u6, u7, u8, u9, u10, u11, u12, u13, u14, u15, u16, u17, u18, u19, u20, u21, u22, u23, u24, u25, u26⟩ := u'
  exact nm_e (h _ hu')
end
section
variable {cc ce dc ic len s cnt dep md : Nat} {o n m st q ad : Nat → Nat} {cop carg xc xAd xOp xIn xCe xMk lAd lIn lA lX lSp yc stk nxt acc idx mkr yAd yOp yIn yCe lds : Nat → Int32} {bef awa rd wr : Nat → Int64}
variable {post : Int32 → Prop} {Ls : Nat} {xs : Nat → Int32} {J71 : Int32 → Int32 → Int32 → Int32 → Int32 → Int32 → Int32 → Int32 → Int32 → Int32 → Int32 → Int32 → (Nat → Int32) → (Nat → Int32) → (Nat → Int32) → (Nat → Int32) → (Nat → Int32) → (Nat → Int32) → (Nat → Int32) → (Nat → Int32) → (Nat → Int32) → (Nat → Int32) → (Nat → Int32) → (Nat → Int32) → (Nat → Int32) → (Nat → Int64) → (Nat → Int64) → (Nat → Int64) → (Nat → Int64) → Prop} {J249 : Int32 → Int32 → Int32 → Int32 → Int32 → Int32 → Int32 → Int32 → Int32 → Int32 → Int32 → (Nat → Int32) → (Nat → Int32) → (Nat → Int32) → (Nat → Int32) → (Nat → Int32) → (Nat → Int32) → (Nat → Int32) → (Nat → Int32) → (Nat → Int32) → (Nat → Int32) → (Nat → Int32) → (Nat → Int32) → (Nat → Int32) → (Nat → Int64) → (Nat → Int64) → (Nat → Int64) → (Nat → Int64) → Prop} {J308 : Int32 → Prop} {J323 : Int32 → Int32 → Int32 → Prop} {J371 : Int64 → Int64 → Int32 → Prop} {J447 : Int64 → Int64 → Int32 → Int32 → Int32 → Prop} {x1 x2 x4 x5 x6 x8 x9 x10 x11 x12 x13 x14 : Int32} {kc ks : Nat}
theorem pp_308 (h : sp_Q cc ce dc ic len s cnt dep md o n m st q ad cop carg xc xAd xOp xIn xCe xMk lAd lIn lA lX lSp bef awa rd wr yc stk nxt acc idx mkr yAd yOp yIn yCe lds) (D : sp_D o n m cnt md dep st) (h249 : J249 x4 (x8 + 1) (nI cc) (nI ce) (nI dc) (nI ic) (nI len) (nI s) (nI cnt) (nI dep) (nI md) (cop) (carg) (xc) (xAd) (xOp) (xIn) (xCe) (xMk) (lAd) (lIn) (lA) (lX) (lSp) (bef) (awa) (rd) (wr)) (h827 : wL_law_827 post Ls xs J71 x1 (nI ce) x4 x5 x6 kc ks (nI cc) (nI ce) (nI dc) (nI ic) (nI len) (nI s) (nI cnt) (nI dep) (nI md) (cop) (carg) (xc) (xAd) (xOp) (xIn) (xCe) (xMk) (lAd) (lIn) (lA) (lX) (lSp) (bef) (awa) (rd) (wr)) :
    ∀ d c, c + d = ce + 1 → wL_law_308 post Ls xs J71 J249 x1 (nI ce) x4 x5 x6 x8 (nI cnt) kc ks (nI cc) (nI ce) (nI dc) (nI ic) (nI len) (nI s) (nI cnt) (nI dep) (nI md) (cop) (carg) (xc) (xAd) (xOp) (xIn) (xCe) (xMk) (lAd) (lIn) (lA) (lX) (lSp) (bef) (awa) (rd) (wr) (d + 1) (nI c + (-1)) := by
  have hK := h.1
  unfold sp_K at hK
  intro d
  induction d with
  | zero =>
    intro c hc
    obtain rfl : c = ce + 1 := by omega
    unfold wL_law_308
    rw [pk_m1]
    refine br_t (nI_le (by omega) (by omega)) ?_
    unfold wpX_status
    exact br_c (fun _ => nm_e h249) (fun _ => h827)
  | succ d ih =>
    intro c hc
    have z : ¬ nI ce ≤ nI c + (-1) := by
      cases c with
      | zero =>
        have e : nI 0 + (-1) = -1 := by decide
        rw [e]
        exact sp_nle (sp_m1lt (by omega))
      | succ c =>
        rw [pk_m1]
        exact nI_ge (by omega) (by omega)
    unfold wL_law_308
    exact br_f z ⟨cnt + 1, pp_323 h D (by omega) (ih (c + 1) (by omega)) cnt 0 (by omega) (-1) 0 ⟨rfl, rfl⟩⟩
theorem pp_283 (h : sp_Q cc ce dc ic len s cnt dep md o n m st q ad cop carg xc xAd xOp xIn xCe xMk lAd lIn lA lX lSp bef awa rd wr yc stk nxt acc idx mkr yAd yOp yIn yCe lds) (D : sp_D o n m cnt md dep st) (h249 : J249 x4 (x8 + 1) (nI cc) (nI ce) (nI dc) (nI ic) (nI len) (nI s) (nI cnt) (nI dep) (nI md) (cop) (carg) (xc) (xAd) (xOp) (xIn) (xCe) (xMk) (lAd) (lIn) (lA) (lX) (lSp) (bef) (awa) (rd) (wr)) (h827 : wL_law_827 post Ls xs J71 x1 (nI ce) x4 x5 x6 kc ks (nI cc) (nI ce) (nI dc) (nI ic) (nI len) (nI s) (nI cnt) (nI dep) (nI md) (cop) (carg) (xc) (xAd) (xOp) (xIn) (xCe) (xMk) (lAd) (lIn) (lA) (lX) (lSp) (bef) (awa) (rd) (wr)) : wL_law_283 post Ls xs J71 J249 x1 (nI ce) x4 x5 x6 x8 kc ks (nI cc) (nI ce) (nI dc) (nI ic) (nI len) (nI s) (nI cnt) (nI dep) (nI md) (cop) (carg) (xc) (xAd) (xOp) (xIn) (xCe) (xMk) (lAd) (lIn) (lA) (lX) (lSp) (bef) (awa) (rd) (wr) := by
  have hK := h.1
  unfold sp_K at hK
  have key : wL_law_308 post Ls xs J71 J249 x1 (nI ce) x4 x5 x6 x8 (nI cnt) kc ks (nI cc) (nI ce) (nI dc) (nI ic) (nI len) (nI s) (nI cnt) (nI dep) (nI md) (cop) (carg) (xc) (xAd) (xOp) (xIn) (xCe) (xMk) (lAd) (lIn) (lA) (lX) (lSp) (bef) (awa) (rd) (wr) (ce + 1 + 1) (-1) := pp_308 h D h249 h827 (ce + 1) 0 (by omega)
  unfold wL_law_283
  unfold wpX_steps
  refine pk_le 128 cnt (fun z => ⟨ce + 1 + 1, ?_⟩) (fun z => ⟨ce + 1 + 1, key⟩)
  have e : cnt = 128 := by omega
  have e2 : nI cnt = 128 := by rw [e]; rfl
  rw [e2] at key
  rw [e2]
  exact key
end
section
variable {post : Int32 → Prop} {Ls : Nat} {xs : Nat → Int32} {J71 : Int32 → Int32 → Int32 → Int32 → Int32 → Int32 → Int32 → Int32 → Int32 → Int32 → Int32 → Int32 → (Nat → Int32) → (Nat → Int32) → (Nat → Int32) → (Nat → Int32) → (Nat → Int32) → (Nat → Int32) → (Nat → Int32) → (Nat → Int32) → (Nat → Int32) → (Nat → Int32) → (Nat → Int32) → (Nat → Int32) → (Nat → Int32) → (Nat → Int64) → (Nat → Int64) → (Nat → Int64) → (Nat → Int64) → Prop} {J249 : Int32 → Int32 → Int32 → Int32 → Int32 → Int32 → Int32 → Int32 → Int32 → Int32 → Int32 → (Nat → Int32) → (Nat → Int32) → (Nat → Int32) → (Nat → Int32) → (Nat → Int32) → (Nat → Int32) → (Nat → Int32) → (Nat → Int32) → (Nat → Int32) → (Nat → Int32) → (Nat → Int32) → (Nat → Int32) → (Nat → Int32) → (Nat → Int64) → (Nat → Int64) → (Nat → Int64) → (Nat → Int64) → Prop} {J308 : Int32 → Prop} {J323 : Int32 → Int32 → Int32 → Prop} {J371 : Int64 → Int64 → Int32 → Prop} {J447 : Int64 → Int64 → Int32 → Int32 → Int32 → Prop} {x1 x2 x4 x5 x6 x8 x9 x10 x11 x12 x13 x14 : Int32} {kc ks : Nat}
variable {CE : Nat}
theorem pp_249 {A0 : Nat} (hL : Ls ≤ 260) (hA : A0 ≤ 1000) (h71 : ∀ a u', a ≤ A0 + 9 → pp_R CE u' → pp_J1 J71 (nI a) x5 (x6 + 1) u') :
    ∀ d t, t + d = 9 → ∀ a, a ≤ A0 + t → ∀ u, pp_R CE u → pp_J2 (wL_law_249 post Ls xs J71 x1 (nI CE) x5 x6 kc ks (d + 1)) (nI a) (nI t) u := by
  intro d
  induction d with
  | zero =>
    intro t ht a ha u hu
    have h8 := pp_827 (post := post) (Ls := Ls) (xs := xs) (x1 := x1) (x2 := nI CE) (x4 := nI a) (x5 := x5) (x6 := x6) (kc := kc) (ks := ks) hu (fun u' hu' => h71 a u' (by omega) hu')
    obtain ⟨u1, u2, u3, u4, u5, u6, u7, u8, u9, u10, u11, u12, u13, u14, u15, u16, u17, u18, u19, u20, u21, u22, u23, u24, u25, u26⟩ := u
    show wL_law_249 post Ls xs J71 x1 (nI CE) x5 x6 kc ks (0 + 1) (nI a) (nI t) u1 u2 u3 u4 u5 u6 u7 u8 u9 u10 u11 u12 u13 u14 u15 u16 u17 u18 u19 u20 u21 u22 u23 u24 u25 u26
    unfold wL_law_249
    exact br_t (nI_lt (a := 8) (by omega) (by omega)) h8
  | succ d ih =>
    intro t ht a ha u hu
    have chk : ∀ b, b ≤ A0 + t + 1 → ∀ u', pp_R CE u' → (match u' with | (u1, u2, u3, u4, u5, u6, u7, u8, u9, u10, u11, u12, u13, u14, u15, u16, u17, u18, u19, u20, u21, u22, u23, u24, u25, u26) => wL_law_283 post Ls xs J71 (wL_law_249 post Ls xs J71 x1 (nI CE) x5 x6 kc ks (d + 1)) x1 (nI CE) (nI b) x5 x6 (nI t) kc ks u1 u2 u3 u4 u5 u6 u7 u8 u9 u10 u11 u12 u13 u14 u15 u16 u17 u18 u19 u20 u21 u22 u23 u24 u25 u26) := by
      intro b hb u' hu'
      have h8 := pp_827 (post := post) (Ls := Ls) (xs := xs) (x1 := x1) (x2 := nI CE) (x4 := nI b) (x5 := x5) (x6 := x6) (kc := kc) (ks := ks) hu' (fun u'' hu'' => h71 b u'' (by omega) hu'')
      have h9 := ih (t + 1) (by omega) b (by omega) u' hu'
      obtain ⟨cc, ce, dc, ic, len, s, cnt, dep, md, o, n, m, st, q, ad, cop, carg, xc, xAd, xOp, xIn, xCe, xMk, lAd, lIn, lA, lX, lSp, bef, awa, rd, wr, yc, stk, nxt, acc, idx, mkr, yAd, yOp, yIn, yCe, lds, rfl, rfl, hQ, hD⟩ := hu'
      rw [← nI_1] at h9
      exact pp_283 hQ hD h9 h8
    obtain ⟨u1, u2, u3, u4, u5, u6, u7, u8, u9, u10, u11, u12, u13, u14, u15, u16, u17, u18, u19, u20, u21, u22, u23, u24, u25, u26⟩ := u
    show wL_law_249 post Ls xs J71 x1 (nI CE) x5 x6 kc ks (d + 1 + 1) (nI a) (nI t) u1 u2 u3 u4 u5 u6 u7 u8 u9 u10 u11 u12 u13 u14 u15 u16 u17 u18 u19 u20 u21 u22 u23 u24 u25 u26
    unfold wL_law_249
    refine br_f (nI_nlt (a := 8) (by omega) (by omega)) ?_
    refine br_c (fun _ => chk a (by omega) _ hu) (fun _ => ?_)
    refine pp_cell hL (by omega) (fun r => pp_mod 29 (by omega) (by omega) (fun r2 _ => pp_run hu _ (fun r3 u' hu' => ?_)))
    have w := chk (a + 1) (by omega) u' hu'
    obtain ⟨u1, u2, u3, u4, u5, u6, u7, u8, u9, u10, u11, u12, u13, u14, u15, u16, u17, u18, u19, u20, u21, u22, u23, u24, u25, u26⟩ := u'
    exact nm_r (nI_1 a) w
theorem pp_197 {A0 : Nat} (hL : Ls ≤ 260) (hA : A0 ≤ 900) (hCE : 0 < CE) (hCE2 : CE ≤ 16) (h71 : ∀ a u', a ≤ A0 + 13 → pp_R CE u' → pp_J1 J71 (nI a) x5 (x6 + 1) u') :
    ∀ d i, i + d = 2 → ∀ a, a ≤ A0 + 2 * i → ∀ u, pp_R CE u → pp_J2 (wL_law_197 post Ls xs J71 x1 (nI CE) x5 x6 kc ks (d + 1)) (nI a) (nI i) u := by
  intro d
  induction d with
  | zero =>
    intro i hi a ha u hu
    obtain ⟨u1, u2, u3, u4, u5, u6, u7, u8, u9, u10, u11, u12, u13, u14, u15, u16, u17, u18, u19, u20, u21, u22, u23, u24, u25, u26⟩ := u
    show wL_law_197 post Ls xs J71 x1 (nI CE) x5 x6 kc ks (0 + 1) (nI a) (nI i) u1 u2 u3 u4 u5 u6 u7 u8 u9 u10 u11 u12 u13 u14 u15 u16 u17 u18 u19 u20 u21 u22 u23 u24 u25 u26
    unfold wL_law_197
    refine br_t (nI_le (a := 2) (by omega) (by omega)) (pp_start hu (fun r u' hu' => ?_))
    have w := pp_249 (post := post) (xs := xs) (x1 := x1) (x5 := x5) (x6 := x6) (kc := kc) (ks := ks) (A0 := A0 + 4) hL (by omega) (fun b v hb hv => h71 b v (by omega) hv) 9 0 (by omega) a (by omega) u' hu'
    obtain ⟨u1, u2, u3, u4, u5, u6, u7, u8, u9, u10, u11, u12, u13, u14, u15, u16, u17, u18, u19, u20, u21, u22, u23, u24, u25, u26⟩ := u'
    exact ⟨10, w⟩
  | succ d ih =>
    intro i hi a ha u hu
    obtain ⟨u1, u2, u3, u4, u5, u6, u7, u8, u9, u10, u11, u12, u13, u14, u15, u16, u17, u18, u19, u20, u21, u22, u23, u24, u25, u26⟩ := u
    show wL_law_197 post Ls xs J71 x1 (nI CE) x5 x6 kc ks (d + 1 + 1) (nI a) (nI i) u1 u2 u3 u4 u5 u6 u7 u8 u9 u10 u11 u12 u13 u14 u15 u16 u17 u18 u19 u20 u21 u22 u23 u24 u25 u26
    unfold wL_law_197
    rw [nI_1 a]
    refine br_f (nI_ge (b := 2) (by omega) (by omega)) ?_
    refine pp_cell hL (by omega) (fun r1 => pp_mod CE (by omega) (by omega) (fun r2 _ => pp_cell hL (by omega) (fun r3 => pp_mod 3 (by omega) (by omega) (fun r4 _ => pp_poke hu _ _ (fun r5 u' hu' => ?_)))))
    have w := ih (i + 1) (by omega) (a + 2) (by omega) u' hu'
    obtain ⟨u1, u2, u3, u4, u5, u6, u7, u8, u9, u10, u11, u12, u13, u14, u15, u16, u17, u18, u19, u20, u21, u22, u23, u24, u25, u26⟩ := u'
    exact nm_r (nI_add a 2) (nm_r (nI_1 i) w)
theorem pp_118 {A0 M : Nat} (hL : Ls ≤ 260) (hA : A0 ≤ 500) (hM : M ≤ 31) (hCE : 0 < CE) (hCE2 : CE ≤ 16) (hx1 : ¬ x1 = 0) (h71 : ∀ x5 a u', a ≤ A0 + 75 → pp_R CE u' → pp_J1 J71 (nI a) x5 (x6 + 1) u') :
    ∀ d i, i + d = M → ∀ a x5, a ≤ A0 + 2 * i → ∀ u, pp_R CE u → pp_J1 (wL_law_118 post Ls xs J71 x1 (nI CE) x6 (nI M) kc ks (d + 1)) (nI a) x5 (nI i) u := by
  intro d
  induction d with
  | zero =>
    intro i hi a x5 ha u hu
    have w := pp_197 (post := post) (xs := xs) (x1 := x1) (x5 := x5) (x6 := x6) (kc := kc) (ks := ks) (A0 := A0 + 62) hL (by omega) hCE hCE2 (fun b v hb hv => h71 x5 b v (by omega) hv) 2 0 (by omega) a (by omega) u hu
    obtain ⟨u1, u2, u3, u4, u5, u6, u7, u8, u9, u10, u11, u12, u13, u14, u15, u16, u17, u18, u19, u20, u21, u22, u23, u24, u25, u26⟩ := u
    show wL_law_118 post Ls xs J71 x1 (nI CE) x6 (nI M) kc ks (0 + 1) (nI a) x5 (nI i) u1 u2 u3 u4 u5 u6 u7 u8 u9 u10 u11 u12 u13 u14 u15 u16 u17 u18 u19 u20 u21 u22 u23 u24 u25 u26
    unfold wL_law_118
    exact br_t (nI_le (by omega) (by omega)) ⟨3, w⟩
  | succ d ih =>
    intro i hi a x5 ha u hu
    obtain ⟨u1, u2, u3, u4, u5, u6, u7, u8, u9, u10, u11, u12, u13, u14, u15, u16, u17, u18, u19, u20, u21, u22, u23, u24, u25, u26⟩ := u
    show wL_law_118 post Ls xs J71 x1 (nI CE) x6 (nI M) kc ks (d + 1 + 1) (nI a) x5 (nI i) u1 u2 u3 u4 u5 u6 u7 u8 u9 u10 u11 u12 u13 u14 u15 u16 u17 u18 u19 u20 u21 u22 u23 u24 u25 u26
    unfold wL_law_118
    rw [nI_1 a]
    refine br_f (nI_ge (by omega) (by omega)) ?_
    refine pp_cell hL (by omega) (fun r1 => pp_mod 22 (by omega) (by omega) (fun r2 _ => pp_op (fun r3 => pp_cell hL (by omega) (fun r4 => pp_arg hx1 (fun r5 => nm_r (nI_add a 2) (pp_emit hu _ _ (fun r6 u' hu' => ?_)))))))
    have w1 := ih (i + 1) (by omega) (a + 2) x5 (by omega) u' hu'
    have w2 := ih (i + 1) (by omega) (a + 2) (x5 + 1) (by omega) u' hu'
    obtain ⟨u1, u2, u3, u4, u5, u6, u7, u8, u9, u10, u11, u12, u13, u14, u15, u16, u17, u18, u19, u20, u21, u22, u23, u24, u25, u26⟩ := u'
    exact br_c (fun _ => nm_r (nI_1 i) w1) (fun _ => nm_e (nm_r (nI_1 i) w2))
theorem pp_71 (hL : Ls ≤ 260) (hCE : 0 < CE) (hCE2 : CE ≤ 16) (hx1 : ¬ x1 = 0) (hp : post 1) :
    ∀ d i, i + d = 2 → ∀ a x5, a ≤ 4 + 100 * i → ∀ u, pp_R CE u → pp_J1 (wL_law_71 post Ls xs x1 (nI CE) kc ks (d + 1)) (nI a) x5 (nI i) u := by
  intro d
  induction d with
  | zero =>
    intro i hi a x5 ha u hu
    obtain ⟨u1, u2, u3, u4, u5, u6, u7, u8, u9, u10, u11, u12, u13, u14, u15, u16, u17, u18, u19, u20, u21, u22, u23, u24, u25, u26⟩ := u
    show wL_law_71 post Ls xs x1 (nI CE) kc ks (0 + 1) (nI a) x5 (nI i) u1 u2 u3 u4 u5 u6 u7 u8 u9 u10 u11 u12 u13 u14 u15 u16 u17 u18 u19 u20 u21 u22 u23 u24 u25 u26
    unfold wL_law_71
    exact br_t (nI_le (a := 2) (by omega) (by omega)) hp
  | succ d ih =>
    intro i hi a x5 ha u hu
    have go : ∀ M, M ≤ 31 → pp_J1 (wL_law_118 post Ls xs (wL_law_71 post Ls xs x1 (nI CE) kc ks (d + 1)) x1 (nI CE) (nI i) (nI M) kc ks (M + 1)) (nI (a + 1)) x5 (nI 0) u := by
      intro M hM
      refine pp_118 (A0 := 5 + 100 * i) hL (by omega) hM hCE hCE2 hx1 (fun x5' b v hb hv => ?_) M 0 (by omega) (a + 1) x5 (by omega) u hu
      rw [nI_1]
      exact ih (i + 1) (by omega) b x5' (by omega) v hv
    obtain ⟨u1, u2, u3, u4, u5, u6, u7, u8, u9, u10, u11, u12, u13, u14, u15, u16, u17, u18, u19, u20, u21, u22, u23, u24, u25, u26⟩ := u
    show wL_law_71 post Ls xs x1 (nI CE) kc ks (d + 1 + 1) (nI a) x5 (nI i) u1 u2 u3 u4 u5 u6 u7 u8 u9 u10 u11 u12 u13 u14 u15 u16 u17 u18 u19 u20 u21 u22 u23 u24 u25 u26
    unfold wL_law_71
    refine br_f (nI_ge (b := 2) (by omega) (by omega)) (br_c (fun _ => ?_) (fun _ => ?_))
    · refine pp_cell hL (by omega) (fun r => pp_mod 20 (by omega) (by omega) (fun r2 h2 => nm_r (nI_add 12 r2) (nm_r (nI_1 a) ⟨12 + r2 + 1, go (12 + r2) (by omega)⟩)))
    · refine pp_cell hL (by omega) (fun r => pp_mod 8 (by omega) (by omega) (fun r2 h2 => nm_r (nI_1 a) ⟨r2 + 1, go r2 (by omega)⟩))
end
theorem i_vc (xs : Nat → Int32) (L : Nat) (hL : L ≤ 260) : wpL_law (fun r => r = 1) L xs := by
  unfold wpL_law
  refine pp_cell (a := 0) hL (by omega) (fun r1 => pp_mod 17 (by omega) (by omega) (fun r2 h2 => nm_r (nI_add 32 r2) ?_))
  refine pp_cell (a := 1) hL (by omega) (fun r4 => pp_mod 4 (by omega) (by omega) (fun r5 h5 => nm_r (nI_add 2 r5) ?_))
  refine pp_cell (a := 2) hL (by omega) (fun r8 => pp_mod 6 (by omega) (by omega) (fun r9 h9 => ?_))
  refine pp_cell (a := 3) hL (by omega) (fun r10 => pp_mod 8 (by omega) (by omega) (fun r11 h11 => ?_))
  refine ⟨17, 924, by omega, by omega, pp_init (by omega) (by omega) (by omega) (by omega) _ _ _ (fun u hu => ?_)⟩
  have w := pp_71 (post := fun r => r = 1) (xs := xs) (x1 := nI (32 + r2)) (kc := 1 + 17) (ks := 26 + 924) hL (by omega) (by omega) (nI_ne0 (by omega) (by omega)) rfl 2 0 (by omega) 4 0 (by omega) u hu
  obtain ⟨u1, u2, u3, u4, u5, u6, u7, u8, u9, u10, u11, u12, u13, u14, u15, u16, u17, u18, u19, u20, u21, u22, u23, u24, u25, u26⟩ := u
  exact ⟨3, w⟩

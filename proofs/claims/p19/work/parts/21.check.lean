/-! ===== the law's checks ===== -/
section
variable {cc ce dc ic len s cnt dep md : Nat} {o n m st q ad : Nat → Nat} {cop carg xc xAd xOp xIn xCe xMk lAd lIn lA lX lSp yc stk nxt acc idx mkr yAd yOp yIn yCe lds : Nat → Int32} {bef awa rd wr : Nat → Int64}
variable {post : Int32 → Prop} {Ls : Nat} {xs : Nat → Int32} {J71 : Int32 → Int32 → Int32 → Int32 → Int32 → Int32 → Int32 → Int32 → Int32 → Int32 → Int32 → Int32 → (Nat → Int32) → (Nat → Int32) → (Nat → Int32) → (Nat → Int32) → (Nat → Int32) → (Nat → Int32) → (Nat → Int32) → (Nat → Int32) → (Nat → Int32) → (Nat → Int32) → (Nat → Int32) → (Nat → Int32) → (Nat → Int32) → (Nat → Int64) → (Nat → Int64) → (Nat → Int64) → (Nat → Int64) → Prop} {J249 : Int32 → Int32 → Int32 → Int32 → Int32 → Int32 → Int32 → Int32 → Int32 → Int32 → Int32 → (Nat → Int32) → (Nat → Int32) → (Nat → Int32) → (Nat → Int32) → (Nat → Int32) → (Nat → Int32) → (Nat → Int32) → (Nat → Int32) → (Nat → Int32) → (Nat → Int32) → (Nat → Int32) → (Nat → Int32) → (Nat → Int32) → (Nat → Int64) → (Nat → Int64) → (Nat → Int64) → (Nat → Int64) → Prop} {J308 : Int32 → Prop} {J323 : Int32 → Int32 → Int32 → Prop} {J371 : Int64 → Int64 → Int32 → Prop} {J447 : Int64 → Int64 → Int32 → Int32 → Int32 → Prop} {x1 x2 x4 x5 x6 x8 x9 x10 x11 x12 x13 x14 : Int32} {kc ks : Nat}
theorem pp_371 {k : Nat} (h : sp_Q cc ce dc ic len s cnt dep md o n m st q ad cop carg xc xAd xOp xIn xCe xMk lAd lIn lA lX lSp bef awa rd wr yc stk nxt acc idx mkr yAd yOp yIn yCe lds) (D : sp_D o n m cnt md dep st) (hk : k < cnt)
    (hfin : ∀ lo hi, (∀ j, j < 128 → (pp_in lo hi j ↔ sp_R (sp_E o n m) k j)) → wL_law_371 post Ls xs J71 J249 J308 J323 x1 x2 x4 x5 x6 x8 x9 x10 x11 x12 x13 x14 kc ks (nI cc) (nI ce) (nI dc) (nI ic) (nI len) (nI s) (nI cnt) (nI dep) (nI md) (cop) (carg) (xc) (xAd) (xOp) (xIn) (xCe) (xMk) (lAd) (lIn) (lA) (lX) (lSp) (bef) (awa) (rd) (wr) 1 lo hi (nI 0)) :
    ∀ t, t ≤ k → ∀ lo hi, (∀ j, j < 128 → (pp_in lo hi j ↔ (j = k ∨ ∃ t', t < t' ∧ t' ≤ k ∧ sp_R (sp_E o n m) k t' ∧ sp_E o n m j t'))) → wL_law_371 post Ls xs J71 J249 J308 J323 x1 x2 x4 x5 x6 x8 x9 x10 x11 x12 x13 x14 kc ks (nI cc) (nI ce) (nI dc) (nI ic) (nI len) (nI s) (nI cnt) (nI dep) (nI md) (cop) (carg) (xc) (xAd) (xOp) (xIn) (xCe) (xMk) (lAd) (lIn) (lA) (lX) (lSp) (bef) (awa) (rd) (wr) (t + 1) lo hi (nI t) := by
  have hQ := h
  obtain ⟨hK, hC, hc0, hAd, hxO, hyO, hxI, hyI, hCe, hS, hV, hMr, hRW, hMk, h01, H, IL⟩ := h
  unfold sp_K at hK
  have hR : ∀ j, j ≤ k → (sp_R (sp_E o n m) k j ↔ (j = k ∨ ∃ t', j < t' ∧ t' ≤ k ∧ sp_R (sp_E o n m) k t' ∧ sp_E o n m j t')) := by
    intro j hj
    constructor
    · intro r
      rcases sp_R_inv r with e | ⟨b, e, hb, r'⟩
      · exact Or.inl e
      · exact Or.inr ⟨b, sp_E_lt e, hb, r', e⟩
    · rintro (e | ⟨b, _, hb, r', e⟩)
      · rw [e]; exact sp_R_refl _ _
      · exact sp_R_step e hb r'
  intro t
  induction t with
  | zero =>
    intro _ lo hi hI
    refine hfin lo hi (fun j hj => (hI j hj).trans ?_)
    constructor
    · rintro (e | ⟨b, _, hb, r', e⟩)
      · rw [e]; exact sp_R_refl _ _
      · exact sp_R_step e hb r'
    · intro r
      rcases sp_R_inv r with e | ⟨b, e, hb, r'⟩
      · exact Or.inl e
      · exact Or.inr ⟨b, by have := sp_E_lt e; omega, hb, r', e⟩
  | succ t ih =>
    intro ht lo hi hI
    have hTe : pp_in lo hi (t + 1) ↔ sp_R (sp_E o n m) k (t + 1) := (hI (t + 1) (by omega)).trans (hR (t + 1) ht).symm
    have hnt := H.1 (t + 1) (by omega)
    have hot := (hS (t + 1) (by omega)).1
    have e1 : nI (t + 1) - 1 = nI (t + 1) + (-1) := Int32.sub_eq_add_neg _ _
    unfold wL_law_371
    refine br_f (nI_nle (by omega) (by omega)) ?_
    refine pp_tst (by omega) (fun hno => ?_) (fun hin => ?_)
    · refine nm_r (pk_m1 t) (ih (by omega) lo hi (fun j hj => (hI j hj).trans ?_))
      have hno' : ¬ sp_R (sp_E o n m) k (t + 1) := fun w => hno (hTe.2 w)
      constructor
      · rintro (e | ⟨b, b1, b2⟩)
        · exact Or.inl e
        · exact Or.inr ⟨b, by omega, b2⟩
      · rintro (e | ⟨b, b1, b2, b3, b4⟩)
        · exact Or.inl e
        · by_cases eb : b = t + 1
          · rw [eb] at b3
            exact absurd b3 hno'
          · exact Or.inr ⟨b, by omega, b2, b3, b4⟩
    · have hin' := hTe.1 hin
      have inner : ∀ jv : Nat, jv ≤ 1 → (jv = 1 ↔ (o (t + 1) = 1 ∨ o (t + 1) = 0)) → wL_law_447 post Ls xs J71 J249 J308 J323 (wL_law_371 post Ls xs J71 J249 J308 J323 x1 x2 x4 x5 x6 x8 x9 x10 x11 x12 x13 x14 kc ks (nI cc) (nI ce) (nI dc) (nI ic) (nI len) (nI s) (nI cnt) (nI dep) (nI md) (cop) (carg) (xc) (xAd) (xOp) (xIn) (xCe) (xMk) (lAd) (lIn) (lA) (lX) (lSp) (bef) (awa) (rd) (wr) (t + 1)) x1 x2 x4 x5 x6 x8 x9 x10 x11 x12 x13 x14 (nI (t + 1)) (nI (n (t + 1))) kc ks (nI cc) (nI ce) (nI dc) (nI ic) (nI len) (nI s) (nI cnt) (nI dep) (nI md) (cop) (carg) (xc) (xAd) (xOp) (xIn) (xCe) (xMk) (lAd) (lIn) (lA) (lX) (lSp) (bef) (awa) (rd) (wr) (t + 1 + 1) lo hi (nI jv) (nI (t + 1)) (nI (t + 1) + (-1)) := by
        intro jv h1 h2
        refine pp_447 (S0 := pp_in lo hi) hQ D (by omega) (by omega) (fun lo' hi' hb => ?_) (t + 1) (Nat.le_refl _) lo hi jv (t + 1) (pp_I0 H (by omega) h1 h2)
        refine ih (by omega) lo' hi' (fun j hj => ?_)
        rw [hb j hj, hI j hj]
        constructor
        · rintro ((e | ⟨b, b1, b2⟩) | e)
          · exact Or.inl e
          · exact Or.inr ⟨b, by omega, b2⟩
          · exact Or.inr ⟨t + 1, by omega, ht, hin', e⟩
        · rintro (e | ⟨b, b1, b2, b3, b4⟩)
          · exact Or.inl (Or.inl e)
          · by_cases eb : b = t + 1
            · rw [eb] at b4
              exact Or.inr b4
            · exact Or.inl (Or.inr ⟨b, by omega, b2, b3, b4⟩)
      refine pp_step2 (by omega) (by omega) ?_
      refine pp_step1 (by omega) (by omega) ?_
      rw [hxI (t + 1) (by omega), hxO (t + 1) (by omega)]
      have j430 : (o (t + 1) = 1 ∨ o (t + 1) = 0) → wL_law_430 post Ls xs J71 J249 J308 J323 (wL_law_371 post Ls xs J71 J249 J308 J323 x1 x2 x4 x5 x6 x8 x9 x10 x11 x12 x13 x14 kc ks (nI cc) (nI ce) (nI dc) (nI ic) (nI len) (nI s) (nI cnt) (nI dep) (nI md) (cop) (carg) (xc) (xAd) (xOp) (xIn) (xCe) (xMk) (lAd) (lIn) (lA) (lX) (lSp) (bef) (awa) (rd) (wr) (t + 1)) x1 x2 x4 x5 x6 x8 x9 x10 x11 x12 x13 x14 lo hi (nI (t + 1)) (nI (n (t + 1))) kc ks (nI cc) (nI ce) (nI dc) (nI ic) (nI len) (nI s) (nI cnt) (nI dep) (nI md) (cop) (carg) (xc) (xAd) (xOp) (xIn) (xCe) (xMk) (lAd) (lIn) (lA) (lX) (lSp) (bef) (awa) (rd) (wr) := by
        intro w
        unfold wL_law_430
        exact nm_r e1 ⟨t + 1 + 1, inner 1 (by omega) ⟨fun _ => w, fun _ => rfl⟩⟩
      refine pk_eq (o (t + 1)) 1 (fun e => j430 (Or.inl e)) (fun n1 => pk_eq (o (t + 1)) 0 (fun e => j430 (Or.inr e)) (fun n0 => nm_r e1 ⟨t + 1 + 1, inner 0 (by omega) ⟨fun w => by omega, fun w => by omega⟩⟩))
theorem pp_739 {k : Nat} {f c : Int32} (hc : cnt ≤ 128) (hk : k < cnt) (hcl : xCe k = x10) (hac : pp_ac xCe xMk x10 k f c)
    (h : ∀ f' c', pp_ac xCe xMk x10 (k + 1) f' c' → J323 f' c' (nI (k + 1))) :
    wL_law_739 post Ls xs J71 J249 J308 J323 x1 x2 x4 x5 x6 x8 x9 x10 f c (nI k) (xMk k) kc ks (nI cc) (nI ce) (nI dc) (nI ic) (nI len) (nI s) (nI cnt) (nI dep) (nI md) (cop) (carg) (xc) (xAd) (xOp) (xIn) (xCe) (xMk) (lAd) (lIn) (lA) (lX) (lSp) (bef) (awa) (rd) (wr) := by
  unfold wL_law_739
  refine pp_racing hc hk (br_t rfl ?_)
  rw [nI_1]
  by_cases z : xMk k = 0
  · exact br_t z (nm_e (h f c (pp_ac_k hac (fun w => w.2 z))))
  · refine br_f z (nm_e ?_)
    by_cases y : f < 0
    · exact br_f (sp_nle y) (nm_e (h _ _ ((pp_ac_h hac hcl z).1 y)))
    · exact br_t (Int32.not_lt.mp y) (nm_e (h _ _ ((pp_ac_h hac hcl z).2 y)))
theorem sp_or1 : ∀ a, a ≤ 1 → ∀ b, b ≤ 1 → nI (a + 2 * b) ||| 1 = nI (1 + 2 * b) := by
  intro a ha b hb
  rcases (show a = 0 ∨ a = 1 by omega) with e | e <;> rcases (show b = 0 ∨ b = 1 by omega) with e2 | e2 <;> rw [e, e2] <;> decide
theorem sp_or2 : ∀ a, a ≤ 1 → ∀ b, b ≤ 1 → nI (a + 2 * b) ||| 2 = nI (a + 2 * 1) := by
  intro a ha b hb
  rcases (show a = 0 ∨ a = 1 by omega) with e | e <;> rcases (show b = 0 ∨ b = 1 by omega) with e2 | e2 <;> rw [e, e2] <;> decide
theorem pp_644 {k e sv : Nat} {lo hi : Int64} {f11 c12 : Int32} (h : sp_Q cc ce dc ic len s cnt dep md o n m st q ad cop carg xc xAd xOp xIn xCe xMk lAd lIn lA lX lSp bef awa rd wr yc stk nxt acc idx mkr yAd yOp yIn yCe lds) (hk : k < cnt) (hek : e < ce) (hce : xCe k = nI e) (hsv : sv ≤ 1) (hs5 : sv = 1 ↔ o k = 5)
    (hR : ∀ j, j < 128 → (pp_in lo hi j ↔ sp_R (sp_E o n m) k j))
    (hfin : wL_law_739 post Ls xs J71 J249 J308 J323 x1 x2 x4 x5 x6 x8 x9 (nI e) f11 c12 (nI k) (xMk k) kc ks (nI cc) (nI ce) (nI dc) (nI ic) (nI len) (nI s) (nI cnt) (nI dep) (nI md) (cop) (carg) (xc) (xAd) (xOp) (xIn) (xCe) (xMk) (lAd) (lIn) (lA) (lX) (lSp) (bef) (awa) (rd) (wr)) :
    ∀ d j, j + d = k → ∀ a b : Nat, a ≤ 1 → b ≤ 1 → (a = 1 ↔ ∃ i, i < j ∧ xCe i = nI e ∧ o i = 5 ∧ ¬ sp_R (sp_E o n m) k i) → (b = 1 ↔ (o k = 5 ∧ ∃ i, i < j ∧ xCe i = nI e ∧ ¬ o i = 5 ∧ ¬ sp_R (sp_E o n m) k i)) →
      wL_law_644 post Ls xs J71 J249 J308 J323 x1 x2 x4 x5 x6 x8 x9 (nI e) f11 c12 (nI k) lo hi (nI sv) kc ks (nI cc) (nI ce) (nI dc) (nI ic) (nI len) (nI s) (nI cnt) (nI dep) (nI md) (cop) (carg) (xc) (xAd) (xOp) (xIn) (xCe) (xMk) (lAd) (lIn) (lA) (lX) (lSp) (bef) (awa) (rd) (wr) (d + 1) (nI (a + 2 * b)) (nI j) := by
  obtain ⟨hK, hC, hc0, hAd, hxO, hyO, hxI, hyI, hCe, hS, hV, hMr, hRW, hMk, h01, H, IL⟩ := h
  unfold sp_K at hK
  intro d
  induction d with
  | zero =>
    intro j hj a b ha hb hA hB
    obtain rfl : j = k := by omega
    unfold wL_law_644
    refine br_t (nI_le (by omega) (by omega)) ?_
    have hm : sp_mk o n m yCe j (nI (a + 2 * b)) := by
      have hy : yCe j = nI e := (hCe j hk).symm.trans hce
      refine ⟨fun w => ?_, fun _ => ⟨a, b, ha, hb, rfl, hA.trans ?_, hB.trans ?_⟩⟩
      · rw [hy] at w
        exact absurd w.symm (sp_m1n (by omega))
      · constructor
        · rintro ⟨i, i1, i2, i3, i4⟩
          exact ⟨i, i1, by rw [hy, ← hCe i (by omega)]; exact i2, i3, i4⟩
        · rintro ⟨i, i1, i2, i3, i4⟩
          rw [hy, ← hCe i (by omega)] at i2
          exact ⟨i, i1, i2, i3, i4⟩
      · constructor
        · rintro ⟨w, i, i1, i2, i3, i4⟩
          exact ⟨w, i, i1, by rw [hy, ← hCe i (by omega)]; exact i2, i3, i4⟩
        · rintro ⟨w, i, i1, i2, i3, i4⟩
          rw [hy, ← hCe i (by omega)] at i2
          exact ⟨w, i, i1, i2, i3, i4⟩
    rw [sp_mk_u (hMk j hk) hm] at hfin
    exact hfin
  | succ d ih =>
    intro j hj a b ha hb hA hB
    have hjc : j < cnt := by omega
    have hoj := (hS j hjc).1
    have keep : ¬ (xCe j = nI e ∧ ¬ sp_R (sp_E o n m) k j ∧ (o j = 5 ∨ o k = 5)) → wL_law_644 post Ls xs J71 J249 J308 J323 x1 x2 x4 x5 x6 x8 x9 (nI e) f11 c12 (nI k) lo hi (nI sv) kc ks (nI cc) (nI ce) (nI dc) (nI ic) (nI len) (nI s) (nI cnt) (nI dep) (nI md) (cop) (carg) (xc) (xAd) (xOp) (xIn) (xCe) (xMk) (lAd) (lIn) (lA) (lX) (lSp) (bef) (awa) (rd) (wr) (d + 1) (nI (a + 2 * b)) (nI (j + 1)) := by
      intro hn
      refine ih (j + 1) (by omega) a b ha hb (hA.trans ?_) (hB.trans ?_)
      · constructor
        · rintro ⟨i, i1, i2⟩
          exact ⟨i, by omega, i2⟩
        · rintro ⟨i, i1, i2, i3, i4⟩
          by_cases e : i = j
          · rw [e] at i2 i3 i4
            exact absurd ⟨i2, i4, Or.inl i3⟩ hn
          · exact ⟨i, by omega, i2, i3, i4⟩
      · constructor
        · rintro ⟨z, i, i1, i2⟩
          exact ⟨z, i, by omega, i2⟩
        · rintro ⟨z, i, i1, i2, i3, i4⟩
          by_cases e : i = j
          · rw [e] at i2 i3 i4
            exact absurd ⟨i2, i4, Or.inr z⟩ hn
          · exact ⟨z, i, by omega, i2, i3, i4⟩
    unfold wL_law_644
    refine br_f (nI_ge (by omega) (by omega)) (pp_step3 (by omega) hjc ?_)
    refine br_c (fun hc => ?_) (fun hc => nm_r (nI_1 j) (keep (fun z => hc z.1)))
    refine pp_tst (by omega) (fun hno => ?_) (fun hin => nm_r (nI_1 j) (keep (fun z => z.2.1 ((hR j (by omega)).1 hin))))
    have hno' : ¬ sp_R (sp_E o n m) k j := fun w => hno ((hR j (by omega)).2 w)
    refine pp_step1 (by omega) hjc ?_
    rw [hxO j hjc, sp_or1 a ha b hb]
    refine pk_eq (o j) 5 (fun e5 => nm_e ?_) (fun n5 => ?_)
    · unfold wL_law_709
      have fin5 : wL_law_644 post Ls xs J71 J249 J308 J323 x1 x2 x4 x5 x6 x8 x9 (nI e) f11 c12 (nI k) lo hi (nI sv) kc ks (nI cc) (nI ce) (nI dc) (nI ic) (nI len) (nI s) (nI cnt) (nI dep) (nI md) (cop) (carg) (xc) (xAd) (xOp) (xIn) (xCe) (xMk) (lAd) (lIn) (lA) (lX) (lSp) (bef) (awa) (rd) (wr) (d + 1) (nI (1 + 2 * b)) (nI (j + 1)) := by
        refine ih (j + 1) (by omega) 1 b (by omega) hb ⟨fun _ => ⟨j, by omega, hc, e5, hno'⟩, fun _ => rfl⟩ (hB.trans ?_)
        constructor
        · rintro ⟨z, i, i1, i2⟩
          exact ⟨z, i, by omega, i2⟩
        · rintro ⟨z, i, i1, i2, i3, i4⟩
          by_cases e' : i = j
          · rw [e'] at i3
            exact absurd e5 i3
          · exact ⟨z, i, by omega, i2, i3, i4⟩
      refine pk_eq sv 0 (fun s0 => nm_r (nI_1 j) fin5) (fun s1 => pk_eq (o j) 4 (fun z => by omega) (fun z => pk_eq (o j) 6 (fun z => by omega) (fun z => nm_r (nI_1 j) fin5)))
    · unfold wL_law_709
      rw [sp_or2 a ha b hb]
      have hacc : o j = 4 ∨ o j = 6 := by
        rcases (hS j hjc).2 with ⟨w, _⟩ | ⟨_, w⟩
        · unfold sp_acc at w
          omega
        · have hy : yCe j = nI e := (hCe j hjc).symm.trans hc
          rw [hy] at w
          exact absurd w.symm (sp_m1n (by omega))
      have fin2 : ¬ sv = 0 → wL_law_644 post Ls xs J71 J249 J308 J323 x1 x2 x4 x5 x6 x8 x9 (nI e) f11 c12 (nI k) lo hi (nI sv) kc ks (nI cc) (nI ce) (nI dc) (nI ic) (nI len) (nI s) (nI cnt) (nI dep) (nI md) (cop) (carg) (xc) (xAd) (xOp) (xIn) (xCe) (xMk) (lAd) (lIn) (lA) (lX) (lSp) (bef) (awa) (rd) (wr) (d + 1) (nI (a + 2 * 1)) (nI (j + 1)) := by
        intro s1
        have hk5 : o k = 5 := hs5.1 (by omega)
        refine ih (j + 1) (by omega) a 1 ha (by omega) (hA.trans ?_) ⟨fun _ => ⟨hk5, j, by omega, hc, n5, hno'⟩, fun _ => rfl⟩
        constructor
        · rintro ⟨i, i1, i2⟩
          exact ⟨i, by omega, i2⟩
        · rintro ⟨i, i1, i2, i3, i4⟩
          by_cases e' : i = j
          · rw [e'] at i3
            exact absurd i3 n5
          · exact ⟨i, by omega, i2, i3, i4⟩
      refine pk_eq sv 0 (fun s0 => nm_r (nI_1 j) (keep (fun z => ?_))) (fun s1 => pk_eq (o j) 4 (fun z => nm_e (nm_r (nI_1 j) (fin2 s1))) (fun z => pk_eq (o j) 6 (fun z => nm_e (nm_r (nI_1 j) (fin2 s1))) (fun z => by omega)))
      rcases z.2.2 with w | w
      · exact n5 w
      · have := hs5.2 w
        omega
/-- one step k that touches cell x10 -/
theorem pp_323 {c : Nat} (h : sp_Q cc ce dc ic len s cnt dep md o n m st q ad cop carg xc xAd xOp xIn xCe xMk lAd lIn lA lX lSp bef awa rd wr yc stk nxt acc idx mkr yAd yOp yIn yCe lds) (D : sp_D o n m cnt md dep st) (hc : c ≤ ce) (hJ : J308 (nI (c + 1) + (-1))) :
    ∀ d k, k + d = cnt → ∀ f g, pp_ac xCe xMk (nI c + (-1)) k f g → wL_law_323 post Ls xs J71 J249 J308 x1 x2 x4 x5 x6 x8 (nI cnt) (nI c + (-1)) kc ks (nI cc) (nI ce) (nI dc) (nI ic) (nI len) (nI s) (nI cnt) (nI dep) (nI md) (cop) (carg) (xc) (xAd) (xOp) (xIn) (xCe) (xMk) (lAd) (lIn) (lA) (lX) (lSp) (bef) (awa) (rd) (wr) (d + 1) f g (nI k) := by
  have hQ := h
  obtain ⟨hK, hC, hc0, hAd, hxO, hyO, hxI, hyI, hCe, hS, hV, hMr, hRW, hMk, h01, H, IL⟩ := h
  unfold sp_K at hK
  have eJ : nI c + (-1) + 1 = nI (c + 1) + (-1) := by
    rw [pk_m1, Int32.add_assoc]
    have e : (-1 : Int32) + 1 = 0 := by decide
    rw [e, Int32.add_zero]
  intro d
  induction d with
  | zero =>
    intro k hk f g hac
    obtain rfl : k = cnt := by omega
    unfold wL_law_323
    refine br_t (nI_le (by omega) (by omega)) ?_
    cases c with
    | zero => exact br_t (by decide) (nm_r eJ hJ)
    | succ c =>
      have e1 : nI (c + 1) + (-1) = nI c := pk_m1 c
      have e2 : nI (c + 1 + 1) + (-1) = nI (c + 1) := pk_m1 (c + 1)
      rw [e1] at hac ⊢
      rw [e2] at hJ
      exact br_f (nI_pos (by omega)) (pp_firstRace (by omega) (by omega) (show c < ce by omega) hac (br_t rfl (pp_races (by omega) (by omega) (show c < ce by omega) hac (br_t rfl (nm_r (nI_1 c) hJ)))))
  | succ d ih =>
    intro k hk f g hac
    have hkc : k < cnt := by omega
    unfold wL_law_323
    refine br_f (nI_ge (by omega) (by omega)) (pp_step3 (by omega) hkc ?_)
    refine br_c (fun hcl => ?_) (fun hcl => nm_r (nI_1 k) (ih (k + 1) (by omega) f g (pp_ac_k hac (fun w => hcl w.1))))
    have nxt : ∀ f' g', pp_ac xCe xMk (nI c + (-1)) (k + 1) f' g' → wL_law_323 post Ls xs J71 J249 J308 x1 x2 x4 x5 x6 x8 (nI cnt) (nI c + (-1)) kc ks (nI cc) (nI ce) (nI dc) (nI ic) (nI len) (nI s) (nI cnt) (nI dep) (nI md) (cop) (carg) (xc) (xAd) (xOp) (xIn) (xCe) (xMk) (lAd) (lIn) (lA) (lX) (lSp) (bef) (awa) (rd) (wr) (d + 1) f' g' (nI (k + 1)) := fun f' g' h' => ih (k + 1) (by omega) f' g' h'
    cases c with
    | zero =>
      have hm0 : xMk k = 0 := (hMk k hkc).1 (by rw [← hCe k hkc, hcl]; decide)
      have w := pp_739 (post := post) (Ls := Ls) (xs := xs) (J71 := J71) (J249 := J249) (J308 := J308) (x1 := x1) (x2 := x2) (x4 := x4) (x5 := x5) (x6 := x6) (x8 := x8) (x9 := nI cnt) (kc := kc) (ks := ks) (cc := cc) (ce := ce) (dc := dc) (ic := ic) (len := len) (s := s) (dep := dep) (md := md) (cop := cop) (carg := carg) (xc := xc) (xAd := xAd) (xOp := xOp) (xIn := xIn) (lAd := lAd) (lIn := lIn) (lA := lA) (lX := lX) (lSp := lSp) (bef := bef) (awa := awa) (rd := rd) (wr := wr) (by omega) hkc hcl hac nxt
      rw [hm0] at w
      exact br_t (by decide) w
    | succ c =>
      rw [pk_m1] at *
      refine br_f (nI_pos (by omega)) (pp_ini (K := fun a b => ∃ fu371 : Nat, wL_law_371 post Ls xs J71 J249 J308 (wL_law_323 post Ls xs J71 J249 J308 x1 x2 x4 x5 x6 x8 (nI cnt) (nI c) kc ks (nI cc) (nI ce) (nI dc) (nI ic) (nI len) (nI s) (nI cnt) (nI dep) (nI md) (cop) (carg) (xc) (xAd) (xOp) (xIn) (xCe) (xMk) (lAd) (lIn) (lA) (lX) (lSp) (bef) (awa) (rd) (wr) (d + 1)) x1 x2 x4 x5 x6 x8 (nI cnt) (nI c) f g (nI k) 0 kc ks (nI cc) (nI ce) (nI dc) (nI ic) (nI len) (nI s) (nI cnt) (nI dep) (nI md) (cop) (carg) (xc) (xAd) (xOp) (xIn) (xCe) (xMk) (lAd) (lIn) (lA) (lX) (lSp) (bef) (awa) (rd) (wr) fu371 a b (nI k)) (by omega) (fun lo hi hb => ⟨k + 1, ?_⟩))
      refine pp_371 hQ D hkc (fun lo' hi' hR => ?_) k (Nat.le_refl k) lo hi (fun j hj => ?_)
      · unfold wL_law_371
        refine br_t (by decide) (pp_step1 (by omega) hkc ?_)
        rw [hxO k hkc]
        have hok := (hS k hkc).1
        have fin : ∀ sv : Nat, sv ≤ 1 → (sv = 1 ↔ o k = 5) → wL_law_644 post Ls xs J71 J249 J308 (wL_law_323 post Ls xs J71 J249 J308 x1 x2 x4 x5 x6 x8 (nI cnt) (nI c) kc ks (nI cc) (nI ce) (nI dc) (nI ic) (nI len) (nI s) (nI cnt) (nI dep) (nI md) (cop) (carg) (xc) (xAd) (xOp) (xIn) (xCe) (xMk) (lAd) (lIn) (lA) (lX) (lSp) (bef) (awa) (rd) (wr) (d + 1)) x1 x2 x4 x5 x6 x8 (nI cnt) (nI c) f g (nI k) lo' hi' (nI sv) kc ks (nI cc) (nI ce) (nI dc) (nI ic) (nI len) (nI s) (nI cnt) (nI dep) (nI md) (cop) (carg) (xc) (xAd) (xOp) (xIn) (xCe) (xMk) (lAd) (lIn) (lA) (lX) (lSp) (bef) (awa) (rd) (wr) (k + 1) (nI (0 + 2 * 0)) (nI 0) :=
          fun sv h1 h5 => pp_644 hQ hkc (show c < ce by omega) hcl h1 h5 hR (pp_739 (by omega) hkc hcl hac nxt) k 0 (by omega) 0 0 (by omega) (by omega) ⟨fun w => absurd w (by omega), fun ⟨i, i1, _⟩ => by omega⟩ ⟨fun w => absurd w (by omega), fun ⟨_, i, i1, _⟩ => by omega⟩
        exact pk_eq (o k) 5 (fun e5 => ⟨k + 1, fin 1 (by omega) ⟨fun _ => e5, fun _ => rfl⟩⟩) (fun n5 => ⟨k + 1, fin 0 (by omega) ⟨fun w => by omega, fun w => absurd w n5⟩⟩)
      · rw [hb j hj]
        constructor
        · exact Or.inl
        · rintro (e | ⟨b, b1, b2, _⟩)
          · exact e
          · omega
end

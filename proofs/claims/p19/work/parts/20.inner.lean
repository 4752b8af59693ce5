/-! ===== the law's search: the edges into one step ===== -/
section
variable {o n m : Nat → Nat} {k md : Nat}
theorem sp_lawy (H : sp_H o n m k md) (D : sp_Dh o n m k md) {t y j : Nat} (ht : t < k) (hj : sp_pj o n m t (n t) j) (hy : m (n j) < y) (hyt : y < t) (hn : n y = n t) : j < y := by
  obtain ⟨x, ⟨hx1, hx2⟩, hx3⟩ := pk_least (fun x => m (n j) < x ∧ n x = n t) ⟨y, hy, hn⟩
  have hxy : x ≤ y := by
    apply Classical.byContradiction
    intro z
    exact hx3 y (by omega) ⟨hy, hn⟩
  have e := sp_lawj H D ht (show x ≤ t by omega) hx1 hj.2.1.2.2.1 hx2 (fun z a b w => hx3 z b ⟨a, w⟩) hj.2.1.2.2.2 hj.2.1 hj.1 rfl
  omega
/-- what the inner loop has gathered once the steps from c on are seen -/
def pp_I (o n m : Nat → Nat) (t c nx jv : Nat) (S0 S : Nat → Prop) : Prop :=
  (c ≤ nx ∧ nx ≤ t ∧ n nx = n t ∧ ∀ y, c ≤ y → y < nx → ¬ n y = n t) ∧
  (jv ≤ 1 ∧ (jv = 1 ↔ ((o t = 1 ∨ o t = 0) ∧ ∀ y, c ≤ y → y < t → n y = n t → ¬ o y = 1))) ∧
  ∀ j, j < 128 → (S j ↔ (S0 j ∨ (nx < t ∧ sp_pn o n m t (n t) j) ∨ ((o t = 1 ∨ o t = 0) ∧ sp_pj o n m t (n t) j ∧ c ≤ m (n j))))
theorem pp_I0 (H : sp_H o n m k md) {t jv : Nat} {S0 : Nat → Prop} (ht : t < k) (h1 : jv ≤ 1) (hjv : jv = 1 ↔ (o t = 1 ∨ o t = 0)) : pp_I o n m t t t jv S0 S0 := by
  refine ⟨⟨Nat.le_refl t, Nat.le_refl t, rfl, fun y a b => by omega⟩, ⟨h1, hjv.trans ⟨fun z => ⟨z, fun y a b => by omega⟩, fun z => z.1⟩⟩, fun j hj => ?_⟩
  constructor
  · exact Or.inl
  · rintro (z | z | z)
    · exact z
    · omega
    · have h2 := z.2.1.1
      have h3 := H.2.1 j (by omega) z.2.1.2.1.2.1
      have h4 := z.2.2
      omega
/-- a step of another instance -/
theorem pp_In {t c nx jv : Nat} {S0 S : Nat → Prop} (hI : pp_I o n m t (c + 1) nx jv S0 S) (hn : ¬ n c = n t) : pp_I o n m t c nx jv S0 S := by
  obtain ⟨⟨a1, a2, a3, a4⟩, ⟨b1, b2⟩, h3⟩ := hI
  refine ⟨⟨by omega, a2, a3, fun y h1 h2 => ?_⟩, ⟨b1, b2.trans ⟨fun z => ⟨z.1, fun y h1 h2 h4 => ?_⟩, fun z => ⟨z.1, fun y h1 h2 h4 => z.2 y (by omega) h2 h4⟩⟩⟩, fun j hj => (h3 j hj).trans ?_⟩
  · by_cases e : y = c
    · rw [e]; exact hn
    · exact a4 y (by omega) h2
  · by_cases e : y = c
    · rw [e] at h4
      exact absurd h4 hn
    · exact z.2 y (by omega) h2 h4
  · constructor
    · rintro (z | z | z)
      · exact Or.inl z
      · exact Or.inr (Or.inl z)
      · exact Or.inr (Or.inr ⟨z.1, z.2.1, by have := z.2.2; omega⟩)
    · rintro (z | z | z)
      · exact Or.inl z
      · exact Or.inr (Or.inl z)
      · refine Or.inr (Or.inr ⟨z.1, z.2.1, ?_⟩)
        have h5 := z.2.2
        by_cases e : m (n j) = c
        · have h6 := z.2.1.2.1.2.2.1
          rw [e] at h6
          exact absurd h6 hn
        · omega
/-- a step of the same instance -/
theorem pp_Is (H : sp_H o n m k md) (D : sp_Dh o n m k md) {t c nx jv : Nat} {S0 S S' : Nat → Prop} (ht : t < k) (hc : c < t) (hI : pp_I o n m t (c + 1) nx jv S0 S) (hn : n c = n t)
    (hS : ∀ j, j < 128 → (S' j ↔ (S j ∨ (nx = t ∧ j = if o c = 3 then t - 1 else c) ∨ (jv = 1 ∧ o c = 2 ∧ j = nx - 1)))) : pp_I o n m t c c (if o c = 1 then 0 else jv) S0 S' := by
  obtain ⟨⟨a1, a2, a3, a4⟩, ⟨b1, b2⟩, h3⟩ := hI
  have hF : ∀ y, y < t → n y = n t → ¬ o y = 0 := fun y hy e => D.2.2.1 y t hy ht e
  refine ⟨⟨Nat.le_refl c, by omega, hn, fun y h1 h2 => by omega⟩, ⟨?_, ?_⟩, fun j hj => (hS j hj).trans ?_⟩
  · split
    · omega
    · exact b1
  · by_cases e : o c = 1
    · rw [if_pos e]
      exact ⟨fun z => by omega, fun z => absurd e (z.2 c (Nat.le_refl c) hc hn)⟩
    · rw [if_neg e, b2]
      refine ⟨fun z => ⟨z.1, fun y h1 h2 h4 => ?_⟩, fun z => ⟨z.1, fun y h1 h2 h4 => z.2 y (by omega) h2 h4⟩⟩
      by_cases e2 : y = c
      · rw [e2]; exact e
      · exact z.2 y (by omega) h2 h4
  · rw [h3 j hj]
    have hpn : sp_pn o n m t (n t) j ↔ ((nx < t ∧ sp_pn o n m t (n t) j) ∨ (nx = t ∧ j = if o c = 3 then t - 1 else c)) := by
      by_cases e : nx = t
      · have hl := sp_law1 H D ht hc hn (fun x h1 h2 => a4 x (by omega) (by omega)) j
        constructor
        · exact fun z => Or.inr ⟨e, hl.1 z⟩
        · rintro (z | z)
          · exact z.2
          · exact hl.2 z.2
      · constructor
        · exact fun z => Or.inl ⟨by omega, z⟩
        · rintro (z | z)
          · exact z.2
          · exact absurd z.1 e
    have hpj : ((o t = 1 ∨ o t = 0) ∧ sp_pj o n m t (n t) j ∧ m (n j) = c) ↔ (jv = 1 ∧ o c = 2 ∧ j = nx - 1) := by
      constructor
      · rintro ⟨z1, z2, z3⟩
        have h2 : o c = 2 := by
          have := z2.2.1.2.2.2
          rwa [z3] at this
        have hjx := sp_lawj H D ht a2 (show c < nx by omega) hn a3 (fun y h1 h4 => a4 y (by omega) h4) h2 z2.2.1 z2.1 z3
        refine ⟨b2.2 ⟨z1, fun y h1 h4 h5 h6 => ?_⟩, h2, hjx⟩
        have hlt := sp_lawy H D ht z2 (show m (n j) < y by omega) h4 h5
        exact z2.2.2 y hlt h4 ⟨h5, Or.inl h6⟩
      · rintro ⟨z1, z2, z3⟩
        obtain ⟨y1, y2⟩ := b2.1 z1
        obtain ⟨w1, w2⟩ := sp_lawx H D ht a2 (show c < nx by omega) hn a3 (fun y h1 h4 => a4 y (by omega) h4) z2
        rw [z3]
        refine ⟨y1, ⟨by omega, w1, fun s h1 h4 h5 => ?_⟩, w2⟩
        rcases h5.2 with h6 | h6
        · exact y2 s (by omega) h4 h5.1 h6
        · exact hF s h4 h5.1 h6
    constructor
    · rintro ((z | z | z) | z | z)
      · exact Or.inl z
      · exact Or.inr (Or.inl ⟨hc, z.2⟩)
      · exact Or.inr (Or.inr ⟨z.1, z.2.1, by have := z.2.2; omega⟩)
      · exact Or.inr (Or.inl ⟨hc, hpn.2 (Or.inr z)⟩)
      · have := hpj.2 z
        exact Or.inr (Or.inr ⟨this.1, this.2.1, by omega⟩)
    · rintro (z | z | z)
      · exact Or.inl (Or.inl z)
      · rcases hpn.1 z.2 with y | y
        · exact Or.inl (Or.inr (Or.inl y))
        · exact Or.inr (Or.inl y)
      · by_cases e : m (n j) = c
        · exact Or.inr (Or.inr (hpj.1 ⟨z.1, z.2.1, e⟩))
        · exact Or.inl (Or.inr (Or.inr ⟨z.1, z.2.1, by have := z.2.2; omega⟩))
/-- the loop's end -/
theorem pp_Ie (H : sp_H o n m k md) (D : sp_Dh o n m k md) {t c nx jv : Nat} {S0 S S' : Nat → Prop} (ht : t < k) (h0 : 0 < t) (hI : pp_I o n m t c nx jv S0 S) (hend : c = 0 ∨ (¬ nx = t ∧ jv = 0))
    (hS : ∀ j, j < 128 → (S' j ↔ (S j ∨ (nx = t ∧ j = t - 1)))) : ∀ j, j < 128 → (S' j ↔ (S0 j ∨ sp_E o n m j t)) := by
  obtain ⟨⟨a1, a2, a3, a4⟩, ⟨b1, b2⟩, h3⟩ := hI
  intro j hj
  rw [hS j hj, h3 j hj]
  have hpj : (o t = 1 ∨ o t = 0) → sp_pj o n m t (n t) j → c ≤ m (n j) := by
    intro z1 z2
    rcases hend with e | ⟨e1, e2⟩
    · omega
    · apply Classical.byContradiction
      intro hlt
      have : jv = 1 := by
        refine b2.2 ⟨z1, fun y h1 h4 h5 h6 => ?_⟩
        have hjy := sp_lawy H D ht z2 (show m (n j) < y by omega) h4 h5
        exact z2.2.2 y hjy h4 ⟨h5, Or.inl h6⟩
      omega
  constructor
  · rintro ((z | z | z) | z)
    · exact Or.inl z
    · exact Or.inr (Or.inl z.2)
    · exact Or.inr (Or.inr ⟨z.2.1, z.1⟩)
    · have hc0 : c = 0 := by
        rcases hend with e | e
        · exact e
        · exact absurd z.1 e.1
      exact Or.inr (Or.inl ((sp_law0 H D ht h0 (fun x hx => a4 x (by omega) (by omega)) j).2 z.2))
  · rintro (z | z | z)
    · exact Or.inl (Or.inl z)
    · by_cases e : nx = t
      · have hc0 : c = 0 := by
          rcases hend with e' | e'
          · exact e'
          · exact absurd e e'.1
        exact Or.inr ⟨e, (sp_law0 H D ht h0 (fun x hx => a4 x (by omega) (by omega)) j).1 z⟩
      · exact Or.inl (Or.inr (Or.inl ⟨by omega, z⟩))
    · exact Or.inl (Or.inr (Or.inr ⟨z.2, z.1, hpj z.2 z.1⟩))
end
section
variable {cc ce dc ic len s cnt dep md : Nat} {o n m st q ad : Nat → Nat} {cop carg xc xAd xOp xIn xCe xMk lAd lIn lA lX lSp yc stk nxt acc idx mkr yAd yOp yIn yCe lds : Nat → Int32} {bef awa rd wr : Nat → Int64}
variable {post : Int32 → Prop} {Ls : Nat} {xs : Nat → Int32} {J71 : Int32 → Int32 → Int32 → Int32 → Int32 → Int32 → Int32 → Int32 → Int32 → Int32 → Int32 → Int32 → (Nat → Int32) → (Nat → Int32) → (Nat → Int32) → (Nat → Int32) → (Nat → Int32) → (Nat → Int32) → (Nat → Int32) → (Nat → Int32) → (Nat → Int32) → (Nat → Int32) → (Nat → Int32) → (Nat → Int32) → (Nat → Int32) → (Nat → Int64) → (Nat → Int64) → (Nat → Int64) → (Nat → Int64) → Prop} {J249 : Int32 → Int32 → Int32 → Int32 → Int32 → Int32 → Int32 → Int32 → Int32 → Int32 → Int32 → (Nat → Int32) → (Nat → Int32) → (Nat → Int32) → (Nat → Int32) → (Nat → Int32) → (Nat → Int32) → (Nat → Int32) → (Nat → Int32) → (Nat → Int32) → (Nat → Int32) → (Nat → Int32) → (Nat → Int32) → (Nat → Int32) → (Nat → Int64) → (Nat → Int64) → (Nat → Int64) → (Nat → Int64) → Prop} {J308 : Int32 → Prop} {J323 : Int32 → Int32 → Int32 → Prop} {J371 : Int64 → Int64 → Int32 → Prop} {J447 : Int64 → Int64 → Int32 → Int32 → Int32 → Prop} {x1 x2 x4 x5 x6 x8 x9 x10 x11 x12 x13 x14 : Int32} {kc ks : Nat}
theorem pp_567 {lo hi : Int64} {x19 x20 : Int32} {jv q oo : Nat} (ho : oo ≤ 11) (hj : jv ≤ 1) (h : J447 lo hi (nI (if oo = 1 then 0 else jv)) (nI q) (nI q + (-1))) :
    wL_law_567 post Ls xs J71 J249 J308 J323 J371 J447 x1 x2 x4 x5 x6 x8 x9 x10 x11 x12 x13 x14 lo hi x19 x20 (nI jv) (nI q) (nI oo) kc ks (nI cc) (nI ce) (nI dc) (nI ic) (nI len) (nI s) (nI cnt) (nI dep) (nI md) (cop) (carg) (xc) (xAd) (xOp) (xIn) (xCe) (xMk) (lAd) (lIn) (lA) (lX) (lSp) (bef) (awa) (rd) (wr) := by
  unfold wL_law_567
  refine pk_eq oo 1 (fun e => nm_e ?_) (fun e => nm_e ?_)
  · rw [if_pos e] at h
    exact h
  · rw [if_neg e] at h
    exact h
theorem pp_532 {lo hi : Int64} {x19 x20 : Int32} {jv nx q oo : Nat} (ho : oo ≤ 11) (hj : jv ≤ 1) (hn0 : 0 < nx) (hn : nx ≤ 128)
    (h : ∀ lo' hi', (∀ j, j < 128 → (pp_in lo' hi' j ↔ (pp_in lo hi j ∨ (jv = 1 ∧ oo = 2 ∧ j = nx - 1)))) → J447 lo' hi' (nI (if oo = 1 then 0 else jv)) (nI q) (nI q + (-1))) :
    wL_law_532 post Ls xs J71 J249 J308 J323 J371 J447 x1 x2 x4 x5 x6 x8 x9 x10 x11 x12 x13 x14 lo hi x19 x20 (nI jv) (nI nx) (nI q) (nI oo) kc ks (nI cc) (nI ce) (nI dc) (nI ic) (nI len) (nI s) (nI cnt) (nI dep) (nI md) (cop) (carg) (xc) (xAd) (xOp) (xIn) (xCe) (xMk) (lAd) (lIn) (lA) (lX) (lSp) (bef) (awa) (rd) (wr) := by
  have e1 : nI nx - 1 = nI (nx - 1) := pk_sub (b := 1) (by omega)
  unfold wL_law_532
  rw [e1]
  refine pk_eq jv 0 (fun e => pp_567 ho hj (h lo hi (fun j hj' => ?_))) (fun e => pk_eq oo 2 (fun e2 => ?_) (fun e2 => pp_567 ho hj (h lo hi (fun j hj' => ?_))))
  · have z : ¬ jv = 1 := by omega
    simp only [z, false_and, or_false]
  · refine pp_add (K := fun x y => wL_law_567 post Ls xs J71 J249 J308 J323 J371 J447 x1 x2 x4 x5 x6 x8 x9 x10 x11 x12 x13 x14 x y x19 x20 (nI jv) (nI q) (nI oo) kc ks (nI cc) (nI ce) (nI dc) (nI ic) (nI len) (nI s) (nI cnt) (nI dep) (nI md) (cop) (carg) (xc) (xAd) (xOp) (xIn) (xCe) (xMk) (lAd) (lIn) (lA) (lX) (lSp) (bef) (awa) (rd) (wr)) (by omega) (fun lo' hi' hb => pp_567 ho hj (h lo' hi' (fun j hj' => ?_)))
    rw [hb j hj']
    have z : jv = 1 := by omega
    simp only [z, e2, true_and]
  · have e2' : ¬ oo = 2 := e2
    simp only [e2', false_and, and_false, or_false]
theorem pp_510 {lo hi : Int64} {x19 x20 : Int32} {jv nx q oo e : Nat} (ho : oo ≤ 11) (hj : jv ≤ 1) (hn0 : 0 < nx) (hn : nx ≤ 128) (he : e < 128)
    (h : ∀ lo' hi', (∀ j, j < 128 → (pp_in lo' hi' j ↔ (pp_in lo hi j ∨ j = e ∨ (jv = 1 ∧ oo = 2 ∧ j = nx - 1)))) → J447 lo' hi' (nI (if oo = 1 then 0 else jv)) (nI q) (nI q + (-1))) :
    wL_law_510 post Ls xs J71 J249 J308 J323 J371 J447 x1 x2 x4 x5 x6 x8 x9 x10 x11 x12 x13 x14 lo hi x19 x20 (nI jv) (nI nx) (nI q) (nI oo) (nI e) kc ks (nI cc) (nI ce) (nI dc) (nI ic) (nI len) (nI s) (nI cnt) (nI dep) (nI md) (cop) (carg) (xc) (xAd) (xOp) (xIn) (xCe) (xMk) (lAd) (lIn) (lA) (lX) (lSp) (bef) (awa) (rd) (wr) := by
  unfold wL_law_510
  refine pp_add (K := fun x y => wL_law_532 post Ls xs J71 J249 J308 J323 J371 J447 x1 x2 x4 x5 x6 x8 x9 x10 x11 x12 x13 x14 x y x19 x20 (nI jv) (nI nx) (nI q) (nI oo) kc ks (nI cc) (nI ce) (nI dc) (nI ic) (nI len) (nI s) (nI cnt) (nI dep) (nI md) (cop) (carg) (xc) (xAd) (xOp) (xIn) (xCe) (xMk) (lAd) (lIn) (lA) (lX) (lSp) (bef) (awa) (rd) (wr)) he (fun lo1 hi1 hb => pp_532 ho hj hn0 hn (fun lo' hi' hb' => h lo' hi' (fun j hj' => ?_)))
  rw [hb' j hj', hb j hj', or_assoc]
theorem pp_464 {lo hi : Int64} {t jv nx y : Nat} (h : sp_Q cc ce dc ic len s cnt dep md o n m st q ad cop carg xc xAd xOp xIn xCe xMk lAd lIn lA lX lSp bef awa rd wr yc stk nxt acc idx mkr yAd yOp yIn yCe lds) (ht : t < cnt) (hyt : y < t) (hj : jv ≤ 1) (hn0 : 0 < nx) (hn : nx ≤ t)
    (h1 : ¬ n y = n t → J447 lo hi (nI jv) (nI nx) (nI y + (-1)))
    (h2 : n y = n t → ∀ lo' hi', (∀ j, j < 128 → (pp_in lo' hi' j ↔ (pp_in lo hi j ∨ (nx = t ∧ j = if o y = 3 then t - 1 else y) ∨ (jv = 1 ∧ o y = 2 ∧ j = nx - 1)))) → J447 lo' hi' (nI (if o y = 1 then 0 else jv)) (nI y) (nI y + (-1))) :
    wL_law_464 post Ls xs J71 J249 J308 J323 J371 J447 x1 x2 x4 x5 x6 x8 x9 x10 x11 x12 x13 x14 lo hi (nI t) (nI (n t)) (nI jv) (nI nx) (nI y) kc ks (nI cc) (nI ce) (nI dc) (nI ic) (nI len) (nI s) (nI cnt) (nI dep) (nI md) (cop) (carg) (xc) (xAd) (xOp) (xIn) (xCe) (xMk) (lAd) (lIn) (lA) (lX) (lSp) (bef) (awa) (rd) (wr) := by
  obtain ⟨hK, hC, hc0, hAd, hxO, hyO, hxI, hyI, hCe, hS, hV, hMr, hRW, hMk, h01, H, IL⟩ := h
  unfold sp_K at hK
  have hnq := H.1 y (by omega)
  have hnt := H.1 t ht
  have hoq := (hS y (by omega)).1
  have e1 : nI t - 1 = nI (t - 1) := pk_sub (b := 1) (by omega)
  unfold wL_law_464
  rw [e1]
  refine pp_step2 (by omega) (by omega) ?_
  rw [hxI y (by omega)]
  refine pk_eq (n y) (n t) (fun e => ?_) (fun e => nm_e (h1 e))
  refine pp_step1 (by omega) (by omega) ?_
  rw [hxO y (by omega)]
  refine pk_eq nx t (fun ex => pk_eq (o y) 3 (fun e3 => ?_) (fun e3 => ?_)) (fun ex => ?_)
  · refine pp_510 hoq hj hn0 (by omega) (by omega) (fun lo' hi' hb => h2 e lo' hi' (fun j hj' => ?_))
    rw [hb j hj', if_pos e3]
    simp only [ex, true_and]
  · refine pp_510 hoq hj hn0 (by omega) (by omega) (fun lo' hi' hb => h2 e lo' hi' (fun j hj' => ?_))
    rw [hb j hj', if_neg e3]
    simp only [ex, true_and]
  · refine pp_532 hoq hj hn0 (by omega) (fun lo' hi' hb => h2 e lo' hi' (fun j hj' => ?_))
    have ex' : ¬ nx = t := ex
    rw [hb j hj']
    simp only [ex', false_and, false_or]
theorem pp_586 {lo hi : Int64} {t nx : Nat} (ht : t < 128) (h0 : 0 < t) (hn : nx ≤ t)
    (h : ∀ lo' hi', (∀ j, j < 128 → (pp_in lo' hi' j ↔ (pp_in lo hi j ∨ (nx = t ∧ j = t - 1)))) → J371 lo' hi' (nI (t - 1))) :
    wL_law_586 post Ls xs J71 J249 J308 J323 J371 x1 x2 x4 x5 x6 x8 x9 x10 x11 x12 x13 x14 lo hi (nI t) (nI nx) kc ks (nI cc) (nI ce) (nI dc) (nI ic) (nI len) (nI s) (nI cnt) (nI dep) (nI md) (cop) (carg) (xc) (xAd) (xOp) (xIn) (xCe) (xMk) (lAd) (lIn) (lA) (lX) (lSp) (bef) (awa) (rd) (wr) := by
  have e1 : nI t - 1 = nI (t - 1) := pk_sub (b := 1) (by omega)
  have e2 : nI t + (-1) = nI (t - 1) := by rw [← e1, Int32.sub_eq_add_neg]
  unfold wL_law_586
  rw [e1, e2]
  refine pk_eq nx t (fun e => ?_) (fun e => nm_e (h lo hi (fun j hj => ?_)))
  · refine pp_add (K := fun x y => ∀ z : Int32, z = nI (t - 1) → J371 x y z) (by omega) (fun lo' hi' hb => nm_e (h lo' hi' (fun j hj => ?_)))
    rw [hb j hj]
    simp only [e, true_and]
  · have e' : ¬ nx = t := e
    simp only [e', false_and, or_false]
theorem pp_447 {t : Nat} (h : sp_Q cc ce dc ic len s cnt dep md o n m st q ad cop carg xc xAd xOp xIn xCe xMk lAd lIn lA lX lSp bef awa rd wr yc stk nxt acc idx mkr yAd yOp yIn yCe lds) (D : sp_D o n m cnt md dep st) (ht : t < cnt) (h0 : 0 < t) {S0 : Nat → Prop}
    (hk : ∀ lo hi, (∀ j, j < 128 → (pp_in lo hi j ↔ (S0 j ∨ sp_E o n m j t))) → J371 lo hi (nI (t - 1))) :
    ∀ c, c ≤ t → ∀ lo hi jv nx, pp_I o n m t c nx jv S0 (pp_in lo hi) → wL_law_447 post Ls xs J71 J249 J308 J323 J371 x1 x2 x4 x5 x6 x8 x9 x10 x11 x12 x13 x14 (nI t) (nI (n t)) kc ks (nI cc) (nI ce) (nI dc) (nI ic) (nI len) (nI s) (nI cnt) (nI dep) (nI md) (cop) (carg) (xc) (xAd) (xOp) (xIn) (xCe) (xMk) (lAd) (lIn) (lA) (lX) (lSp) (bef) (awa) (rd) (wr) (c + 1) lo hi (nI jv) (nI nx) (nI c + (-1)) := by
  have hK := h.1
  have H := h.2.2.2.2.2.2.2.2.2.2.2.2.2.2.2.1
  unfold sp_K at hK
  intro c
  induction c with
  | zero =>
    intro _ lo hi jv nx hI
    unfold wL_law_447
    refine br_t (by decide) (pp_586 (by omega) h0 hI.1.2.1 (fun lo' hi' hb => hk lo' hi' ?_))
    exact pp_Ie H D.1 ht h0 hI (Or.inl rfl) hb
  | succ c ih =>
    intro hc lo hi jv nx hI
    have a1 := hI.1.1
    have a2 := hI.1.2.1
    have b1 := hI.2.1.1
    unfold wL_law_447
    rw [pk_m1]
    have go : wL_law_464 post Ls xs J71 J249 J308 J323 J371 (wL_law_447 post Ls xs J71 J249 J308 J323 J371 x1 x2 x4 x5 x6 x8 x9 x10 x11 x12 x13 x14 (nI t) (nI (n t)) kc ks (nI cc) (nI ce) (nI dc) (nI ic) (nI len) (nI s) (nI cnt) (nI dep) (nI md) (cop) (carg) (xc) (xAd) (xOp) (xIn) (xCe) (xMk) (lAd) (lIn) (lA) (lX) (lSp) (bef) (awa) (rd) (wr) (c + 1)) x1 x2 x4 x5 x6 x8 x9 x10 x11 x12 x13 x14 lo hi (nI t) (nI (n t)) (nI jv) (nI nx) (nI c) kc ks (nI cc) (nI ce) (nI dc) (nI ic) (nI len) (nI s) (nI cnt) (nI dep) (nI md) (cop) (carg) (xc) (xAd) (xOp) (xIn) (xCe) (xMk) (lAd) (lIn) (lA) (lX) (lSp) (bef) (awa) (rd) (wr) := by
      refine pp_464 h ht (by omega) b1 (by omega) a2 (fun e => ?_) (fun e lo' hi' hb => ?_)
      · exact ih (by omega) lo hi jv nx (pp_In hI e)
      · exact ih (by omega) lo' hi' _ c (pp_Is H D.1 ht (by omega) hI e hb)
    refine br_f (nI_pos (by omega)) (pk_eq nx t (fun e => go) (fun e => pk_eq jv 0 (fun e2 => ?_) (fun e2 => go)))
    refine pp_586 (by omega) h0 a2 (fun lo' hi' hb => hk lo' hi' ?_)
    exact pp_Ie H D.1 ht h0 hI (Or.inr ⟨e, e2⟩) hb
end

/-! ===== the reference's search, and the masks ===== -/
def sp_hit (o n : Nat → Nat) (i : Nat) (b : Prop) (t : Nat) : Prop := n t = i ∧ (b → (o t = 1 ∨ o t = 0))
def sp_vn (o n : Nat → Nat) (i : Nat) (b : Prop) (j k : Nat) (T : Nat → Prop) : Prop :=
  ∃ t, j < t ∧ t ≤ k ∧ sp_hit o n i b t ∧ (∀ s, j < s → s < t → ¬ sp_hit o n i b s) ∧ T t
theorem sp_vn_no {o n : Nat → Nat} {i : Nat} {b : Prop} {j k : Nat} {T : Nat → Prop} (h : k ≤ j) : ¬ sp_vn o n i b j k T := by
  rintro ⟨t, h1, h2, _⟩
  omega
theorem sp_vn_hit {o n : Nat → Nat} {i : Nat} {b : Prop} {j k : Nat} {T : Nat → Prop} (h : j < k) (hh : sp_hit o n i b (j + 1)) : sp_vn o n i b j k T ↔ T (j + 1) := by
  constructor
  · rintro ⟨t, h1, h2, h3, h4, h5⟩
    by_cases e : t = j + 1
    · rw [← e]; exact h5
    · exact absurd hh (h4 (j + 1) (by omega) (by omega))
  · exact fun z => ⟨j + 1, by omega, by omega, hh, fun s _ _ => by omega, z⟩
theorem sp_vn_go {o n : Nat → Nat} {i : Nat} {b : Prop} {j k : Nat} {T : Nat → Prop} (hh : ¬ sp_hit o n i b (j + 1)) : sp_vn o n i b j k T ↔ sp_vn o n i b (j + 1) k T := by
  constructor
  · rintro ⟨t, h1, h2, h3, h4, h5⟩
    by_cases e : t = j + 1
    · rw [e] at h3
      exact absurd h3 hh
    · exact ⟨t, by omega, h2, h3, fun s _ y => h4 s (by omega) y, h5⟩
  · rintro ⟨t, h1, h2, h3, h4, h5⟩
    refine ⟨t, by omega, h2, h3, fun s _ y => ?_, h5⟩
    by_cases e : s = j + 1
    · rw [e]; exact hh
    · exact h4 s (by omega) y
def sp_ve (o n m : Nat → Nat) (md j k : Nat) (T : Nat → Prop) : Prop :=
  (o j = 0 ∧ ¬ n j = 0 ∧ sp_vn o n (n (m (n j))) (o (m (n j)) = 2) j k T) ∨
  (¬ o j = 0 ∧ (((o j = 2 ∨ o j = 3) ∧ ∃ c, 1 ≤ c ∧ c < md ∧ m c = j ∧ sp_vn o n c False j k T) ∨ (¬ o j = 3 ∧ sp_vn o n (n j) False j k T)))
theorem sp_vf {o n : Nat → Nat} {i : Nat} {b : Prop} (hb : ¬ b) {t : Nat} : sp_hit o n i b t ↔ n t = i :=
  ⟨fun h => h.1, fun h => ⟨h, fun z => absurd z hb⟩⟩
theorem sp_veE {o n m : Nat → Nat} {md j k : Nat} {T : Nat → Prop} (hmd : ∀ t, t ≤ k → n t < md) : sp_ve o n m md j k T ↔ ∃ t, t ≤ k ∧ sp_E o n m j t ∧ T t := by
  constructor
  · rintro (⟨h1, h2, t, a1, a2, a3, a4, a5⟩ | ⟨h1, (⟨h2, c, c1, c2, c3, t, a1, a2, a3, a4, a5⟩ | ⟨h2, t, a1, a2, a3, a4, a5⟩)⟩)
    · refine ⟨t, a2, ?_, a5⟩
      by_cases hb : o (m (n j)) = 2
      · refine Or.inr ⟨⟨a1, ⟨h1, h2, a3.1.symm, hb⟩, fun s x y z => ?_⟩, a3.2 hb⟩
        exact a4 s x y ⟨z.1.trans a3.1, fun _ => z.2⟩
      · refine Or.inl ⟨a1, Or.inl ⟨h1, h2, a3.1.symm, hb⟩, fun s x y z => ?_⟩
        exact a4 s x y ⟨z.trans a3.1, fun w => absurd w hb⟩
    · have e := a3.1
      refine ⟨t, a2, Or.inl ⟨a1, Or.inr (Or.inl ⟨h2, by omega, by rw [e]; exact c3⟩), fun s x y z => ?_⟩, a5⟩
      exact a4 s x y ⟨z.trans e, fun w => absurd w id⟩
    · refine ⟨t, a2, Or.inl ⟨a1, Or.inr (Or.inr ⟨h1, h2, a3.1.symm⟩), fun s x y z => ?_⟩, a5⟩
      exact a4 s x y ⟨z.trans a3.1, fun w => absurd w id⟩
  · rintro ⟨t, a2, (⟨a1, (c | c | c), a4⟩ | ⟨⟨a1, c, a4⟩, a3⟩), a5⟩
    · refine Or.inl ⟨c.1, c.2.1, t, a1, a2, ⟨c.2.2.1.symm, fun w => absurd w c.2.2.2⟩, fun s x y z => ?_, a5⟩
      exact a4 s x y (z.1.trans c.2.2.1)
    · refine Or.inr ⟨by omega, Or.inl ⟨c.1, n t, by omega, hmd t a2, c.2.2, t, a1, a2, ⟨rfl, fun w => absurd w id⟩, fun s x y z => ?_, a5⟩⟩
      exact a4 s x y z.1
    · refine Or.inr ⟨c.1, Or.inr ⟨c.2.1, t, a1, a2, ⟨c.2.2.symm, fun w => absurd w id⟩, fun s x y z => ?_, a5⟩⟩
      exact a4 s x y (z.1.trans c.2.2)
    · refine Or.inl ⟨c.1, c.2.1, t, a1, a2, ⟨c.2.2.1.symm, fun _ => a3⟩, fun s x y z => ?_, a5⟩
      exact a4 s x y ⟨z.1.trans c.2.2.1, z.2 c.2.2.2⟩
theorem sp_sr {o n m : Nat → Nat} {j k : Nat} (hj : j < k) : sp_R (sp_E o n m) k j ↔ ∃ t, t ≤ k ∧ sp_E o n m j t ∧ sp_R (sp_E o n m) k t := by
  constructor
  · intro r
    rcases sp_R_inv r with h | ⟨b, e, hb, r'⟩
    · omega
    · exact ⟨b, hb, e, r'⟩
  · rintro ⟨t, ht, e, r⟩
    exact sp_R_step e ht r
def sp_W (o n m : Nat → Nat) (ce : Nat → Int32) (k : Nat) : Prop := ∃ j, j < k ∧ ce j = ce k ∧ o j = 5 ∧ ¬ sp_R (sp_E o n m) k j
def sp_V (o n m : Nat → Nat) (ce : Nat → Int32) (k : Nat) : Prop := o k = 5 ∧ ∃ j, j < k ∧ ce j = ce k ∧ ¬ o j = 5 ∧ ¬ sp_R (sp_E o n m) k j
def sp_mk (o n m : Nat → Nat) (ce : Nat → Int32) (k : Nat) (x : Int32) : Prop :=
  (ce k = -1 → x = 0) ∧ (¬ ce k = -1 → ∃ a b : Nat, a ≤ 1 ∧ b ≤ 1 ∧ x = nI (a + 2 * b) ∧ (a = 1 ↔ sp_W o n m ce k) ∧ (b = 1 ↔ sp_V o n m ce k))
theorem sp_mk_u {o n m : Nat → Nat} {ce : Nat → Int32} {k : Nat} {x y : Int32} (hx : sp_mk o n m ce k x) (hy : sp_mk o n m ce k y) : x = y := by
  by_cases h : ce k = -1
  · rw [hx.1 h, hy.1 h]
  · obtain ⟨a, b, a1, a2, a3, a4, a5⟩ := hx.2 h
    obtain ⟨c, d, c1, c2, c3, c4, c5⟩ := hy.2 h
    have e1 : a = 1 ↔ c = 1 := a4.trans c4.symm
    have e2 : b = 1 ↔ d = 1 := a5.trans c5.symm
    have e3 : a = c := by omega
    have e4 : b = d := by omega
    rw [a3, c3, e3, e4]
theorem sp_mk_x {o n m o' n' m' : Nat → Nat} {k md : Nat} (H : sp_H o n m k md) (X : sp_X o n m o' n' m' k md) {ce ce' : Nat → Int32} (hce : ∀ t, t < k → ce' t = ce t) {t : Nat} {x : Int32} (ht : t < k) (h : sp_mk o n m ce t x) : sp_mk o' n' m' ce' t x := by
  have hW : sp_W o' n' m' ce' t ↔ sp_W o n m ce t := by
    constructor
    · rintro ⟨j, a, b, c, d⟩
      have hj : j < k := by omega
      rw [hce j hj, hce t ht] at b
      rw [X.1 j hj] at c
      rw [sp_R_x H X ht] at d
      exact ⟨j, a, b, c, d⟩
    · rintro ⟨j, a, b, c, d⟩
      have hj : j < k := by omega
      refine ⟨j, a, ?_, ?_, ?_⟩
      · rw [hce j hj, hce t ht]; exact b
      · rw [X.1 j hj]; exact c
      · rw [sp_R_x H X ht]; exact d
  have hV : sp_V o' n' m' ce' t ↔ sp_V o n m ce t := by
    constructor
    · rintro ⟨z, j, a, b, c, d⟩
      have hj : j < k := by omega
      rw [hce j hj, hce t ht] at b
      rw [X.1 j hj] at c
      rw [X.1 t ht] at z
      rw [sp_R_x H X ht] at d
      exact ⟨z, j, a, b, c, d⟩
    · rintro ⟨z, j, a, b, c, d⟩
      have hj : j < k := by omega
      refine ⟨?_, j, a, ?_, ?_, ?_⟩
      · rw [X.1 t ht]; exact z
      · rw [hce j hj, hce t ht]; exact b
      · rw [X.1 j hj]; exact c
      · rw [sp_R_x H X ht]; exact d
  unfold sp_mk
  rw [hW, hV, hce t ht]
  exact h
/-- what the top's bits say of the new step -/
theorem sp_unb {o n m o' n' m' st q : Nat → Nat} {k dep md : Nat} {B A : Nat → Nat → Prop} (H : sp_H o n m k md) (I : sp_L o n m k dep md st q B A) (X : sp_X o n m o' n' m' k md) {L : Nat} (hL : L + 1 = dep) (hn : n' k = st L) (h1 : ¬ o' k = 1) (h0 : ¬ o' k = 0) (hk : k ≤ 128)
    {M P : Nat → Prop} (hM : ∀ j, j < 128 → (M j ↔ (j < k ∧ P j))) : (∃ j, j < 128 ∧ M j ∧ ¬ B L j) ↔ ∃ j, j < k ∧ P j ∧ ¬ sp_R (sp_E o' n' m') k j := by
  constructor
  · rintro ⟨j, a, b, c⟩
    have b' := (hM j a).1 b
    rw [← sp_ask H I X hL hn h1 h0 a b'.1] at c
    exact ⟨j, b'.1, b'.2, c⟩
  · rintro ⟨j, a, b, c⟩
    have hj : j < 128 := by omega
    rw [sp_ask H I X hL hn h1 h0 hj a] at c
    exact ⟨j, hj, (hM j hj).2 ⟨a, b⟩, c⟩
theorem sp_rem (s : Int32) {c : Nat} (h0 : 0 < c) (hc : c ≤ 16) : ∃ e, e < c ∧ (s - s / nI c * nI c < 0 → s - s / nI c * nI c + nI c = nI e) ∧ (¬ s - s / nI c * nI c < 0 → s - s / nI c * nI c = nI e) := by
  have hr := rem_toInt s (nI c)
  have hm : (nI c).toInt = (c : Int) := nI_toInt (by omega)
  have hb := tmod_bounds (a := s.toInt) (M := (c : Int)) (by omega)
  rw [hm] at hr
  rw [← hr] at hb
  generalize s - s / nI c * nI c = r at hb ⊢
  by_cases hneg : r < 0
  · have hneg' : r.toInt < 0 := by
      have := Int32.lt_iff_toInt_lt.mp hneg
      simpa using this
    have e1 : (r + nI c).toInt = r.toInt + c := by
      rw [Int32.toInt_add, hm]
      rw [Int.bmod_def]
      omega
    refine ⟨(r.toInt + c).toNat, by omega, fun _ => ?_, fun z => absurd hneg z⟩
    apply Int32.toInt_inj.mp
    rw [e1, nI_toInt (by omega)]
    omega
  · have hneg' : 0 ≤ r.toInt := by
      have := Int32.le_iff_toInt_le.mp (Int32.not_lt.mp hneg)
      simpa using this
    refine ⟨r.toInt.toNat, by omega, fun z => absurd z hneg, fun _ => ?_⟩
    apply Int32.toInt_inj.mp
    rw [nI_toInt (by omega)]
    omega

/-! ===== the stack over the graph: st a level's instance, q the step ahead of its next; B the steps that lead there, A those that wait for a join ===== -/
def sp_L (o n m : Nat → Nat) (k dep md : Nat) (st q : Nat → Nat) (B A : Nat → Nat → Prop) : Prop :=
  (0 < dep → st 0 = 0) ∧
  (∀ a b, a < b → b < dep → st a < st b) ∧
  (∀ l, l < dep → st l < md) ∧
  (∀ l, l + 1 < dep → n (m (st (l + 1))) = st l ∧ q l = m (st (l + 1))) ∧
  (∀ l, l + 1 < dep → ∀ t, sp_pn o n m k (st l) t ↔ (t = q l ∧ o (q l) = 2)) ∧
  (∀ l, l + 1 = dep → ∀ t, sp_pn o n m k (st l) t ↔ (t < k ∧ t = q l)) ∧
  (∀ l, 0 < l → l < dep → sp_R (sp_E o n m) (q l) (m (st l))) ∧
  (0 < k → ∀ l, l < dep → q l < k) ∧
  (∀ l, l < dep → ∀ j, j < 128 → (B l j ↔ (j < k ∧ sp_R (sp_E o n m) (q l) j))) ∧
  (∀ l, l < dep → ∀ j, j < 128 → (A l j ↔ ∃ r, sp_pj o n m k (st l) r ∧ sp_R (sp_E o n m) r j))
section
variable {o n m o' n' m' st q : Nat → Nat} {k dep md : Nat} {B A B' A' : Nat → Nat → Prop}
theorem sp_pos (H : sp_H o n m k md) (I : sp_L o n m k dep md st q B A) {l : Nat} (h0 : 0 < l) (hl : l < dep) : ¬ st l = 0 ∧ m (st l) < k ∧ (o (m (st l)) = 2 ∨ o (m (st l)) = 3) := by
  have h1 := I.2.1 0 l h0 hl
  have h2 : ¬ st l = 0 := by omega
  exact ⟨h2, H.2.2 _ h2 (I.2.2.1 l hl)⟩
theorem sp_qk (H : sp_H o n m k md) (I : sp_L o n m k dep md st q B A) {l : Nat} (hl : l + 1 < dep) : q l < k := by
  rw [(I.2.2.2.1 l hl).2]
  exact (sp_pos H I (show 0 < l + 1 by omega) hl).2.1
theorem sp_top (H : sp_H o n m k md) (I : sp_L o n m k dep md st q B A) (X : sp_X o n m o' n' m' k md) {L : Nat} (hL : L + 1 = dep) (hn : n' k = st L) {j : Nat} (hj : j < 128) : (j < k + 1 ∧ sp_R (sp_E o' n' m') k j) ↔ (B L j ∨ ((o' k = 1 ∨ o' k = 0) ∧ A L j) ∨ j = k) := by
  obtain ⟨i1, i2, i3, i4, i5, i6, i7, i8, i9, i10⟩ := I
  have hLd : L < dep := by omega
  have hi := i3 L hLd
  rw [i9 L hLd j hj, i10 L hLd j hj]
  rcases Nat.lt_trichotomy j k with h | h | h
  · rw [sp_R_new H X hi hn h]
    constructor
    · rintro ⟨_, s, e | ⟨e, w⟩, r⟩
      · have e2 := ((i6 L hL s).1 e).2
        rw [e2] at r
        exact Or.inl ⟨h, r⟩
      · exact Or.inr (Or.inl ⟨w, s, e, r⟩)
    · rintro (⟨_, r⟩ | ⟨w, s, e, r⟩ | e)
      · exact ⟨by omega, q L, Or.inl ((i6 L hL (q L)).2 ⟨i8 (by omega) L hLd, rfl⟩), r⟩
      · exact ⟨by omega, s, Or.inr ⟨e, w⟩, r⟩
      · omega
  · refine ⟨fun _ => Or.inr (Or.inr h), fun _ => ⟨by omega, ?_⟩⟩
    rw [h]
    exact sp_R_refl _ _
  · constructor
    · rintro ⟨a, _⟩
      omega
    · rintro (⟨a, _⟩ | ⟨_, s, e, r⟩ | e)
      · omega
      · have h1 := e.1
        have h2 := sp_Rle r
        omega
      · omega
theorem sp_up (H : sp_H o n m k md) (I : sp_L o n m k dep md st q B A) (X : sp_X o n m o' n' m' k md) {L : Nat} (hL : L + 1 = dep) (hn : n' k = st L) (hk : 0 < k) {j : Nat} (r : sp_R (sp_E o n m) (q L) j) : sp_R (sp_E o' n' m') k j := by
  have hLd : L < dep := by omega
  have hq := I.2.2.2.2.2.2.2.1 hk L hLd
  exact (sp_R_new H X (I.2.2.1 L hLd) hn (Nat.lt_of_le_of_lt (sp_Rle r) hq)).2 ⟨q L, Or.inl ((I.2.2.2.2.2.1 L hL (q L)).2 ⟨hq, rfl⟩), r⟩
theorem sp_X1 {i oo : Nat} : sp_X o n m (sp_u o k oo) (sp_u n k i) m k md :=
  ⟨fun _ h => sp_un (by omega), fun _ h => sp_un (by omega), fun _ _ => rfl⟩
theorem sp_X2 {i oo : Nat} : sp_X o n m (sp_u o k oo) (sp_u n k i) (sp_u m md k) k md :=
  ⟨fun _ h => sp_un (by omega), fun _ h => sp_un (by omega), fun _ h => sp_un (by omega)⟩
theorem sp_H1 (H : sp_H o n m k md) {i oo : Nat} (hi : i < md) : sp_H (sp_u o k oo) (sp_u n k i) m (k + 1) md := by
  refine ⟨fun t ht => ?_, fun t ht h0 => ?_, fun j h0 hj => ?_⟩
  · by_cases h : t = k
    · rw [h, sp_us]; exact hi
    · rw [sp_un h]; exact H.1 t (by omega)
  · by_cases h : t = k
    · rw [h, sp_us] at h0 ⊢
      exact (H.2.2 i h0 hi).1
    · rw [sp_un h] at h0 ⊢
      exact H.2.1 t (by omega) h0
  · have h := H.2.2 j h0 hj
    rw [sp_un (show ¬ m j = k by omega)]
    exact ⟨by omega, h.2⟩
theorem sp_H2 (H : sp_H o n m k md) {i oo : Nat} (hi : i < md) (hoo : oo = 2 ∨ oo = 3) : sp_H (sp_u o k oo) (sp_u n k i) (sp_u m md k) (k + 1) (md + 1) := by
  have h1 := sp_H1 H (oo := oo) hi
  refine ⟨fun t ht => by have := h1.1 t ht; omega, fun t ht h0 => ?_, fun j h0 hj => ?_⟩
  · have hx := h1.1 t ht
    rw [sp_un (show ¬ sp_u n k i t = md by omega)]
    exact h1.2.1 t ht h0
  · by_cases h : j = md
    · rw [h, sp_us, sp_us]
      exact ⟨by omega, hoo⟩
    · rw [sp_un h]
      exact h1.2.2 j h0 (by omega)
/-- levels below the top, over any step of the top -/
theorem sp_low (H : sp_H o n m k md) (I : sp_L o n m k dep md st q B A) (X : sp_X o n m o' n' m' k md) {L : Nat} (hL : L + 1 = dep) (hn : n' k = st L) {l : Nat} (hl : l < L)
    (hc : ¬ sp_cn o' n' m' (st l) k) (t : Nat) : sp_pn o' n' m' (k + 1) (st l) t ↔ (t = q l ∧ o' (q l) = 2) := by
  have h1 := I.2.1 l L hl (by omega)
  rw [sp_pn_k H X (I.2.2.1 l (by omega)) (by omega) hc, X.1 _ (sp_qk H I (l := l) (by omega))]
  exact I.2.2.2.2.1 l (by omega) t
theorem sp_lowB (H : sp_H o n m k md) (I : sp_L o n m k dep md st q B A) (X : sp_X o n m o' n' m' k md) {L : Nat} (hL : L + 1 = dep) {l : Nat} (hl : l < L) {j : Nat} (hj : j < 128) : B l j ↔ (j < k + 1 ∧ sp_R (sp_E o' n' m') (q l) j) := by
  rw [sp_B_k H X (sp_qk H I (l := l) (by omega))]
  exact I.2.2.2.2.2.2.2.2.1 l (by omega) j hj
theorem sp_lowA (H : sp_H o n m k md) (I : sp_L o n m k dep md st q B A) (X : sp_X o n m o' n' m' k md) {L : Nat} (hL : L + 1 = dep) (hn : n' k = st L) {l : Nat} (hl : l < L)
    (hc : ¬ sp_cj o' n' m' (st l) k) {j : Nat} (hj : j < 128) : A l j ↔ ∃ r, sp_pj o' n' m' (k + 1) (st l) r ∧ sp_R (sp_E o' n' m') r j := by
  have h1 := I.2.1 l L hl (by omega)
  rw [sp_ex_k H X (by omega) hc]
  exact I.2.2.2.2.2.2.2.2.2 l (by omega) j hj
theorem sp_lowN (H : sp_H o n m k md) (I : sp_L o n m k dep md st q B A) (X : sp_X o n m o' n' m' k md) {L : Nat} (hL : L + 1 = dep) {l : Nat} (hl : l < L) : n' (m' (st (l + 1))) = st l ∧ q l = m' (st (l + 1)) := by
  have h1 := sp_pos H I (show 0 < l + 1 by omega) (show l + 1 < dep by omega)
  have h2 := I.2.2.2.1 l (by omega)
  rw [X.2.2 _ (I.2.2.1 (l + 1) (by omega)), X.2.1 _ h1.2.1]
  exact h2
theorem sp_lowR (H : sp_H o n m k md) (I : sp_L o n m k dep md st q B A) (X : sp_X o n m o' n' m' k md) {L : Nat} (hL : L + 1 = dep) {l : Nat} (h0 : 0 < l) (hl : l < L) : sp_R (sp_E o' n' m') (q l) (m' (st l)) := by
  rw [X.2.2 _ (I.2.2.1 l (by omega)), sp_R_x H X (sp_qk H I (l := l) (by omega))]
  exact I.2.2.2.2.2.2.1 l h0 (by omega)
theorem sp_topR (H : sp_H o n m k md) (I : sp_L o n m k dep md st q B A) (X : sp_X o n m o' n' m' k md) {L : Nat} (hL : L + 1 = dep) (hn : n' k = st L) (h0 : 0 < L) : sp_R (sp_E o' n' m') k (m' (st L)) := by
  have h1 := sp_pos H I h0 (show L < dep by omega)
  rw [X.2.2 _ (I.2.2.1 L (by omega))]
  exact sp_up H I X hL hn (by omega) (I.2.2.2.2.2.2.1 L h0 (by omega))
/-- the top steps on -/
theorem sp_tA (H : sp_H o n m k md) (I : sp_L o n m k dep md st q B A) {L oo : Nat} (hL : L + 1 = dep) (h0 : ¬ oo = 0) (h2 : ¬ oo = 2) (h3 : ¬ oo = 3)
    (hB : ∀ l, l < L → ∀ j, j < 128 → (B' l j ↔ B l j)) (hBL : ∀ j, j < 128 → (B' L j ↔ (B L j ∨ (oo = 1 ∧ A L j) ∨ j = k)))
    (hA : ∀ l, l < L → ∀ j, j < 128 → (A' l j ↔ A l j)) (hAL : ∀ j, j < 128 → (A' L j ↔ (A L j ∧ ¬ oo = 1))) :
    sp_H (sp_u o k oo) (sp_u n k (st L)) m (k + 1) md ∧ sp_L (sp_u o k oo) (sp_u n k (st L)) m (k + 1) dep md st (sp_u q L k) B' A' := by
  have hLd : L < dep := by omega
  have X : sp_X o n m (sp_u o k oo) (sp_u n k (st L)) m k md := sp_X1
  have hn : sp_u n k (st L) k = st L := sp_us
  have ho : sp_u o k oo k = oo := sp_us
  have hcn : ∀ i, ¬ i = st L → ¬ sp_cn (sp_u o k oo) (sp_u n k (st L)) m i k := by
    intro i hi hc
    unfold sp_cn at hc
    rw [ho, hn] at hc
    omega
  have hcj : ∀ i, ¬ sp_cj (sp_u o k oo) (sp_u n k (st L)) m i k := by
    intro i hc
    unfold sp_cj at hc
    rw [ho] at hc
    omega
  refine ⟨sp_H1 H (I.2.2.1 L hLd), I.1, I.2.1, I.2.2.1, ?_, ?_, ?_, ?_, ?_, ?_, ?_⟩
  · intro l hl
    rw [sp_un (show ¬ l = L by omega)]
    exact sp_lowN H I X hL (by omega)
  · intro l hl t
    have h1 := I.2.1 l L (by omega) hLd
    rw [sp_un (show ¬ l = L by omega)]
    exact sp_low H I X hL hn (by omega) (hcn _ (by omega)) t
  · intro l hl t
    obtain rfl : l = L := by omega
    rw [sp_us, sp_pn_s, hn]
    constructor
    · rintro (h | h)
      · exact absurd rfl h.2
      · omega
    · rintro ⟨_, h⟩
      refine Or.inr ⟨h, Or.inr (Or.inr ?_)⟩
      rw [ho, hn]
      exact ⟨h0, h3, rfl⟩
  · intro l hl0 hl
    by_cases h : l = L
    · subst h
      rw [sp_us]
      exact sp_topR H I X hL hn hl0
    · rw [sp_un h]
      exact sp_lowR H I X hL hl0 (by omega)
  · intro _ l hl
    by_cases h : l = L
    · subst h
      rw [sp_us]; omega
    · rw [sp_un h]
      have := sp_qk H I (show l + 1 < dep by omega)
      omega
  · intro l hl j hj
    by_cases h : l = L
    · subst h
      rw [sp_us, hBL j hj, sp_top H I X hL hn hj, ho]
      simp only [h0, or_false]
    · rw [sp_un h, hB l (by omega) j hj]
      exact sp_lowB H I X hL (by omega) hj
  · intro l hl j hj
    by_cases h : l = L
    · subst h
      rw [hAL j hj]
      by_cases h1 : oo = 1
      · constructor
        · exact fun z => absurd h1 z.2
        · rintro ⟨r, p, _⟩
          rw [sp_pj_s, hn, ho] at p
          rcases p with p | p
          · exact absurd ⟨rfl, Or.inl h1⟩ p.2
          · exact absurd p.2 (hcj _)
      · rw [sp_ex_k H X (by rw [hn, ho]; omega) (hcj _), I.2.2.2.2.2.2.2.2.2 l hl j hj]
        simp only [h1, not_false_eq_true, and_true]
    · rw [hA l (by omega) j hj]
      exact sp_lowA H I X hL hn (by omega) (hcj _) hj
/-- the top makes an instance -/
theorem sp_tM (H : sp_H o n m k md) (I : sp_L o n m k dep md st q B A) {L oo : Nat} (hL : L + 1 = dep) (h2 : oo = 2 ∨ oo = 3)
    (hB : ∀ l, l < L → ∀ j, j < 128 → (B' l j ↔ B l j)) (hBL : ∀ j, j < 128 → (B' L j ↔ (B L j ∨ j = k))) (hBD : ∀ j, j < 128 → (B' dep j ↔ (B L j ∨ j = k)))
    (hA : ∀ l, l < dep → ∀ j, j < 128 → (A' l j ↔ A l j)) (hAD : ∀ j, j < 128 → ¬ A' dep j) :
    sp_H (sp_u o k oo) (sp_u n k (st L)) (sp_u m md k) (k + 1) (md + 1) ∧ sp_L (sp_u o k oo) (sp_u n k (st L)) (sp_u m md k) (k + 1) (dep + 1) (md + 1) (sp_u st dep md) (sp_u (sp_u q L k) dep k) B' A' := by
  have hLd : L < dep := by omega
  have X : sp_X o n m (sp_u o k oo) (sp_u n k (st L)) (sp_u m md k) k md := sp_X2
  have hn : sp_u n k (st L) k = st L := sp_us
  have ho : sp_u o k oo k = oo := sp_us
  have hm : ∀ l, l < dep → sp_u m md k (st l) = m (st l) := fun l hl => sp_un (by have := I.2.2.1 l hl; omega)
  have hcn : ∀ l, l < L → ¬ sp_cn (sp_u o k oo) (sp_u n k (st L)) (sp_u m md k) (st l) k := by
    intro l hl hc
    have h1 := I.2.1 l L hl hLd
    unfold sp_cn at hc
    rw [ho, hn, hm l (by omega)] at hc
    rcases hc with hc | hc | hc
    · omega
    · have := H.2.2 _ hc.2.1 (I.2.2.1 l (by omega))
      omega
    · omega
  have hcj : ∀ i, ¬ sp_cj (sp_u o k oo) (sp_u n k (st L)) (sp_u m md k) i k := by
    intro i hc
    unfold sp_cj at hc
    rw [ho] at hc
    omega
  have H' := sp_H2 H (oo := oo) (I.2.2.1 L hLd) h2
  have hstl : ∀ l, l < dep → sp_u st dep md l = st l := fun l hl => sp_un (by omega)
  have hql : ∀ l, l < L → sp_u (sp_u q L k) dep k l = q l := fun l hl => by rw [sp_un (by omega), sp_un (by omega)]
  have hqL : sp_u (sp_u q L k) dep k L = k := by rw [sp_un (by omega), sp_us]
  have hqD : sp_u (sp_u q L k) dep k dep = k := sp_us
  have hmd : sp_u m md k md = k := sp_us
  have hstD : sp_u st dep md dep = md := sp_us
  refine ⟨H', fun _ => by rw [hstl 0 (by omega)]; exact I.1 (by omega), ?_, ?_, ?_, ?_, ?_, ?_, ?_, ?_, ?_⟩
  · intro a b hab hb
    rw [hstl a (by omega)]
    by_cases h : b = dep
    · rw [h, hstD]; exact I.2.2.1 a (by omega)
    · rw [hstl b (by omega)]; exact I.2.1 a b hab (by omega)
  · intro l hl
    by_cases h : l = dep
    · rw [h, hstD]; omega
    · rw [hstl l (by omega)]; have := I.2.2.1 l (by omega); omega
  · intro l hl
    by_cases h : l = L
    · subst h
      rw [hL, hstD, hmd, hn, hstl l hLd, hqL]
      exact ⟨rfl, rfl⟩
    · rw [hstl l (by omega), hstl (l + 1) (by omega), hql l (by omega)]
      exact sp_lowN H I X hL (by omega)
  · intro l hl t
    by_cases h : l = L
    · subst h
      rw [hstl l hLd, hqL, ho, sp_pn_s, hn]
      constructor
      · rintro (h | ⟨h, c⟩)
        · exact absurd rfl h.2
        · refine ⟨h, ?_⟩
          unfold sp_cn at c
          rw [ho, hn, hm l hLd] at c
          rcases c with c | c | c
          · omega
          · have := H.2.2 _ c.2.1 (I.2.2.1 l hLd)
            omega
          · omega
      · rintro ⟨h, c⟩
        refine Or.inr ⟨h, Or.inr (Or.inr ?_)⟩
        rw [ho, hn]
        exact ⟨by omega, by omega, rfl⟩
    · rw [hstl l (by omega), hql l (by omega)]
      exact sp_low H I X hL hn (by omega) (hcn l (by omega)) t
  · intro l hl t
    obtain rfl : l = dep := by omega
    have hlt := I.2.2.1 L hLd
    rw [hstD, hqD, sp_pn_s, hn]
    constructor
    · rintro (⟨⟨a, c, _⟩, _⟩ | h)
      · exfalso
        unfold sp_cn at c
        rw [X.1 t a, X.2.1 t a, hmd] at c
        have hnt := H.1 t a
        rcases c with c | c | c
        · rw [X.2.2 _ hnt] at c
          have h5 := H.2.1 t a c.2.1
          rw [X.2.1 _ (by omega)] at c
          have h6 := H.1 (m (n t)) (by omega)
          omega
        · omega
        · omega
      · omega
    · rintro ⟨_, h⟩
      refine Or.inr ⟨h, Or.inr (Or.inl ?_)⟩
      rw [ho, hmd]
      exact ⟨h2, by omega, rfl⟩
  · intro l hl0 hl
    by_cases h : l = dep
    · rw [h, hqD, hstD, hmd]
      exact sp_R_refl _ _
    · rw [hstl l (by omega)]
      by_cases h' : l = L
      · subst h'
        rw [hqL]
        exact sp_topR H I X hL hn hl0
      · rw [hql l (by omega)]
        exact sp_lowR H I X hL hl0 (by omega)
  · intro _ l hl
    by_cases h : l = dep
    · rw [h, hqD]; omega
    · by_cases h' : l = L
      · rw [h', hqL]; omega
      · rw [hql l (by omega)]
        have := sp_qk H I (show l + 1 < dep by omega)
        omega
  · have hT : ∀ j, j < 128 → ((B L j ∨ j = k) ↔ (j < k + 1 ∧ sp_R (sp_E (sp_u o k oo) (sp_u n k (st L)) (sp_u m md k)) k j)) := by
      intro j hj
      rw [sp_top H I X hL hn hj, ho]
      have h5 : ¬ (oo = 1 ∨ oo = 0) := by omega
      simp only [h5, false_and, false_or]
    intro l hl j hj
    by_cases h : l = dep
    · rw [h, hqD, hBD j hj]
      exact hT j hj
    · by_cases h' : l = L
      · rw [h', hqL, hBL j hj]
        exact hT j hj
      · rw [hql l (by omega), hB l (by omega) j hj]
        exact sp_lowB H I X hL (by omega) hj
  · intro l hl j hj
    by_cases h : l = dep
    · rw [h, hstD]
      constructor
      · exact fun z => absurd z (hAD j hj)
      · rintro ⟨r, ⟨a, c, _⟩, _⟩
        exfalso
        by_cases hr : r = k
        · rw [hr] at c
          exact hcj _ c
        · have hr' : r < k := by omega
          unfold sp_cj at c
          rw [X.1 r hr', X.2.1 r hr'] at c
          have hnt := H.1 r hr'
          rw [X.2.2 _ hnt] at c
          have h5 := H.2.1 r hr' c.2.1
          rw [X.2.1 _ (by omega)] at c
          have h6 := H.1 (m (n r)) (by omega)
          omega
    · rw [hstl l (by omega), hA l (by omega) j hj]
      by_cases h' : l = L
      · subst h'
        rw [sp_ex_k H X (by rw [hn, ho]; omega) (hcj _)]
        exact I.2.2.2.2.2.2.2.2.2 l hLd j hj
      · exact sp_lowA H I X hL hn (by omega) (hcj _) hj
/-- the root ends -/
theorem sp_tR0 (H : sp_H o n m k md) (hmd : 0 < md) : sp_H (sp_u o k 0) (sp_u n k 0) m (k + 1) md ∧ sp_L (sp_u o k 0) (sp_u n k 0) m (k + 1) 0 md st q B' A' :=
  ⟨sp_H1 H hmd, fun h => by omega, fun _ _ _ h => by omega, fun _ h => by omega, fun _ h => by omega, fun _ h => by omega, fun _ h => by omega, fun _ _ h => by omega, fun _ _ h => by omega, fun _ h => by omega, fun _ h => by omega⟩
/-- a spawned instance ends -/
theorem sp_tRs (H : sp_H o n m k md) (I : sp_L o n m k dep md st q B A) {p : Nat} (hL : p + 1 + 1 = dep) (hs : o (m (st (p + 1))) = 2)
    (hB : ∀ l, l < p + 1 → ∀ j, j < 128 → (B' l j ↔ B l j))
    (hA : ∀ l, l < p → ∀ j, j < 128 → (A' l j ↔ A l j)) (hAL : ∀ j, j < 128 → (A' p j ↔ (A p j ∨ B (p + 1) j ∨ A (p + 1) j ∨ j = k))) :
    sp_H (sp_u o k 0) (sp_u n k (st (p + 1))) m (k + 1) md ∧ sp_L (sp_u o k 0) (sp_u n k (st (p + 1))) m (k + 1) (p + 1) md st q B' A' := by
  have hLd : p + 1 < dep := by omega
  have X : sp_X o n m (sp_u o k 0) (sp_u n k (st (p + 1))) m k md := sp_X1
  have hn : sp_u n k (st (p + 1)) k = st (p + 1) := sp_us
  have ho : sp_u o k 0 k = 0 := sp_us
  have hP := sp_pos H I (show 0 < p + 1 by omega) hLd
  have hN := I.2.2.2.1 p hLd
  have hnm : sp_u n k (st (p + 1)) (m (st (p + 1))) = st p := by rw [sp_un (by omega)]; exact hN.1
  have hom : sp_u o k 0 (m (st (p + 1))) = 2 := by rw [sp_un (by omega)]; exact hs
  have hcn : ∀ l, l < p + 1 → ¬ sp_cn (sp_u o k 0) (sp_u n k (st (p + 1))) m (st l) k := by
    intro l hl hc
    unfold sp_cn at hc
    rw [ho, hn, hnm, hom] at hc
    omega
  have hcj : ∀ l, l < p → ¬ sp_cj (sp_u o k 0) (sp_u n k (st (p + 1))) m (st l) k := by
    intro l hl hc
    have h1 := I.2.1 l p hl (by omega)
    unfold sp_cj at hc
    rw [ho, hn, hnm] at hc
    omega
  refine ⟨sp_H1 H (I.2.2.1 (p + 1) hLd), fun _ => I.1 (by omega), fun a b h1 h2 => I.2.1 a b h1 (by omega), fun l hl => I.2.2.1 l (by omega), ?_, ?_, ?_, ?_, ?_, ?_, ?_⟩
  · exact fun l hl => sp_lowN H I X hL (by omega)
  · exact fun l hl t => sp_low H I X hL hn (by omega) (hcn l (by omega)) t
  · intro l hl t
    obtain rfl : l = p := by omega
    rw [sp_low H I X hL hn (by omega) (hcn l (by omega)) t, hN.2, hom]
    omega
  · exact fun l h0 hl => sp_lowR H I X hL h0 (by omega)
  · intro _ l hl
    have := sp_qk H I (show l + 1 < dep by omega)
    omega
  · intro l hl j hj
    rw [hB l hl j hj]
    exact sp_lowB H I X hL (by omega) hj
  · intro l hl j hj
    by_cases h : l = p
    · subst h
      have h1 := I.2.1 l (l + 1) (by omega) hLd
      rw [hAL j hj, I.2.2.2.2.2.2.2.2.2 l (by omega) j hj]
      have hT := sp_top H I X hL hn hj
      rw [ho] at hT
      constructor
      · rintro (⟨r, e, w⟩ | h)
        · refine ⟨r, ?_, (sp_R_x H X e.1).2 w⟩
          rw [sp_pj_s, sp_pj_x H X (Nat.le_refl k), hn]
          exact Or.inl ⟨e, by omega⟩
        · refine ⟨k, ?_, (hT.2 ?_).2⟩
          · rw [sp_pj_s]
            refine Or.inr ⟨rfl, ?_⟩
            unfold sp_cj
            rw [ho, hn, hnm, hom]
            exact ⟨rfl, hP.1, rfl, rfl⟩
          · rcases h with h | h | h
            · exact Or.inl h
            · exact Or.inr (Or.inl ⟨Or.inr rfl, h⟩)
            · exact Or.inr (Or.inr h)
      · rintro ⟨r, e, w⟩
        rw [sp_pj_s, sp_pj_x H X (Nat.le_refl k)] at e
        rcases e with e | e
        · exact Or.inl ⟨r, e.1, (sp_R_x H X e.1.1).1 w⟩
        · rw [e.1] at w
          have h5 := hT.1 ⟨by have := sp_Rle w; omega, w⟩
          rcases h5 with h | h | h
          · exact Or.inr (Or.inl h)
          · exact Or.inr (Or.inr (Or.inl h.2))
          · exact Or.inr (Or.inr (Or.inr h))
    · rw [hA l (by omega) j hj]
      exact sp_lowA H I X hL hn (by omega) (hcj l (by omega)) hj
/-- a called instance ends -/
theorem sp_tRc (H : sp_H o n m k md) (I : sp_L o n m k dep md st q B A) {p : Nat} (hL : p + 1 + 1 = dep) (hs : ¬ o (m (st (p + 1))) = 2)
    (hB : ∀ l, l < p → ∀ j, j < 128 → (B' l j ↔ B l j)) (hBL : ∀ j, j < 128 → (B' p j ↔ (B p j ∨ B (p + 1) j ∨ A (p + 1) j ∨ j = k)))
    (hA : ∀ l, l < p + 1 → ∀ j, j < 128 → (A' l j ↔ A l j)) :
    sp_H (sp_u o k 0) (sp_u n k (st (p + 1))) m (k + 1) md ∧ sp_L (sp_u o k 0) (sp_u n k (st (p + 1))) m (k + 1) (p + 1) md st (sp_u q p k) B' A' := by
  have hLd : p + 1 < dep := by omega
  have X : sp_X o n m (sp_u o k 0) (sp_u n k (st (p + 1))) m k md := sp_X1
  have hn : sp_u n k (st (p + 1)) k = st (p + 1) := sp_us
  have ho : sp_u o k 0 k = 0 := sp_us
  have hP := sp_pos H I (show 0 < p + 1 by omega) hLd
  have hN := I.2.2.2.1 p hLd
  have hnm : sp_u n k (st (p + 1)) (m (st (p + 1))) = st p := by rw [sp_un (by omega)]; exact hN.1
  have hom : ¬ sp_u o k 0 (m (st (p + 1))) = 2 := by rw [sp_un (by omega)]; exact hs
  have hcn : ∀ l, l < p → ¬ sp_cn (sp_u o k 0) (sp_u n k (st (p + 1))) m (st l) k := by
    intro l hl hc
    have h1 := I.2.1 l p hl (by omega)
    unfold sp_cn at hc
    rw [ho, hn, hnm] at hc
    omega
  have hcj : ∀ l, ¬ sp_cj (sp_u o k 0) (sp_u n k (st (p + 1))) m (st l) k := by
    intro l hc
    unfold sp_cj at hc
    rw [hn] at hc
    exact hom hc.2.2.2
  have hks : sp_R (sp_E (sp_u o k 0) (sp_u n k (st (p + 1))) m) k (q p) := by
    rw [hN.2]
    exact sp_topR H I X hL hn (show 0 < p + 1 by omega)
  have hqp : q p < k := sp_qk H I hLd
  refine ⟨sp_H1 H (I.2.2.1 (p + 1) hLd), fun _ => I.1 (by omega), fun a b h1 h2 => I.2.1 a b h1 (by omega), fun l hl => I.2.2.1 l (by omega), ?_, ?_, ?_, ?_, ?_, ?_, ?_⟩
  · intro l hl
    rw [sp_un (show ¬ l = p by omega)]
    exact sp_lowN H I X hL (by omega)
  · intro l hl t
    rw [sp_un (show ¬ l = p by omega)]
    exact sp_low H I X hL hn (by omega) (hcn l (by omega)) t
  · intro l hl t
    obtain rfl : l = p := by omega
    have h1 := I.2.1 l (l + 1) (by omega) hLd
    rw [sp_us, sp_pn_s, sp_pn_x H X (Nat.le_refl k) (I.2.2.1 l (by omega)), I.2.2.2.2.1 l (by omega) t, hN.2]
    constructor
    · rintro (h | h)
      · exact absurd h.1.2 hs
      · omega
    · rintro ⟨_, h⟩
      refine Or.inr ⟨h, Or.inl ?_⟩
      rw [ho, hn, hnm]
      exact ⟨rfl, hP.1, rfl, hom⟩
  · intro l h0 hl
    by_cases h : l = p
    · subst h
      rw [sp_us]
      refine sp_R_trans (Nat.le_of_lt hqp) ?_ hks
      exact sp_lowR H I X hL h0 (by omega)
    · rw [sp_un h]
      exact sp_lowR H I X hL h0 (by omega)
  · intro _ l hl
    by_cases h : l = p
    · rw [h, sp_us]; omega
    · rw [sp_un h]
      have := sp_qk H I (show l + 1 < dep by omega)
      omega
  · intro l hl j hj
    by_cases h : l = p
    · subst h
      have hT := sp_top H I X hL hn hj
      rw [ho] at hT
      rw [sp_us, hBL j hj, hT, sp_lowB H I X hL (show l < l + 1 by omega) hj]
      constructor
      · rintro (h | h | h | h)
        · exact hT.1 ⟨h.1, sp_R_trans (Nat.le_of_lt hqp) h.2 hks⟩
        · exact Or.inl h
        · exact Or.inr (Or.inl ⟨Or.inr rfl, h⟩)
        · exact Or.inr (Or.inr h)
      · rintro (h | h | h)
        · exact Or.inr (Or.inl h)
        · exact Or.inr (Or.inr (Or.inl h.2))
        · exact Or.inr (Or.inr (Or.inr h))
    · rw [sp_un h, hB l (by omega) j hj]
      exact sp_lowB H I X hL (by omega) hj
  · intro l hl j hj
    rw [hA l hl j hj]
    exact sp_lowA H I X hL hn (by omega) (hcj l) hj
/-- the first instance -/
theorem sp_t0 {B' A' : Nat → Nat → Prop} (hB : ∀ j, j < 128 → ¬ B' 0 j) (hA : ∀ j, j < 128 → ¬ A' 0 j) : sp_H o n m 0 1 ∧ sp_L o n m 0 1 1 (fun _ => 0) q B' A' := by
  refine ⟨⟨fun _ h => by omega, fun _ h => by omega, fun _ _ _ => by omega⟩, fun _ => rfl, fun _ _ _ _ => by omega, fun _ _ => Nat.one_pos, fun _ h => by omega, fun _ h => by omega, ?_, fun _ _ _ => by omega, fun h => by omega, ?_, ?_⟩
  · exact fun l hl t => ⟨fun h => absurd h.1 (by omega), fun h => by omega⟩
  · intro l hl j hj
    obtain rfl : l = 0 := by omega
    exact ⟨fun h => absurd h (hB j hj), fun h => by omega⟩
  · intro l hl j hj
    obtain rfl : l = 0 := by omega
    refine ⟨fun h => absurd h (hA j hj), ?_⟩
    rintro ⟨r, p, _⟩
    exact absurd p.1 (by omega)
/-- what the top's next step would see, were it an access -/
theorem sp_ask (H : sp_H o n m k md) (I : sp_L o n m k dep md st q B A) (X : sp_X o n m o' n' m' k md) {L : Nat} (hL : L + 1 = dep) (hn : n' k = st L) (h1 : ¬ o' k = 1) (h0 : ¬ o' k = 0) {j : Nat} (hj : j < 128) (hjk : j < k) : sp_R (sp_E o' n' m') k j ↔ B L j := by
  have h := sp_top H I X hL hn hj
  have h5 : ¬ (o' k = 1 ∨ o' k = 0) := by omega
  have h6 : ¬ j = k := by omega
  have h7 : j < k + 1 := by omega
  simpa only [h5, h6, h7, true_and, false_and, false_or, or_false] using h
end

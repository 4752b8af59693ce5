/-! ===== the run goes depth first ===== -/
def sp_Dh (o n m : Nat → Nat) (k md : Nat) : Prop :=
  (∀ t q, t < k → q < t → n q = n t → (∀ x, q < x → x < t → ¬ n x = n t) → (o q = 2 ∨ o q = 3) → o (t - 1) = 0 ∧ ¬ n (t - 1) = 0 ∧ m (n (t - 1)) = q) ∧
  (∀ t, t < k → ¬ n t = 0 → (∀ x, x < t → ¬ n x = n t) → 0 < t ∧ m (n t) = t - 1) ∧
  (∀ q t, q < t → t < k → n q = n t → ¬ o q = 0) ∧
  (0 < k → n 0 = 0) ∧
  (∀ a b, ¬ a = 0 → ¬ b = 0 → a < md → b < md → m a = m b → a = b) ∧
  (∀ t, t < k → ∀ s s', sp_pn o n m t (n t) s → sp_pn o n m t (n t) s' → s = s')
def sp_Dt (o n m : Nat → Nat) (k dep : Nat) (st : Nat → Nat) : Prop :=
  (∀ l, l + 1 = dep → ∀ q, q < k → n q = st l → (∀ x, q < x → x < k → ¬ n x = st l) → (o q = 2 ∨ o q = 3) → o (k - 1) = 0 ∧ ¬ n (k - 1) = 0 ∧ m (n (k - 1)) = q) ∧
  (∀ l, l + 1 = dep → ¬ st l = 0 → (∀ x, x < k → ¬ n x = st l) → 0 < k ∧ m (st l) = k - 1) ∧
  (∀ l, l < dep → ∀ x, x < k → n x = st l → ¬ o x = 0) ∧
  (∀ l, l + 1 < dep → ∀ x, m (st (l + 1)) < x → x < k → ¬ n x = st l)
def sp_D (o n m : Nat → Nat) (k md dep : Nat) (st : Nat → Nat) : Prop := sp_Dh o n m k md ∧ sp_Dt o n m k dep st
section
variable {o n m o' n' m' st q : Nat → Nat} {k dep md : Nat} {B A : Nat → Nat → Prop}
theorem sp_dh (H : sp_H o n m k md) (I : sp_L o n m k dep md st q B A) (D : sp_D o n m k md dep st) (X : sp_X o n m o' n' m' k md) {L : Nat} (hL : L + 1 = dep) (hn : n' k = st L)
    (hM : ∀ a b, ¬ a = 0 → ¬ b = 0 → a < md → b < md → m a = m b → a = b) :
    (∀ t q, t < k + 1 → q < t → n' q = n' t → (∀ x, q < x → x < t → ¬ n' x = n' t) → (o' q = 2 ∨ o' q = 3) → o' (t - 1) = 0 ∧ ¬ n' (t - 1) = 0 ∧ m' (n' (t - 1)) = q) ∧
    (∀ t, t < k + 1 → ¬ n' t = 0 → (∀ x, x < t → ¬ n' x = n' t) → 0 < t ∧ m' (n' t) = t - 1) ∧
    (∀ q t, q < t → t < k + 1 → n' q = n' t → ¬ o' q = 0) ∧
    (0 < k + 1 → n' 0 = 0) ∧
    (∀ t, t < k + 1 → ∀ s s', sp_pn o' n' m' t (n' t) s → sp_pn o' n' m' t (n' t) s' → s = s') := by
  obtain ⟨⟨d1, d2, d3, d4, d5, d6⟩, t1, t2, t3, t4⟩ := D
  have hLd : L < dep := by omega
  have hst := I.2.2.1 L hLd
  refine ⟨?_, ?_, ?_, ?_, ?_⟩
  · intro t q ht hq he hx hc
    have hq' : q < k := by omega
    have ht1 : t - 1 < k := by omega
    have hm1 := X.2.2 (n (t - 1)) (H.1 (t - 1) ht1)
    rw [X.1 (t - 1) ht1, X.2.1 (t - 1) ht1, hm1]
    rw [X.1 q hq'] at hc
    rw [X.2.1 q hq'] at he
    by_cases e : t = k
    · subst e
      rw [hn] at he hx
      exact t1 L hL q hq he (fun x a b => by have := hx x a b; rwa [X.2.1 x b] at this) hc
    · have htk : t < k := by omega
      rw [X.2.1 t htk] at he hx
      exact d1 t q htk hq he (fun x a b => by have := hx x a b; rwa [X.2.1 x (by omega)] at this) hc
  · intro t ht h0 hx
    by_cases e : t = k
    · subst e
      rw [hn] at h0 hx ⊢
      rw [X.2.2 _ hst]
      exact t2 L hL h0 (fun x a => by have := hx x a; rwa [X.2.1 x a] at this)
    · have htk : t < k := by omega
      rw [X.2.1 t htk] at h0 hx ⊢
      rw [X.2.2 _ (H.1 t htk)]
      exact d2 t htk h0 (fun x a => by have := hx x a; rwa [X.2.1 x (by omega)] at this)
  · intro q t hq ht he
    have hq' : q < k := by omega
    rw [X.1 q hq']
    rw [X.2.1 q hq'] at he
    by_cases e : t = k
    · subst e
      rw [hn] at he
      exact t3 L hLd q hq he
    · have htk : t < k := by omega
      rw [X.2.1 t htk] at he
      exact d3 q t hq htk he
  · intro _
    by_cases e : k = 0
    · subst e
      rw [hn]
      by_cases hL0 : L = 0
      · rw [hL0]; exact I.1 (by omega)
      · have := (sp_pos H I (show 0 < L by omega) hLd).2.1
        omega
    · rw [X.2.1 0 (by omega)]
      exact d4 (by omega)
  · intro t ht s s' h1 h2
    by_cases e : t = k
    · subst e
      rw [hn, sp_pn_x H X (Nat.le_refl t) hst, I.2.2.2.2.2.1 L hL] at h1 h2
      rw [h1.2, h2.2]
    · have htk : t < k := by omega
      rw [X.2.1 t htk, sp_pn_x H X (Nat.le_of_lt htk) (H.1 t htk)] at h1 h2
      exact d6 t htk s s' h1 h2
theorem sp_dA (H : sp_H o n m k md) (I : sp_L o n m k dep md st q B A) (D : sp_D o n m k md dep st) {L oo : Nat} (hL : L + 1 = dep) (h0 : ¬ oo = 0) (h2 : ¬ oo = 2) (h3 : ¬ oo = 3) : sp_D (sp_u o k oo) (sp_u n k (st L)) m (k + 1) md dep st := by
  have X : sp_X o n m (sp_u o k oo) (sp_u n k (st L)) m k md := sp_X1
  have hn : sp_u n k (st L) k = st L := sp_us
  have ho : sp_u o k oo k = oo := sp_us
  have hh := sp_dh H I D X hL hn D.1.2.2.2.2.1
  obtain ⟨⟨d1, d2, d3, d4, d5, d6⟩, t1, t2, t3, t4⟩ := D
  refine ⟨⟨hh.1, hh.2.1, hh.2.2.1, hh.2.2.2.1, d5, hh.2.2.2.2⟩, ?_, ?_, ?_, ?_⟩
  · intro l hl q hq he hx hc
    obtain rfl : l = L := by omega
    by_cases e : q = k
    · rw [e, ho] at hc
      omega
    · exact absurd hn (hx k (by omega) (by omega))
  · intro l hl _ hx
    obtain rfl : l = L := by omega
    exact absurd hn (hx k (by omega))
  · intro l hl x hx he
    by_cases e : x = k
    · rw [e, ho]; exact h0
    · rw [sp_un e] at he ⊢
      exact t3 l hl x (by omega) he
  · intro l hl x h1 hx
    by_cases e : x = k
    · rw [e, hn]
      have := I.2.1 l L (by omega) (by omega)
      omega
    · rw [sp_un e]
      exact t4 l hl x h1 (by omega)
theorem sp_dM (H : sp_H o n m k md) (I : sp_L o n m k dep md st q B A) (D : sp_D o n m k md dep st) {L oo : Nat} (hL : L + 1 = dep) (h0 : ¬ oo = 0) : sp_D (sp_u o k oo) (sp_u n k (st L)) (sp_u m md k) (k + 1) (md + 1) (dep + 1) (sp_u st dep md) := by
  have X : sp_X o n m (sp_u o k oo) (sp_u n k (st L)) (sp_u m md k) k md := sp_X2
  have hn : sp_u n k (st L) k = st L := sp_us
  have ho : sp_u o k oo k = oo := sp_us
  have hmd : sp_u m md k md = k := sp_us
  have hstD : sp_u st dep md dep = md := sp_us
  have hh := sp_dh H I D X hL hn D.1.2.2.2.2.1
  have hlt : ∀ x, x < k + 1 → sp_u n k (st L) x < md := (sp_H1 H (oo := oo) (I.2.2.1 L (by omega))).1
  obtain ⟨⟨d1, d2, d3, d4, d5, d6⟩, t1, t2, t3, t4⟩ := D
  refine ⟨⟨hh.1, hh.2.1, hh.2.2.1, hh.2.2.2.1, ?_, hh.2.2.2.2⟩, ?_, ?_, ?_, ?_⟩
  · intro a b a0 b0 ha hb he
    by_cases ea : a = md
    · by_cases eb : b = md
      · rw [ea, eb]
      · rw [ea, hmd, sp_un eb] at he
        have := (H.2.2 b b0 (by omega)).1
        omega
    · by_cases eb : b = md
      · rw [eb, hmd, sp_un ea] at he
        have := (H.2.2 a a0 (by omega)).1
        omega
      · rw [sp_un ea, sp_un eb] at he
        exact d5 a b a0 b0 (by omega) (by omega) he
  · intro l hl q hq he _ _
    obtain rfl : l = dep := by omega
    rw [hstD] at he
    have := hlt q hq
    omega
  · intro l hl _ _
    obtain rfl : l = dep := by omega
    rw [hstD, hmd]
    omega
  · intro l hl x hx he
    by_cases e : l = dep
    · rw [e, hstD] at he
      have := hlt x hx
      omega
    · rw [sp_un e] at he
      by_cases e2 : x = k
      · rw [e2, ho]; exact h0
      · rw [sp_un e2] at he ⊢
        exact t3 l (by omega) x (by omega) he
  · intro l hl x h1 hx
    rw [sp_un (show ¬ l = dep by omega)]
    by_cases e : l = L
    · subst e
      rw [hL, hstD, hmd] at h1
      omega
    · rw [sp_un (show ¬ l + 1 = dep by omega), X.2.2 _ (I.2.2.1 (l + 1) (by omega))] at h1
      by_cases e2 : x = k
      · rw [e2, hn]
        have := I.2.1 l L (by omega) (by omega)
        omega
      · rw [sp_un e2]
        exact t4 l (by omega) x h1 (by omega)
theorem sp_dR (H : sp_H o n m k md) (I : sp_L o n m k dep md st q B A) (D : sp_D o n m k md dep st) {p : Nat} (hL : p + 1 + 1 = dep) : sp_D (sp_u o k 0) (sp_u n k (st (p + 1))) m (k + 1) md (p + 1) st := by
  have X : sp_X o n m (sp_u o k 0) (sp_u n k (st (p + 1))) m k md := sp_X1
  have hn : sp_u n k (st (p + 1)) k = st (p + 1) := sp_us
  have ho : sp_u o k 0 k = 0 := sp_us
  have hh := sp_dh H I D X hL hn D.1.2.2.2.2.1
  have hP := sp_pos H I (show 0 < p + 1 by omega) (show p + 1 < dep by omega)
  have hN := I.2.2.2.1 p (by omega)
  have hlt := I.2.1 p (p + 1) (by omega) (by omega)
  have hsn : sp_u n k (st (p + 1)) (m (st (p + 1))) = st p := by rw [sp_un (by omega)]; exact hN.1
  obtain ⟨⟨d1, d2, d3, d4, d5, d6⟩, t1, t2, t3, t4⟩ := D
  refine ⟨⟨hh.1, hh.2.1, hh.2.2.1, hh.2.2.2.1, d5, hh.2.2.2.2⟩, ?_, ?_, ?_, ?_⟩
  · intro l hl q hq he hx hc
    obtain rfl : l = p := by omega
    have e1 : k + 1 - 1 = k := by omega
    rw [e1, ho, hn]
    refine ⟨rfl, hP.1, ?_⟩
    by_cases eq : q = k
    · rw [eq, hn] at he
      omega
    · have hqk : q < k := by omega
      rw [sp_un eq] at he
      rcases Nat.lt_trichotomy q (m (st (l + 1))) with z | z | z
      · exact absurd hsn (hx _ z (by omega))
      · exact z.symm
      · exact absurd he (t4 l (by omega) q z hqk)
  · intro l hl _ hx
    obtain rfl : l = p := by omega
    exact absurd hsn (hx _ (by omega))
  · intro l hl x hx he
    by_cases e : x = k
    · rw [e, hn] at he
      have := I.2.1 l (p + 1) (by omega) (by omega)
      omega
    · rw [sp_un e] at he ⊢
      exact t3 l (by omega) x (by omega) he
  · intro l hl x h1 hx
    by_cases e : x = k
    · rw [e, hn]
      have := I.2.1 l (p + 1) (by omega) (by omega)
      omega
    · rw [sp_un e]
      exact t4 l (by omega) x h1 (by omega)
theorem sp_dR0 (H : sp_H o n m k md) (I : sp_L o n m k dep md st q B A) (D : sp_D o n m k md dep st) (hL : 0 + 1 = dep) : sp_D (sp_u o k 0) (sp_u n k (st 0)) m (k + 1) md 0 st := by
  have X : sp_X o n m (sp_u o k 0) (sp_u n k (st 0)) m k md := sp_X1
  have hh := sp_dh H I D X hL sp_us D.1.2.2.2.2.1
  exact ⟨⟨hh.1, hh.2.1, hh.2.2.1, hh.2.2.2.1, D.1.2.2.2.2.1, hh.2.2.2.2⟩, fun _ h => by omega, fun _ h => by omega, fun _ h => by omega, fun _ h => by omega⟩
theorem sp_d0 (dep : Nat) (hd : dep ≤ 1) : sp_D o n m 0 dep dep (fun _ => 0) := by
  refine ⟨⟨fun _ _ h => by omega, fun _ h => by omega, fun _ _ _ h => by omega, fun h => by omega, fun _ _ _ _ _ _ => by omega, fun _ h => by omega⟩, fun _ _ _ h => by omega, fun _ _ h => absurd rfl h, fun _ _ _ h => by omega, fun _ _ _ _ h => by omega⟩
/-- the step ahead of step t, as the law reckons it -/
theorem sp_law1 (H : sp_H o n m k md) (D : sp_Dh o n m k md) {t q : Nat} (ht : t < k) (hq : q < t) (he : n q = n t) (hx : ∀ x, q < x → x < t → ¬ n x = n t) (j : Nat) : sp_pn o n m t (n t) j ↔ j = if o q = 3 then t - 1 else q := by
  have hF := D.2.2.1 q t hq ht he
  have key : sp_pn o n m t (n t) (if o q = 3 then t - 1 else q) := by
    by_cases c : o q = 3
    · rw [if_pos c]
      obtain ⟨a, b, d⟩ := D.1 t q ht hq he hx (Or.inr c)
      refine ⟨by omega, Or.inl ⟨a, b, ?_, ?_⟩, fun s h1 h2 => by omega⟩
      · rw [d]; exact he
      · rw [d]; omega
    · rw [if_neg c]
      exact ⟨hq, Or.inr (Or.inr ⟨hF, c, he⟩), hx⟩
  exact ⟨fun h => D.2.2.2.2.2 t ht _ _ h key, fun h => by rw [h]; exact key⟩
theorem sp_law0 (H : sp_H o n m k md) (D : sp_Dh o n m k md) {t : Nat} (ht : t < k) (h0 : 0 < t) (hx : ∀ x, x < t → ¬ n x = n t) (j : Nat) : sp_pn o n m t (n t) j ↔ j = t - 1 := by
  have hne : ¬ n t = 0 := by
    intro z
    have := hx 0 h0
    rw [D.2.2.2.1 (by omega)] at this
    omega
  obtain ⟨a, b⟩ := D.2.1 t ht hne hx
  have hm := (H.2.2 (n t) hne (H.1 t ht)).2
  have key : sp_pn o n m t (n t) (t - 1) := by
    refine ⟨by omega, Or.inr (Or.inl ⟨?_, hne, b⟩), fun s h1 h2 => by omega⟩
    rw [← b]
    exact hm
  exact ⟨fun h => D.2.2.2.2.2 t ht _ _ h key, fun h => by rw [h]; exact key⟩
/-- a RET that waits for step t's join came of a SPAWN q, one step ahead of the next step x of the instance -/
theorem sp_lawj (H : sp_H o n m k md) (D : sp_Dh o n m k md) {t q x : Nat} (ht : t < k) (hx : x ≤ t) (hq : q < x) (he : n q = n t) (hex : n x = n t) (hb : ∀ y, q < y → y < x → ¬ n y = n t) (h2 : o q = 2) {j : Nat} (hj : sp_cj o n m (n t) j) (hjt : j < t) (hm : m (n j) = q) : j = x - 1 := by
  obtain ⟨a, b, d⟩ := D.1 x q (by omega) hq (by rw [he, hex]) (fun y h1 h3 => by rw [hex]; exact hb y h1 h3) (Or.inl h2)
  have hnj := H.1 j (by omega)
  have hnx := H.1 (x - 1) (by omega)
  have e : n j = n (x - 1) := D.2.2.2.2.1 _ _ hj.2.1 b hnj hnx (by rw [hm, d])
  rcases Nat.lt_trichotomy j (x - 1) with z | z | z
  · exact absurd hj.1 (D.2.2.1 j (x - 1) z (by omega) e)
  · exact z
  · exact absurd a (D.2.2.1 (x - 1) j z (by omega) e.symm)
theorem sp_lawx (H : sp_H o n m k md) (D : sp_Dh o n m k md) {t q x : Nat} (ht : t < k) (hx : x ≤ t) (hq : q < x) (he : n q = n t) (hex : n x = n t) (hb : ∀ y, q < y → y < x → ¬ n y = n t) (h2 : o q = 2) : sp_cj o n m (n t) (x - 1) ∧ m (n (x - 1)) = q := by
  obtain ⟨a, b, d⟩ := D.1 x q (by omega) hq (by rw [he, hex]) (fun y h1 h3 => by rw [hex]; exact hb y h1 h3) (Or.inl h2)
  exact ⟨⟨a, b, by rw [d]; exact he, by rw [d]; exact h2⟩, d⟩
end

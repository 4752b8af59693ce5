/-! ===== the graph of a run: o a step's opcode, n its instance, m the step that made an instance ===== -/
def sp_u (f : Nat → Nat) (k x : Nat) : Nat → Nat := fun j => if j = k then x else f j
theorem sp_us {f : Nat → Nat} {k x : Nat} : sp_u f k x k = x := if_pos rfl
theorem sp_un {f : Nat → Nat} {k j x : Nat} (h : ¬ j = k) : sp_u f k x j = f j := if_neg h
/-- step t has an edge to the next step of instance i -/
def sp_cn (o n m : Nat → Nat) (i t : Nat) : Prop :=
  (o t = 0 ∧ ¬ n t = 0 ∧ n (m (n t)) = i ∧ ¬ o (m (n t)) = 2) ∨ ((o t = 2 ∨ o t = 3) ∧ ¬ i = 0 ∧ m i = t) ∨ (¬ o t = 0 ∧ ¬ o t = 3 ∧ n t = i)
/-- step t has an edge to the next SYNC or RET of instance i -/
def sp_cj (o n m : Nat → Nat) (i t : Nat) : Prop :=
  o t = 0 ∧ ¬ n t = 0 ∧ n (m (n t)) = i ∧ o (m (n t)) = 2
def sp_pn (o n m : Nat → Nat) (c i t : Nat) : Prop :=
  t < c ∧ sp_cn o n m i t ∧ ∀ s, t < s → s < c → ¬ n s = i
def sp_pj (o n m : Nat → Nat) (c i t : Nat) : Prop :=
  t < c ∧ sp_cj o n m i t ∧ ∀ s, t < s → s < c → ¬ (n s = i ∧ (o s = 1 ∨ o s = 0))
def sp_E (o n m : Nat → Nat) (j t : Nat) : Prop :=
  sp_pn o n m t (n t) j ∨ (sp_pj o n m t (n t) j ∧ (o t = 1 ∨ o t = 0))
/-- a path of edges from j to k (of any length, also none) -/
def sp_R (E : Nat → Nat → Prop) (k j : Nat) : Prop :=
  ∀ S : Nat → Prop, S k → (∀ a b, E a b → b ≤ k → S b → S a) → S j
theorem sp_R_refl (E : Nat → Nat → Prop) (k : Nat) : sp_R E k k := fun _ h _ => h
theorem sp_R_step {E : Nat → Nat → Prop} {k a b : Nat} (h : E a b) (hb : b ≤ k) (r : sp_R E k b) : sp_R E k a :=
  fun S h0 hs => hs a b h hb (r S h0 hs)
theorem sp_R_le {E : Nat → Nat → Prop} (hE : ∀ a b, E a b → a < b) {k j : Nat} (r : sp_R E k j) : j ≤ k :=
  r (fun x => x ≤ k) (Nat.le_refl k) (fun a b e _ hb => Nat.le_trans (Nat.le_of_lt (hE a b e)) hb)
theorem sp_R_inv {E : Nat → Nat → Prop} {k j : Nat} (r : sp_R E k j) : j = k ∨ ∃ b, E j b ∧ b ≤ k ∧ sp_R E k b :=
  r (fun x => x = k ∨ ∃ b, E x b ∧ b ≤ k ∧ sp_R E k b) (Or.inl rfl)
    (fun a b e hb hS => Or.inr ⟨b, e, hb, by
      rcases hS with h | ⟨c, e', hc, r'⟩
      · rw [h]; exact sp_R_refl E k
      · exact sp_R_step e' hc r'⟩)
theorem sp_R_trans {E : Nat → Nat → Prop} {k s j : Nat} (hs : s ≤ k) (r1 : sp_R E s j) (r2 : sp_R E k s) : sp_R E k j :=
  r1 (fun x => sp_R E k x) r2 (fun _ _ e hb hS => sp_R_step e (Nat.le_trans hb hs) hS)
theorem sp_R_last {E : Nat → Nat → Prop} (hE : ∀ a b, E a b → a < b) {k j : Nat} (r : sp_R E k j) : j = k ∨ ∃ s, E s k ∧ sp_R E s j :=
  r (fun x => x = k ∨ ∃ s, E s k ∧ sp_R E s x) (Or.inl rfl)
    (fun a b e _ hS => Or.inr (by
      rcases hS with h | ⟨s, e', r'⟩
      · exact ⟨a, by rw [← h]; exact e, sp_R_refl E a⟩
      · exact ⟨s, e', sp_R_step e (sp_R_le hE r') r'⟩))
theorem sp_R_lt {E : Nat → Nat → Prop} (hE : ∀ a b, E a b → a < b) {k j : Nat} (hj : j < k) : sp_R E k j ↔ ∃ s, E s k ∧ sp_R E s j :=
  ⟨fun r => (sp_R_last hE r).resolve_left (by omega),
   fun ⟨s, e, r⟩ => sp_R_trans (Nat.le_of_lt (hE s k e)) r (sp_R_step e (Nat.le_refl k) (sp_R_refl E k))⟩
theorem sp_R_cg {E E' : Nat → Nat → Prop} {k : Nat} (h : ∀ a b, b ≤ k → (E a b ↔ E' a b)) (j : Nat) : sp_R E k j ↔ sp_R E' k j :=
  ⟨fun r S h0 hs => r S h0 (fun a b e hb => hs a b ((h a b hb).1 e) hb),
   fun r S h0 hs => r S h0 (fun a b e hb => hs a b ((h a b hb).2 e) hb)⟩
theorem sp_E_lt {o n m : Nat → Nat} {a b : Nat} (h : sp_E o n m a b) : a < b := by
  rcases h with h | h
  · exact h.1
  · exact h.1.1
theorem sp_Rle {o n m : Nat → Nat} {k j : Nat} (r : sp_R (sp_E o n m) k j) : j ≤ k := sp_R_le (fun _ _ => sp_E_lt) r
theorem sp_pn_s {o n m : Nat → Nat} {k i t : Nat} : sp_pn o n m (k + 1) i t ↔ (sp_pn o n m k i t ∧ ¬ n k = i) ∨ (t = k ∧ sp_cn o n m i k) := by
  unfold sp_pn
  constructor
  · rintro ⟨a, b, c⟩
    by_cases h : t = k
    · exact Or.inr ⟨h, h ▸ b⟩
    · exact Or.inl ⟨⟨by omega, b, fun s x y => c s x (by omega)⟩, c k (by omega) (by omega)⟩
  · rintro (⟨⟨a, b, c⟩, d⟩ | ⟨h, b⟩)
    · refine ⟨by omega, b, fun s x y => ?_⟩
      by_cases h : s = k
      · rw [h]; exact d
      · exact c s x (by omega)
    · subst h
      exact ⟨by omega, b, fun s x y => by omega⟩
theorem sp_pj_s {o n m : Nat → Nat} {k i t : Nat} : sp_pj o n m (k + 1) i t ↔ (sp_pj o n m k i t ∧ ¬ (n k = i ∧ (o k = 1 ∨ o k = 0))) ∨ (t = k ∧ sp_cj o n m i k) := by
  unfold sp_pj
  constructor
  · rintro ⟨a, b, c⟩
    by_cases h : t = k
    · exact Or.inr ⟨h, h ▸ b⟩
    · exact Or.inl ⟨⟨by omega, b, fun s x y => c s x (by omega)⟩, c k (by omega) (by omega)⟩
  · rintro (⟨⟨a, b, c⟩, d⟩ | ⟨h, b⟩)
    · refine ⟨by omega, b, fun s x y => ?_⟩
      by_cases h : s = k
      · rw [h]; exact d
      · exact c s x (by omega)
    · subst h
      exact ⟨by omega, b, fun s x y => by omega⟩
/-! ===== a history of k steps and md instances; another that goes on from it ===== -/
def sp_H (o n m : Nat → Nat) (k md : Nat) : Prop :=
  (∀ t, t < k → n t < md) ∧ (∀ t, t < k → ¬ n t = 0 → m (n t) < t) ∧ (∀ i, ¬ i = 0 → i < md → m i < k ∧ (o (m i) = 2 ∨ o (m i) = 3))
def sp_X (o n m o' n' m' : Nat → Nat) (k md : Nat) : Prop :=
  (∀ t, t < k → o' t = o t) ∧ (∀ t, t < k → n' t = n t) ∧ (∀ i, i < md → m' i = m i)
section
variable {o n m o' n' m' : Nat → Nat} {k md : Nat}
theorem sp_cn_x (H : sp_H o n m k md) (X : sp_X o n m o' n' m' k md) {i t : Nat} (ht : t < k) (hi : i < md) : sp_cn o' n' m' i t ↔ sp_cn o n m i t := by
  have e1 := X.1 t ht
  have e2 := X.2.1 t ht
  have e3 := X.2.2 i hi
  have e4 := X.2.2 (n t) (H.1 t ht)
  unfold sp_cn
  rw [e1, e2, e3, e4]
  by_cases h0 : n t = 0
  · simp only [h0, not_true_eq_false, false_and, and_false]
  · have l := H.2.1 t ht h0
    rw [X.2.1 _ (Nat.lt_trans l ht), X.1 _ (Nat.lt_trans l ht)]
theorem sp_cj_x (H : sp_H o n m k md) (X : sp_X o n m o' n' m' k md) {i t : Nat} (ht : t < k) : sp_cj o' n' m' i t ↔ sp_cj o n m i t := by
  have e1 := X.1 t ht
  have e2 := X.2.1 t ht
  have e4 := X.2.2 (n t) (H.1 t ht)
  unfold sp_cj
  rw [e1, e2, e4]
  by_cases h0 : n t = 0
  · simp only [h0, not_true_eq_false, false_and, and_false]
  · have l := H.2.1 t ht h0
    rw [X.2.1 _ (Nat.lt_trans l ht), X.1 _ (Nat.lt_trans l ht)]
theorem sp_pn_x (H : sp_H o n m k md) (X : sp_X o n m o' n' m' k md) {c i t : Nat} (hc : c ≤ k) (hi : i < md) : sp_pn o' n' m' c i t ↔ sp_pn o n m c i t := by
  constructor
  · rintro ⟨a, b, d⟩
    refine ⟨a, (sp_cn_x H X (Nat.lt_of_lt_of_le a hc) hi).1 b, fun s x y => ?_⟩
    rw [← X.2.1 s (Nat.lt_of_lt_of_le y hc)]; exact d s x y
  · rintro ⟨a, b, d⟩
    refine ⟨a, (sp_cn_x H X (Nat.lt_of_lt_of_le a hc) hi).2 b, fun s x y => ?_⟩
    rw [X.2.1 s (Nat.lt_of_lt_of_le y hc)]; exact d s x y
theorem sp_pj_x (H : sp_H o n m k md) (X : sp_X o n m o' n' m' k md) {c i t : Nat} (hc : c ≤ k) : sp_pj o' n' m' c i t ↔ sp_pj o n m c i t := by
  constructor
  · rintro ⟨a, b, d⟩
    refine ⟨a, (sp_cj_x H X (Nat.lt_of_lt_of_le a hc)).1 b, fun s x y => ?_⟩
    rw [← X.2.1 s (Nat.lt_of_lt_of_le y hc), ← X.1 s (Nat.lt_of_lt_of_le y hc)]; exact d s x y
  · rintro ⟨a, b, d⟩
    refine ⟨a, (sp_cj_x H X (Nat.lt_of_lt_of_le a hc)).2 b, fun s x y => ?_⟩
    rw [X.2.1 s (Nat.lt_of_lt_of_le y hc), X.1 s (Nat.lt_of_lt_of_le y hc)]; exact d s x y
theorem sp_E_x (H : sp_H o n m k md) (X : sp_X o n m o' n' m' k md) {a b : Nat} (hb : b < k) : sp_E o' n' m' a b ↔ sp_E o n m a b := by
  unfold sp_E
  rw [X.2.1 b hb, X.1 b hb, sp_pn_x H X (Nat.le_of_lt hb) (H.1 b hb), sp_pj_x H X (Nat.le_of_lt hb)]
theorem sp_R_x (H : sp_H o n m k md) (X : sp_X o n m o' n' m' k md) {b j : Nat} (hb : b < k) : sp_R (sp_E o' n' m') b j ↔ sp_R (sp_E o n m) b j :=
  sp_R_cg (fun _ _ hc => sp_E_x H X (Nat.lt_of_le_of_lt hc hb)) j
theorem sp_E_new (H : sp_H o n m k md) (X : sp_X o n m o' n' m' k md) {i s : Nat} (hi : i < md) (hn : n' k = i) : sp_E o' n' m' s k ↔ sp_pn o n m k i s ∨ (sp_pj o n m k i s ∧ (o' k = 1 ∨ o' k = 0)) := by
  unfold sp_E
  rw [hn, sp_pn_x H X (Nat.le_refl k) hi, sp_pj_x H X (Nat.le_refl k)]
theorem sp_R_new (H : sp_H o n m k md) (X : sp_X o n m o' n' m' k md) {i j : Nat} (hi : i < md) (hn : n' k = i) (hj : j < k) : sp_R (sp_E o' n' m') k j ↔ ∃ s, (sp_pn o n m k i s ∨ (sp_pj o n m k i s ∧ (o' k = 1 ∨ o' k = 0))) ∧ sp_R (sp_E o n m) s j := by
  rw [sp_R_lt (fun _ _ => sp_E_lt) hj]
  constructor
  · rintro ⟨s, e, r⟩
    exact ⟨s, (sp_E_new H X hi hn).1 e, (sp_R_x H X (sp_E_lt e)).1 r⟩
  · rintro ⟨s, e, r⟩
    have e' := (sp_E_new H X hi hn).2 e
    exact ⟨s, e', (sp_R_x H X (sp_E_lt e')).2 r⟩
theorem sp_pn_k (H : sp_H o n m k md) (X : sp_X o n m o' n' m' k md) {i t : Nat} (hi : i < md) (h1 : ¬ n' k = i) (h2 : ¬ sp_cn o' n' m' i k) : sp_pn o' n' m' (k + 1) i t ↔ sp_pn o n m k i t := by
  rw [sp_pn_s, sp_pn_x H X (Nat.le_refl k) hi]
  constructor
  · rintro (h | h)
    · exact h.1
    · exact absurd h.2 h2
  · exact fun h => Or.inl ⟨h, h1⟩
theorem sp_ex_k (H : sp_H o n m k md) (X : sp_X o n m o' n' m' k md) {i j : Nat} (h1 : ¬ (n' k = i ∧ (o' k = 1 ∨ o' k = 0))) (h2 : ¬ sp_cj o' n' m' i k) : (∃ r, sp_pj o' n' m' (k + 1) i r ∧ sp_R (sp_E o' n' m') r j) ↔ (∃ r, sp_pj o n m k i r ∧ sp_R (sp_E o n m) r j) := by
  constructor
  · rintro ⟨r, p, q⟩
    rw [sp_pj_s, sp_pj_x H X (Nat.le_refl k)] at p
    rcases p with p | p
    · exact ⟨r, p.1, (sp_R_x H X p.1.1).1 q⟩
    · exact absurd p.2 h2
  · rintro ⟨r, p, q⟩
    refine ⟨r, ?_, (sp_R_x H X p.1).2 q⟩
    rw [sp_pj_s, sp_pj_x H X (Nat.le_refl k)]
    exact Or.inl ⟨p, h1⟩
theorem sp_B_k (H : sp_H o n m k md) (X : sp_X o n m o' n' m' k md) {q j : Nat} (hq : q < k) : (j < k + 1 ∧ sp_R (sp_E o' n' m') q j) ↔ (j < k ∧ sp_R (sp_E o n m) q j) := by
  rw [sp_R_x H X hq]
  constructor
  · rintro ⟨_, r⟩
    exact ⟨Nat.lt_of_le_of_lt (sp_Rle r) hq, r⟩
  · rintro ⟨a, r⟩
    exact ⟨by omega, r⟩
end

section
theorem wb_tb (n : Nat) : (lN n).toBitVec = BitVec.ofNat 64 n := rfl
theorem wb_inj {a b : Int64} (h : a.toBitVec = b.toBitVec) : a = b := Int64.toBitVec_inj.mp h
theorem wb_c : ∀ k, k < 64 → ((nI k).toInt64 &&& 63) = lN k := by decide +kernel
theorem wb_sm : ∀ k, k < 64 → (BitVec.ofNat 64 k).smod 64 = BitVec.ofNat 64 k := by decide +kernel
theorem wb_shl (n : Nat) {k : Nat} (hk : k < 64) : lN n <<< ((nI k).toInt64 &&& 63) = lN (n * 2 ^ k) := by
  rw [wb_c k hk]
  apply wb_inj
  rw [Int64.toBitVec_shiftLeft, wb_tb, wb_tb, wb_tb, wb_sm k hk]
  apply BitVec.eq_of_toNat_eq
  rw [BitVec.shiftLeft_eq', BitVec.toNat_shiftLeft, BitVec.toNat_ofNat, BitVec.toNat_ofNat, BitVec.toNat_ofNat, Nat.mod_eq_of_lt (show k < 2 ^ 64 by omega), Nat.shiftLeft_eq, Nat.mul_mod, Nat.mod_mod, ← Nat.mul_mod]
end
section
/-! ===== the graph of a run: o a step's opcode, n its instance, m the step that made an instance ===== -/
def sp_u (f : Nat → Nat) (k x : Nat) : Nat → Nat := fun j => if j = k then x else f j
theorem sp_us {f : Nat → Nat} {k x : Nat} : sp_u f k x k = x := if_pos rfl
theorem sp_un {f : Nat → Nat} {k j x : Nat} (h : ¬ j = k) : sp_u f k x j = f j := if_neg h
/-- step t has an edge to the next step of instance i -/
def sp_cn (o n m : Nat → Nat) (i t : Nat) : Prop :=
  (o t = 0 ∧ ¬ n t = 0 ∧ n (m (n t)) = i ∧ ¬ o (m (n t)) = 2) ∨ ((o t = 2 ∨ o t = 3) ∧ ¬ i = 0 ∧ m i = t) ∨ (¬ o t = 0 ∧ ¬ o t = 3 ∧ n t = i)
/-- step t has an edge to the next SYNC or RET of instance i -/
def sp_cj (o n m : Nat → Nat) (i t : Nat) : Prop :=
  o t = 0 ∧ ¬ n t = 0 ∧ n (m (n t)) = i ∧ o (m (n t)) = 2
def sp_pn (o n m : Nat → Nat) (c i t : Nat) : Prop :=
  t < c ∧ sp_cn o n m i t ∧ ∀ s, t < s → s < c → ¬ n s = i
def sp_pj (o n m : Nat → Nat) (c i t : Nat) : Prop :=
  t < c ∧ sp_cj o n m i t ∧ ∀ s, t < s → s < c → ¬ (n s = i ∧ (o s = 1 ∨ o s = 0))
def sp_E (o n m : Nat → Nat) (j t : Nat) : Prop :=
  sp_pn o n m t (n t) j ∨ (sp_pj o n m t (n t) j ∧ (o t = 1 ∨ o t = 0))
/-- a path of edges from j to k (of any length, also none) -/
def sp_R (E : Nat → Nat → Prop) (k j : Nat) : Prop :=
  ∀ S : Nat → Prop, S k → (∀ a b, E a b → b ≤ k → S b → S a) → S j
theorem sp_R_refl (E : Nat → Nat → Prop) (k : Nat) : sp_R E k k := fun _ h _ => h
theorem sp_R_step {E : Nat → Nat → Prop} {k a b : Nat} (h : E a b) (hb : b ≤ k) (r : sp_R E k b) : sp_R E k a :=
  fun S h0 hs => hs a b h hb (r S h0 hs)
theorem sp_R_le {E : Nat → Nat → Prop} (hE : ∀ a b, E a b → a < b) {k j : Nat} (r : sp_R E k j) : j ≤ k :=
  r (fun x => x ≤ k) (Nat.le_refl k) (fun a b e _ hb => Nat.le_trans (Nat.le_of_lt (hE a b e)) hb)
theorem sp_R_inv {E : Nat → Nat → Prop} {k j : Nat} (r : sp_R E k j) : j = k ∨ ∃ b, E j b ∧ b ≤ k ∧ sp_R E k b :=
  r (fun x => x = k ∨ ∃ b, E x b ∧ b ≤ k ∧ sp_R E k b) (Or.inl rfl)
    (fun a b e hb hS => Or.inr ⟨b, e, hb, by
      rcases hS with h | ⟨c, e', hc, r'⟩
      · rw [h]; exact sp_R_refl E k
      · exact sp_R_step e' hc r'⟩)
theorem sp_R_trans {E : Nat → Nat → Prop} {k s j : Nat} (hs : s ≤ k) (r1 : sp_R E s j) (r2 : sp_R E k s) : sp_R E k j :=
  r1 (fun x => sp_R E k x) r2 (fun _ _ e hb hS => sp_R_step e (Nat.le_trans hb hs) hS)
theorem sp_R_last {E : Nat → Nat → Prop} (hE : ∀ a b, E a b → a < b) {k j : Nat} (r : sp_R E k j) : j = k ∨ ∃ s, E s k ∧ sp_R E s j :=
  r (fun x => x = k ∨ ∃ s, E s k ∧ sp_R E s x) (Or.inl rfl)
    (fun a b e _ hS => Or.inr (by
      rcases hS with h | ⟨s, e', r'⟩
      · exact ⟨a, by rw [← h]; exact e, sp_R_refl E a⟩
      · exact ⟨s, e', sp_R_step e (sp_R_le hE r') r'⟩))
theorem sp_R_lt {E : Nat → Nat → Prop} (hE : ∀ a b, E a b → a < b) {k j : Nat} (hj : j < k) : sp_R E k j ↔ ∃ s, E s k ∧ sp_R E s j :=
  ⟨fun r => (sp_R_last hE r).resolve_left (by omega),
   fun ⟨s, e, r⟩ => sp_R_trans (Nat.le_of_lt (hE s k e)) r (sp_R_step e (Nat.le_refl k) (sp_R_refl E k))⟩
theorem sp_R_cg {E E' : Nat → Nat → Prop} {k : Nat} (h : ∀ a b, b ≤ k → (E a b ↔ E' a b)) (j : Nat) : sp_R E k j ↔ sp_R E' k j :=
  ⟨fun r S h0 hs => r S h0 (fun a b e hb => hs a b ((h a b hb).1 e) hb),
   fun r S h0 hs => r S h0 (fun a b e hb => hs a b ((h a b hb).2 e) hb)⟩
theorem sp_E_lt {o n m : Nat → Nat} {a b : Nat} (h : sp_E o n m a b) : a < b := by
  rcases h with h | h
  · exact h.1
  · exact h.1.1
theorem sp_Rle {o n m : Nat → Nat} {k j : Nat} (r : sp_R (sp_E o n m) k j) : j ≤ k := sp_R_le (fun _ _ => sp_E_lt) r
theorem sp_pn_s {o n m : Nat → Nat} {k i t : Nat} : sp_pn o n m (k + 1) i t ↔ (sp_pn o n m k i t ∧ ¬ n k = i) ∨ (t = k ∧ sp_cn o n m i k) := by
  unfold sp_pn
  constructor
  · rintro ⟨a, b, c⟩
    by_cases h : t = k
    · exact Or.inr ⟨h, h ▸ b⟩
    · exact Or.inl ⟨⟨by omega, b, fun s x y => c s x (by omega)⟩, c k (by omega) (by omega)⟩
  · rintro (⟨⟨a, b, c⟩, d⟩ | ⟨h, b⟩)
    · refine ⟨by omega, b, fun s x y => ?_⟩
      by_cases h : s = k
      · rw [h]; exact d
      · exact c s x (by omega)
    · subst h
      exact ⟨by omega, b, fun s x y => by omega⟩
theorem sp_pj_s {o n m : Nat → Nat} {k i t : Nat} : sp_pj o n m (k + 1) i t ↔ (sp_pj o n m k i t ∧ ¬ (n k = i ∧ (o k = 1 ∨ o k = 0))) ∨ (t = k ∧ sp_cj o n m i k) := by
  unfold sp_pj
  constructor
  · rintro ⟨a, b, c⟩
    by_cases h : t = k
    · exact Or.inr ⟨h, h ▸ b⟩
    · exact Or.inl ⟨⟨by omega, b, fun s x y => c s x (by omega)⟩, c k (by omega) (by omega)⟩
  · rintro (⟨⟨a, b, c⟩, d⟩ | ⟨h, b⟩)
    · refine ⟨by omega, b, fun s x y => ?_⟩
      by_cases h : s = k
      · rw [h]; exact d
      · exact c s x (by omega)
    · subst h
      exact ⟨by omega, b, fun s x y => by omega⟩
/-! ===== a history of k steps and md instances; another that goes on from it ===== -/
def sp_H (o n m : Nat → Nat) (k md : Nat) : Prop :=
  (∀ t, t < k → n t < md) ∧ (∀ t, t < k → ¬ n t = 0 → m (n t) < t) ∧ (∀ i, ¬ i = 0 → i < md → m i < k ∧ (o (m i) = 2 ∨ o (m i) = 3))
def sp_X (o n m o' n' m' : Nat → Nat) (k md : Nat) : Prop :=
  (∀ t, t < k → o' t = o t) ∧ (∀ t, t < k → n' t = n t) ∧ (∀ i, i < md → m' i = m i)
section
variable {o n m o' n' m' : Nat → Nat} {k md : Nat}
theorem sp_cn_x (H : sp_H o n m k md) (X : sp_X o n m o' n' m' k md) {i t : Nat} (ht : t < k) (hi : i < md) : sp_cn o' n' m' i t ↔ sp_cn o n m i t := by
  have e1 := X.1 t ht
  have e2 := X.2.1 t ht
  have e3 := X.2.2 i hi
  have e4 := X.2.2 (n t) (H.1 t ht)
  unfold sp_cn
  rw [e1, e2, e3, e4]
  by_cases h0 : n t = 0
  · simp only [h0, not_true_eq_false, false_and, and_false]
  · have l := H.2.1 t ht h0
    rw [X.2.1 _ (Nat.lt_trans l ht), X.1 _ (Nat.lt_trans l ht)]
theorem sp_cj_x (H : sp_H o n m k md) (X : sp_X o n m o' n' m' k md) {i t : Nat} (ht : t < k) : sp_cj o' n' m' i t ↔ sp_cj o n m i t := by
  have e1 := X.1 t ht
  have e2 := X.2.1 t ht
  have e4 := X.2.2 (n t) (H.1 t ht)
  unfold sp_cj
  rw [e1, e2, e4]
  by_cases h0 : n t = 0
  · simp only [h0, not_true_eq_false, false_and, and_false]
  · have l := H.2.1 t ht h0
    rw [X.2.1 _ (Nat.lt_trans l ht), X.1 _ (Nat.lt_trans l ht)]
theorem sp_pn_x (H : sp_H o n m k md) (X : sp_X o n m o' n' m' k md) {c i t : Nat} (hc : c ≤ k) (hi : i < md) : sp_pn o' n' m' c i t ↔ sp_pn o n m c i t := by
  constructor
  · rintro ⟨a, b, d⟩
    refine ⟨a, (sp_cn_x H X (Nat.lt_of_lt_of_le a hc) hi).1 b, fun s x y => ?_⟩
    rw [← X.2.1 s (Nat.lt_of_lt_of_le y hc)]; exact d s x y
  · rintro ⟨a, b, d⟩
    refine ⟨a, (sp_cn_x H X (Nat.lt_of_lt_of_le a hc) hi).2 b, fun s x y => ?_⟩
    rw [X.2.1 s (Nat.lt_of_lt_of_le y hc)]; exact d s x y
theorem sp_pj_x (H : sp_H o n m k md) (X : sp_X o n m o' n' m' k md) {c i t : Nat} (hc : c ≤ k) : sp_pj o' n' m' c i t ↔ sp_pj o n m c i t := by
  constructor
  · rintro ⟨a, b, d⟩
    refine ⟨a, (sp_cj_x H X (Nat.lt_of_lt_of_le a hc)).1 b, fun s x y => ?_⟩
    rw [← X.2.1 s (Nat.lt_of_lt_of_le y hc), ← X.1 s (Nat.lt_of_lt_of_le y hc)]; exact d s x y
  · rintro ⟨a, b, d⟩
    refine ⟨a, (sp_cj_x H X (Nat.lt_of_lt_of_le a hc)).2 b, fun s x y => ?_⟩
    rw [X.2.1 s (Nat.lt_of_lt_of_le y hc), X.1 s (Nat.lt_of_lt_of_le y hc)]; exact d s x y
theorem sp_E_x (H : sp_H o n m k md) (X : sp_X o n m o' n' m' k md) {a b : Nat} (hb : b < k) : sp_E o' n' m' a b ↔ sp_E o n m a b := by
  unfold sp_E
  rw [X.2.1 b hb, X.1 b hb, sp_pn_x H X (Nat.le_of_lt hb) (H.1 b hb), sp_pj_x H X (Nat.le_of_lt hb)]
theorem sp_R_x (H : sp_H o n m k md) (X : sp_X o n m o' n' m' k md) {b j : Nat} (hb : b < k) : sp_R (sp_E o' n' m') b j ↔ sp_R (sp_E o n m) b j :=
  sp_R_cg (fun _ _ hc => sp_E_x H X (Nat.lt_of_le_of_lt hc hb)) j
theorem sp_E_new (H : sp_H o n m k md) (X : sp_X o n m o' n' m' k md) {i s : Nat} (hi : i < md) (hn : n' k = i) : sp_E o' n' m' s k ↔ sp_pn o n m k i s ∨ (sp_pj o n m k i s ∧ (o' k = 1 ∨ o' k = 0)) := by
  unfold sp_E
  rw [hn, sp_pn_x H X (Nat.le_refl k) hi, sp_pj_x H X (Nat.le_refl k)]
theorem sp_R_new (H : sp_H o n m k md) (X : sp_X o n m o' n' m' k md) {i j : Nat} (hi : i < md) (hn : n' k = i) (hj : j < k) : sp_R (sp_E o' n' m') k j ↔ ∃ s, (sp_pn o n m k i s ∨ (sp_pj o n m k i s ∧ (o' k = 1 ∨ o' k = 0))) ∧ sp_R (sp_E o n m) s j := by
  rw [sp_R_lt (fun _ _ => sp_E_lt) hj]
  constructor
  · rintro ⟨s, e, r⟩
    exact ⟨s, (sp_E_new H X hi hn).1 e, (sp_R_x H X (sp_E_lt e)).1 r⟩
  · rintro ⟨s, e, r⟩
    have e' := (sp_E_new H X hi hn).2 e
    exact ⟨s, e', (sp_R_x H X (sp_E_lt e')).2 r⟩
theorem sp_pn_k (H : sp_H o n m k md) (X : sp_X o n m o' n' m' k md) {i t : Nat} (hi : i < md) (h1 : ¬ n' k = i) (h2 : ¬ sp_cn o' n' m' i k) : sp_pn o' n' m' (k + 1) i t ↔ sp_pn o n m k i t := by
  rw [sp_pn_s, sp_pn_x H X (Nat.le_refl k) hi]
  constructor
  · rintro (h | h)
    · exact h.1
    · exact absurd h.2 h2
  · exact fun h => Or.inl ⟨h, h1⟩
theorem sp_ex_k (H : sp_H o n m k md) (X : sp_X o n m o' n' m' k md) {i j : Nat} (h1 : ¬ (n' k = i ∧ (o' k = 1 ∨ o' k = 0))) (h2 : ¬ sp_cj o' n' m' i k) : (∃ r, sp_pj o' n' m' (k + 1) i r ∧ sp_R (sp_E o' n' m') r j) ↔ (∃ r, sp_pj o n m k i r ∧ sp_R (sp_E o n m) r j) := by
  constructor
  · rintro ⟨r, p, q⟩
    rw [sp_pj_s, sp_pj_x H X (Nat.le_refl k)] at p
    rcases p with p | p
    · exact ⟨r, p.1, (sp_R_x H X p.1.1).1 q⟩
    · exact absurd p.2 h2
  · rintro ⟨r, p, q⟩
    refine ⟨r, ?_, (sp_R_x H X p.1).2 q⟩
    rw [sp_pj_s, sp_pj_x H X (Nat.le_refl k)]
    exact Or.inl ⟨p, h1⟩
theorem sp_B_k (H : sp_H o n m k md) (X : sp_X o n m o' n' m' k md) {q j : Nat} (hq : q < k) : (j < k + 1 ∧ sp_R (sp_E o' n' m') q j) ↔ (j < k ∧ sp_R (sp_E o n m) q j) := by
  rw [sp_R_x H X hq]
  constructor
  · rintro ⟨_, r⟩
    exact ⟨Nat.lt_of_le_of_lt (sp_Rle r) hq, r⟩
  · rintro ⟨a, r⟩
    exact ⟨by omega, r⟩
end
end
section
/-! ===== the stack over the graph: st a level's instance, q the step ahead of its next; B the steps that lead there, A those that wait for a join ===== -/
def sp_L (o n m : Nat → Nat) (k dep md : Nat) (st q : Nat → Nat) (B A : Nat → Nat → Prop) : Prop :=
  (0 < dep → st 0 = 0) ∧
  (∀ a b, a < b → b < dep → st a < st b) ∧
  (∀ l, l < dep → st l < md) ∧
  (∀ l, l + 1 < dep → n (m (st (l + 1))) = st l ∧ q l = m (st (l + 1))) ∧
  (∀ l, l + 1 < dep → ∀ t, sp_pn o n m k (st l) t ↔ (t = q l ∧ o (q l) = 2)) ∧
  (∀ l, l + 1 = dep → ∀ t, sp_pn o n m k (st l) t ↔ (t < k ∧ t = q l)) ∧
  (∀ l, 0 < l → l < dep → sp_R (sp_E o n m) (q l) (m (st l))) ∧
  (0 < k → ∀ l, l < dep → q l < k) ∧
  (∀ l, l < dep → ∀ j, j < 128 → (B l j ↔ (j < k ∧ sp_R (sp_E o n m) (q l) j))) ∧
  (∀ l, l < dep → ∀ j, j < 128 → (A l j ↔ ∃ r, sp_pj o n m k (st l) r ∧ sp_R (sp_E o n m) r j))
section
variable {o n m o' n' m' st q : Nat → Nat} {k dep md : Nat} {B A B' A' : Nat → Nat → Prop}
theorem sp_pos (H : sp_H o n m k md) (I : sp_L o n m k dep md st q B A) {l : Nat} (h0 : 0 < l) (hl : l < dep) : ¬ st l = 0 ∧ m (st l) < k ∧ (o (m (st l)) = 2 ∨ o (m (st l)) = 3) := by
  have h1 := I.2.1 0 l h0 hl
  have h2 : ¬ st l = 0 := by omega
  exact ⟨h2, H.2.2 _ h2 (I.2.2.1 l hl)⟩
theorem sp_qk (H : sp_H o n m k md) (I : sp_L o n m k dep md st q B A) {l : Nat} (hl : l + 1 < dep) : q l < k := by
  rw [(I.2.2.2.1 l hl).2]
  exact (sp_pos H I (show 0 < l + 1 by omega) hl).2.1
theorem sp_top (H : sp_H o n m k md) (I : sp_L o n m k dep md st q B A) (X : sp_X o n m o' n' m' k md) {L : Nat} (hL : L + 1 = dep) (hn : n' k = st L) {j : Nat} (hj : j < 128) : (j < k + 1 ∧ sp_R (sp_E o' n' m') k j) ↔ (B L j ∨ ((o' k = 1 ∨ o' k = 0) ∧ A L j) ∨ j = k) := by
  obtain ⟨i1, i2, i3, i4, i5, i6, i7, i8, i9, i10⟩ := I
  have hLd : L < dep := by omega
  have hi := i3 L hLd
  rw [i9 L hLd j hj, i10 L hLd j hj]
  rcases Nat.lt_trichotomy j k with h | h | h
  · rw [sp_R_new H X hi hn h]
    constructor
    · rintro ⟨_, s, e | ⟨e, w⟩, r⟩
      · have e2 := ((i6 L hL s).1 e).2
        rw [e2] at r
        exact Or.inl ⟨h, r⟩
      · exact Or.inr (Or.inl ⟨w, s, e, r⟩)
    · rintro (⟨_, r⟩ | ⟨w, s, e, r⟩ | e)
      · exact ⟨by omega, q L, Or.inl ((i6 L hL (q L)).2 ⟨i8 (by omega) L hLd, rfl⟩), r⟩
      · exact ⟨by omega, s, Or.inr ⟨e, w⟩, r⟩
      · omega
  · refine ⟨fun _ => Or.inr (Or.inr h), fun _ => ⟨by omega, ?_⟩⟩
    rw [h]
    exact sp_R_refl _ _
  · constructor
    · rintro ⟨a, _⟩
      omega
    · rintro (⟨a, _⟩ | ⟨_, s, e, r⟩ | e)
      · omega
      · have h1 := e.1
        have h2 := sp_Rle r
        omega
      · omega
theorem sp_up (H : sp_H o n m k md) (I : sp_L o n m k dep md st q B A) (X : sp_X o n m o' n' m' k md) {L : Nat} (hL : L + 1 = dep) (hn : n' k = st L) (hk : 0 < k) {j : Nat} (r : sp_R (sp_E o n m) (q L) j) : sp_R (sp_E o' n' m') k j := by
  have hLd : L < dep := by omega
  have hq := I.2.2.2.2.2.2.2.1 hk L hLd
  exact (sp_R_new H X (I.2.2.1 L hLd) hn (Nat.lt_of_le_of_lt (sp_Rle r) hq)).2 ⟨q L, Or.inl ((I.2.2.2.2.2.1 L hL (q L)).2 ⟨hq, rfl⟩), r⟩
theorem sp_X1 {i oo : Nat} : sp_X o n m (sp_u o k oo) (sp_u n k i) m k md :=
  ⟨fun _ h => sp_un (by omega), fun _ h => sp_un (by omega), fun _ _ => rfl⟩
theorem sp_X2 {i oo : Nat} : sp_X o n m (sp_u o k oo) (sp_u n k i) (sp_u m md k) k md :=
  ⟨fun _ h => sp_un (by omega), fun _ h => sp_un (by omega), fun _ h => sp_un (by omega)⟩
theorem sp_H1 (H : sp_H o n m k md) {i oo : Nat} (hi : i < md) : sp_H (sp_u o k oo) (sp_u n k i) m (k + 1) md := by
  refine ⟨fun t ht => ?_, fun t ht h0 => ?_, fun j h0 hj => ?_⟩
  · by_cases h : t = k
    · rw [h, sp_us]; exact hi
    · rw [sp_un h]; exact H.1 t (by omega)
  · by_cases h : t = k
    · rw [h, sp_us] at h0 ⊢
      exact (H.2.2 i h0 hi).1
    · rw [sp_un h] at h0 ⊢
      exact H.2.1 t (by omega) h0
  · have h := H.2.2 j h0 hj
    rw [sp_un (show ¬ m j = k by omega)]
    exact ⟨by omega, h.2⟩
theorem sp_H2 (H : sp_H o n m k md) {i oo : Nat} (hi : i < md) (hoo : oo = 2 ∨ oo = 3) : sp_H (sp_u o k oo) (sp_u n k i) (sp_u m md k) (k + 1) (md + 1) := by
  have h1 := sp_H1 H (oo := oo) hi
  refine ⟨fun t ht => by have := h1.1 t ht; omega, fun t ht h0 => ?_, fun j h0 hj => ?_⟩
  · have hx := h1.1 t ht
    rw [sp_un (show ¬ sp_u n k i t = md by omega)]
    exact h1.2.1 t ht h0
  · by_cases h : j = md
    · rw [h, sp_us, sp_us]
      exact ⟨by omega, hoo⟩
    · rw [sp_un h]
      exact h1.2.2 j h0 (by omega)
/-- levels below the top, over any step of the top -/
theorem sp_low (H : sp_H o n m k md) (I : sp_L o n m k dep md st q B A) (X : sp_X o n m o' n' m' k md) {L : Nat} (hL : L + 1 = dep) (hn : n' k = st L) {l : Nat} (hl : l < L)
    (hc : ¬ sp_cn o' n' m' (st l) k) (t : Nat) : sp_pn o' n' m' (k + 1) (st l) t ↔ (t = q l ∧ o' (q l) = 2) := by
  have h1 := I.2.1 l L hl (by omega)
  rw [sp_pn_k H X (I.2.2.1 l (by omega)) (by omega) hc, X.1 _ (sp_qk H I (l := l) (by omega))]
  exact I.2.2.2.2.1 l (by omega) t
theorem sp_lowB (H : sp_H o n m k md) (I : sp_L o n m k dep md st q B A) (X : sp_X o n m o' n' m' k md) {L : Nat} (hL : L + 1 = dep) {l : Nat} (hl : l < L) {j : Nat} (hj : j < 128) : B l j ↔ (j < k + 1 ∧ sp_R (sp_E o' n' m') (q l) j) := by
  rw [sp_B_k H X (sp_qk H I (l := l) (by omega))]
  exact I.2.2.2.2.2.2.2.2.1 l (by omega) j hj
theorem sp_lowA (H : sp_H o n m k md) (I : sp_L o n m k dep md st q B A) (X : sp_X o n m o' n' m' k md) {L : Nat} (hL : L + 1 = dep) (hn : n' k = st L) {l : Nat} (hl : l < L)
    (hc : ¬ sp_cj o' n' m' (st l) k) {j : Nat} (hj : j < 128) : A l j ↔ ∃ r, sp_pj o' n' m' (k + 1) (st l) r ∧ sp_R (sp_E o' n' m') r j := by
  have h1 := I.2.1 l L hl (by omega)
  rw [sp_ex_k H X (by omega) hc]
  exact I.2.2.2.2.2.2.2.2.2 l (by omega) j hj
theorem sp_lowN (H : sp_H o n m k md) (I : sp_L o n m k dep md st q B A) (X : sp_X o n m o' n' m' k md) {L : Nat} (hL : L + 1 = dep) {l : Nat} (hl : l < L) : n' (m' (st (l + 1))) = st l ∧ q l = m' (st (l + 1)) := by
  have h1 := sp_pos H I (show 0 < l + 1 by omega) (show l + 1 < dep by omega)
  have h2 := I.2.2.2.1 l (by omega)
  rw [X.2.2 _ (I.2.2.1 (l + 1) (by omega)), X.2.1 _ h1.2.1]
  exact h2
theorem sp_lowR (H : sp_H o n m k md) (I : sp_L o n m k dep md st q B A) (X : sp_X o n m o' n' m' k md) {L : Nat} (hL : L + 1 = dep) {l : Nat} (h0 : 0 < l) (hl : l < L) : sp_R (sp_E o' n' m') (q l) (m' (st l)) := by
  rw [X.2.2 _ (I.2.2.1 l (by omega)), sp_R_x H X (sp_qk H I (l := l) (by omega))]
  exact I.2.2.2.2.2.2.1 l h0 (by omega)
theorem sp_topR (H : sp_H o n m k md) (I : sp_L o n m k dep md st q B A) (X : sp_X o n m o' n' m' k md) {L : Nat} (hL : L + 1 = dep) (hn : n' k = st L) (h0 : 0 < L) : sp_R (sp_E o' n' m') k (m' (st L)) := by
  have h1 := sp_pos H I h0 (show L < dep by omega)
  rw [X.2.2 _ (I.2.2.1 L (by omega))]
  exact sp_up H I X hL hn (by omega) (I.2.2.2.2.2.2.1 L h0 (by omega))
/-- the top steps on -/
theorem sp_tA (H : sp_H o n m k md) (I : sp_L o n m k dep md st q B A) {L oo : Nat} (hL : L + 1 = dep) (h0 : ¬ oo = 0) (h2 : ¬ oo = 2) (h3 : ¬ oo = 3)
    (hB : ∀ l, l < L → ∀ j, j < 128 → (B' l j ↔ B l j)) (hBL : ∀ j, j < 128 → (B' L j ↔ (B L j ∨ (oo = 1 ∧ A L j) ∨ j = k)))
    (hA : ∀ l, l < L → ∀ j, j < 128 → (A' l j ↔ A l j)) (hAL : ∀ j, j < 128 → (A' L j ↔ (A L j ∧ ¬ oo = 1))) :
    sp_H (sp_u o k oo) (sp_u n k (st L)) m (k + 1) md ∧ sp_L (sp_u o k oo) (sp_u n k (st L)) m (k + 1) dep md st (sp_u q L k) B' A' := by
  have hLd : L < dep := by omega
  have X : sp_X o n m (sp_u o k oo) (sp_u n k (st L)) m k md := sp_X1
  have hn : sp_u n k (st L) k = st L := sp_us
  have ho : sp_u o k oo k = oo := sp_us
  have hcn : ∀ i, ¬ i = st L → ¬ sp_cn (sp_u o k oo) (sp_u n k (st L)) m i k := by
    intro i hi hc
    unfold sp_cn at hc
    rw [ho, hn] at hc
    omega
  have hcj : ∀ i, ¬ sp_cj (sp_u o k oo) (sp_u n k (st L)) m i k := by
    intro i hc
    unfold sp_cj at hc
    rw [ho] at hc
    omega
  refine ⟨sp_H1 H (I.2.2.1 L hLd), I.1, I.2.1, I.2.2.1, ?_, ?_, ?_, ?_, ?_, ?_, ?_⟩
  · intro l hl
    rw [sp_un (show ¬ l = L by omega)]
    exact sp_lowN H I X hL (by omega)
  · intro l hl t
    have h1 := I.2.1 l L (by omega) hLd
    rw [sp_un (show ¬ l = L by omega)]
    exact sp_low H I X hL hn (by omega) (hcn _ (by omega)) t
  · intro l hl t
    obtain rfl : l = L := by omega
    rw [sp_us, sp_pn_s, hn]
    constructor
    · rintro (h | h)
      · exact absurd rfl h.2
      · omega
    · rintro ⟨_, h⟩
      refine Or.inr ⟨h, Or.inr (Or.inr ?_)⟩
      rw [ho, hn]
      exact ⟨h0, h3, rfl⟩
  · intro l hl0 hl
    by_cases h : l = L
    · subst h
      rw [sp_us]
      exact sp_topR H I X hL hn hl0
    · rw [sp_un h]
      exact sp_lowR H I X hL hl0 (by omega)
  · intro _ l hl
    by_cases h : l = L
    · subst h
      rw [sp_us]; omega
    · rw [sp_un h]
      have := sp_qk H I (show l + 1 < dep by omega)
      omega
  · intro l hl j hj
    by_cases h : l = L
    · subst h
      rw [sp_us, hBL j hj, sp_top H I X hL hn hj, ho]
      simp only [h0, or_false]
    · rw [sp_un h, hB l (by omega) j hj]
      exact sp_lowB H I X hL (by omega) hj
  · intro l hl j hj
    by_cases h : l = L
    · subst h
      rw [hAL j hj]
      by_cases h1 : oo = 1
      · constructor
        · exact fun z => absurd h1 z.2
        · rintro ⟨r, p, _⟩
          rw [sp_pj_s, hn, ho] at p
          rcases p with p | p
          · exact absurd ⟨rfl, Or.inl h1⟩ p.2
          · exact absurd p.2 (hcj _)
      · rw [sp_ex_k H X (by rw [hn, ho]; omega) (hcj _), I.2.2.2.2.2.2.2.2.2 l hl j hj]
        simp only [h1, not_false_eq_true, and_true]
    · rw [hA l (by omega) j hj]
      exact sp_lowA H I X hL hn (by omega) (hcj _) hj
/-- the top makes an instance -/
theorem sp_tM (H : sp_H o n m k md) (I : sp_L o n m k dep md st q B A) {L oo : Nat} (hL : L + 1 = dep) (h2 : oo = 2 ∨ oo = 3)
    (hB : ∀ l, l < L → ∀ j, j < 128 → (B' l j ↔ B l j)) (hBL : ∀ j, j < 128 → (B' L j ↔ (B L j ∨ j = k))) (hBD : ∀ j, j < 128 → (B' dep j ↔ (B L j ∨ j = k)))
    (hA : ∀ l, l < dep → ∀ j, j < 128 → (A' l j ↔ A l j)) (hAD : ∀ j, j < 128 → ¬ A' dep j) :
    sp_H (sp_u o k oo) (sp_u n k (st L)) (sp_u m md k) (k + 1) (md + 1) ∧ sp_L (sp_u o k oo) (sp_u n k (st L)) (sp_u m md k) (k + 1) (dep + 1) (md + 1) (sp_u st dep md) (sp_u (sp_u q L k) dep k) B' A' := by
  have hLd : L < dep := by omega
  have X : sp_X o n m (sp_u o k oo) (sp_u n k (st L)) (sp_u m md k) k md := sp_X2
  have hn : sp_u n k (st L) k = st L := sp_us
  have ho : sp_u o k oo k = oo := sp_us
  have hm : ∀ l, l < dep → sp_u m md k (st l) = m (st l) := fun l hl => sp_un (by have := I.2.2.1 l hl; omega)
  have hcn : ∀ l, l < L → ¬ sp_cn (sp_u o k oo) (sp_u n k (st L)) (sp_u m md k) (st l) k := by
    intro l hl hc
    have h1 := I.2.1 l L hl hLd
    unfold sp_cn at hc
    rw [ho, hn, hm l (by omega)] at hc
    rcases hc with hc | hc | hc
    · omega
    · have := H.2.2 _ hc.2.1 (I.2.2.1 l (by omega))
      omega
    · omega
  have hcj : ∀ i, ¬ sp_cj (sp_u o k oo) (sp_u n k (st L)) (sp_u m md k) i k := by
    intro i hc
    unfold sp_cj at hc
    rw [ho] at hc
    omega
  have H' := sp_H2 H (oo := oo) (I.2.2.1 L hLd) h2
  have hstl : ∀ l, l < dep → sp_u st dep md l = st l := fun l hl => sp_un (by omega)
  have hql : ∀ l, l < L → sp_u (sp_u q L k) dep k l = q l := fun l hl => by rw [sp_un (by omega), sp_un (by omega)]
  have hqL : sp_u (sp_u q L k) dep k L = k := by rw [sp_un (by omega), sp_us]
  have hqD : sp_u (sp_u q L k) dep k dep = k := sp_us
  have hmd : sp_u m md k md = k := sp_us
  have hstD : sp_u st dep md dep = md := sp_us
  refine ⟨H', fun _ => by rw [hstl 0 (by omega)]; exact I.1 (by omega), ?_, ?_, ?_, ?_, ?_, ?_, ?_, ?_, ?_⟩
  · intro a b hab hb
    rw [hstl a (by omega)]
    by_cases h : b = dep
    · rw [h, hstD]; exact I.2.2.1 a (by omega)
    · rw [hstl b (by omega)]; exact I.2.1 a b hab (by omega)
  · intro l hl
    by_cases h : l = dep
    · rw [h, hstD]; omega
    · rw [hstl l (by omega)]; have := I.2.2.1 l (by omega); omega
  · intro l hl
    by_cases h : l = L
    · subst h
      rw [hL, hstD, hmd, hn, hstl l hLd, hqL]
      exact ⟨rfl, rfl⟩
    · rw [hstl l (by omega), hstl (l + 1) (by omega), hql l (by omega)]
      exact sp_lowN H I X hL (by omega)
  · intro l hl t
    by_cases h : l = L
    · subst h
      rw [hstl l hLd, hqL, ho, sp_pn_s, hn]
      constructor
      · rintro (h | ⟨h, c⟩)
        · exact absurd rfl h.2
        · refine ⟨h, ?_⟩
          unfold sp_cn at c
          rw [ho, hn, hm l hLd] at c
          rcases c with c | c | c
          · omega
          · have := H.2.2 _ c.2.1 (I.2.2.1 l hLd)
            omega
          · omega
      · rintro ⟨h, c⟩
        refine Or.inr ⟨h, Or.inr (Or.inr ?_)⟩
        rw [ho, hn]
        exact ⟨by omega, by omega, rfl⟩
    · rw [hstl l (by omega), hql l (by omega)]
      exact sp_low H I X hL hn (by omega) (hcn l (by omega)) t
  · intro l hl t
    obtain rfl : l = dep := by omega
    have hlt := I.2.2.1 L hLd
    rw [hstD, hqD, sp_pn_s, hn]
    constructor
    · rintro (⟨⟨a, c, _⟩, _⟩ | h)
      · exfalso
        unfold sp_cn at c
        rw [X.1 t a, X.2.1 t a, hmd] at c
        have hnt := H.1 t a
        rcases c with c | c | c
        · rw [X.2.2 _ hnt] at c
          have h5 := H.2.1 t a c.2.1
          rw [X.2.1 _ (by omega)] at c
          have h6 := H.1 (m (n t)) (by omega)
          omega
        · omega
        · omega
      · omega
    · rintro ⟨_, h⟩
      refine Or.inr ⟨h, Or.inr (Or.inl ?_)⟩
      rw [ho, hmd]
      exact ⟨h2, by omega, rfl⟩
  · intro l hl0 hl
    by_cases h : l = dep
    · rw [h, hqD, hstD, hmd]
      exact sp_R_refl _ _
    · rw [hstl l (by omega)]
      by_cases h' : l = L
      · subst h'
        rw [hqL]
        exact sp_topR H I X hL hn hl0
      · rw [hql l (by omega)]
        exact sp_lowR H I X hL hl0 (by omega)
  · intro _ l hl
    by_cases h : l = dep
    · rw [h, hqD]; omega
    · by_cases h' : l = L
      · rw [h', hqL]; omega
      · rw [hql l (by omega)]
        have := sp_qk H I (show l + 1 < dep by omega)
        omega
  · have hT : ∀ j, j < 128 → ((B L j ∨ j = k) ↔ (j < k + 1 ∧ sp_R (sp_E (sp_u o k oo) (sp_u n k (st L)) (sp_u m md k)) k j)) := by
      intro j hj
      rw [sp_top H I X hL hn hj, ho]
      have h5 : ¬ (oo = 1 ∨ oo = 0) := by omega
      simp only [h5, false_and, false_or]
    intro l hl j hj
    by_cases h : l = dep
    · rw [h, hqD, hBD j hj]
      exact hT j hj
    · by_cases h' : l = L
      · rw [h', hqL, hBL j hj]
        exact hT j hj
      · rw [hql l (by omega), hB l (by omega) j hj]
        exact sp_lowB H I X hL (by omega) hj
  · intro l hl j hj
    by_cases h : l = dep
    · rw [h, hstD]
      constructor
      · exact fun z => absurd z (hAD j hj)
      · rintro ⟨r, ⟨a, c, _⟩, _⟩
        exfalso
        by_cases hr : r = k
        · rw [hr] at c
          exact hcj _ c
        · have hr' : r < k := by omega
          unfold sp_cj at c
          rw [X.1 r hr', X.2.1 r hr'] at c
          have hnt := H.1 r hr'
          rw [X.2.2 _ hnt] at c
          have h5 := H.2.1 r hr' c.2.1
          rw [X.2.1 _ (by omega)] at c
          have h6 := H.1 (m (n r)) (by omega)
          omega
    · rw [hstl l (by omega), hA l (by omega) j hj]
      by_cases h' : l = L
      · subst h'
        rw [sp_ex_k H X (by rw [hn, ho]; omega) (hcj _)]
        exact I.2.2.2.2.2.2.2.2.2 l hLd j hj
      · exact sp_lowA H I X hL hn (by omega) (hcj _) hj
/-- the root ends -/
theorem sp_tR0 (H : sp_H o n m k md) (hmd : 0 < md) : sp_H (sp_u o k 0) (sp_u n k 0) m (k + 1) md ∧ sp_L (sp_u o k 0) (sp_u n k 0) m (k + 1) 0 md st q B' A' :=
  ⟨sp_H1 H hmd, fun h => by omega, fun _ _ _ h => by omega, fun _ h => by omega, fun _ h => by omega, fun _ h => by omega, fun _ h => by omega, fun _ _ h => by omega, fun _ _ h => by omega, fun _ h => by omega, fun _ h => by omega⟩
/-- a spawned instance ends -/
theorem sp_tRs (H : sp_H o n m k md) (I : sp_L o n m k dep md st q B A) {p : Nat} (hL : p + 1 + 1 = dep) (hs : o (m (st (p + 1))) = 2)
    (hB : ∀ l, l < p + 1 → ∀ j, j < 128 → (B' l j ↔ B l j))
    (hA : ∀ l, l < p → ∀ j, j < 128 → (A' l j ↔ A l j)) (hAL : ∀ j, j < 128 → (A' p j ↔ (A p j ∨ B (p + 1) j ∨ A (p + 1) j ∨ j = k))) :
    sp_H (sp_u o k 0) (sp_u n k (st (p + 1))) m (k + 1) md ∧ sp_L (sp_u o k 0) (sp_u n k (st (p + 1))) m (k + 1) (p + 1) md st q B' A' := by
  have hLd : p + 1 < dep := by omega
  have X : sp_X o n m (sp_u o k 0) (sp_u n k (st (p + 1))) m k md := sp_X1
  have hn : sp_u n k (st (p + 1)) k = st (p + 1) := sp_us
  have ho : sp_u o k 0 k = 0 := sp_us
  have hP := sp_pos H I (show 0 < p + 1 by omega) hLd
  have hN := I.2.2.2.1 p hLd
  have hnm : sp_u n k (st (p + 1)) (m (st (p + 1))) = st p := by rw [sp_un (by omega)]; exact hN.1
  have hom : sp_u o k 0 (m (st (p + 1))) = 2 := by rw [sp_un (by omega)]; exact hs
  have hcn : ∀ l, l < p + 1 → ¬ sp_cn (sp_u o k 0) (sp_u n k (st (p + 1))) m (st l) k := by
    intro l hl hc
    unfold sp_cn at hc
    rw [ho, hn, hnm, hom] at hc
    omega
  have hcj : ∀ l, l < p → ¬ sp_cj (sp_u o k 0) (sp_u n k (st (p + 1))) m (st l) k := by
    intro l hl hc
    have h1 := I.2.1 l p hl (by omega)
    unfold sp_cj at hc
    rw [ho, hn, hnm] at hc
    omega
  refine ⟨sp_H1 H (I.2.2.1 (p + 1) hLd), fun _ => I.1 (by omega), fun a b h1 h2 => I.2.1 a b h1 (by omega), fun l hl => I.2.2.1 l (by omega), ?_, ?_, ?_, ?_, ?_, ?_, ?_⟩
  · exact fun l hl => sp_lowN H I X hL (by omega)
  · exact fun l hl t => sp_low H I X hL hn (by omega) (hcn l (by omega)) t
  · intro l hl t
    obtain rfl : l = p := by omega
    rw [sp_low H I X hL hn (by omega) (hcn l (by omega)) t, hN.2, hom]
    omega
  · exact fun l h0 hl => sp_lowR H I X hL h0 (by omega)
  · intro _ l hl
    have := sp_qk H I (show l + 1 < dep by omega)
    omega
  · intro l hl j hj
    rw [hB l hl j hj]
    exact sp_lowB H I X hL (by omega) hj
  · intro l hl j hj
    by_cases h : l = p
    · subst h
      have h1 := I.2.1 l (l + 1) (by omega) hLd
      rw [hAL j hj, I.2.2.2.2.2.2.2.2.2 l (by omega) j hj]
      have hT := sp_top H I X hL hn hj
      rw [ho] at hT
      constructor
      · rintro (⟨r, e, w⟩ | h)
        · refine ⟨r, ?_, (sp_R_x H X e.1).2 w⟩
          rw [sp_pj_s, sp_pj_x H X (Nat.le_refl k), hn]
          exact Or.inl ⟨e, by omega⟩
        · refine ⟨k, ?_, (hT.2 ?_).2⟩
          · rw [sp_pj_s]
            refine Or.inr ⟨rfl, ?_⟩
            unfold sp_cj
            rw [ho, hn, hnm, hom]
            exact ⟨rfl, hP.1, rfl, rfl⟩
          · rcases h with h | h | h
            · exact Or.inl h
            · exact Or.inr (Or.inl ⟨Or.inr rfl, h⟩)
            · exact Or.inr (Or.inr h)
      · rintro ⟨r, e, w⟩
        rw [sp_pj_s, sp_pj_x H X (Nat.le_refl k)] at e
        rcases e with e | e
        · exact Or.inl ⟨r, e.1, (sp_R_x H X e.1.1).1 w⟩
        · rw [e.1] at w
          have h5 := hT.1 ⟨by have := sp_Rle w; omega, w⟩
          rcases h5 with h | h | h
          · exact Or.inr (Or.inl h)
          · exact Or.inr (Or.inr (Or.inl h.2))
          · exact Or.inr (Or.inr (Or.inr h))
    · rw [hA l (by omega) j hj]
      exact sp_lowA H I X hL hn (by omega) (hcj l (by omega)) hj
/-- a called instance ends -/
theorem sp_tRc (H : sp_H o n m k md) (I : sp_L o n m k dep md st q B A) {p : Nat} (hL : p + 1 + 1 = dep) (hs : ¬ o (m (st (p + 1))) = 2)
    (hB : ∀ l, l < p → ∀ j, j < 128 → (B' l j ↔ B l j)) (hBL : ∀ j, j < 128 → (B' p j ↔ (B p j ∨ B (p + 1) j ∨ A (p + 1) j ∨ j = k)))
    (hA : ∀ l, l < p + 1 → ∀ j, j < 128 → (A' l j ↔ A l j)) :
    sp_H (sp_u o k 0) (sp_u n k (st (p + 1))) m (k + 1) md ∧ sp_L (sp_u o k 0) (sp_u n k (st (p + 1))) m (k + 1) (p + 1) md st (sp_u q p k) B' A' := by
  have hLd : p + 1 < dep := by omega
  have X : sp_X o n m (sp_u o k 0) (sp_u n k (st (p + 1))) m k md := sp_X1
  have hn : sp_u n k (st (p + 1)) k = st (p + 1) := sp_us
  have ho : sp_u o k 0 k = 0 := sp_us
  have hP := sp_pos H I (show 0 < p + 1 by omega) hLd
  have hN := I.2.2.2.1 p hLd
  have hnm : sp_u n k (st (p + 1)) (m (st (p + 1))) = st p := by rw [sp_un (by omega)]; exact hN.1
  have hom : ¬ sp_u o k 0 (m (st (p + 1))) = 2 := by rw [sp_un (by omega)]; exact hs
  have hcn : ∀ l, l < p → ¬ sp_cn (sp_u o k 0) (sp_u n k (st (p + 1))) m (st l) k := by
    intro l hl hc
    have h1 := I.2.1 l p hl (by omega)
    unfold sp_cn at hc
    rw [ho, hn, hnm] at hc
    omega
  have hcj : ∀ l, ¬ sp_cj (sp_u o k 0) (sp_u n k (st (p + 1))) m (st l) k := by
    intro l hc
    unfold sp_cj at hc
    rw [hn] at hc
    exact hom hc.2.2.2
  have hks : sp_R (sp_E (sp_u o k 0) (sp_u n k (st (p + 1))) m) k (q p) := by
    rw [hN.2]
    exact sp_topR H I X hL hn (show 0 < p + 1 by omega)
  have hqp : q p < k := sp_qk H I hLd
  refine ⟨sp_H1 H (I.2.2.1 (p + 1) hLd), fun _ => I.1 (by omega), fun a b h1 h2 => I.2.1 a b h1 (by omega), fun l hl => I.2.2.1 l (by omega), ?_, ?_, ?_, ?_, ?_, ?_, ?_⟩
  · intro l hl
    rw [sp_un (show ¬ l = p by omega)]
    exact sp_lowN H I X hL (by omega)
  · intro l hl t
    rw [sp_un (show ¬ l = p by omega)]
    exact sp_low H I X hL hn (by omega) (hcn l (by omega)) t
  · intro l hl t
    obtain rfl : l = p := by omega
    have h1 := I.2.1 l (l + 1) (by omega) hLd
    rw [sp_us, sp_pn_s, sp_pn_x H X (Nat.le_refl k) (I.2.2.1 l (by omega)), I.2.2.2.2.1 l (by omega) t, hN.2]
    constructor
    · rintro (h | h)
      · exact absurd h.1.2 hs
      · omega
    · rintro ⟨_, h⟩
      refine Or.inr ⟨h, Or.inl ?_⟩
      rw [ho, hn, hnm]
      exact ⟨rfl, hP.1, rfl, hom⟩
  · intro l h0 hl
    by_cases h : l = p
    · subst h
      rw [sp_us]
      refine sp_R_trans (Nat.le_of_lt hqp) ?_ hks
      exact sp_lowR H I X hL h0 (by omega)
    · rw [sp_un h]
      exact sp_lowR H I X hL h0 (by omega)
  · intro _ l hl
    by_cases h : l = p
    · rw [h, sp_us]; omega
    · rw [sp_un h]
      have := sp_qk H I (show l + 1 < dep by omega)
      omega
  · intro l hl j hj
    by_cases h : l = p
    · subst h
      have hT := sp_top H I X hL hn hj
      rw [ho] at hT
      rw [sp_us, hBL j hj, hT, sp_lowB H I X hL (show l < l + 1 by omega) hj]
      constructor
      · rintro (h | h | h | h)
        · exact hT.1 ⟨h.1, sp_R_trans (Nat.le_of_lt hqp) h.2 hks⟩
        · exact Or.inl h
        · exact Or.inr (Or.inl ⟨Or.inr rfl, h⟩)
        · exact Or.inr (Or.inr h)
      · rintro (h | h | h)
        · exact Or.inr (Or.inl h)
        · exact Or.inr (Or.inr (Or.inl h.2))
        · exact Or.inr (Or.inr (Or.inr h))
    · rw [sp_un h, hB l (by omega) j hj]
      exact sp_lowB H I X hL (by omega) hj
  · intro l hl j hj
    rw [hA l hl j hj]
    exact sp_lowA H I X hL hn (by omega) (hcj l) hj
/-- the first instance -/
theorem sp_t0 {B' A' : Nat → Nat → Prop} (hB : ∀ j, j < 128 → ¬ B' 0 j) (hA : ∀ j, j < 128 → ¬ A' 0 j) : sp_H o n m 0 1 ∧ sp_L o n m 0 1 1 (fun _ => 0) q B' A' := by
  refine ⟨⟨fun _ h => by omega, fun _ h => by omega, fun _ _ _ => by omega⟩, fun _ => rfl, fun _ _ _ _ => by omega, fun _ _ => Nat.one_pos, fun _ h => by omega, fun _ h => by omega, ?_, fun _ _ _ => by omega, fun h => by omega, ?_, ?_⟩
  · exact fun l hl t => ⟨fun h => absurd h.1 (by omega), fun h => by omega⟩
  · intro l hl j hj
    obtain rfl : l = 0 := by omega
    exact ⟨fun h => absurd h (hB j hj), fun h => by omega⟩
  · intro l hl j hj
    obtain rfl : l = 0 := by omega
    refine ⟨fun h => absurd h (hA j hj), ?_⟩
    rintro ⟨r, p, _⟩
    exact absurd p.1 (by omega)
/-- what the top's next step would see, were it an access -/
theorem sp_ask (H : sp_H o n m k md) (I : sp_L o n m k dep md st q B A) (X : sp_X o n m o' n' m' k md) {L : Nat} (hL : L + 1 = dep) (hn : n' k = st L) (h1 : ¬ o' k = 1) (h0 : ¬ o' k = 0) {j : Nat} (hj : j < 128) (hjk : j < k) : sp_R (sp_E o' n' m') k j ↔ B L j := by
  have h := sp_top H I X hL hn hj
  have h5 : ¬ (o' k = 1 ∨ o' k = 0) := by omega
  have h6 : ¬ j = k := by omega
  have h7 : j < k + 1 := by omega
  simpa only [h5, h6, h7, true_and, false_and, false_or, or_false] using h
end
end
section
/-! ===== sets of steps: set s of an array of longs stands in its words 2 s and 2 s + 1 ===== -/
def sp_b (w : Int64) (i : Nat) : Prop := w.toBitVec.getLsbD i = true
def sp_mem (f : Nat → Int64) (s j : Nat) : Prop := sp_b (f (2 * s + j / 64)) (j % 64)
theorem sp_b0 (i : Nat) : ¬ sp_b 0 i := by
  unfold sp_b
  show ¬ (0#64).getLsbD i = true
  simp
theorem sp_bor (x y : Int64) (i : Nat) : sp_b (x ||| y) i ↔ (sp_b x i ∨ sp_b y i) := by
  unfold sp_b
  rw [Int64.toBitVec_or, BitVec.getLsbD_or, Bool.or_eq_true]
theorem sp_bnz (x : Int64) : (¬ x = 0) ↔ ∃ i, i < 64 ∧ sp_b x i := by
  constructor
  · intro h
    apply Classical.byContradiction
    intro hn
    apply h
    apply wb_inj
    apply BitVec.eq_of_getLsbD_eq
    intro i hi
    have h1 : ¬ sp_b x i := fun z => hn ⟨i, hi, z⟩
    unfold sp_b at h1
    show _ = (0#64).getLsbD i
    rw [BitVec.getLsbD_zero]
    simpa using h1
  · rintro ⟨i, _, h⟩ e
    rw [e] at h
    exact sp_b0 i h
theorem sp_ban (x y : Int64) {i : Nat} (hi : i < 64) : sp_b (x &&& (y ^^^ (-1))) i ↔ (sp_b x i ∧ ¬ sp_b y i) := by
  have ha : (-1 : Int64).toBitVec = BitVec.allOnes 64 := by decide
  unfold sp_b
  rw [Int64.toBitVec_and, Int64.toBitVec_xor, ha, BitVec.getLsbD_and, BitVec.getLsbD_xor, BitVec.getLsbD_allOnes]
  simp [hi]
theorem sp_bsh {k : Nat} (hk : k < 64) {i : Nat} (hi : i < 64) : sp_b ((1 : Int64) <<< ((nI k).toInt64 &&& 63)) i ↔ i = k := by
  have e : (1 : Int64) <<< ((nI k).toInt64 &&& 63) = lN (1 * 2 ^ k) := wb_shl 1 hk
  unfold sp_b
  rw [e, wb_tb, BitVec.getLsbD_ofNat, Nat.one_mul, Nat.testBit_two_pow]
  simp only [hi, decide_true, Bool.true_and, decide_eq_true_eq]
  omega
theorem sp_bhas (w : Int64) {k : Nat} (hk : k < 64) : ((w >>> ((nI k).toInt64 &&& 63)) &&& 1) = 1 ↔ sp_b w k := by
  have e : (w >>> ((nI k).toInt64 &&& 63)).toBitVec = w.toBitVec.sshiftRight k := by
    rw [wb_c k hk, Int64.toBitVec_shiftRight, wb_tb]
    show w.toBitVec.sshiftRight ((BitVec.ofNat 64 k).smod 64).toNat = _
    rw [wb_sm k hk, BitVec.toNat_ofNat, Nat.mod_eq_of_lt (show k < 2 ^ 64 by omega)]
  have e0 : (w.toBitVec.sshiftRight k).getLsbD 0 = w.toBitVec.getLsbD k := by
    rw [BitVec.getLsbD_sshiftRight]
    simp [hk]
  unfold sp_b
  constructor
  · intro h
    have h2 : ((w >>> ((nI k).toInt64 &&& 63)) &&& 1).toBitVec.getLsbD 0 = (1 : Int64).toBitVec.getLsbD 0 := by rw [h]
    rw [Int64.toBitVec_and, BitVec.getLsbD_and, e, e0] at h2
    have h3 : (1 : Int64).toBitVec.getLsbD 0 = true := by decide
    rw [h3, Bool.and_true] at h2
    exact h2
  · intro h
    apply wb_inj
    rw [Int64.toBitVec_and, e]
    apply BitVec.eq_of_getLsbD_eq
    intro i hi
    rw [BitVec.getLsbD_and]
    have h1 : (1 : Int64).toBitVec = 1#64 := by decide
    rw [h1]
    by_cases hi0 : i = 0
    · rw [hi0, e0, h]; decide
    · have h4 : (1#64).getLsbD i = false := by
        rw [BitVec.getLsbD_one]
        simp [hi0]
      rw [h4, Bool.and_false]
theorem sp_ix {s t a b : Nat} (ha : a < 2) (hb : b < 2) : 2 * s + a = 2 * t + b ↔ (s = t ∧ a = b) := by omega
/-- addStep -/
theorem sp_mAdd {f : Nat → Int64} {s k : Nat} (hk : k < 128) {t j : Nat} (hj : j < 128) :
    sp_mem (vp_updL f (2 * s + k / 64) (f (2 * s + k / 64) ||| ((1 : Int64) <<< ((nI (k % 64)).toInt64 &&& 63)))) t j ↔ (sp_mem f t j ∨ (t = s ∧ j = k)) := by
  unfold sp_mem
  by_cases h : 2 * t + j / 64 = 2 * s + k / 64
  · have h2 := (sp_ix (by omega) (by omega)).1 h
    rw [h, pk_uLs, sp_bor, sp_bsh (by omega) (by omega)]
    have h3 : j % 64 = k % 64 ↔ (t = s ∧ j = k) := by omega
    rw [h3]
  · rw [pk_uLn h]
    have h3 : ¬ (t = s ∧ j = k) := fun z => h (by rw [z.1, z.2])
    simp only [h3, or_false]
/-- clearSet -/
theorem sp_mClr {f : Nat → Int64} {s t j : Nat} (hj : j < 128) :
    sp_mem (vp_updL (vp_updL f (2 * s) 0) (2 * s + 1) 0) t j ↔ (sp_mem f t j ∧ ¬ t = s) := by
  unfold sp_mem
  by_cases h : t = s
  · subst h
    have : ¬ sp_b (vp_updL (vp_updL f (2 * t) 0) (2 * t + 1) 0 (2 * t + j / 64)) (j % 64) := by
      by_cases h2 : j / 64 = 1
      · rw [h2, pk_uLs]; exact sp_b0 _
      · have h3 : j / 64 = 0 := by omega
        rw [h3, pk_uLn (by omega), Nat.add_zero, pk_uLs]; exact sp_b0 _
    exact ⟨fun z => absurd z this, fun z => absurd rfl z.2⟩
  · rw [pk_uLn (by omega), pk_uLn (by omega)]
    exact ⟨fun z => ⟨z, h⟩, fun z => z.1⟩
/-- addSet, from one array into another, and within one -/
theorem sp_mOr {f g : Nat → Int64} {s t l j : Nat} (hj : j < 128) :
    sp_mem (vp_updL (vp_updL g (2 * t) (g (2 * t) ||| f (2 * s))) (2 * t + 1) (vp_updL g (2 * t) (g (2 * t) ||| f (2 * s)) (2 * t + 1) ||| f (2 * s + 1))) l j ↔ (sp_mem g l j ∨ (l = t ∧ sp_mem f s j)) := by
  unfold sp_mem
  by_cases h : l = t
  · subst h
    by_cases h2 : j / 64 = 1
    · rw [h2, pk_uLs, sp_bor, pk_uLn (by omega)]
      simp only [true_and]
    · have h3 : j / 64 = 0 := by omega
      rw [h3, pk_uLn (by omega), Nat.add_zero, pk_uLs, sp_bor]
      simp only [true_and, Nat.add_zero]
  · rw [pk_uLn (by omega), pk_uLn (by omega)]
    simp only [h, false_and, or_false]
theorem sp_mOr' {g : Nat → Int64} {s t l j : Nat} (hj : j < 128) :
    sp_mem (vp_updL (vp_updL g (2 * t) (g (2 * t) ||| g (2 * s))) (2 * t + 1) (vp_updL g (2 * t) (g (2 * t) ||| g (2 * s)) (2 * t + 1) ||| vp_updL g (2 * t) (g (2 * t) ||| g (2 * s)) (2 * s + 1))) l j ↔ (sp_mem g l j ∨ (l = t ∧ sp_mem g s j)) := by
  have e : vp_updL g (2 * t) (g (2 * t) ||| g (2 * s)) (2 * s + 1) = g (2 * s + 1) := pk_uLn (by omega)
  rw [e]
  exact sp_mOr hj
/-- hasUnordered -/
theorem sp_mUn {f g : Nat → Int64} {c l : Nat} :
    (¬ (((f (2 * c) &&& (g (2 * l) ^^^ (-1))) ||| (f (2 * c + 1) &&& (g (2 * l + 1) ^^^ (-1)))) = 0)) ↔ ∃ j, j < 128 ∧ sp_mem f c j ∧ ¬ sp_mem g l j := by
  rw [sp_bnz]
  constructor
  · rintro ⟨i, hi, h⟩
    rw [sp_bor, sp_ban _ _ hi, sp_ban _ _ hi] at h
    rcases h with h | h
    · refine ⟨i, by omega, ?_⟩
      unfold sp_mem
      rw [show i / 64 = 0 by omega, show i % 64 = i by omega]
      exact h
    · refine ⟨i + 64, by omega, ?_⟩
      unfold sp_mem
      rw [show (i + 64) / 64 = 1 by omega, show (i + 64) % 64 = i by omega]
      exact h
  · rintro ⟨j, hj, h⟩
    unfold sp_mem at h
    refine ⟨j % 64, by omega, ?_⟩
    rw [sp_bor, sp_ban _ _ (by omega), sp_ban _ _ (by omega)]
    by_cases h2 : j / 64 = 1
    · rw [h2] at h
      exact Or.inr h
    · rw [show j / 64 = 0 by omega] at h
      exact Or.inl h
theorem sp_k6 {k : Nat} (hk : k < 128) : nI k >>> ((6 : Int32) &&& 31) = nI (k / 64) := pk_shrN (by omega) _ 6 (by decide)
theorem sp_k63 {k : Nat} (hk : k < 128) : nI k &&& 63 = nI (k % 64) := pk_andN (by omega) 6 (by decide)
theorem sp_2s (s : Nat) : (2 : Int32) * nI s = nI (2 * s) := pk_mul 2 s
end
section
/-! ===== the reference's search, and the masks ===== -/
def sp_hit (o n : Nat → Nat) (i : Nat) (b : Prop) (t : Nat) : Prop := n t = i ∧ (b → (o t = 1 ∨ o t = 0))
def sp_vn (o n : Nat → Nat) (i : Nat) (b : Prop) (j k : Nat) (T : Nat → Prop) : Prop :=
  ∃ t, j < t ∧ t ≤ k ∧ sp_hit o n i b t ∧ (∀ s, j < s → s < t → ¬ sp_hit o n i b s) ∧ T t
theorem sp_vn_no {o n : Nat → Nat} {i : Nat} {b : Prop} {j k : Nat} {T : Nat → Prop} (h : k ≤ j) : ¬ sp_vn o n i b j k T := by
  rintro ⟨t, h1, h2, _⟩
  omega
theorem sp_vn_hit {o n : Nat → Nat} {i : Nat} {b : Prop} {j k : Nat} {T : Nat → Prop} (h : j < k) (hh : sp_hit o n i b (j + 1)) : sp_vn o n i b j k T ↔ T (j + 1) := by
  constructor
  · rintro ⟨t, h1, h2, h3, h4, h5⟩
    by_cases e : t = j + 1
    · rw [← e]; exact h5
    · exact absurd hh (h4 (j + 1) (by omega) (by omega))
  · exact fun z => ⟨j + 1, by omega, by omega, hh, fun s _ _ => by omega, z⟩
theorem sp_vn_go {o n : Nat → Nat} {i : Nat} {b : Prop} {j k : Nat} {T : Nat → Prop} (hh : ¬ sp_hit o n i b (j + 1)) : sp_vn o n i b j k T ↔ sp_vn o n i b (j + 1) k T := by
  constructor
  · rintro ⟨t, h1, h2, h3, h4, h5⟩
    by_cases e : t = j + 1
    · rw [e] at h3
      exact absurd h3 hh
    · exact ⟨t, by omega, h2, h3, fun s _ y => h4 s (by omega) y, h5⟩
  · rintro ⟨t, h1, h2, h3, h4, h5⟩
    refine ⟨t, by omega, h2, h3, fun s _ y => ?_, h5⟩
    by_cases e : s = j + 1
    · rw [e]; exact hh
    · exact h4 s (by omega) y
def sp_ve (o n m : Nat → Nat) (md j k : Nat) (T : Nat → Prop) : Prop :=
  (o j = 0 ∧ ¬ n j = 0 ∧ sp_vn o n (n (m (n j))) (o (m (n j)) = 2) j k T) ∨
  (¬ o j = 0 ∧ (((o j = 2 ∨ o j = 3) ∧ ∃ c, 1 ≤ c ∧ c < md ∧ m c = j ∧ sp_vn o n c False j k T) ∨ (¬ o j = 3 ∧ sp_vn o n (n j) False j k T)))
theorem sp_vf {o n : Nat → Nat} {i : Nat} {b : Prop} (hb : ¬ b) {t : Nat} : sp_hit o n i b t ↔ n t = i :=
  ⟨fun h => h.1, fun h => ⟨h, fun z => absurd z hb⟩⟩
theorem sp_veE {o n m : Nat → Nat} {md j k : Nat} {T : Nat → Prop} (hmd : ∀ t, t ≤ k → n t < md) : sp_ve o n m md j k T ↔ ∃ t, t ≤ k ∧ sp_E o n m j t ∧ T t := by
  constructor
  · rintro (⟨h1, h2, t, a1, a2, a3, a4, a5⟩ | ⟨h1, (⟨h2, c, c1, c2, c3, t, a1, a2, a3, a4, a5⟩ | ⟨h2, t, a1, a2, a3, a4, a5⟩)⟩)
    · refine ⟨t, a2, ?_, a5⟩
      by_cases hb : o (m (n j)) = 2
      · refine Or.inr ⟨⟨a1, ⟨h1, h2, a3.1.symm, hb⟩, fun s x y z => ?_⟩, a3.2 hb⟩
        exact a4 s x y ⟨z.1.trans a3.1, fun _ => z.2⟩
      · refine Or.inl ⟨a1, Or.inl ⟨h1, h2, a3.1.symm, hb⟩, fun s x y z => ?_⟩
        exact a4 s x y ⟨z.trans a3.1, fun w => absurd w hb⟩
    · have e := a3.1
      refine ⟨t, a2, Or.inl ⟨a1, Or.inr (Or.inl ⟨h2, by omega, by rw [e]; exact c3⟩), fun s x y z => ?_⟩, a5⟩
      exact a4 s x y ⟨z.trans e, fun w => absurd w id⟩
    · refine ⟨t, a2, Or.inl ⟨a1, Or.inr (Or.inr ⟨h1, h2, a3.1.symm⟩), fun s x y z => ?_⟩, a5⟩
      exact a4 s x y ⟨z.trans a3.1, fun w => absurd w id⟩
  · rintro ⟨t, a2, (⟨a1, (c | c | c), a4⟩ | ⟨⟨a1, c, a4⟩, a3⟩), a5⟩
    · refine Or.inl ⟨c.1, c.2.1, t, a1, a2, ⟨c.2.2.1.symm, fun w => absurd w c.2.2.2⟩, fun s x y z => ?_, a5⟩
      exact a4 s x y (z.1.trans c.2.2.1)
    · refine Or.inr ⟨by omega, Or.inl ⟨c.1, n t, by omega, hmd t a2, c.2.2, t, a1, a2, ⟨rfl, fun w => absurd w id⟩, fun s x y z => ?_, a5⟩⟩
      exact a4 s x y z.1
    · refine Or.inr ⟨c.1, Or.inr ⟨c.2.1, t, a1, a2, ⟨c.2.2.symm, fun w => absurd w id⟩, fun s x y z => ?_, a5⟩⟩
      exact a4 s x y (z.1.trans c.2.2)
    · refine Or.inl ⟨c.1, c.2.1, t, a1, a2, ⟨c.2.2.1.symm, fun _ => a3⟩, fun s x y z => ?_, a5⟩
      exact a4 s x y ⟨z.1.trans c.2.2.1, z.2 c.2.2.2⟩
theorem sp_sr {o n m : Nat → Nat} {j k : Nat} (hj : j < k) : sp_R (sp_E o n m) k j ↔ ∃ t, t ≤ k ∧ sp_E o n m j t ∧ sp_R (sp_E o n m) k t := by
  constructor
  · intro r
    rcases sp_R_inv r with h | ⟨b, e, hb, r'⟩
    · omega
    · exact ⟨b, hb, e, r'⟩
  · rintro ⟨t, ht, e, r⟩
    exact sp_R_step e ht r
def sp_W (o n m : Nat → Nat) (ce : Nat → Int32) (k : Nat) : Prop := ∃ j, j < k ∧ ce j = ce k ∧ o j = 5 ∧ ¬ sp_R (sp_E o n m) k j
def sp_V (o n m : Nat → Nat) (ce : Nat → Int32) (k : Nat) : Prop := o k = 5 ∧ ∃ j, j < k ∧ ce j = ce k ∧ ¬ o j = 5 ∧ ¬ sp_R (sp_E o n m) k j
def sp_mk (o n m : Nat → Nat) (ce : Nat → Int32) (k : Nat) (x : Int32) : Prop :=
  (ce k = -1 → x = 0) ∧ (¬ ce k = -1 → ∃ a b : Nat, a ≤ 1 ∧ b ≤ 1 ∧ x = nI (a + 2 * b) ∧ (a = 1 ↔ sp_W o n m ce k) ∧ (b = 1 ↔ sp_V o n m ce k))
theorem sp_mk_u {o n m : Nat → Nat} {ce : Nat → Int32} {k : Nat} {x y : Int32} (hx : sp_mk o n m ce k x) (hy : sp_mk o n m ce k y) : x = y := by
  by_cases h : ce k = -1
  · rw [hx.1 h, hy.1 h]
  · obtain ⟨a, b, a1, a2, a3, a4, a5⟩ := hx.2 h
    obtain ⟨c, d, c1, c2, c3, c4, c5⟩ := hy.2 h
    have e1 : a = 1 ↔ c = 1 := a4.trans c4.symm
    have e2 : b = 1 ↔ d = 1 := a5.trans c5.symm
    have e3 : a = c := by omega
    have e4 : b = d := by omega
    rw [a3, c3, e3, e4]
theorem sp_mk_x {o n m o' n' m' : Nat → Nat} {k md : Nat} (H : sp_H o n m k md) (X : sp_X o n m o' n' m' k md) {ce ce' : Nat → Int32} (hce : ∀ t, t < k → ce' t = ce t) {t : Nat} {x : Int32} (ht : t < k) (h : sp_mk o n m ce t x) : sp_mk o' n' m' ce' t x := by
  have hW : sp_W o' n' m' ce' t ↔ sp_W o n m ce t := by
    constructor
    · rintro ⟨j, a, b, c, d⟩
      have hj : j < k := by omega
      rw [hce j hj, hce t ht] at b
      rw [X.1 j hj] at c
      rw [sp_R_x H X ht] at d
      exact ⟨j, a, b, c, d⟩
    · rintro ⟨j, a, b, c, d⟩
      have hj : j < k := by omega
      refine ⟨j, a, ?_, ?_, ?_⟩
      · rw [hce j hj, hce t ht]; exact b
      · rw [X.1 j hj]; exact c
      · rw [sp_R_x H X ht]; exact d
  have hV : sp_V o' n' m' ce' t ↔ sp_V o n m ce t := by
    constructor
    · rintro ⟨z, j, a, b, c, d⟩
      have hj : j < k := by omega
      rw [hce j hj, hce t ht] at b
      rw [X.1 j hj] at c
      rw [X.1 t ht] at z
      rw [sp_R_x H X ht] at d
      exact ⟨z, j, a, b, c, d⟩
    · rintro ⟨z, j, a, b, c, d⟩
      have hj : j < k := by omega
      refine ⟨?_, j, a, ?_, ?_, ?_⟩
      · rw [X.1 t ht]; exact z
      · rw [hce j hj, hce t ht]; exact b
      · rw [X.1 j hj]; exact c
      · rw [sp_R_x H X ht]; exact d
  unfold sp_mk
  rw [hW, hV, hce t ht]
  exact h
/-- what the top's bits say of the new step -/
theorem sp_unb {o n m o' n' m' st q : Nat → Nat} {k dep md : Nat} {B A : Nat → Nat → Prop} (H : sp_H o n m k md) (I : sp_L o n m k dep md st q B A) (X : sp_X o n m o' n' m' k md) {L : Nat} (hL : L + 1 = dep) (hn : n' k = st L) (h1 : ¬ o' k = 1) (h0 : ¬ o' k = 0) (hk : k ≤ 128)
    {M P : Nat → Prop} (hM : ∀ j, j < 128 → (M j ↔ (j < k ∧ P j))) : (∃ j, j < 128 ∧ M j ∧ ¬ B L j) ↔ ∃ j, j < k ∧ P j ∧ ¬ sp_R (sp_E o' n' m') k j := by
  constructor
  · rintro ⟨j, a, b, c⟩
    have b' := (hM j a).1 b
    rw [← sp_ask H I X hL hn h1 h0 a b'.1] at c
    exact ⟨j, b'.1, b'.2, c⟩
  · rintro ⟨j, a, b, c⟩
    have hj : j < 128 := by omega
    rw [sp_ask H I X hL hn h1 h0 hj a] at c
    exact ⟨j, hj, (hM j hj).2 ⟨a, b⟩, c⟩
theorem sp_rem (s : Int32) {c : Nat} (h0 : 0 < c) (hc : c ≤ 16) : ∃ e, e < c ∧ (s - s / nI c * nI c < 0 → s - s / nI c * nI c + nI c = nI e) ∧ (¬ s - s / nI c * nI c < 0 → s - s / nI c * nI c = nI e) := by
  have hr := rem_toInt s (nI c)
  have hm : (nI c).toInt = (c : Int) := nI_toInt (by omega)
  have hb := tmod_bounds (a := s.toInt) (M := (c : Int)) (by omega)
  rw [hm] at hr
  rw [← hr] at hb
  generalize s - s / nI c * nI c = r at hb ⊢
  by_cases hneg : r < 0
  · have hneg' : r.toInt < 0 := by
      have := Int32.lt_iff_toInt_lt.mp hneg
      simpa using this
    have e1 : (r + nI c).toInt = r.toInt + c := by
      rw [Int32.toInt_add, hm]
      rw [Int.bmod_def]
      omega
    refine ⟨(r.toInt + c).toNat, by omega, fun _ => ?_, fun z => absurd hneg z⟩
    apply Int32.toInt_inj.mp
    rw [e1, nI_toInt (by omega)]
    omega
  · have hneg' : 0 ≤ r.toInt := by
      have := Int32.le_iff_toInt_le.mp (Int32.not_lt.mp hneg)
      simpa using this
    refine ⟨r.toInt.toNat, by omega, fun z => absurd z hneg, fun _ => ?_⟩
    apply Int32.toInt_inj.mp
    rw [nI_toInt (by omega)]
    omega
end
section
/-! ===== the facts that the relation holds ===== -/
def sp_K (cc ce dc ic len s cnt dep md : Nat) : Prop :=
  8 ≤ cc ∧ cc ≤ 48 ∧ 2 ≤ ce ∧ ce ≤ 16 ∧ 2 ≤ dc ∧ dc ≤ 12 ∧ 2 ≤ ic ∧ ic ≤ 32 ∧ len ≤ cc ∧ s ≤ 5 ∧ cnt ≤ 128 ∧ dep ≤ dc ∧ md ≤ ic ∧ (s = 0 → cnt = 0 ∧ dep = 0 ∧ md = 0) ∧ (s = 2 → dep = 0) ∧ (¬ s = 0 → ¬ s = 2 → 0 < dep)
def sp_C (len : Nat) (cop carg : Nat → Int32) : Prop :=
  ∀ p, p < len → ∃ a : Nat, a ≤ 11 ∧ cop p = nI a ∧ ((a = 2 ∨ a = 3 ∨ a = 10 ∨ a = 11) → ∃ b : Nat, b < 48 ∧ carg p = nI b)
def sp_eq (c : Nat) (f g : Nat → Int32) : Prop := ∀ t, t < c → f t = g t
def sp_rep (c : Nat) (f : Nat → Int32) (g : Nat → Nat) : Prop := ∀ t, t < c → f t = nI (g t)
def sp_acc (a : Nat) : Prop := a = 4 ∨ a = 5 ∨ a = 6
def sp_S (cnt ce : Nat) (o : Nat → Nat) (yCe : Nat → Int32) : Prop :=
  ∀ t, t < cnt → o t ≤ 11 ∧ ((sp_acc (o t) ∧ ∃ e, e < ce ∧ yCe t = nI e) ∨ (¬ sp_acc (o t) ∧ yCe t = -1))
def sp_Vl (dep cnt : Nat) (o m st ad : Nat → Nat) (lAd lIn lA lX lSp stk nxt acc idx : Nat → Int32) : Prop :=
  ∀ l, l < dep → lAd l = nI (ad l) ∧ nxt (st l) = nI (ad l) ∧ ad l ≤ 48 + cnt ∧ lIn l = nI (st l) ∧ stk l = nI (st l) ∧ lA l = acc (st l) ∧ lX l = idx (st l) ∧
    (l = 0 → lSp l = 0) ∧ (0 < l → o (m (st l)) = 2 → lSp l = 1) ∧ (0 < l → ¬ o (m (st l)) = 2 → lSp l = 0)
def sp_RW (cnt : Nat) (o : Nat → Nat) (yCe : Nat → Int32) (rd wr : Nat → Int64) : Prop :=
  ∀ c, c < 16 → ∀ j, j < 128 → (sp_mem wr c j ↔ (j < cnt ∧ (yCe j = nI c ∧ o j = 5))) ∧ (sp_mem rd c j ↔ (j < cnt ∧ (yCe j = nI c ∧ ¬ o j = 5)))
def sp_Mk (cnt : Nat) (o n m : Nat → Nat) (yCe xMk : Nat → Int32) : Prop := ∀ t, t < cnt → sp_mk o n m yCe t (xMk t)
def sp_Mr (md : Nat) (m : Nat → Nat) (mkr : Nat → Int32) : Prop := ∀ i, ¬ i = 0 → i < md → mkr i = nI (m i)
def sp_01 (lds : Nat → Int32) : Prop := ∀ t, lds t = 0 ∨ lds t = 1
theorem sp_eq_u {c : Nat} {f g : Nat → Int32} {x : Int32} (h : sp_eq c f g) : sp_eq (c + 1) (upd f c x) (upd g c x) := by
  intro t ht
  by_cases e : t = c
  · rw [e, pk_us, pk_us]
  · rw [pk_un e, pk_un e]; exact h t (by omega)
theorem sp_rep_u {c : Nat} {f : Nat → Int32} {g : Nat → Nat} {x : Nat} (h : sp_rep c f g) : sp_rep (c + 1) (upd f c (nI x)) (sp_u g c x) := by
  intro t ht
  by_cases e : t = c
  · rw [e, pk_us, sp_us]
  · rw [pk_un e, sp_un e]; exact h t (by omega)
theorem sp_rep_k {c : Nat} {f : Nat → Int32} {g : Nat → Nat} {x : Int32} (h : sp_rep c f g) : sp_rep c (upd f c x) g := by
  intro t ht
  rw [pk_un (show t ≠ c by omega)]; exact h t ht
/-- the touched cell of a step with opcode oo -/
def sp_ev (ce oo : Nat) (ev : Int32) : Prop := (sp_acc oo ∧ ∃ e, e < ce ∧ ev = nI e) ∨ (¬ sp_acc oo ∧ ev = -1)
theorem sp_S_u {cnt ce oo : Nat} {o : Nat → Nat} {yCe : Nat → Int32} {ev : Int32} (h : sp_S cnt ce o yCe) (ho : oo ≤ 11) (he : sp_ev ce oo ev) : sp_S (cnt + 1) ce (sp_u o cnt oo) (upd yCe cnt ev) := by
  intro t ht
  by_cases e : t = cnt
  · rw [e, pk_us, sp_us]; exact ⟨ho, he⟩
  · rw [pk_un e, sp_un e]; exact h t (by omega)
theorem sp_m1n {c : Nat} (h : c < 2 ^ 31) : ¬ (-1 : Int32) = nI c := by
  intro e
  have h2 := nI_pos h
  rw [← e] at h2
  exact h2 (by decide)
theorem sp_RW_u {cnt oo : Nat} {o : Nat → Nat} {yCe : Nat → Int32} {rd wr rd' wr' : Nat → Int64} {ev : Int32} (h : sp_RW cnt o yCe rd wr)
    (hw : ∀ c, c < 16 → ∀ j, j < 128 → (sp_mem wr' c j ↔ (sp_mem wr c j ∨ (j = cnt ∧ ev = nI c ∧ oo = 5))))
    (hr : ∀ c, c < 16 → ∀ j, j < 128 → (sp_mem rd' c j ↔ (sp_mem rd c j ∨ (j = cnt ∧ ev = nI c ∧ ¬ oo = 5)))) : sp_RW (cnt + 1) (sp_u o cnt oo) (upd yCe cnt ev) rd' wr' := by
  intro c hc j hj
  obtain ⟨h1, h2⟩ := h c hc j hj
  rw [hw c hc j hj, hr c hc j hj, h1, h2]
  by_cases e : j = cnt
  · rw [e, pk_us, sp_us]
    have a1 : ¬ cnt < cnt := by omega
    have a2 : cnt < cnt + 1 := by omega
    simp only [a1, a2, false_and, false_or, true_and, and_self]
  · rw [pk_un e, sp_un e]
    have a1 : j < cnt ↔ j < cnt + 1 := by omega
    rw [a1]
    simp only [e, false_and, or_false, and_self]
theorem sp_Mk_u {cnt md : Nat} {o n m o' n' m' : Nat → Nat} {yCe xMk : Nat → Int32} {ev mv : Int32} (H : sp_H o n m cnt md) (X : sp_X o n m o' n' m' cnt md) (h : sp_Mk cnt o n m yCe xMk)
    (hm : sp_mk o' n' m' (upd yCe cnt ev) cnt mv) : sp_Mk (cnt + 1) o' n' m' (upd yCe cnt ev) (upd xMk cnt mv) := by
  intro t ht
  by_cases e : t = cnt
  · rw [e, pk_us]; exact hm
  · rw [pk_un e]
    exact sp_mk_x H X (fun s hs => pk_un (show s ≠ cnt by omega)) (by omega) (h t (by omega))
/-- the mask of the new step, as the class works it out -/
def sp_mv (oo L : Nat) (bef rd wr : Nat → Int64) (ev mv : Int32) : Prop :=
  (ev = -1 → mv = 0) ∧ ∀ e, e < 16 → ev = nI e → ∃ a b : Nat, a ≤ 1 ∧ b ≤ 1 ∧ mv = nI (a + 2 * b) ∧ (a = 1 ↔ ∃ j, j < 128 ∧ sp_mem wr e j ∧ ¬ sp_mem bef L j) ∧ (b = 1 ↔ (oo = 5 ∧ ∃ j, j < 128 ∧ sp_mem rd e j ∧ ¬ sp_mem bef L j))
theorem sp_mv_mk {o n m o' n' m' st q : Nat → Nat} {k dep md ce oo L : Nat} {bef rd wr : Nat → Int64} {A : Nat → Nat → Prop} {yCe : Nat → Int32} {ev mv : Int32} (H : sp_H o n m k md) (I : sp_L o n m k dep md st q (sp_mem bef) A) (X : sp_X o n m o' n' m' k md) (hL : L + 1 = dep) (hn : n' k = st L) (ho : o' k = oo) (hk : k ≤ 128) (hce : ce ≤ 16)
    (he : sp_ev ce oo ev) (hRW : sp_RW k o yCe rd wr) (h : sp_mv oo L bef rd wr ev mv) : sp_mk o' n' m' (upd yCe k ev) k mv := by
  unfold sp_mk
  rw [pk_us]
  refine ⟨h.1, fun hne => ?_⟩
  rcases he with ⟨ha, e, he1, he2⟩ | ⟨_, he2⟩
  · obtain ⟨a, b, h1, h2, h3, h4, h5⟩ := h.2 e (by omega) he2
    have n1 : ¬ o' k = 1 := by rw [ho]; rcases ha with z | z | z <;> omega
    have n0 : ¬ o' k = 0 := by rw [ho]; rcases ha with z | z | z <;> omega
    refine ⟨a, b, h1, h2, h3, ?_, ?_⟩
    · rw [h4, sp_unb H I X hL hn n1 n0 hk (fun j hj => (hRW e (by omega) j hj).1)]
      constructor
      · rintro ⟨j, a1, a2, a3⟩
        refine ⟨j, a1, ?_, ?_, a3⟩
        · rw [pk_us, pk_un (show j ≠ k by omega), he2]; exact a2.1
        · rw [X.1 j a1]; exact a2.2
      · rintro ⟨j, a1, a2, a4, a3⟩
        rw [pk_us, pk_un (show j ≠ k by omega), he2] at a2
        rw [X.1 j a1] at a4
        exact ⟨j, a1, ⟨a2, a4⟩, a3⟩
    · rw [h5, sp_unb H I X hL hn n1 n0 hk (fun j hj => (hRW e (by omega) j hj).2)]
      unfold sp_V
      rw [ho]
      constructor
      · rintro ⟨z, j, a1, a2, a3⟩
        refine ⟨z, j, a1, ?_, ?_, a3⟩
        · rw [pk_us, pk_un (show j ≠ k by omega), he2]; exact a2.1
        · rw [X.1 j a1]; exact a2.2
      · rintro ⟨z, j, a1, a2, a4, a3⟩
        rw [pk_us, pk_un (show j ≠ k by omega), he2] at a2
        rw [X.1 j a1] at a4
        exact ⟨z, j, a1, ⟨a2, a4⟩, a3⟩
  · exact absurd he2 hne
section
variable {o n m st q ad : Nat → Nat} {dep cnt md : Nat} {B A : Nat → Nat → Prop} {lAd lIn lA lX lSp stk nxt acc idx lAd' lIn' lA' lX' lSp' stk' nxt' acc' idx' : Nat → Int32}
/-- levels after a step of the top that keeps the stack -/
theorem sp_VlA (H : sp_H o n m cnt md) (I : sp_L o n m cnt dep md st q B A) (h : sp_Vl dep cnt o m st ad lAd lIn lA lX lSp stk nxt acc idx) {L a1 oo : Nat} (hL : L + 1 = dep)
    (ha : a1 ≤ 48 + (cnt + 1))
    (k1 : ∀ l, l < L → lAd' l = lAd l) (k1' : lAd' L = nI a1) (k2 : ∀ i, ¬ i = st L → nxt' i = nxt i) (k2' : nxt' (st L) = nI a1)
    (k3 : ∀ l, l < L → lA' l = lA l) (k4 : ∀ i, ¬ i = st L → acc' i = acc i) (k5 : lA' L = acc' (st L))
    (k6 : ∀ l, l < L → lX' l = lX l) (k7 : ∀ i, ¬ i = st L → idx' i = idx i) (k8 : lX' L = idx' (st L)) :
    sp_Vl dep (cnt + 1) (sp_u o cnt oo) m st (sp_u ad L a1) lAd' lIn lA' lX' lSp stk nxt' acc' idx' := by
  intro l hl
  obtain ⟨g1, g2, g3, g4, g5, g6, g7, g8, g9, g10⟩ := h l hl
  have hm : 0 < l → sp_u o cnt oo (m (st l)) = o (m (st l)) := fun h0 => sp_un (by have := (sp_pos H I h0 hl).2.1; omega)
  refine ⟨?_, ?_, ?_, g4, g5, ?_, ?_, g8, fun h0 => by rw [hm h0]; exact g9 h0, fun h0 => by rw [hm h0]; exact g10 h0⟩
  · by_cases e : l = L
    · rw [e, sp_us]; exact k1'
    · rw [sp_un e, k1 l (by omega)]; exact g1
  · by_cases e : l = L
    · rw [e, sp_us]; exact k2'
    · have := I.2.1 l L (by omega) (by omega)
      rw [sp_un e, k2 _ (by omega)]; exact g2
  · by_cases e : l = L
    · rw [e, sp_us]; exact ha
    · rw [sp_un e]; omega
  · by_cases e : l = L
    · rw [e]; exact k5
    · have := I.2.1 l L (by omega) (by omega)
      rw [k3 l (by omega), k4 _ (by omega)]; exact g6
  · by_cases e : l = L
    · rw [e]; exact k8
    · have := I.2.1 l L (by omega) (by omega)
      rw [k6 l (by omega), k7 _ (by omega)]; exact g7
/-- levels after SPAWN or CALL -/
theorem sp_VlM (H : sp_H o n m cnt md) (I : sp_L o n m cnt dep md st q B A) (h : sp_Vl dep cnt o m st ad lAd lIn lA lX lSp stk nxt acc idx) {L p t oo : Nat} (hL : L + 1 = dep) (hp : p = ad L) (ht : t < 48)
    {sv : Int32} (hs2 : oo = 2 → sv = 1) (hs3 : ¬ oo = 2 → sv = 0) :
    sp_Vl (dep + 1) (cnt + 1) (sp_u o cnt oo) (sp_u m md cnt) (sp_u st dep md) (sp_u (sp_u ad L (p + 1)) dep t)
      (upd (upd lAd L (nI (p + 1))) dep (nI t)) (upd lIn dep (nI md)) (upd lA dep (lA L)) (upd lX dep (lX L)) (upd lSp dep sv) (upd stk dep (nI md))
      (upd (upd nxt (st L) (nI (p + 1))) md (nI t)) (upd acc md (acc (st L))) (upd idx md (idx (st L))) := by
  intro l hl
  have hLd : L < dep := by omega
  have gL := h L hLd
  by_cases e : l = dep
  · rw [e]
    simp only [pk_us, sp_us]
    refine ⟨trivial, trivial, by omega, trivial, trivial, gL.2.2.2.2.2.1, gL.2.2.2.2.2.2.1, fun z => by omega, fun _ z => hs2 z, fun _ z => hs3 z⟩
  · have hld : l < dep := by omega
    obtain ⟨g1, g2, g3, g4, g5, g6, g7, g8, g9, g10⟩ := h l hld
    have hst := I.2.2.1 l hld
    have e2 : ¬ st l = md := by omega
    rw [sp_un e (f := st), sp_un e, sp_un e2, pk_un e, pk_un e2, pk_un e, pk_un e, pk_un e, pk_un e2, pk_un e, pk_un e2, pk_un e]
    have hm : 0 < l → sp_u o cnt oo (m (st l)) = o (m (st l)) := fun h0 => sp_un (by have := (sp_pos H I h0 hld).2.1; omega)
    refine ⟨?_, ?_, ?_, g4, g5, g6, g7, g8, fun h0 => by rw [hm h0]; exact g9 h0, fun h0 => by rw [hm h0]; exact g10 h0⟩
    · by_cases e3 : l = L
      · rw [e3, sp_us, pk_us]
      · rw [sp_un e3, pk_un e3]; exact g1
    · by_cases e3 : l = L
      · rw [e3, sp_us, pk_us]
      · have := I.2.1 l L (by omega) (by omega)
        rw [sp_un e3, pk_un (show st l ≠ st L by omega)]; exact g2
    · by_cases e3 : l = L
      · rw [e3, sp_us]; have := gL.2.2.1; omega
      · rw [sp_un e3]; omega
/-- levels after a RET above the root; the parent's A may change -/
theorem sp_VlR (H : sp_H o n m cnt md) (I : sp_L o n m cnt dep md st q B A) (h : sp_Vl dep cnt o m st ad lAd lIn lA lX lSp stk nxt acc idx) {p : Nat} (hL : p + 1 + 1 = dep)
    (k1 : ∀ l, l < p + 1 → lAd' l = lAd l) (k2 : ∀ i, ¬ i = st (p + 1) → nxt' i = nxt i)
    (k3 : ∀ l, l < p → lA' l = lA l) (k4 : ∀ i, ¬ i = st p → acc' i = acc i) (k5 : lA' p = acc' (st p)) :
    sp_Vl (p + 1) (cnt + 1) (sp_u o cnt 0) m st ad lAd' lIn lA' lX lSp stk nxt' acc' idx := by
  intro l hl
  have hld : l < dep := by omega
  obtain ⟨g1, g2, g3, g4, g5, g6, g7, g8, g9, g10⟩ := h l hld
  have h1 := I.2.1 l (p + 1) hl (by omega)
  have hm : 0 < l → sp_u o cnt 0 (m (st l)) = o (m (st l)) := fun h0 => sp_un (by have := (sp_pos H I h0 hld).2.1; omega)
  refine ⟨?_, ?_, by omega, g4, g5, ?_, g7, g8, fun h0 => by rw [hm h0]; exact g9 h0, fun h0 => by rw [hm h0]; exact g10 h0⟩
  · rw [k1 l hl]; exact g1
  · rw [k2 _ (by omega)]; exact g2
  · by_cases e : l = p
    · rw [e]; exact k5
    · have := I.2.1 l p (by omega) (by omega)
      rw [k3 l (by omega), k4 _ (by omega)]; exact g6
end
end
section
/-! ===== the run goes depth first ===== -/
def sp_Dh (o n m : Nat → Nat) (k md : Nat) : Prop :=
  (∀ t q, t < k → q < t → n q = n t → (∀ x, q < x → x < t → ¬ n x = n t) → (o q = 2 ∨ o q = 3) → o (t - 1) = 0 ∧ ¬ n (t - 1) = 0 ∧ m (n (t - 1)) = q) ∧
  (∀ t, t < k → ¬ n t = 0 → (∀ x, x < t → ¬ n x = n t) → 0 < t ∧ m (n t) = t - 1) ∧
  (∀ q t, q < t → t < k → n q = n t → ¬ o q = 0) ∧
  (0 < k → n 0 = 0) ∧
  (∀ a b, ¬ a = 0 → ¬ b = 0 → a < md → b < md → m a = m b → a = b) ∧
  (∀ t, t < k → ∀ s s', sp_pn o n m t (n t) s → sp_pn o n m t (n t) s' → s = s')
def sp_Dt (o n m : Nat → Nat) (k dep : Nat) (st : Nat → Nat) : Prop :=
  (∀ l, l + 1 = dep → ∀ q, q < k → n q = st l → (∀ x, q < x → x < k → ¬ n x = st l) → (o q = 2 ∨ o q = 3) → o (k - 1) = 0 ∧ ¬ n (k - 1) = 0 ∧ m (n (k - 1)) = q) ∧
  (∀ l, l + 1 = dep → ¬ st l = 0 → (∀ x, x < k → ¬ n x = st l) → 0 < k ∧ m (st l) = k - 1) ∧
  (∀ l, l < dep → ∀ x, x < k → n x = st l → ¬ o x = 0) ∧
  (∀ l, l + 1 < dep → ∀ x, m (st (l + 1)) < x → x < k → ¬ n x = st l)
def sp_D (o n m : Nat → Nat) (k md dep : Nat) (st : Nat → Nat) : Prop := sp_Dh o n m k md ∧ sp_Dt o n m k dep st
section
variable {o n m o' n' m' st q : Nat → Nat} {k dep md : Nat} {B A : Nat → Nat → Prop}
theorem sp_dh (H : sp_H o n m k md) (I : sp_L o n m k dep md st q B A) (D : sp_D o n m k md dep st) (X : sp_X o n m o' n' m' k md) {L : Nat} (hL : L + 1 = dep) (hn : n' k = st L)
    (hM : ∀ a b, ¬ a = 0 → ¬ b = 0 → a < md → b < md → m a = m b → a = b) :
    (∀ t q, t < k + 1 → q < t → n' q = n' t → (∀ x, q < x → x < t → ¬ n' x = n' t) → (o' q = 2 ∨ o' q = 3) → o' (t - 1) = 0 ∧ ¬ n' (t - 1) = 0 ∧ m' (n' (t - 1)) = q) ∧
    (∀ t, t < k + 1 → ¬ n' t = 0 → (∀ x, x < t → ¬ n' x = n' t) → 0 < t ∧ m' (n' t) = t - 1) ∧
    (∀ q t, q < t → t < k + 1 → n' q = n' t → ¬ o' q = 0) ∧
    (0 < k + 1 → n' 0 = 0) ∧
    (∀ t, t < k + 1 → ∀ s s', sp_pn o' n' m' t (n' t) s → sp_pn o' n' m' t (n' t) s' → s = s') := by
  obtain ⟨⟨d1, d2, d3, d4, d5, d6⟩, t1, t2, t3, t4⟩ := D
  have hLd : L < dep := by omega
  have hst := I.2.2.1 L hLd
  refine ⟨?_, ?_, ?_, ?_, ?_⟩
  · intro t q ht hq he hx hc
    have hq' : q < k := by omega
    have ht1 : t - 1 < k := by omega
    have hm1 := X.2.2 (n (t - 1)) (H.1 (t - 1) ht1)
    rw [X.1 (t - 1) ht1, X.2.1 (t - 1) ht1, hm1]
    rw [X.1 q hq'] at hc
    rw [X.2.1 q hq'] at he
    by_cases e : t = k
    · subst e
      rw [hn] at he hx
      exact t1 L hL q hq he (fun x a b => by have := hx x a b; rwa [X.2.1 x b] at this) hc
    · have htk : t < k := by omega
      rw [X.2.1 t htk] at he hx
      exact d1 t q htk hq he (fun x a b => by have := hx x a b; rwa [X.2.1 x (by omega)] at this) hc
  · intro t ht h0 hx
    by_cases e : t = k
    · subst e
      rw [hn] at h0 hx ⊢
      rw [X.2.2 _ hst]
      exact t2 L hL h0 (fun x a => by have := hx x a; rwa [X.2.1 x a] at this)
    · have htk : t < k := by omega
      rw [X.2.1 t htk] at h0 hx ⊢
      rw [X.2.2 _ (H.1 t htk)]
      exact d2 t htk h0 (fun x a => by have := hx x a; rwa [X.2.1 x (by omega)] at this)
  · intro q t hq ht he
    have hq' : q < k := by omega
    rw [X.1 q hq']
    rw [X.2.1 q hq'] at he
    by_cases e : t = k
    · subst e
      rw [hn] at he
      exact t3 L hLd q hq he
    · have htk : t < k := by omega
      rw [X.2.1 t htk] at he
      exact d3 q t hq htk he
  · intro _
    by_cases e : k = 0
    · subst e
      rw [hn]
      by_cases hL0 : L = 0
      · rw [hL0]; exact I.1 (by omega)
      · have := (sp_pos H I (show 0 < L by omega) hLd).2.1
        omega
    · rw [X.2.1 0 (by omega)]
      exact d4 (by omega)
  · intro t ht s s' h1 h2
    by_cases e : t = k
    · subst e
      rw [hn, sp_pn_x H X (Nat.le_refl t) hst, I.2.2.2.2.2.1 L hL] at h1 h2
      rw [h1.2, h2.2]
    · have htk : t < k := by omega
      rw [X.2.1 t htk, sp_pn_x H X (Nat.le_of_lt htk) (H.1 t htk)] at h1 h2
      exact d6 t htk s s' h1 h2
theorem sp_dA (H : sp_H o n m k md) (I : sp_L o n m k dep md st q B A) (D : sp_D o n m k md dep st) {L oo : Nat} (hL : L + 1 = dep) (h0 : ¬ oo = 0) (h2 : ¬ oo = 2) (h3 : ¬ oo = 3) : sp_D (sp_u o k oo) (sp_u n k (st L)) m (k + 1) md dep st := by
  have X : sp_X o n m (sp_u o k oo) (sp_u n k (st L)) m k md := sp_X1
  have hn : sp_u n k (st L) k = st L := sp_us
  have ho : sp_u o k oo k = oo := sp_us
  have hh := sp_dh H I D X hL hn D.1.2.2.2.2.1
  obtain ⟨⟨d1, d2, d3, d4, d5, d6⟩, t1, t2, t3, t4⟩ := D
  refine ⟨⟨hh.1, hh.2.1, hh.2.2.1, hh.2.2.2.1, d5, hh.2.2.2.2⟩, ?_, ?_, ?_, ?_⟩
  · intro l hl q hq he hx hc
    obtain rfl : l = L := by omega
    by_cases e : q = k
    · rw [e, ho] at hc
      omega
    · exact absurd hn (hx k (by omega) (by omega))
  · intro l hl _ hx
    obtain rfl : l = L := by omega
    exact absurd hn (hx k (by omega))
  · intro l hl x hx he
    by_cases e : x = k
    · rw [e, ho]; exact h0
    · rw [sp_un e] at he ⊢
      exact t3 l hl x (by omega) he
  · intro l hl x h1 hx
    by_cases e : x = k
    · rw [e, hn]
      have := I.2.1 l L (by omega) (by omega)
      omega
    · rw [sp_un e]
      exact t4 l hl x h1 (by omega)
theorem sp_dM (H : sp_H o n m k md) (I : sp_L o n m k dep md st q B A) (D : sp_D o n m k md dep st) {L oo : Nat} (hL : L + 1 = dep) (h0 : ¬ oo = 0) : sp_D (sp_u o k oo) (sp_u n k (st L)) (sp_u m md k) (k + 1) (md + 1) (dep + 1) (sp_u st dep md) := by
  have X : sp_X o n m (sp_u o k oo) (sp_u n k (st L)) (sp_u m md k) k md := sp_X2
  have hn : sp_u n k (st L) k = st L := sp_us
  have ho : sp_u o k oo k = oo := sp_us
  have hmd : sp_u m md k md = k := sp_us
  have hstD : sp_u st dep md dep = md := sp_us
  have hh := sp_dh H I D X hL hn D.1.2.2.2.2.1
  have hlt : ∀ x, x < k + 1 → sp_u n k (st L) x < md := (sp_H1 H (oo := oo) (I.2.2.1 L (by omega))).1
  obtain ⟨⟨d1, d2, d3, d4, d5, d6⟩, t1, t2, t3, t4⟩ := D
  refine ⟨⟨hh.1, hh.2.1, hh.2.2.1, hh.2.2.2.1, ?_, hh.2.2.2.2⟩, ?_, ?_, ?_, ?_⟩
  · intro a b a0 b0 ha hb he
    by_cases ea : a = md
    · by_cases eb : b = md
      · rw [ea, eb]
      · rw [ea, hmd, sp_un eb] at he
        have := (H.2.2 b b0 (by omega)).1
        omega
    · by_cases eb : b = md
      · rw [eb, hmd, sp_un ea] at he
        have := (H.2.2 a a0 (by omega)).1
        omega
      · rw [sp_un ea, sp_un eb] at he
        exact d5 a b a0 b0 (by omega) (by omega) he
  · intro l hl q hq he _ _
    obtain rfl : l = dep := by omega
    rw [hstD] at he
    have := hlt q hq
    omega
  · intro l hl _ _
    obtain rfl : l = dep := by omega
    rw [hstD, hmd]
    omega
  · intro l hl x hx he
    by_cases e : l = dep
    · rw [e, hstD] at he
      have := hlt x hx
      omega
    · rw [sp_un e] at he
      by_cases e2 : x = k
      · rw [e2, ho]; exact h0
      · rw [sp_un e2] at he ⊢
        exact t3 l (by omega) x (by omega) he
  · intro l hl x h1 hx
    rw [sp_un (show ¬ l = dep by omega)]
    by_cases e : l = L
    · subst e
      rw [hL, hstD, hmd] at h1
      omega
    · rw [sp_un (show ¬ l + 1 = dep by omega), X.2.2 _ (I.2.2.1 (l + 1) (by omega))] at h1
      by_cases e2 : x = k
      · rw [e2, hn]
        have := I.2.1 l L (by omega) (by omega)
        omega
      · rw [sp_un e2]
        exact t4 l (by omega) x h1 (by omega)
theorem sp_dR (H : sp_H o n m k md) (I : sp_L o n m k dep md st q B A) (D : sp_D o n m k md dep st) {p : Nat} (hL : p + 1 + 1 = dep) : sp_D (sp_u o k 0) (sp_u n k (st (p + 1))) m (k + 1) md (p + 1) st := by
  have X : sp_X o n m (sp_u o k 0) (sp_u n k (st (p + 1))) m k md := sp_X1
  have hn : sp_u n k (st (p + 1)) k = st (p + 1) := sp_us
  have ho : sp_u o k 0 k = 0 := sp_us
  have hh := sp_dh H I D X hL hn D.1.2.2.2.2.1
  have hP := sp_pos H I (show 0 < p + 1 by omega) (show p + 1 < dep by omega)
  have hN := I.2.2.2.1 p (by omega)
  have hlt := I.2.1 p (p + 1) (by omega) (by omega)
  have hsn : sp_u n k (st (p + 1)) (m (st (p + 1))) = st p := by rw [sp_un (by omega)]; exact hN.1
  obtain ⟨⟨d1, d2, d3, d4, d5, d6⟩, t1, t2, t3, t4⟩ := D
  refine ⟨⟨hh.1, hh.2.1, hh.2.2.1, hh.2.2.2.1, d5, hh.2.2.2.2⟩, ?_, ?_, ?_, ?_⟩
  · intro l hl q hq he hx hc
    obtain rfl : l = p := by omega
    have e1 : k + 1 - 1 = k := by omega
    rw [e1, ho, hn]
    refine ⟨rfl, hP.1, ?_⟩
    by_cases eq : q = k
    · rw [eq, hn] at he
      omega
    · have hqk : q < k := by omega
      rw [sp_un eq] at he
      rcases Nat.lt_trichotomy q (m (st (l + 1))) with z | z | z
      · exact absurd hsn (hx _ z (by omega))
      · exact z.symm
      · exact absurd he (t4 l (by omega) q z hqk)
  · intro l hl _ hx
    obtain rfl : l = p := by omega
    exact absurd hsn (hx _ (by omega))
  · intro l hl x hx he
    by_cases e : x = k
    · rw [e, hn] at he
      have := I.2.1 l (p + 1) (by omega) (by omega)
      omega
    · rw [sp_un e] at he ⊢
      exact t3 l (by omega) x (by omega) he
  · intro l hl x h1 hx
    by_cases e : x = k
    · rw [e, hn]
      have := I.2.1 l (p + 1) (by omega) (by omega)
      omega
    · rw [sp_un e]
      exact t4 l (by omega) x h1 (by omega)
theorem sp_dR0 (H : sp_H o n m k md) (I : sp_L o n m k dep md st q B A) (D : sp_D o n m k md dep st) (hL : 0 + 1 = dep) : sp_D (sp_u o k 0) (sp_u n k (st 0)) m (k + 1) md 0 st := by
  have X : sp_X o n m (sp_u o k 0) (sp_u n k (st 0)) m k md := sp_X1
  have hh := sp_dh H I D X hL sp_us D.1.2.2.2.2.1
  exact ⟨⟨hh.1, hh.2.1, hh.2.2.1, hh.2.2.2.1, D.1.2.2.2.2.1, hh.2.2.2.2⟩, fun _ h => by omega, fun _ h => by omega, fun _ h => by omega, fun _ h => by omega⟩
theorem sp_d0 (dep : Nat) (hd : dep ≤ 1) : sp_D o n m 0 dep dep (fun _ => 0) := by
  refine ⟨⟨fun _ _ h => by omega, fun _ h => by omega, fun _ _ _ h => by omega, fun h => by omega, fun _ _ _ _ _ _ => by omega, fun _ h => by omega⟩, fun _ _ _ h => by omega, fun _ _ h => absurd rfl h, fun _ _ _ h => by omega, fun _ _ _ _ h => by omega⟩
/-- the step ahead of step t, as the law reckons it -/
theorem sp_law1 (H : sp_H o n m k md) (D : sp_Dh o n m k md) {t q : Nat} (ht : t < k) (hq : q < t) (he : n q = n t) (hx : ∀ x, q < x → x < t → ¬ n x = n t) (j : Nat) : sp_pn o n m t (n t) j ↔ j = if o q = 3 then t - 1 else q := by
  have hF := D.2.2.1 q t hq ht he
  have key : sp_pn o n m t (n t) (if o q = 3 then t - 1 else q) := by
    by_cases c : o q = 3
    · rw [if_pos c]
      obtain ⟨a, b, d⟩ := D.1 t q ht hq he hx (Or.inr c)
      refine ⟨by omega, Or.inl ⟨a, b, ?_, ?_⟩, fun s h1 h2 => by omega⟩
      · rw [d]; exact he
      · rw [d]; omega
    · rw [if_neg c]
      exact ⟨hq, Or.inr (Or.inr ⟨hF, c, he⟩), hx⟩
  exact ⟨fun h => D.2.2.2.2.2 t ht _ _ h key, fun h => by rw [h]; exact key⟩
theorem sp_law0 (H : sp_H o n m k md) (D : sp_Dh o n m k md) {t : Nat} (ht : t < k) (h0 : 0 < t) (hx : ∀ x, x < t → ¬ n x = n t) (j : Nat) : sp_pn o n m t (n t) j ↔ j = t - 1 := by
  have hne : ¬ n t = 0 := by
    intro z
    have := hx 0 h0
    rw [D.2.2.2.1 (by omega)] at this
    omega
  obtain ⟨a, b⟩ := D.2.1 t ht hne hx
  have hm := (H.2.2 (n t) hne (H.1 t ht)).2
  have key : sp_pn o n m t (n t) (t - 1) := by
    refine ⟨by omega, Or.inr (Or.inl ⟨?_, hne, b⟩), fun s h1 h2 => by omega⟩
    rw [← b]
    exact hm
  exact ⟨fun h => D.2.2.2.2.2 t ht _ _ h key, fun h => by rw [h]; exact key⟩
/-- a RET that waits for step t's join came of a SPAWN q, one step ahead of the next step x of the instance -/
theorem sp_lawj (H : sp_H o n m k md) (D : sp_Dh o n m k md) {t q x : Nat} (ht : t < k) (hx : x ≤ t) (hq : q < x) (he : n q = n t) (hex : n x = n t) (hb : ∀ y, q < y → y < x → ¬ n y = n t) (h2 : o q = 2) {j : Nat} (hj : sp_cj o n m (n t) j) (hjt : j < t) (hm : m (n j) = q) : j = x - 1 := by
  obtain ⟨a, b, d⟩ := D.1 x q (by omega) hq (by rw [he, hex]) (fun y h1 h3 => by rw [hex]; exact hb y h1 h3) (Or.inl h2)
  have hnj := H.1 j (by omega)
  have hnx := H.1 (x - 1) (by omega)
  have e : n j = n (x - 1) := D.2.2.2.2.1 _ _ hj.2.1 b hnj hnx (by rw [hm, d])
  rcases Nat.lt_trichotomy j (x - 1) with z | z | z
  · exact absurd hj.1 (D.2.2.1 j (x - 1) z (by omega) e)
  · exact z
  · exact absurd a (D.2.2.1 (x - 1) j z (by omega) e.symm)
theorem sp_lawx (H : sp_H o n m k md) (D : sp_Dh o n m k md) {t q x : Nat} (ht : t < k) (hx : x ≤ t) (hq : q < x) (he : n q = n t) (hex : n x = n t) (hb : ∀ y, q < y → y < x → ¬ n y = n t) (h2 : o q = 2) : sp_cj o n m (n t) (x - 1) ∧ m (n (x - 1)) = q := by
  obtain ⟨a, b, d⟩ := D.1 x q (by omega) hq (by rw [he, hex]) (fun y h1 h3 => by rw [hex]; exact hb y h1 h3) (Or.inl h2)
  exact ⟨⟨a, b, by rw [d]; exact he, by rw [d]; exact h2⟩, d⟩
end
end
section
/-! ===== the picture of a state ===== -/
def sp_Q (cc ce dc ic len s cnt dep md : Nat) (o n m st q ad : Nat → Nat) (cop carg xc xAd xOp xIn xCe xMk lAd lIn lA lX lSp : Nat → Int32) (bef awa rd wr : Nat → Int64) (yc stk nxt acc idx mkr yAd yOp yIn yCe lds : Nat → Int32) : Prop :=
  sp_K cc ce dc ic len s cnt dep md ∧ sp_C len cop carg ∧ sp_eq ce xc yc ∧ sp_eq cnt xAd yAd ∧ sp_rep cnt xOp o ∧ sp_rep cnt yOp o ∧ sp_rep cnt xIn n ∧ sp_rep cnt yIn n ∧ sp_eq cnt xCe yCe ∧
  sp_S cnt ce o yCe ∧ sp_Vl dep cnt o m st ad lAd lIn lA lX lSp stk nxt acc idx ∧ sp_Mr md m mkr ∧ sp_RW cnt o yCe rd wr ∧ sp_Mk cnt o n m yCe xMk ∧ sp_01 lds ∧
  sp_H o n m cnt md ∧ sp_L o n m cnt dep md st q (sp_mem bef) (sp_mem awa)
/-- a state of the class: cells ce, and status s where it is told -/
def pp_R (CE : Nat) (u : St2) : Prop :=
  ∃ (cc ce dc ic len s cnt dep md : Nat) (o n m st q ad : Nat → Nat) (cop carg xc xAd xOp xIn xCe xMk lAd lIn lA lX lSp : Nat → Int32) (bef awa rd wr : Nat → Int64) (yc stk nxt acc idx mkr yAd yOp yIn yCe lds : Nat → Int32), u = (nI cc, nI ce, nI dc, nI ic, nI len, nI s, nI cnt, nI dep, nI md, cop, carg, xc, xAd, xOp, xIn, xCe, xMk, lAd, lIn, lA, lX, lSp, bef, awa, rd, wr) ∧ ce = CE ∧ sp_Q cc ce dc ic len s cnt dep md o n m st q ad cop carg xc xAd xOp xIn xCe xMk lAd lIn lA lX lSp bef awa rd wr yc stk nxt acc idx mkr yAd yOp yIn yCe lds ∧ sp_D o n m cnt md dep st
section
variable {cc ce dc ic len s cnt dep md : Nat} {o n m st q ad : Nat → Nat} {cop carg xc xAd xOp xIn xCe xMk lAd lIn lA lX lSp yc stk nxt acc idx mkr yAd yOp yIn yCe lds : Nat → Int32} {bef awa rd wr : Nat → Int64}
theorem pp_mk (h : sp_Q cc ce dc ic len s cnt dep md o n m st q ad cop carg xc xAd xOp xIn xCe xMk lAd lIn lA lX lSp bef awa rd wr yc stk nxt acc idx mkr yAd yOp yIn yCe lds) (d : sp_D o n m cnt md dep st) : pp_R ce (nI cc, nI ce, nI dc, nI ic, nI len, nI s, nI cnt, nI dep, nI md, cop, carg, xc, xAd, xOp, xIn, xCe, xMk, lAd, lIn, lA, lX, lSp, bef, awa, rd, wr) := ⟨cc, ce, dc, ic, len, s, cnt, dep, md, o, n, m, st, q, ad, cop, carg, xc, xAd, xOp, xIn, xCe, xMk, lAd, lIn, lA, lX, lSp, bef, awa, rd, wr, yc, stk, nxt, acc, idx, mkr, yAd, yOp, yIn, yCe, lds, rfl, rfl, h, d⟩
end
end
section
/-! ===== one step, in the facts alone ===== -/
/-- what recordStep does to the sets and the mask -/
def sp_rec (oo L cnt : Nat) (ev mv : Int32) (bef awa rd wr bef' awa' rd' wr' : Nat → Int64) : Prop :=
  (∀ l j, j < 128 → (sp_mem bef' l j ↔ (sp_mem bef l j ∨ (l = L ∧ (((oo = 1 ∨ oo = 0) ∧ sp_mem awa L j) ∨ j = cnt))))) ∧
  (∀ l j, j < 128 → (sp_mem awa' l j ↔ (sp_mem awa l j ∧ ¬ (l = L ∧ (oo = 1 ∨ oo = 0))))) ∧
  (∀ c, c < 16 → ∀ j, j < 128 → (sp_mem wr' c j ↔ (sp_mem wr c j ∨ (j = cnt ∧ ev = nI c ∧ oo = 5)))) ∧
  (∀ c, c < 16 → ∀ j, j < 128 → (sp_mem rd' c j ↔ (sp_mem rd c j ∨ (j = cnt ∧ ev = nI c ∧ ¬ oo = 5)))) ∧
  sp_mv oo L bef rd wr ev mv
section
variable {cc ce dc ic len s cnt dep md : Nat} {o n m st q ad : Nat → Nat} {cop carg xc xAd xOp xIn xCe xMk lAd lIn lA lX lSp yc stk nxt acc idx mkr yAd yOp yIn yCe lds : Nat → Int32} {bef awa rd wr : Nat → Int64}
variable {bef' awa' rd' wr' bef'' awa'' : Nat → Int64} {ev mv pv : Int32} {oo L : Nat} {xc' yc' lAd' nxt' lA' acc' lX' idx' : Nat → Int32}
theorem sp_QA (h : sp_Q cc ce dc ic len s cnt dep md o n m st q ad cop carg xc xAd xOp xIn xCe xMk lAd lIn lA lX lSp bef awa rd wr yc stk nxt acc idx mkr yAd yOp yIn yCe lds) (hL : L + 1 = dep) (hs : ¬ s = 0) (hs2 : ¬ s = 2) (hk : cnt < 128) (ho : oo ≤ 11) (h0 : ¬ oo = 0) (h2 : ¬ oo = 2) (h3 : ¬ oo = 3) (he : sp_ev ce oo ev)
    (hr : sp_rec oo L cnt ev mv bef awa rd wr bef' awa' rd' wr') {a1 : Nat} (ha : a1 ≤ 48 + (cnt + 1)) (hc : sp_eq ce xc' yc')
    (k1 : ∀ l, l < L → lAd' l = lAd l) (k1' : lAd' L = nI a1) (k2 : ∀ i, ¬ i = st L → nxt' i = nxt i) (k2' : nxt' (st L) = nI a1)
    (k3 : ∀ l, l < L → lA' l = lA l) (k4 : ∀ i, ¬ i = st L → acc' i = acc i) (k5 : lA' L = acc' (st L))
    (k6 : ∀ l, l < L → lX' l = lX l) (k7 : ∀ i, ¬ i = st L → idx' i = idx i) (k8 : lX' L = idx' (st L)) :
    sp_Q cc ce dc ic len s (cnt + 1) dep md (sp_u o cnt oo) (sp_u n cnt (st L)) m st (sp_u q L cnt) (sp_u ad L a1) cop carg (xc') (upd xAd cnt pv) (upd xOp cnt (nI oo)) (upd xIn cnt (nI (st L))) (upd xCe cnt ev) (upd xMk cnt mv) (lAd') lIn (lA') (lX') lSp (bef') (awa') (rd') (wr') (yc') stk (nxt') (acc') (idx') mkr (upd yAd cnt pv) (upd yOp cnt (nI oo)) (upd yIn cnt (nI (st L))) (upd yCe cnt ev) lds := by
  obtain ⟨hK, hC, hc0, hAd, hxO, hyO, hxI, hyI, hCe, hS, hV, hMr, hRW, hMk, h01, H, I⟩ := h
  obtain ⟨r1, r2, r3, r4, r5⟩ := hr
  have X : sp_X o n m (sp_u o cnt oo) (sp_u n cnt (st L)) m cnt md := sp_X1
  have hI := sp_tA (B' := sp_mem bef') (A' := sp_mem awa') H I hL h0 h2 h3
    (fun l hl j hj => by
      have e : ¬ l = L := by omega
      rw [r1 l j hj]; simp only [e, false_and, or_false])
    (fun j hj => by
      rw [r1 L j hj]; simp only [h0, or_false, true_and])
    (fun l hl j hj => by
      have e : ¬ l = L := by omega
      rw [r2 l j hj]; simp only [e, false_and, not_false_eq_true, and_true])
    (fun j hj => by
      rw [r2 L j hj]; simp only [h0, or_false, true_and])
  unfold sp_K at hK
  refine ⟨?_, hC, hc, sp_eq_u hAd, sp_rep_u hxO, sp_rep_u hyO, sp_rep_u hxI, sp_rep_u hyI, sp_eq_u hCe, sp_S_u hS ho he,
    sp_VlA H I hV hL ha k1 k1' k2 k2' k3 k4 k5 k6 k7 k8, hMr, sp_RW_u hRW r3 r4, sp_Mk_u H X hMk ?_, h01, hI.1, hI.2⟩
  · unfold sp_K
    omega
  · exact sp_mv_mk H I X hL sp_us sp_us (by omega) (by omega) he hRW r5
theorem sp_QM (h : sp_Q cc ce dc ic len s cnt dep md o n m st q ad cop carg xc xAd xOp xIn xCe xMk lAd lIn lA lX lSp bef awa rd wr yc stk nxt acc idx mkr yAd yOp yIn yCe lds) (hL : L + 1 = dep) (hs : ¬ s = 0) (hs2 : ¬ s = 2) (hk : cnt < 128) (hd : dep < dc) (hi : md < ic) (h2 : oo = 2 ∨ oo = 3)
    (hr : sp_rec oo L cnt (-1) mv bef awa rd wr bef' awa' rd' wr')
    (rB : ∀ l j, j < 128 → (sp_mem bef'' l j ↔ ((sp_mem bef' l j ∧ ¬ l = dep) ∨ (l = dep ∧ sp_mem bef' L j))))
    (rA : ∀ l j, j < 128 → (sp_mem awa'' l j ↔ (sp_mem awa' l j ∧ ¬ l = dep)))
    {p t : Nat} (hp : p = ad L) (ht : t < 48) {sv : Int32} (v2 : oo = 2 → sv = 1) (v3 : ¬ oo = 2 → sv = 0) :
    sp_Q cc ce dc ic len s (cnt + 1) (dep + 1) (md + 1) (sp_u o cnt oo) (sp_u n cnt (st L)) (sp_u m md cnt) (sp_u st dep md) (sp_u (sp_u q L cnt) dep cnt) (sp_u (sp_u ad L (p + 1)) dep t) cop carg xc (upd xAd cnt pv) (upd xOp cnt (nI oo)) (upd xIn cnt (nI (st L))) (upd xCe cnt (-1)) (upd xMk cnt mv) (upd (upd lAd L (nI (p + 1))) dep (nI t)) (upd lIn dep (nI md)) (upd lA dep (lA L)) (upd lX dep (lX L)) (upd lSp dep sv) (bef'') (awa'') (rd') (wr') yc (upd stk dep (nI md)) (upd (upd nxt (st L) (nI (p + 1))) md (nI t)) (upd acc md (acc (st L))) (upd idx md (idx (st L))) (upd mkr md (nI cnt)) (upd yAd cnt pv) (upd yOp cnt (nI oo)) (upd yIn cnt (nI (st L))) (upd yCe cnt (-1)) lds := by
  obtain ⟨hK, hC, hc0, hAd, hxO, hyO, hxI, hyI, hCe, hS, hV, hMr, hRW, hMk, h01, H, I⟩ := h
  obtain ⟨r1, r2, r3, r4, r5⟩ := hr
  have X : sp_X o n m (sp_u o cnt oo) (sp_u n cnt (st L)) (sp_u m md cnt) cnt md := sp_X2
  have he : sp_ev ce oo (-1) := Or.inr ⟨by unfold sp_acc; omega, rfl⟩
  have hj : ¬ (oo = 1 ∨ oo = 0) := by omega
  have hI := sp_tM (B' := sp_mem bef'') (A' := sp_mem awa'') H I hL h2
    (fun l hl j hj' => by
      have e : ¬ l = L := by omega
      have e2 : ¬ l = dep := by omega
      rw [rB l j hj', r1 l j hj']; simp only [e, e2, false_and, or_false, not_false_eq_true, and_true])
    (fun j hj' => by
      have e2 : ¬ L = dep := by omega
      rw [rB L j hj', r1 L j hj']; simp only [e2, hj, false_and, false_or, or_false, not_false_eq_true, and_true, true_and])
    (fun j hj' => by
      rw [rB dep j hj', r1 L j hj']; simp only [hj, false_and, false_or, not_true_eq_false, and_false, true_and])
    (fun l hl j hj' => by
      have e2 : ¬ l = dep := by omega
      rw [rA l j hj', r2 l j hj']; simp only [e2, hj, and_false, not_false_eq_true, and_true])
    (fun j hj' z => absurd rfl ((rA dep j hj').1 z).2)
  unfold sp_K at hK
  refine ⟨?_, hC, hc0, sp_eq_u hAd, sp_rep_u hxO, sp_rep_u hyO, sp_rep_u hxI, sp_rep_u hyI, sp_eq_u hCe, sp_S_u hS (by omega) he,
    sp_VlM H I hV hL hp ht v2 v3, ?_, sp_RW_u hRW r3 r4, sp_Mk_u H X hMk ?_, h01, hI.1, hI.2⟩
  · unfold sp_K
    omega
  · intro i i0 hi'
    by_cases e : i = md
    · rw [e, pk_us, sp_us]
    · rw [pk_un e, sp_un e]; exact hMr i i0 (by omega)
  · exact sp_mv_mk H I X hL sp_us sp_us (by omega) (by omega) he hRW r5
theorem sp_QR0 (h : sp_Q cc ce dc ic len s cnt dep md o n m st q ad cop carg xc xAd xOp xIn xCe xMk lAd lIn lA lX lSp bef awa rd wr yc stk nxt acc idx mkr yAd yOp yIn yCe lds) (hL : 1 = dep) (hk : cnt < 128) (hr : sp_rec 0 0 cnt (-1) mv bef awa rd wr bef' awa' rd' wr') :
    sp_Q cc ce dc ic len (2) (cnt + 1) (0) md (sp_u o cnt 0) (sp_u n cnt 0) m st q ad cop carg xc (upd xAd cnt pv) (upd xOp cnt (nI 0)) (upd xIn cnt (nI 0)) (upd xCe cnt (-1)) (upd xMk cnt mv) (lAd') lIn lA lX lSp (bef') (awa') (rd') (wr') yc stk (nxt') acc idx mkr (upd yAd cnt pv) (upd yOp cnt (nI 0)) (upd yIn cnt (nI 0)) (upd yCe cnt (-1)) lds := by
  obtain ⟨hK, hC, hc0, hAd, hxO, hyO, hxI, hyI, hCe, hS, hV, hMr, hRW, hMk, h01, H, I⟩ := h
  obtain ⟨r1, r2, r3, r4, r5⟩ := hr
  have hst : st 0 = 0 := I.1 (by omega)
  have hmd := I.2.2.1 0 (by omega)
  have X : sp_X o n m (sp_u o cnt 0) (sp_u n cnt 0) m cnt md := sp_X1
  have he : sp_ev ce 0 (-1) := Or.inr ⟨by unfold sp_acc; omega, rfl⟩
  have hI := sp_tR0 (o := o) (n := n) (m := m) (st := st) (q := q) (B' := sp_mem bef') (A' := sp_mem awa') H (by omega)
  unfold sp_K at hK
  refine ⟨?_, hC, hc0, sp_eq_u hAd, sp_rep_u hxO, sp_rep_u hyO, sp_rep_u hxI, sp_rep_u hyI, sp_eq_u hCe, sp_S_u hS (by omega) he,
    fun l hl => by omega, hMr, sp_RW_u hRW r3 r4, sp_Mk_u H X hMk ?_, h01, hI.1, hI.2⟩
  · unfold sp_K
    omega
  · exact sp_mv_mk (L := 0) H I X (by omega) (by rw [hst]; exact sp_us) sp_us (by omega) (by omega) he hRW r5
theorem sp_QRs (h : sp_Q cc ce dc ic len s cnt dep md o n m st q ad cop carg xc xAd xOp xIn xCe xMk lAd lIn lA lX lSp bef awa rd wr yc stk nxt acc idx mkr yAd yOp yIn yCe lds) {p : Nat} (hL : p + 1 + 1 = dep) (hs : ¬ s = 0) (hs2 : ¬ s = 2) (hk : cnt < 128) (hsp : o (m (st (p + 1))) = 2)
    (hr : sp_rec 0 (p + 1) cnt (-1) mv bef awa rd wr bef' awa' rd' wr')
    (rA : ∀ l j, j < 128 → (sp_mem awa'' l j ↔ (sp_mem awa' l j ∨ (l = p ∧ sp_mem bef' (p + 1) j))))
    (k1 : ∀ l, l < p + 1 → lAd' l = lAd l) (k2 : ∀ i, ¬ i = st (p + 1) → nxt' i = nxt i) :
    sp_Q cc ce dc ic len s (cnt + 1) (p + 1) md (sp_u o cnt 0) (sp_u n cnt (st (p + 1))) m st q ad cop carg xc (upd xAd cnt pv) (upd xOp cnt (nI 0)) (upd xIn cnt (nI (st (p + 1)))) (upd xCe cnt (-1)) (upd xMk cnt mv) (lAd') lIn lA lX lSp (bef') (awa'') (rd') (wr') yc stk (nxt') acc idx mkr (upd yAd cnt pv) (upd yOp cnt (nI 0)) (upd yIn cnt (nI (st (p + 1)))) (upd yCe cnt (-1)) lds := by
  obtain ⟨hK, hC, hc0, hAd, hxO, hyO, hxI, hyI, hCe, hS, hV, hMr, hRW, hMk, h01, H, I⟩ := h
  obtain ⟨r1, r2, r3, r4, r5⟩ := hr
  have X : sp_X o n m (sp_u o cnt 0) (sp_u n cnt (st (p + 1))) m cnt md := sp_X1
  have he : sp_ev ce 0 (-1) := Or.inr ⟨by unfold sp_acc; omega, rfl⟩
  have hI := sp_tRs (B' := sp_mem bef') (A' := sp_mem awa'') H I hL hsp
    (fun l hl j hj => by
      have e : ¬ l = p + 1 := by omega
      rw [r1 l j hj]; simp only [e, false_and, or_false])
    (fun l hl j hj => by
      have e : ¬ l = p + 1 := by omega
      have e2 : ¬ l = p := by omega
      rw [rA l j hj, r2 l j hj]; simp only [e, e2, false_and, or_false, not_false_eq_true, and_true])
    (fun j hj => by
      have e : ¬ p = p + 1 := by omega
      rw [rA p j hj, r2 p j hj, r1 (p + 1) j hj]; simp only [e, false_and, not_false_eq_true, and_true, true_and, or_true])
  unfold sp_K at hK
  have gp := hV p (by omega)
  refine ⟨?_, hC, hc0, sp_eq_u hAd, sp_rep_u hxO, sp_rep_u hyO, sp_rep_u hxI, sp_rep_u hyI, sp_eq_u hCe, sp_S_u hS (by omega) he,
    sp_VlR H I hV hL k1 k2 (fun _ _ => rfl) (fun _ _ => rfl) gp.2.2.2.2.2.1, hMr, sp_RW_u hRW r3 r4, sp_Mk_u H X hMk ?_, h01, hI.1, hI.2⟩
  · unfold sp_K
    omega
  · exact sp_mv_mk H I X hL sp_us sp_us (by omega) (by omega) he hRW r5
theorem sp_QRc (h : sp_Q cc ce dc ic len s cnt dep md o n m st q ad cop carg xc xAd xOp xIn xCe xMk lAd lIn lA lX lSp bef awa rd wr yc stk nxt acc idx mkr yAd yOp yIn yCe lds) {p : Nat} (hL : p + 1 + 1 = dep) (hs : ¬ s = 0) (hs2 : ¬ s = 2) (hk : cnt < 128) (hsp : ¬ o (m (st (p + 1))) = 2)
    (hr : sp_rec 0 (p + 1) cnt (-1) mv bef awa rd wr bef' awa' rd' wr')
    (rB : ∀ l j, j < 128 → (sp_mem bef'' l j ↔ (sp_mem bef' l j ∨ (l = p ∧ sp_mem bef' (p + 1) j))))
    (k1 : ∀ l, l < p + 1 → lAd' l = lAd l) (k2 : ∀ i, ¬ i = st (p + 1) → nxt' i = nxt i) :
    sp_Q cc ce dc ic len s (cnt + 1) (p + 1) md (sp_u o cnt 0) (sp_u n cnt (st (p + 1))) m st (sp_u q p cnt) ad cop carg xc (upd xAd cnt pv) (upd xOp cnt (nI 0)) (upd xIn cnt (nI (st (p + 1)))) (upd xCe cnt (-1)) (upd xMk cnt mv) (lAd') lIn (upd lA p (lA (p + 1))) lX lSp (bef'') (awa') (rd') (wr') yc stk (nxt') (upd acc (st p) (acc (st (p + 1)))) idx mkr (upd yAd cnt pv) (upd yOp cnt (nI 0)) (upd yIn cnt (nI (st (p + 1)))) (upd yCe cnt (-1)) lds := by
  obtain ⟨hK, hC, hc0, hAd, hxO, hyO, hxI, hyI, hCe, hS, hV, hMr, hRW, hMk, h01, H, I⟩ := h
  obtain ⟨r1, r2, r3, r4, r5⟩ := hr
  have X : sp_X o n m (sp_u o cnt 0) (sp_u n cnt (st (p + 1))) m cnt md := sp_X1
  have he : sp_ev ce 0 (-1) := Or.inr ⟨by unfold sp_acc; omega, rfl⟩
  have hI := sp_tRc (B' := sp_mem bef'') (A' := sp_mem awa') H I hL hsp
    (fun l hl j hj => by
      have e : ¬ l = p + 1 := by omega
      have e2 : ¬ l = p := by omega
      rw [rB l j hj, r1 l j hj]; simp only [e, e2, false_and, or_false])
    (fun j hj => by
      have e : ¬ p = p + 1 := by omega
      rw [rB p j hj, r1 p j hj, r1 (p + 1) j hj]; simp only [e, false_and, or_false, true_and, or_true])
    (fun l hl j hj => by
      have e : ¬ l = p + 1 := by omega
      rw [r2 l j hj]; simp only [e, false_and, not_false_eq_true, and_true])
  unfold sp_K at hK
  have gp := hV (p + 1) (by omega)
  refine ⟨?_, hC, hc0, sp_eq_u hAd, sp_rep_u hxO, sp_rep_u hyO, sp_rep_u hxI, sp_rep_u hyI, sp_eq_u hCe, sp_S_u hS (by omega) he,
    sp_VlR H I hV hL k1 k2 (fun l hl => pk_un (by omega)) (fun i hi => pk_un hi) (by rw [pk_us, pk_us]; exact gp.2.2.2.2.2.1), hMr, sp_RW_u hRW r3 r4, sp_Mk_u H X hMk ?_, h01, hI.1, hI.2⟩
  · unfold sp_K
    omega
  · exact sp_mv_mk H I X hL sp_us sp_us (by omega) (by omega) he hRW r5
end
end
section
/-! ===== the class's sets ===== -/
theorem pp_clearSet {post : (Nat → Int64) → Prop} {f0 : Nat → Int64} {l : Nat} (hl : 2 * l + 1 < 24) (h : ∀ f, (∀ t j, j < 128 → (sp_mem f t j ↔ (sp_mem f0 t j ∧ ¬ t = l))) → post f) : wpX_clearSet post f0 (nI l) := by
  simp only [wpX_clearSet, sp_2s, nI_1, forall_eq]
  rw [nI_clamp (show 2 * l < 2 ^ 31 by omega), nI_clamp (show 2 * l + 1 < 2 ^ 31 by omega)]
  exact ⟨vp_in_nI (by omega) (by omega), vp_in_nI (by omega) (by omega), h _ (fun t j hj => sp_mClr hj)⟩
theorem pp_clearSet_2 {post : (Nat → Int64) → Prop} {f0 : Nat → Int64} {l : Nat} (hl : 2 * l + 1 < 32) (h : ∀ f, (∀ t j, j < 128 → (sp_mem f t j ↔ (sp_mem f0 t j ∧ ¬ t = l))) → post f) : wpX_clearSet_2 post f0 (nI l) := by
  simp only [wpX_clearSet_2, sp_2s, nI_1, forall_eq]
  rw [nI_clamp (show 2 * l < 2 ^ 31 by omega), nI_clamp (show 2 * l + 1 < 2 ^ 31 by omega)]
  exact ⟨vp_in_nI (by omega) (by omega), vp_in_nI (by omega) (by omega), h _ (fun t j hj => sp_mClr hj)⟩
theorem pp_addSet {post : (Nat → Int64) → Prop} {f0 : Nat → Int64} {l t : Nat} (hl : 2 * l + 1 < 24) (ht : 2 * t + 1 < 24) (h : ∀ f, (∀ r j, j < 128 → (sp_mem f r j ↔ (sp_mem f0 r j ∨ (r = t ∧ sp_mem f0 l j)))) → post f) : wpX_addSet post f0 (nI l) (nI t) := by
  simp only [wpX_addSet, sp_2s, nI_1, forall_eq]
  rw [nI_clamp (show 2 * l < 2 ^ 31 by omega), nI_clamp (show 2 * l + 1 < 2 ^ 31 by omega), nI_clamp (show 2 * t < 2 ^ 31 by omega), nI_clamp (show 2 * t + 1 < 2 ^ 31 by omega)]
  exact ⟨vp_in_nI (by omega) (by omega), vp_in_nI (by omega) (by omega), vp_in_nI (by omega) (by omega), vp_in_nI (by omega) (by omega), vp_in_nI (by omega) (by omega), vp_in_nI (by omega) (by omega), h _ (fun r j hj => sp_mOr' hj)⟩
theorem pp_addSet_2 {post : (Nat → Int64) × (Nat → Int64) → Prop} {f0 g0 : Nat → Int64} {l t : Nat} (hl : 2 * l + 1 < 24) (ht : 2 * t + 1 < 24) (h : ∀ f, (∀ r j, j < 128 → (sp_mem f r j ↔ (sp_mem g0 r j ∨ (r = t ∧ sp_mem f0 l j)))) → post (f0, f)) : wpX_addSet_2 post (f0, g0) (nI l) (nI t) := by
  simp only [wpX_addSet_2, sp_2s, nI_1, forall_eq]
  rw [nI_clamp (show 2 * l < 2 ^ 31 by omega), nI_clamp (show 2 * l + 1 < 2 ^ 31 by omega), nI_clamp (show 2 * t < 2 ^ 31 by omega), nI_clamp (show 2 * t + 1 < 2 ^ 31 by omega)]
  exact ⟨vp_in_nI (by omega) (by omega), vp_in_nI (by omega) (by omega), vp_in_nI (by omega) (by omega), vp_in_nI (by omega) (by omega), vp_in_nI (by omega) (by omega), vp_in_nI (by omega) (by omega), h _ (fun r j hj => sp_mOr hj)⟩
theorem pp_addStep {post : (Nat → Int64) → Prop} {f0 : Nat → Int64} {l k : Nat} (hl : 2 * l + 1 < 24) (hk : k < 128) (h : ∀ f, (∀ t j, j < 128 → (sp_mem f t j ↔ (sp_mem f0 t j ∨ (t = l ∧ j = k)))) → post f) : wpX_addStep post f0 (nI l) (nI k) := by
  simp only [wpX_addStep, sp_2s, sp_k6 hk, sp_k63 hk, nI_add, forall_eq]
  rw [nI_clamp (show 2 * l + k / 64 < 2 ^ 31 by omega)]
  exact ⟨vp_in_nI (by omega) (by omega), vp_in_nI (by omega) (by omega), h _ (fun t j hj => sp_mAdd hk hj)⟩
theorem pp_addStep_2 {post : (Nat → Int64) → Prop} {f0 : Nat → Int64} {l k : Nat} (hl : 2 * l + 1 < 32) (hk : k < 128) (h : ∀ f, (∀ t j, j < 128 → (sp_mem f t j ↔ (sp_mem f0 t j ∨ (t = l ∧ j = k)))) → post f) : wpX_addStep_2 post f0 (nI l) (nI k) := by
  simp only [wpX_addStep_2, sp_2s, sp_k6 hk, sp_k63 hk, nI_add, forall_eq]
  rw [nI_clamp (show 2 * l + k / 64 < 2 ^ 31 by omega)]
  exact ⟨vp_in_nI (by omega) (by omega), vp_in_nI (by omega) (by omega), h _ (fun t j hj => sp_mAdd hk hj)⟩
section
variable {g0 g1 g2 g3 g4 g5 g6 g7 g8 : Int32} {cop carg xc xAd xOp xIn xCe xMk lAd lIn lA lX lSp : Nat → Int32} {bef awa rd wr : Nat → Int64}
theorem pp_hasUnordered {post : Int32 → Prop} {c l : Nat} (hc : 2 * c + 1 < 32) (hl : 2 * l + 1 < 24) (h1 : (∃ j, j < 128 ∧ sp_mem wr c j ∧ ¬ sp_mem bef l j) → post 1) (h0 : (¬ ∃ j, j < 128 ∧ sp_mem wr c j ∧ ¬ sp_mem bef l j) → post 0) : wpX_hasUnordered post (g0, g1, g2, g3, g4, g5, g6, g7, g8, cop, carg, xc, xAd, xOp, xIn, xCe, xMk, lAd, lIn, lA, lX, lSp, bef, awa, rd, wr) (nI c) (nI l) := by
  simp only [wpX_hasUnordered, sp_2s, nI_1, forall_eq]
  rw [nI_clamp (show 2 * c < 2 ^ 31 by omega), nI_clamp (show 2 * c + 1 < 2 ^ 31 by omega), nI_clamp (show 2 * l < 2 ^ 31 by omega), nI_clamp (show 2 * l + 1 < 2 ^ 31 by omega)]
  refine ⟨vp_in_nI (by omega) (by omega), vp_in_nI (by omega) (by omega), vp_in_nI (by omega) (by omega), vp_in_nI (by omega) (by omega), fun z => h0 (fun e => ?_), fun z => h1 (sp_mUn.1 z)⟩
  exact sp_mUn.2 e z
theorem pp_hasUnordered_2 {post : Int32 → Prop} {c l : Nat} (hc : 2 * c + 1 < 32) (hl : 2 * l + 1 < 24) (h1 : (∃ j, j < 128 ∧ sp_mem rd c j ∧ ¬ sp_mem bef l j) → post 1) (h0 : (¬ ∃ j, j < 128 ∧ sp_mem rd c j ∧ ¬ sp_mem bef l j) → post 0) : wpX_hasUnordered_2 post (g0, g1, g2, g3, g4, g5, g6, g7, g8, cop, carg, xc, xAd, xOp, xIn, xCe, xMk, lAd, lIn, lA, lX, lSp, bef, awa, rd, wr) (nI c) (nI l) := by
  simp only [wpX_hasUnordered_2, sp_2s, nI_1, forall_eq]
  rw [nI_clamp (show 2 * c < 2 ^ 31 by omega), nI_clamp (show 2 * c + 1 < 2 ^ 31 by omega), nI_clamp (show 2 * l < 2 ^ 31 by omega), nI_clamp (show 2 * l + 1 < 2 ^ 31 by omega)]
  refine ⟨vp_in_nI (by omega) (by omega), vp_in_nI (by omega) (by omega), vp_in_nI (by omega) (by omega), vp_in_nI (by omega) (by omega), fun z => h0 (fun e => ?_), fun z => h1 (sp_mUn.1 z)⟩
  exact sp_mUn.2 e z
end
end
section
/-! ===== the class's step: recordStep, makeInstance, endInstance ===== -/
section
variable {g0 g1 g2 g3 g4 g5 g6 g7 g8 : Int32} {cop carg xc xAd xOp xIn xCe xMk lAd lIn lA lX lSp : Nat → Int32} {bef awa rd wr : Nat → Int64}
theorem sp_xNote {post : St2 → Prop} {oo e k : Nat} (ho : oo ≤ 11) (he : e < 16) (hk : k < 128)
    (h : ∀ f g, (∀ c j, j < 128 → (sp_mem f c j ↔ (sp_mem rd c j ∨ (¬ oo = 5 ∧ c = e ∧ j = k)))) → (∀ c j, j < 128 → (sp_mem g c j ↔ (sp_mem wr c j ∨ (oo = 5 ∧ c = e ∧ j = k)))) → post (g0, g1, g2, g3, g4, g5, g6, g7, g8, cop, carg, xc, xAd, xOp, xIn, xCe, xMk, lAd, lIn, lA, lX, lSp, bef, awa, f, g)) :
    wpX_noteAccess post (g0, g1, g2, g3, g4, g5, g6, g7, g8, cop, carg, xc, xAd, xOp, xIn, xCe, xMk, lAd, lIn, lA, lX, lSp, bef, awa, rd, wr) (nI oo) (nI e) (nI k) := by
  unfold wpX_noteAccess
  dsimp only
  refine pk_eq oo 5 (fun e5 => ?_) (fun n5 => ?_)
  · refine pp_addStep_2 (by omega) hk (fun f hf => ?_)
    refine h rd f (fun c j hj => ?_) (fun c j hj => ?_)
    · simp only [e5, not_true_eq_false, false_and, or_false]
    · rw [hf c j hj]; simp only [e5, true_and]
  · refine pp_addStep_2 (by omega) hk (fun f hf => ?_)
    refine h f wr (fun c j hj => ?_) (fun c j hj => ?_)
    · rw [hf c j hj]; simp only [n5, ne_eq, not_false_eq_true, true_and]
    · simp only [n5, false_and, or_false]
theorem sp_xMask {post : Int32 → Prop} {oo L e : Nat} (ho : oo ≤ 11) (hL : L < 12) (he : e < 16)
    (h : ∀ a b : Nat, a ≤ 1 → b ≤ 1 → (a = 1 ↔ ∃ j, j < 128 ∧ sp_mem wr e j ∧ ¬ sp_mem bef L j) → (b = 1 ↔ (oo = 5 ∧ ∃ j, j < 128 ∧ sp_mem rd e j ∧ ¬ sp_mem bef L j)) → post (nI (a + 2 * b))) :
    wpX_maskOf post (g0, g1, g2, g3, g4, g5, g6, g7, g8, cop, carg, xc, xAd, xOp, xIn, xCe, xMk, lAd, lIn, lA, lX, lSp, bef, awa, rd, wr) (nI L) (nI oo) (nI e) := by
  have key : ∀ a : Nat, a ≤ 1 → (a = 1 ↔ ∃ j, j < 128 ∧ sp_mem wr e j ∧ ¬ sp_mem bef L j) → wX_maskOf_19 post (nI L) (nI oo) (nI e) (nI a) (g0) (g1) (g2) (g3) (g4) (g5) (g6) (g7) (g8) (cop) (carg) (xc) (xAd) (xOp) (xIn) (xCe) (xMk) (lAd) (lIn) (lA) (lX) (lSp) (bef) (awa) (rd) (wr) := by
    intro a ha hw
    unfold wX_maskOf_19
    refine pk_eq oo 5 (fun e5 => ?_) (fun n5 => ?_)
    · refine pp_hasUnordered_2 (by omega) (by omega) (fun z => ?_) (fun z => ?_)
      · refine br_f (by decide) (nm_r (nI_add a 2) ?_)
        exact h a 1 ha (by omega) hw ⟨fun _ => ⟨e5, z⟩, fun _ => rfl⟩
      · refine br_t rfl ?_
        exact h a 0 ha (by omega) hw ⟨fun w => absurd w (by omega), fun w => absurd w.2 z⟩
    · exact h a 0 ha (by omega) hw ⟨fun w => absurd w (by omega), fun w => absurd w.1 n5⟩
  unfold wpX_maskOf
  dsimp only
  refine pp_hasUnordered (by omega) (by omega) (fun z => ?_) (fun z => ?_)
  · refine br_f (by decide) (nm_r (nI_add 0 1) ?_)
    exact key 1 (by omega) ⟨fun _ => z, fun _ => rfl⟩
  · refine br_t rfl ?_
    exact key 0 (by omega) ⟨fun w => absurd w (by omega), fun w => absurd w z⟩
theorem sp_xRec112 {post : St2 → Prop} {L k : Nat} (hL : L < 12) (hk : k < 128)
    (h : ∀ f, (∀ t j, j < 128 → (sp_mem f t j ↔ (sp_mem bef t j ∨ (t = L ∧ j = k)))) → post (g0, g1, g2, g3, g4, g5, nI (k + 1), g7, g8, cop, carg, xc, xAd, xOp, xIn, xCe, xMk, lAd, lIn, lA, lX, lSp, f, awa, rd, wr)) : wX_recordStep_112 post (nI L) (nI k) (g0) (g1) (g2) (g3) (g4) (g5) (g6) (g7) (g8) (cop) (carg) (xc) (xAd) (xOp) (xIn) (xCe) (xMk) (lAd) (lIn) (lA) (lX) (lSp) (bef) (awa) (rd) (wr) := by
  unfold wX_recordStep_112
  exact pp_addStep (by omega) hk (fun f hf => nm_r (nI_1 k) (h f hf))
theorem sp_xRec36 {post : St2 → Prop} {L oo k ce : Nat} {pv ev : Int32} (ho : oo ≤ 11) (hL : L < 12) (hk : k < 128) (hce : ce ≤ 16) (he : sp_ev ce oo ev)
    (h : ∀ mv f r w, (∀ t j, j < 128 → (sp_mem f t j ↔ (sp_mem bef t j ∨ (t = L ∧ j = k)))) →
      (∀ c, c < 16 → ∀ j, j < 128 → (sp_mem w c j ↔ (sp_mem wr c j ∨ (j = k ∧ ev = nI c ∧ oo = 5)))) → (∀ c, c < 16 → ∀ j, j < 128 → (sp_mem r c j ↔ (sp_mem rd c j ∨ (j = k ∧ ev = nI c ∧ ¬ oo = 5)))) →
      sp_mv oo L bef rd wr ev mv →
      post (g0, g1, g2, g3, g4, g5, nI (k + 1), g7, g8, cop, carg, xc, upd xAd k pv, upd xOp k (nI oo), upd xIn k (lIn L), upd xCe k ev, upd xMk k mv, lAd, lIn, lA, lX, lSp, f, awa, r, w)) :
    wX_recordStep_36 post (nI L) pv (nI oo) ev (nI k) (g0) (g1) (g2) (g3) (g4) (g5) (g6) (g7) (g8) (cop) (carg) (xc) (xAd) (xOp) (xIn) (xCe) (xMk) (lAd) (lIn) (lA) (lX) (lSp) (bef) (awa) (rd) (wr) := by
  have ik : vp_in (nI k) 128 := vp_in_nI hk (by omega)
  have ck : (nI k).toNatClampNeg = k := nI_clamp (by omega)
  have iL : vp_in (nI L) 12 := vp_in_nI hL (by omega)
  have cL : (nI L).toNatClampNeg = L := nI_clamp (by omega)
  unfold wX_recordStep_36
  rw [ck, cL]
  refine ⟨ik, nm_e ⟨ik, nm_e ⟨iL, ik, nm_e ⟨ik, nm_e ⟨ik, nm_e ?_⟩⟩⟩⟩⟩
  rcases he with ⟨ha, e, he1, he2⟩ | ⟨ha, he2⟩
  · have hne : ¬ ev = -1 := by rw [he2]; exact fun z => sp_m1n (by omega) z.symm
    refine br_f hne ?_
    rw [he2]
    refine sp_xMask ho hL (by omega) (fun a b a1 b1 ha' hb' => ?_)
    refine ⟨ik, nm_e ?_⟩
    refine sp_xNote ho (by omega) hk (fun r w hr hw => ?_)
    refine sp_xRec112 hL hk (fun f hf => ?_)
    have hu : upd (upd xMk k 0) k (nI (a + 2 * b)) = upd xMk k (nI (a + 2 * b)) := by
      funext t
      by_cases e : t = k
      · rw [e, pk_us, pk_us]
      · rw [pk_un e, pk_un e, pk_un e]
    rw [hu, ← he2]
    refine h (nI (a + 2 * b)) f r w hf ?_ ?_ ?_
    · intro c hc j hj
      rw [hw c j hj, he2, nI_eq (by omega) (by omega)]
      constructor
      · rintro (z | ⟨z1, z2, z3⟩)
        · exact Or.inl z
        · exact Or.inr ⟨z3, z2.symm, z1⟩
      · rintro (z | ⟨z1, z2, z3⟩)
        · exact Or.inl z
        · exact Or.inr ⟨z3, z2.symm, z1⟩
    · intro c hc j hj
      rw [hr c j hj, he2, nI_eq (by omega) (by omega)]
      constructor
      · rintro (z | ⟨z1, z2, z3⟩)
        · exact Or.inl z
        · exact Or.inr ⟨z3, z2.symm, z1⟩
      · rintro (z | ⟨z1, z2, z3⟩)
        · exact Or.inl z
        · exact Or.inr ⟨z3, z2.symm, z1⟩
    · refine ⟨fun z => absurd z hne, fun c hc z => ?_⟩
      rw [he2, nI_eq (by omega) (by omega)] at z
      rw [← z]
      exact ⟨a, b, a1, b1, rfl, ha', hb'⟩
  · refine br_t he2 ?_
    refine sp_xRec112 hL hk (fun f hf => ?_)
    refine h 0 f rd wr hf ?_ ?_ ?_
    · intro c hc j hj
      have z : ¬ ev = nI c := by rw [he2]; exact sp_m1n (by omega)
      simp only [z, false_and, and_false, or_false]
    · intro c hc j hj
      have z : ¬ ev = nI c := by rw [he2]; exact sp_m1n (by omega)
      simp only [z, false_and, and_false, or_false]
    · refine ⟨fun _ => rfl, fun c hc z => ?_⟩
      rw [he2] at z
      exact absurd z (sp_m1n (by omega))
theorem sp_xRec {post : St2 → Prop} {L oo k ce : Nat} {pv ev : Int32} (ho : oo ≤ 11) (hL : L < 12) (hk : k < 128) (hce : ce ≤ 16) (he : sp_ev ce oo ev)
    (h : ∀ mv f a r w, sp_rec oo L k ev mv bef awa rd wr f a r w →
      post (g0, g1, g2, g3, g4, g5, nI (k + 1), g7, g8, cop, carg, xc, upd xAd k pv, upd xOp k (nI oo), upd xIn k (lIn L), upd xCe k ev, upd xMk k mv, lAd, lIn, lA, lX, lSp, f, a, r, w)) :
    wpX_recordStep post (g0, g1, g2, g3, g4, g5, nI k, g7, g8, cop, carg, xc, xAd, xOp, xIn, xCe, xMk, lAd, lIn, lA, lX, lSp, bef, awa, rd, wr) (nI L) pv (nI oo) ev := by
  have hjoin : (oo = 1 ∨ oo = 0) → wX_recordStep_15 post (nI L) pv (nI oo) ev (nI k) (g0) (g1) (g2) (g3) (g4) (g5) (nI k) (g7) (g8) (cop) (carg) (xc) (xAd) (xOp) (xIn) (xCe) (xMk) (lAd) (lIn) (lA) (lX) (lSp) (bef) (awa) (rd) (wr) := by
    intro hj
    unfold wX_recordStep_15
    refine pp_addSet_2 (by omega) (by omega) (fun f1 hf1 => ?_)
    refine pp_clearSet (by omega) (fun a ha => ?_)
    refine sp_xRec36 ho hL hk hce he (fun mv f r w hf hw hr hm => h mv f a r w ⟨?_, ?_, hw, hr, ?_⟩)
    · intro t j hj'
      rw [hf t j hj', hf1 t j hj']
      constructor
      · rintro ((z | z) | z)
        · exact Or.inl z
        · exact Or.inr ⟨z.1, Or.inl ⟨hj, z.2⟩⟩
        · exact Or.inr ⟨z.1, Or.inr z.2⟩
      · rintro (z | ⟨z, (y | y)⟩)
        · exact Or.inl (Or.inl z)
        · exact Or.inl (Or.inr ⟨z, y.2⟩)
        · exact Or.inr ⟨z, y⟩
    · intro t j hj'
      rw [ha t j hj']
      simp only [hj, and_true]
    · refine ⟨hm.1, fun e he1 z => ?_⟩
      exfalso
      rcases he with ⟨y, _⟩ | ⟨_, y⟩
      · rcases y with y | y | y <;> omega
      · rw [y] at z
        exact sp_m1n (by omega) z
  unfold wpX_recordStep
  dsimp only
  refine pk_eq oo 1 (fun e1 => hjoin (Or.inl e1)) (fun n1 => pk_eq oo 0 (fun e0 => hjoin (Or.inr e0)) (fun n0 => ?_))
  have hj : ¬ (oo = 1 ∨ oo = 0) := by omega
  refine sp_xRec36 ho hL hk hce he (fun mv f r w hf hw hr hm => h mv f awa r w ⟨?_, ?_, hw, hr, hm⟩)
  · intro t j hj'
    rw [hf t j hj']
    simp only [hj, false_and, false_or]
  · intro t j hj'
    simp only [hj, and_false, not_false_eq_true, and_true]
theorem sp_xMake90 {post : St2 → Prop} {d i : Nat} (h : post (g0, g1, g2, g3, g4, g5, g6, nI (d + 1), nI (i + 1), cop, carg, xc, xAd, xOp, xIn, xCe, xMk, lAd, lIn, lA, lX, lSp, bef, awa, rd, wr)) : wX_makeInstance_90 post (nI d) (g0) (g1) (g2) (g3) (g4) (g5) (g6) (g7) (nI i) (cop) (carg) (xc) (xAd) (xOp) (xIn) (xCe) (xMk) (lAd) (lIn) (lA) (lX) (lSp) (bef) (awa) (rd) (wr) := by
  unfold wX_makeInstance_90
  exact nm_r (nI_1 d) (nm_r (nI_1 i) h)
theorem sp_xMake {post : St2 → Prop} {d i : Nat} {p0 p1 p2 p3 : Int32} (hd : d < 12)
    (h : ∀ f g, (∀ t j, j < 128 → (sp_mem f t j ↔ ((sp_mem bef t j ∧ ¬ t = d) ∨ (0 < d ∧ t = d ∧ sp_mem bef (d - 1) j)))) → (∀ t j, j < 128 → (sp_mem g t j ↔ (sp_mem awa t j ∧ ¬ t = d))) →
      post (g0, g1, g2, g3, g4, g5, g6, nI (d + 1), nI (i + 1), cop, carg, xc, xAd, xOp, xIn, xCe, xMk, upd lAd d p0, upd lIn d (nI i), upd lA d p1, upd lX d p2, upd lSp d p3, f, g, rd, wr)) :
    wpX_makeInstance post (g0, g1, g2, g3, g4, g5, g6, nI d, nI i, cop, carg, xc, xAd, xOp, xIn, xCe, xMk, lAd, lIn, lA, lX, lSp, bef, awa, rd, wr) p0 p1 p2 p3 := by
  have iD : vp_in (nI d) 12 := vp_in_nI hd (by omega)
  have cD : (nI d).toNatClampNeg = d := nI_clamp (by omega)
  unfold wpX_makeInstance
  dsimp only
  rw [cD]
  refine ⟨iD, nm_e ⟨iD, nm_e ⟨iD, nm_e ⟨iD, nm_e ⟨iD, nm_e ?_⟩⟩⟩⟩⟩
  refine pp_clearSet (by omega) (fun f hf => ?_)
  refine pp_clearSet (by omega) (fun g hg => ?_)
  by_cases h0 : d = 0
  · have z : nI d ≤ 0 := by rw [h0]; decide
    refine br_t z (sp_xMake90 (h f g (fun t j hj => ?_) hg))
    rw [hf t j hj]
    have z2 : ¬ 0 < d := by omega
    simp only [z2, false_and, or_false]
  · have z : ¬ nI d ≤ 0 := nI_nle (by omega) (by omega)
    have e1 : nI d - 1 = nI (d - 1) := pk_sub (b := 1) (by omega)
    refine br_f z ?_
    rw [e1]
    refine pp_addSet (by omega) (by omega) (fun f2 hf2 => sp_xMake90 (h f2 g (fun t j hj => ?_) hg))
    rw [hf2 t j hj, hf t j hj, hf (d - 1) j hj]
    have z2 : 0 < d := by omega
    have z3 : ¬ d - 1 = d := by omega
    simp only [z2, z3, true_and, not_false_eq_true, and_true]
theorem sp_xEnd0 {post : St2 → Prop} (h : post (g0, g1, g2, g3, g4, 2, g6, nI 0, g8, cop, carg, xc, xAd, xOp, xIn, xCe, xMk, lAd, lIn, lA, lX, lSp, bef, awa, rd, wr)) : wpX_endInstance post (g0, g1, g2, g3, g4, g5, g6, g7, g8, cop, carg, xc, xAd, xOp, xIn, xCe, xMk, lAd, lIn, lA, lX, lSp, bef, awa, rd, wr) (nI 0) := by
  unfold wpX_endInstance
  dsimp only
  exact br_t rfl h
theorem sp_xEnd {post : St2 → Prop} {p : Nat} (hp : p + 1 < 12)
    (hs : lSp (p + 1) = 1 → ∀ f, (∀ t j, j < 128 → (sp_mem f t j ↔ (sp_mem awa t j ∨ (t = p ∧ sp_mem bef (p + 1) j)))) → post (g0, g1, g2, g3, g4, g5, g6, nI (p + 1), g8, cop, carg, xc, xAd, xOp, xIn, xCe, xMk, lAd, lIn, lA, lX, lSp, bef, f, rd, wr))
    (hc : ¬ lSp (p + 1) = 1 → ∀ f, (∀ t j, j < 128 → (sp_mem f t j ↔ (sp_mem bef t j ∨ (t = p ∧ sp_mem bef (p + 1) j)))) → post (g0, g1, g2, g3, g4, g5, g6, nI (p + 1), g8, cop, carg, xc, xAd, xOp, xIn, xCe, xMk, lAd, lIn, upd lA p (lA (p + 1)), lX, lSp, f, awa, rd, wr)) :
    wpX_endInstance post (g0, g1, g2, g3, g4, g5, g6, g7, g8, cop, carg, xc, xAd, xOp, xIn, xCe, xMk, lAd, lIn, lA, lX, lSp, bef, awa, rd, wr) (nI (p + 1)) := by
  have iP : vp_in (nI (p + 1)) 12 := vp_in_nI hp (by omega)
  have iQ : vp_in (nI p) 12 := vp_in_nI (by omega) (by omega)
  have cP : (nI (p + 1)).toNatClampNeg = p + 1 := nI_clamp (by omega)
  have cQ : (nI p).toNatClampNeg = p := nI_clamp (by omega)
  unfold wpX_endInstance
  dsimp only
  refine br_f (nI_ne0 (by omega) (by omega)) (nm_r (nI_pred p) ⟨iP, ?_⟩)
  rw [cP, cQ]
  refine br_c (fun e => ?_) (fun e => ⟨iP, iQ, nm_e ?_⟩)
  · exact pp_addSet_2 (by omega) (by omega) (fun f hf => hs e f hf)
  · exact pp_addSet (by omega) (by omega) (fun f hf => hc e f hf)
end
end
section
/-! ===== small methods of the class ===== -/
theorem sp_m1lt {j : Nat} (h : j < 2 ^ 31) : (-1 : Int32) < nI j := by
  rw [Int32.lt_iff_toInt_lt, nI_toInt h]
  have e : (-1 : Int32).toInt = -1 := by decide
  rw [e]; omega
theorem sp_xWithin {post : Int32 → Prop} (v : Int32) {n : Nat} {hi : Int32} (hn : n < 2 ^ 31) (hhi : hi = nI n - 1) (h1 : ∀ j, j < n → v = nI j → post 1) (h0 : (v < 0 ∨ nI n ≤ v) → post 0) : wpX_isWithin post () v 0 hi := by
  unfold wpX_isWithin
  by_cases hv : v < 0
  · exact br_t hv (h0 (Or.inl hv))
  · refine br_f hv ?_
    obtain ⟨j, hj, rfl⟩ := nI_of hv
    by_cases hjn : j < n
    · have e : hi = nI (n - 1) := by
        rw [hhi]; exact pk_sub (b := 1) (by omega)
      rw [e]
      exact br_f (nI_nlt (by omega) (by omega)) (h1 j hjn rfl)
    · have z : hi < nI j := by
        rw [hhi]
        by_cases n0 : n = 0
        · rw [n0]
          exact sp_m1lt hj
        · have e : nI n - 1 = nI (n - 1) := pk_sub (b := 1) (by omega)
          rw [e]
          exact nI_lt (by omega) (by omega)
      exact br_t z (h0 (Or.inr (nI_le (by omega) (by omega))))
section
variable {g0 g1 g2 g3 g4 g5 g6 g7 g8 : Int32} {cop carg xc xAd xOp xIn xCe xMk lAd lIn lA lX lSp : Nat → Int32} {bef awa rd wr : Nat → Int64}
theorem sp_xCell {post : Int32 → Prop} {ce : Nat} (v : Int32) (hn : ce < 2 ^ 31) (h1 : ∀ j, j < ce → v = nI j → post 1) (h0 : (v < 0 ∨ nI ce ≤ v) → post 0) : wpX_isCell post (g0, nI ce, g2, g3, g4, g5, g6, g7, g8, cop, carg, xc, xAd, xOp, xIn, xCe, xMk, lAd, lIn, lA, lX, lSp, bef, awa, rd, wr) v := by
  unfold wpX_isCell
  dsimp only
  exact sp_xWithin v hn rfl (fun j hj e => ⟨rfl, h1 j hj e⟩) (fun z => ⟨rfl, h0 z⟩)
theorem sp_xIsStep {post : Int32 → Prop} {cnt : Nat} (v : Int32) (hn : cnt < 2 ^ 31) (h1 : ∀ j, j < cnt → v = nI j → post 1) (h0 : (v < 0 ∨ nI cnt ≤ v) → post 0) : wpX_isStep post (g0, g1, g2, g3, g4, g5, nI cnt, g7, g8, cop, carg, xc, xAd, xOp, xIn, xCe, xMk, lAd, lIn, lA, lX, lSp, bef, awa, rd, wr) v := by
  unfold wpX_isStep
  dsimp only
  exact sp_xWithin v hn rfl (fun j hj e => ⟨rfl, h1 j hj e⟩) (fun z => ⟨rfl, h0 z⟩)
end
theorem sp_ngt {v : Int32} {n : Nat} (h : n < 2 ^ 31) (z : nI n ≤ v) : ¬ v < 0 := by
  intro w
  have h1 := Int32.le_iff_toInt_le.mp z
  have h2 := Int32.lt_iff_toInt_lt.mp w
  rw [nI_toInt h] at h1
  have e : (0 : Int32).toInt = 0 := by decide
  rw [e] at h2
  omega
theorem sp_nlt {v w : Int32} (z : w ≤ v) : ¬ v < w := Int32.not_lt.mpr z
theorem sp_nle {v w : Int32} (z : w < v) : ¬ v ≤ w := Int32.not_le.mpr z
end
section
/-! ===== the constructors, emit, poke, start, reset ===== -/
def sp_cl (v : Int32) (lo hi c : Nat) : Prop := (¬ nI lo ≤ v ∧ c = lo) ∨ (nI lo ≤ v ∧ ¬ v ≤ nI hi ∧ c = hi) ∨ (nI lo ≤ v ∧ v ≤ nI hi ∧ v = nI c)
theorem sp_clEx (v : Int32) {lo hi : Nat} (h : lo ≤ hi) (hh : hi < 2 ^ 31) : ∃ c, lo ≤ c ∧ c ≤ hi ∧ sp_cl v lo hi c := by
  by_cases h1 : nI lo ≤ v
  · by_cases h2 : v ≤ nI hi
    · obtain ⟨c, hc, e⟩ := nI_of (x := v) (sp_ngt (by omega) h1)
      rw [e, nI_leI (by omega) hc] at h1
      rw [e, nI_leI hc hh] at h2
      exact ⟨c, h1, h2, Or.inr (Or.inr ⟨by rw [e]; exact nI_le h1 hc, by rw [e]; exact nI_le h2 hh, e⟩)⟩
    · exact ⟨hi, h, Nat.le_refl _, Or.inr (Or.inl ⟨h1, h2, rfl⟩)⟩
  · exact ⟨lo, Nat.le_refl _, h, Or.inl ⟨h1, rfl⟩⟩
theorem sp_yClamp {v : Int32} {lo hi c : Nat} (hc : sp_cl v lo hi c) {W1 W2 W3 : Prop} (h1 : v = nI c → W1) (h2 : c = hi → W2) (h3 : c = lo → W3) : (nI lo ≤ v → ((v ≤ nI hi → W1) ∧ (¬ v ≤ nI hi → W2))) ∧ (¬ nI lo ≤ v → W3) := by
  rcases hc with ⟨a, b⟩ | ⟨a, b, d⟩ | ⟨a, b, d⟩
  · exact br_f a (h3 b)
  · exact br_t a (br_f b (h2 d))
  · exact br_t a (br_t b (h1 d))
theorem sp_xClamp {post : Int32 → Prop} {v : Int32} {lo hi c : Nat} (hc : sp_cl v lo hi c) (h : post (nI c)) : wpX_clamp post () v (nI lo) (nI hi) := by
  unfold wpX_clamp
  exact sp_yClamp hc (fun e => by rw [e]; exact h) (fun e => by rw [← e]; exact h) (fun e => by rw [← e]; exact h)
theorem sp_L0 {o n m st q : Nat → Nat} {k md : Nat} {B A : Nat → Nat → Prop} : sp_L o n m k 0 md st q B A :=
  ⟨fun h => by omega, fun _ _ _ h => by omega, fun _ h => by omega, fun _ h => by omega, fun _ h => by omega, fun _ h => by omega, fun _ _ h => by omega, fun _ _ h => by omega, fun _ h => by omega, fun _ h => by omega⟩
theorem sp_H0 {o n m : Nat → Nat} : sp_H o n m 0 0 := ⟨fun _ h => by omega, fun _ h => by omega, fun _ _ h => by omega⟩
section
variable {cc ce dc ic len s cnt dep md : Nat} {o n m st q ad : Nat → Nat} {cop carg xc xAd xOp xIn xCe xMk lAd lIn lA lX lSp yc stk nxt acc idx mkr yAd yOp yIn yCe lds : Nat → Int32} {bef awa rd wr : Nat → Int64}
/-- no run, status EDIT -/
theorem sp_Q0 (h1 : 8 ≤ cc) (h2 : cc ≤ 48) (h3 : 2 ≤ ce) (h4 : ce ≤ 16) (h5 : 2 ≤ dc) (h6 : dc ≤ 12) (h7 : 2 ≤ ic) (h8 : ic ≤ 32) (h9 : len ≤ cc) (hC : sp_C len cop carg) (hc : sp_eq ce xc yc)
    (hr : ∀ c, c < 16 → ∀ j, j < 128 → ¬ sp_mem wr c j ∧ ¬ sp_mem rd c j) (h01 : sp_01 lds) : sp_Q cc ce dc ic len (0) (0) (0) (0) o n m st q ad cop carg xc xAd xOp xIn xCe xMk lAd lIn lA lX lSp bef awa rd wr yc stk nxt acc idx mkr yAd yOp yIn yCe lds := by
  refine ⟨by unfold sp_K; omega, hC, hc, fun t ht => by omega, fun t ht => by omega, fun t ht => by omega, fun t ht => by omega, fun t ht => by omega, fun t ht => by omega, fun t ht => by omega, fun l hl => by omega, fun i _ hi => by omega, ?_, fun t ht => by omega, h01, sp_H0, sp_L0⟩
  intro c hc' j hj
  obtain ⟨a, b⟩ := hr c hc' j hj
  exact ⟨⟨fun z => absurd z a, fun z => by omega⟩, ⟨fun z => absurd z b, fun z => by omega⟩⟩
end
theorem sp_xTarget {post : Int32 → Prop} {a : Nat} (ha : a < 12) (h1 : (a = 2 ∨ a = 3 ∨ a = 10 ∨ a = 11) → post 1) (h0 : ¬ (a = 2 ∨ a = 3 ∨ a = 10 ∨ a = 11) → post 0) : wpX_takesTarget post () (nI a) := by
  unfold wpX_takesTarget wpX_makesInstance
  refine pk_eq a 2 (fun e => br_f (by decide) (h1 (by omega))) (fun n2 => pk_eq a 3 (fun e => br_f (by decide) (h1 (by omega))) (fun n3 => br_t rfl (pk_eq a 10 (fun e => h1 (by omega)) (fun n10 => pk_eq a 11 (fun e => h1 (by omega)) (fun n11 => h0 (by omega))))))
theorem pp_init {CE : Nat} {post : St2 → Prop} {mc ms : Nat} (h1 : 17 ≤ mc) (h2 : 924 ≤ ms) (hc2 : 2 ≤ CE) (hc16 : CE ≤ 16) (k0 k2 k3 : Int32) (hp : ∀ u, pp_R CE u → post u) : wpX_init post mc ms (0, 0, 0, 0, 0, 0, 0, 0, 0) k0 (nI CE) k2 k3 := by
  obtain ⟨c0, a0, b0, e0⟩ := sp_clEx k0 (lo := 8) (hi := 48) (by omega) (by omega)
  obtain ⟨c2, a2, b2, e2⟩ := sp_clEx k2 (lo := 2) (hi := 12) (by omega) (by omega)
  obtain ⟨c3, a3, b3, e3⟩ := sp_clEx k3 (lo := 2) (hi := 32) (by omega) (by omega)
  have e1 : sp_cl (nI CE) 2 16 CE := Or.inr (Or.inr ⟨nI_le (by omega) (by omega), nI_le (by omega) (by omega), rfl⟩)
  have hQ := sp_Q0 (cc := c0) (ce := CE) (dc := c2) (ic := c3) (len := 0) (o := fun _ => 0) (n := fun _ => 0) (m := fun _ => 0) (st := fun _ => 0) (q := fun _ => 0) (ad := fun _ => 0) (cop := fun _ => 0) (carg := fun _ => 0) (xc := fun _ => 0) (yc := fun _ => 0)
    (xAd := fun _ => 0) (xOp := fun _ => 0) (xIn := fun _ => 0) (xCe := fun _ => 0) (xMk := fun _ => 0) (lAd := fun _ => 0) (lIn := fun _ => 0) (lA := fun _ => 0) (lX := fun _ => 0) (lSp := fun _ => 0) (bef := fun _ => 0) (awa := fun _ => 0) (rd := fun _ => 0) (wr := fun _ => 0)
    (stk := fun _ => 0) (nxt := fun _ => 0) (acc := fun _ => 0) (idx := fun _ => 0) (mkr := fun _ => 0) (yAd := fun _ => 0) (yOp := fun _ => 0) (yIn := fun _ => 0) (yCe := fun _ => 0) (lds := fun _ => 0)
    a0 b0 hc2 hc16 a2 b2 a3 b3 (by omega) (fun p hp => by omega) (fun _ _ => rfl) (fun c _ j _ => ⟨sp_b0 _, sp_b0 _⟩) (fun _ => Or.inl rfl)
  have hR := hp _ (pp_mk hQ (sp_d0 0 (by omega)))
  unfold wpX_init
  dsimp only
  refine ⟨by omega, by omega, by omega, by omega, by omega, by omega, by omega, by omega, by omega, by omega, by omega, by omega, by omega, by omega, by omega, by omega, by omega, by omega, by omega, by omega, by omega, by omega, by omega, by omega, by omega, by omega, by omega, by omega, by omega, by omega, by omega, by omega, by omega, by omega, ?_⟩
  exact sp_xClamp (lo := 8) (hi := 48) e0 (sp_xClamp (lo := 2) (hi := 16) e1 (sp_xClamp (lo := 2) (hi := 12) e2 (sp_xClamp (lo := 2) (hi := 32) e3 hR)))
theorem pp_emit {CE : Nat} {u : St2} {post : Int32 → St2 → Prop} (I : pp_R CE u) (v1 v2 : Int32) (hp : ∀ r u', pp_R CE u' → post r u') : wpX_emit post u v1 v2 := by
  have J := I
  obtain ⟨cc, ce, dc, ic, len, s, cnt, dep, md, o, n, m, st, q, ad, cop, carg, xc, xAd, xOp, xIn, xCe, xMk, lAd, lIn, lA, lX, lSp, bef, awa, rd, wr, yc, stk, nxt, acc, idx, mkr, yAd, yOp, yIn, yCe, lds, rfl, rfl, hQ, hD⟩ := I
  have hQ2 := hQ
  obtain ⟨hK, hC, hc0, hAd, hxO, hyO, hxI, hyI, hCe, hS, hV, hMr, hRW, hMk, h01, H, IL⟩ := hQ2
  unfold sp_K at hK
  unfold wpX_emit
  dsimp only
  by_cases s0 : s = 0
  · have z0 : nI s = 0 := by rw [s0]; rfl
    refine br_t z0 (sp_xWithin v1 (n := 12) (by omega) (by decide) (fun a ha e => br_f (by decide) ?_) (fun z => br_t rfl (hp _ _ J)))
    subst e
    have hK' : ¬ len = cc → sp_K cc ce dc ic (len + 1) s cnt dep md := fun ne => by unfold sp_K; omega
    have fin : ((a = 2 ∨ a = 3 ∨ a = 10 ∨ a = 11) → ∃ b : Nat, b < 48 ∧ v2 = nI b) → wX_emit_42 post (nI a) v2 (nI cc) (nI ce) (nI dc) (nI ic) (nI len) (nI s) (nI cnt) (nI dep) (nI md) (cop) (carg) (xc) (xAd) (xOp) (xIn) (xCe) (xMk) (lAd) (lIn) (lA) (lX) (lSp) (bef) (awa) (rd) (wr) := by
      intro hT
      unfold wX_emit_42
      refine pk_eq len cc (fun e => hp _ _ J) (fun ne => ?_)
      have il : vp_in (nI len) 48 := vp_in_nI (by omega) (by omega)
      have cl : (nI len).toNatClampNeg = len := nI_clamp (by omega)
      rw [cl]
      refine ⟨il, nm_e ⟨il, nm_e (nm_r (nI_1 len) (hp _ _ (pp_mk ⟨hK' ne, ?_, hc0, hAd, hxO, hyO, hxI, hyI, hCe, hS, hV, hMr, hRW, hMk, h01, H, IL⟩ hD)))⟩⟩
      intro p hp'
      by_cases e : p = len
      · rw [e, pk_us, pk_us]
        exact ⟨a, by omega, rfl, hT⟩
      · rw [pk_un e, pk_un e]
        exact hC p (by omega)
    refine sp_xTarget ha (fun ht => br_f (by decide) ?_) (fun ht => br_t rfl (fin (fun w => absurd w ht)))
    refine sp_xWithin v2 (n := cc) (by omega) rfl (fun b hb e => br_f (by decide) ?_) (fun z => br_t rfl (hp _ _ J))
    subst e
    exact fin (fun _ => ⟨b, by omega, rfl⟩)
  · exact br_f (nI_ne0 (by omega) (by omega)) (hp _ _ J)
theorem pp_poke {CE : Nat} {u : St2} {post : Int32 → St2 → Prop} (I : pp_R CE u) (v1 v2 : Int32) (hp : ∀ r u', pp_R CE u' → post r u') : wpX_poke post u v1 v2 := by
  have J := I
  obtain ⟨cc, ce, dc, ic, len, s, cnt, dep, md, o, n, m, st, q, ad, cop, carg, xc, xAd, xOp, xIn, xCe, xMk, lAd, lIn, lA, lX, lSp, bef, awa, rd, wr, yc, stk, nxt, acc, idx, mkr, yAd, yOp, yIn, yCe, lds, rfl, rfl, hQ, hD⟩ := I
  obtain ⟨hK, hC, hc0, hAd, hxO, hyO, hxI, hyI, hCe, hS, hV, hMr, hRW, hMk, h01, H, IL⟩ := hQ
  have hK2 := hK
  unfold sp_K at hK
  unfold wpX_poke
  dsimp only
  by_cases s0 : s = 0
  · have z0 : nI s = 0 := by rw [s0]; rfl
    refine br_t z0 (sp_xCell v1 (by omega) (fun j hj e => br_f (by decide) ?_) (fun z => br_t rfl (hp _ _ J)))
    subst e
    have ij : vp_in (nI j) 16 := vp_in_nI (by omega) (by omega)
    have cj : (nI j).toNatClampNeg = j := nI_clamp (by omega)
    rw [cj]
    refine ⟨ij, nm_e (hp _ _ (pp_mk (yc := upd xc j v2) ⟨hK2, hC, fun _ _ => rfl, hAd, hxO, hyO, hxI, hyI, hCe, hS, hV, hMr, hRW, hMk, h01, H, IL⟩ hD))⟩
  · exact br_f (nI_ne0 (by omega) (by omega)) (hp _ _ J)
theorem pp_start {CE : Nat} {u : St2} {post : Int32 → St2 → Prop} (I : pp_R CE u) (hp : ∀ r u', pp_R CE u' → post r u') : wpX_start post u := by
  have J := I
  obtain ⟨cc, ce, dc, ic, len, s, cnt, dep, md, o, n, m, st, q, ad, cop, carg, xc, xAd, xOp, xIn, xCe, xMk, lAd, lIn, lA, lX, lSp, bef, awa, rd, wr, yc, stk, nxt, acc, idx, mkr, yAd, yOp, yIn, yCe, lds, rfl, rfl, hQ, hD⟩ := I
  obtain ⟨hK, hC, hc0, hAd, hxO, hyO, hxI, hyI, hCe, hS, hV, hMr, hRW, hMk, h01, H, IL⟩ := hQ
  unfold sp_K at hK
  unfold wpX_start
  dsimp only
  by_cases s0 : s = 0
  · have z0 : nI s = 0 := by rw [s0]; rfl
    obtain ⟨rfl, rfl, rfl⟩ : cnt = 0 ∧ dep = 0 ∧ md = 0 := by omega
    refine br_t z0 (sp_xMake (by omega) (fun f g hf hg => hp _ _ ?_))
    have hT := sp_t0 (o := o) (n := n) (m := m) (q := q) (B' := sp_mem f) (A' := sp_mem g)
      (fun j hj w => by
        rcases (hf 0 j hj).1 w with y | y
        · exact y.2 rfl
        · omega)
      (fun j hj w => ((hg 0 j hj).1 w).2 rfl)
    refine pp_mk (s := 1) (cnt := 0) (dep := 1) (md := 1) (st := fun _ => 0) (ad := fun _ => 0) (stk := fun _ => 0) (nxt := fun _ => 0) (acc := fun _ => 0) (idx := fun _ => 0) (mkr := mkr) ⟨by unfold sp_K; omega, hC, hc0, hAd, hxO, hyO, hxI, hyI, hCe, hS, ?_, fun i i0 hi => by omega, hRW, hMk, h01, hT.1, hT.2⟩ (sp_d0 1 (by omega))
    intro l hl
    obtain rfl : l = 0 := by omega
    exact ⟨rfl, rfl, Nat.zero_le _, rfl, rfl, rfl, rfl, fun _ => rfl, fun w => by omega, fun w => by omega⟩
  · exact br_f (nI_ne0 (by omega) (by omega)) (hp _ _ J)
section
variable {g0 g1 g2 g3 g4 g5 g6 g7 g8 : Int32} {cop carg xc xAd xOp xIn xCe xMk lAd lIn lA lX lSp : Nat → Int32} {bef awa rd wr : Nat → Int64}
theorem sp_xForget17 {post : St2 → Prop} (h : ∀ r w, (∀ c, c < 16 → ∀ j, j < 128 → ¬ sp_mem w c j ∧ ¬ sp_mem r c j) → post (g0, g1, g2, g3, g4, g5, g6, g7, g8, cop, carg, xc, xAd, xOp, xIn, xCe, xMk, lAd, lIn, lA, lX, lSp, bef, awa, r, w)) :
    ∀ d c, c + d = 16 → ∀ r w, (∀ t, t < c → ∀ j, j < 128 → ¬ sp_mem w t j ∧ ¬ sp_mem r t j) → wX_forgetRun_17 post (d + 1) (nI c) (g0) (g1) (g2) (g3) (g4) (g5) (g6) (g7) (g8) (cop) (carg) (xc) (xAd) (xOp) (xIn) (xCe) (xMk) (lAd) (lIn) (lA) (lX) (lSp) (bef) (awa) (r) (w) := by
  intro d
  induction d with
  | zero =>
    intro c hc r w hrw
    unfold wX_forgetRun_17
    exact br_t (nI_le (a := 16) (by omega) (by omega)) (h r w (fun t ht => hrw t (by omega)))
  | succ d ih =>
    intro c hc r w hrw
    unfold wX_forgetRun_17
    refine br_f (nI_ge (b := 16) (by omega) (by omega)) (pp_clearSet_2 (by omega) (fun r2 hr2 => pp_clearSet_2 (by omega) (fun w2 hw2 => nm_r (nI_1 c) ?_)))
    refine ih (c + 1) (by omega) r2 w2 (fun t ht j hj => ?_)
    rw [hr2 t j hj, hw2 t j hj]
    by_cases e : t = c
    · exact ⟨fun z => z.2 e, fun z => z.2 e⟩
    · have := hrw t (by omega) j hj
      exact ⟨fun z => this.1 z.1, fun z => this.2 z.1⟩
theorem sp_xReset6 {post : St2 → Prop} (h : ∀ f : Nat → Int32, (∀ c, c < 16 → f c = 0) → post (g0, g1, g2, g3, g4, 0, g6, g7, g8, cop, carg, f, xAd, xOp, xIn, xCe, xMk, lAd, lIn, lA, lX, lSp, bef, awa, rd, wr)) :
    ∀ d c, c + d = 16 → ∀ f : Nat → Int32, (∀ t, t < c → f t = 0) → wX_reset_6 post g0 g1 g2 g3 g4 g5 g6 g7 g8 (d + 1) (nI c) cop carg f xAd xOp xIn xCe xMk lAd lIn lA lX lSp bef awa rd wr := by
  intro d
  induction d with
  | zero =>
    intro c hc f hf
    unfold wX_reset_6
    exact br_t (nI_le (a := 16) (by omega) (by omega)) (h f (fun t ht => hf t (by omega)))
  | succ d ih =>
    intro c hc f hf
    have ic : vp_in (nI c) 16 := vp_in_nI (by omega) (by omega)
    have cc' : (nI c).toNatClampNeg = c := nI_clamp (by omega)
    unfold wX_reset_6
    rw [cc']
    refine br_f (nI_ge (b := 16) (by omega) (by omega)) ⟨ic, nm_e (nm_r (nI_1 c) (ih (c + 1) (by omega) _ (fun t ht => ?_)))⟩
    by_cases e : t = c
    · rw [e, pk_us]
    · rw [pk_un e]; exact hf t (by omega)
end
theorem pp_reset {CE : Nat} {u : St2} {post : St2 → Prop} (I : pp_R CE u) (hp : ∀ u', pp_R CE u' → post u') : wpX_reset post u := by
  obtain ⟨cc, ce, dc, ic, len, s, cnt, dep, md, o, n, m, st, q, ad, cop, carg, xc, xAd, xOp, xIn, xCe, xMk, lAd, lIn, lA, lX, lSp, bef, awa, rd, wr, yc, stk, nxt, acc, idx, mkr, yAd, yOp, yIn, yCe, lds, rfl, rfl, hQ, hD⟩ := I
  obtain ⟨hK, hC, hc0, hAd, hxO, hyO, hxI, hyI, hCe, hS, hV, hMr, hRW, hMk, h01, H, IL⟩ := hQ
  unfold sp_K at hK
  unfold wpX_reset wpX_forgetRun
  dsimp only
  refine ⟨17, sp_xForget17 (fun r w hrw => ⟨17, sp_xReset6 (fun f hf => hp _ ?_) 16 0 (by omega) xc (fun t ht => by omega)⟩) 16 0 (by omega) rd wr (fun t ht => by omega)⟩
  exact pp_mk (s := 0) (cnt := 0) (dep := 0) (md := 0) (sp_Q0 (o := o) (n := n) (m := m) (st := fun _ => 0) (q := q) (ad := ad) (yc := f) (stk := stk) (nxt := nxt) (acc := acc) (idx := idx) (mkr := mkr) (yAd := yAd) (yOp := yOp) (yIn := yIn) (yCe := yCe) (by omega) (by omega) (by omega) (by omega) (by omega) (by omega) (by omega) (by omega) (by omega) hC (fun _ _ => rfl) hrw h01) (sp_d0 0 (by omega))
end
section
/-! ===== execute, on both sides, an opcode each ===== -/
section
variable {g0 g1 g2 g3 g4 g5 g6 g7 g8 : Int32} {cop carg xc xAd xOp xIn xCe xMk lAd lIn lA lX lSp : Nat → Int32} {bef awa rd wr : Nat → Int64}
theorem sp_xE1 {post : St2 → Prop} {L : Nat} {arg ev : Int32} (hL : L < 12) (h : post (g0, g1, g2, g3, g4, g5, g6, g7, g8, cop, carg, xc, xAd, xOp, xIn, xCe, xMk, lAd, lIn, lA, lX, lSp, bef, awa, rd, wr)) : wpX_execute post (g0, g1, g2, g3, g4, g5, g6, g7, g8, cop, carg, xc, xAd, xOp, xIn, xCe, xMk, lAd, lIn, lA, lX, lSp, bef, awa, rd, wr) (nI L) (nI 1) arg ev := by
  have iL : vp_in (nI L) 12 := vp_in_nI hL (by omega)
  have cL : (nI L).toNatClampNeg = L := nI_clamp (by omega)
  unfold wpX_execute
  dsimp only
  rw [cL]
  exact br_f (by decide) (br_f (by decide) (br_f (by decide) (br_t (by decide) h)))
theorem sp_xE2 {post : St2 → Prop} {L : Nat} {arg ev : Int32} (hL : L < 12) (h : wpX_makeInstance post (g0, g1, g2, g3, g4, g5, g6, g7, g8, cop, carg, xc, xAd, xOp, xIn, xCe, xMk, lAd, lIn, lA, lX, lSp, bef, awa, rd, wr) arg (lA L) (lX L) 1) : wpX_execute post (g0, g1, g2, g3, g4, g5, g6, g7, g8, cop, carg, xc, xAd, xOp, xIn, xCe, xMk, lAd, lIn, lA, lX, lSp, bef, awa, rd, wr) (nI L) (nI 2) arg ev := by
  have iL : vp_in (nI L) 12 := vp_in_nI hL (by omega)
  have cL : (nI L).toNatClampNeg = L := nI_clamp (by omega)
  unfold wpX_execute
  dsimp only
  rw [cL]
  exact br_f (by decide) (br_f (by decide) (br_f (by decide) (br_f (by decide) (br_t (by decide) ⟨iL, iL, h⟩))))
theorem sp_xE3 {post : St2 → Prop} {L : Nat} {arg ev : Int32} (hL : L < 12) (h : wpX_makeInstance post (g0, g1, g2, g3, g4, g5, g6, g7, g8, cop, carg, xc, xAd, xOp, xIn, xCe, xMk, lAd, lIn, lA, lX, lSp, bef, awa, rd, wr) arg (lA L) (lX L) 0) : wpX_execute post (g0, g1, g2, g3, g4, g5, g6, g7, g8, cop, carg, xc, xAd, xOp, xIn, xCe, xMk, lAd, lIn, lA, lX, lSp, bef, awa, rd, wr) (nI L) (nI 3) arg ev := by
  have iL : vp_in (nI L) 12 := vp_in_nI hL (by omega)
  have cL : (nI L).toNatClampNeg = L := nI_clamp (by omega)
  unfold wpX_execute
  dsimp only
  rw [cL]
  exact br_f (by decide) (br_f (by decide) (br_f (by decide) (br_f (by decide) (br_f (by decide) (br_t (by decide) ⟨iL, iL, h⟩)))))
theorem sp_xE4 {post : St2 → Prop} {L e : Nat} {arg : Int32} (hL : L < 12) (he : e < 16) (h : post (g0, g1, g2, g3, g4, g5, g6, g7, g8, cop, carg, xc, xAd, xOp, xIn, xCe, xMk, lAd, lIn, upd lA L (xc e), lX, lSp, bef, awa, rd, wr)) : wpX_execute post (g0, g1, g2, g3, g4, g5, g6, g7, g8, cop, carg, xc, xAd, xOp, xIn, xCe, xMk, lAd, lIn, lA, lX, lSp, bef, awa, rd, wr) (nI L) (nI 4) arg (nI e) := by
  have iL : vp_in (nI L) 12 := vp_in_nI hL (by omega)
  have cL : (nI L).toNatClampNeg = L := nI_clamp (by omega)
  have iE : vp_in (nI e) 16 := vp_in_nI he (by omega)
  have cE : (nI e).toNatClampNeg = e := nI_clamp (by omega)
  unfold wpX_execute
  dsimp only
  rw [cL, cE]
  exact br_f (by decide) (br_f (by decide) (br_f (by decide) (br_f (by decide) (br_f (by decide) (br_f (by decide) (br_t (by decide) ⟨iE, iL, nm_e h⟩))))))
theorem sp_xE5 {post : St2 → Prop} {L e : Nat} {arg : Int32} (hL : L < 12) (he : e < 16) (h : post (g0, g1, g2, g3, g4, g5, g6, g7, g8, cop, carg, upd xc e (lA L), xAd, xOp, xIn, xCe, xMk, lAd, lIn, lA, lX, lSp, bef, awa, rd, wr)) : wpX_execute post (g0, g1, g2, g3, g4, g5, g6, g7, g8, cop, carg, xc, xAd, xOp, xIn, xCe, xMk, lAd, lIn, lA, lX, lSp, bef, awa, rd, wr) (nI L) (nI 5) arg (nI e) := by
  have iL : vp_in (nI L) 12 := vp_in_nI hL (by omega)
  have cL : (nI L).toNatClampNeg = L := nI_clamp (by omega)
  have iE : vp_in (nI e) 16 := vp_in_nI he (by omega)
  have cE : (nI e).toNatClampNeg = e := nI_clamp (by omega)
  unfold wpX_execute
  dsimp only
  rw [cL, cE]
  exact br_f (by decide) (br_f (by decide) (br_f (by decide) (br_f (by decide) (br_f (by decide) (br_f (by decide) (br_f (by decide) (br_t (by decide) ⟨iL, iE, nm_e h⟩)))))))
theorem sp_xE6 {post : St2 → Prop} {L e : Nat} {arg : Int32} (hL : L < 12) (he : e < 16) (h : post (g0, g1, g2, g3, g4, g5, g6, g7, g8, cop, carg, xc, xAd, xOp, xIn, xCe, xMk, lAd, lIn, upd lA L (lA L + xc e), lX, lSp, bef, awa, rd, wr)) : wpX_execute post (g0, g1, g2, g3, g4, g5, g6, g7, g8, cop, carg, xc, xAd, xOp, xIn, xCe, xMk, lAd, lIn, lA, lX, lSp, bef, awa, rd, wr) (nI L) (nI 6) arg (nI e) := by
  have iL : vp_in (nI L) 12 := vp_in_nI hL (by omega)
  have cL : (nI L).toNatClampNeg = L := nI_clamp (by omega)
  have iE : vp_in (nI e) 16 := vp_in_nI he (by omega)
  have cE : (nI e).toNatClampNeg = e := nI_clamp (by omega)
  unfold wpX_execute
  dsimp only
  rw [cL, cE]
  exact br_f (by decide) (br_f (by decide) (br_f (by decide) (br_f (by decide) (br_f (by decide) (br_f (by decide) (br_f (by decide) (br_f (by decide) (br_t (by decide) ⟨iL, iE, iL, nm_e h⟩))))))))
theorem sp_xE7 {post : St2 → Prop} {L : Nat} {arg ev : Int32} (hL : L < 12) (h : post (g0, g1, g2, g3, g4, g5, g6, g7, g8, cop, carg, xc, xAd, xOp, xIn, xCe, xMk, lAd, lIn, upd lA L arg, lX, lSp, bef, awa, rd, wr)) : wpX_execute post (g0, g1, g2, g3, g4, g5, g6, g7, g8, cop, carg, xc, xAd, xOp, xIn, xCe, xMk, lAd, lIn, lA, lX, lSp, bef, awa, rd, wr) (nI L) (nI 7) arg ev := by
  have iL : vp_in (nI L) 12 := vp_in_nI hL (by omega)
  have cL : (nI L).toNatClampNeg = L := nI_clamp (by omega)
  unfold wpX_execute
  dsimp only
  rw [cL]
  exact br_f (by decide) (br_f (by decide) (br_f (by decide) (br_f (by decide) (br_f (by decide) (br_f (by decide) (br_f (by decide) (br_f (by decide) (br_f (by decide) (br_t (by decide) ⟨iL, nm_e h⟩)))))))))
theorem sp_xE8 {post : St2 → Prop} {L : Nat} {arg ev : Int32} (hL : L < 12) (h : post (g0, g1, g2, g3, g4, g5, g6, g7, g8, cop, carg, xc, xAd, xOp, xIn, xCe, xMk, lAd, lIn, upd lA L (lA L + arg), lX, lSp, bef, awa, rd, wr)) : wpX_execute post (g0, g1, g2, g3, g4, g5, g6, g7, g8, cop, carg, xc, xAd, xOp, xIn, xCe, xMk, lAd, lIn, lA, lX, lSp, bef, awa, rd, wr) (nI L) (nI 8) arg ev := by
  have iL : vp_in (nI L) 12 := vp_in_nI hL (by omega)
  have cL : (nI L).toNatClampNeg = L := nI_clamp (by omega)
  unfold wpX_execute
  dsimp only
  rw [cL]
  exact br_f (by decide) (br_f (by decide) (br_f (by decide) (br_f (by decide) (br_f (by decide) (br_f (by decide) (br_f (by decide) (br_f (by decide) (br_f (by decide) (br_f (by decide) (br_t (by decide) ⟨iL, iL, nm_e h⟩))))))))))
theorem sp_xE9 {post : St2 → Prop} {L : Nat} {arg ev : Int32} (hL : L < 12) (h : post (g0, g1, g2, g3, g4, g5, g6, g7, g8, cop, carg, xc, xAd, xOp, xIn, xCe, xMk, lAd, lIn, lA, upd lX L (lX L + arg), lSp, bef, awa, rd, wr)) : wpX_execute post (g0, g1, g2, g3, g4, g5, g6, g7, g8, cop, carg, xc, xAd, xOp, xIn, xCe, xMk, lAd, lIn, lA, lX, lSp, bef, awa, rd, wr) (nI L) (nI 9) arg ev := by
  have iL : vp_in (nI L) 12 := vp_in_nI hL (by omega)
  have cL : (nI L).toNatClampNeg = L := nI_clamp (by omega)
  unfold wpX_execute
  dsimp only
  rw [cL]
  exact br_f (by decide) (br_f (by decide) (br_f (by decide) (br_f (by decide) (br_f (by decide) (br_f (by decide) (br_f (by decide) (br_f (by decide) (br_f (by decide) (br_f (by decide) (br_f (by decide) (br_t (by decide) ⟨iL, iL, nm_e h⟩)))))))))))
theorem sp_xE11 {post : St2 → Prop} {L : Nat} {arg ev : Int32} (hL : L < 12) (h : post (g0, g1, g2, g3, g4, g5, g6, g7, g8, cop, carg, xc, xAd, xOp, xIn, xCe, xMk, upd lAd L arg, lIn, lA, lX, lSp, bef, awa, rd, wr)) : wpX_execute post (g0, g1, g2, g3, g4, g5, g6, g7, g8, cop, carg, xc, xAd, xOp, xIn, xCe, xMk, lAd, lIn, lA, lX, lSp, bef, awa, rd, wr) (nI L) (nI 11) arg ev := by
  have iL : vp_in (nI L) 12 := vp_in_nI hL (by omega)
  have cL : (nI L).toNatClampNeg = L := nI_clamp (by omega)
  unfold wpX_execute
  dsimp only
  rw [cL]
  exact br_f (by decide) (br_f (by decide) (br_f (by decide) (br_f (by decide) (br_f (by decide) (br_f (by decide) (br_f (by decide) (br_f (by decide) (br_f (by decide) (br_f (by decide) (br_f (by decide) (br_f (by decide) (br_f (by decide) (br_t (by decide) ⟨iL, nm_e h⟩)))))))))))))
theorem sp_xE10 {post : St2 → Prop} {L : Nat} {arg ev : Int32} (hL : L < 12) (h1 : lA L = 0 → post (g0, g1, g2, g3, g4, g5, g6, g7, g8, cop, carg, xc, xAd, xOp, xIn, xCe, xMk, upd lAd L arg, lIn, lA, lX, lSp, bef, awa, rd, wr)) (h0 : ¬ lA L = 0 → post (g0, g1, g2, g3, g4, g5, g6, g7, g8, cop, carg, xc, xAd, xOp, xIn, xCe, xMk, lAd, lIn, lA, lX, lSp, bef, awa, rd, wr)) : wpX_execute post (g0, g1, g2, g3, g4, g5, g6, g7, g8, cop, carg, xc, xAd, xOp, xIn, xCe, xMk, lAd, lIn, lA, lX, lSp, bef, awa, rd, wr) (nI L) (nI 10) arg ev := by
  have iL : vp_in (nI L) 12 := vp_in_nI hL (by omega)
  have cL : (nI L).toNatClampNeg = L := nI_clamp (by omega)
  unfold wpX_execute
  dsimp only
  rw [cL]
  exact br_f (by decide) (br_f (by decide) (br_f (by decide) (br_f (by decide) (br_f (by decide) (br_f (by decide) (br_f (by decide) (br_f (by decide) (br_f (by decide) (br_f (by decide) (br_f (by decide) (br_f (by decide) (br_t (by decide) ⟨iL, br_c (fun z => ⟨iL, nm_e (h1 z)⟩) h0⟩))))))))))))
theorem sp_xE0 {post : St2 → Prop} {L : Nat} {arg ev : Int32} (h : wpX_endInstance post (g0, g1, g2, g3, g4, g5, g6, g7, g8, cop, carg, xc, xAd, xOp, xIn, xCe, xMk, lAd, lIn, lA, lX, lSp, bef, awa, rd, wr) (nI L)) : wpX_execute post (g0, g1, g2, g3, g4, g5, g6, g7, g8, cop, carg, xc, xAd, xOp, xIn, xCe, xMk, lAd, lIn, lA, lX, lSp, bef, awa, rd, wr) (nI L) (nI 0) arg ev := by
  unfold wpX_execute
  dsimp only
  exact br_f (by decide) (br_f (by decide) (br_t (by decide) h))
end
end
section
/-! ===== one turn of the loop of run ===== -/
/-- the instruction at address p -/
def sp_ft (len : Nat) (cop carg : Nat → Int32) (p oo : Nat) (arg : Int32) : Prop :=
  ((len ≤ p ∧ oo = 0 ∧ arg = 0) ∨ (p < len ∧ cop p = nI oo ∧ carg p = arg)) ∧ oo ≤ 11 ∧ ((oo = 2 ∨ oo = 3 ∨ oo = 10 ∨ oo = 11) → ∃ b : Nat, b < 48 ∧ arg = nI b)
theorem sp_ftEx {len : Nat} {cop carg : Nat → Int32} (h : sp_C len cop carg) (p : Nat) : ∃ oo arg, sp_ft len cop carg p oo arg := by
  by_cases hp : p < len
  · obtain ⟨a, a1, a2, a3⟩ := h p hp
    exact ⟨a, carg p, Or.inr ⟨hp, a2, rfl⟩, a1, a3⟩
  · exact ⟨0, 0, Or.inl ⟨by omega, rfl, rfl⟩, by omega, fun z => by omega⟩
section
variable {cc ce dc ic len s cnt dep md : Nat} {o n m st q ad : Nat → Nat} {cop carg xc xAd xOp xIn xCe xMk lAd lIn lA lX lSp yc stk nxt acc idx mkr yAd yOp yIn yCe lds : Nat → Int32} {bef awa rd wr : Nat → Int64}
theorem sp_xFt {post : St2 → Prop} {L p oo : Nat} {arg : Int32} (hL : L < 12) (hlen : len ≤ 48) (hp : p < 2 ^ 30) (ea : lAd L = nI p) (hf : sp_ft len cop carg p oo arg)
    (h : wX_advance_51 post (nI L) (nI p) (nI oo) arg (nI cc) (nI ce) (nI dc) (nI ic) (nI len) (nI s) (nI cnt) (nI (L + 1)) (nI md) (cop) (carg) (xc) (xAd) (xOp) (xIn) (xCe) (xMk) (lAd) (lIn) (lA) (lX) (lSp) (bef) (awa) (rd) (wr)) : wpX_advance post (nI cc, nI ce, nI dc, nI ic, nI len, nI s, nI cnt, nI (L + 1), nI md, cop, carg, xc, xAd, xOp, xIn, xCe, xMk, lAd, lIn, lA, lX, lSp, bef, awa, rd, wr) := by
  have iL : vp_in (nI L) 12 := vp_in_nI hL (by omega)
  have cL : (nI L).toNatClampNeg = L := nI_clamp (by omega)
  have cP : (nI p).toNatClampNeg = p := nI_clamp (by omega)
  unfold wpX_advance
  dsimp only
  refine nm_r (nI_pred L) ⟨iL, ?_⟩
  rw [cL, ea]
  rcases hf.1 with ⟨a, b, c⟩ | ⟨a, b, c⟩
  · have z : nI len ≤ nI p := nI_le a (by omega)
    refine nm_e (br_t z ?_)
    unfold wX_advance_32
    refine br_t z ?_
    rw [b, c] at h
    exact h
  · have z : ¬ nI len ≤ nI p := nI_ge a (by omega)
    have iP : vp_in (nI p) 48 := vp_in_nI (by omega) (by omega)
    refine nm_e (br_f z ⟨iP, ?_⟩)
    unfold wX_advance_32
    rw [cP, b, c]
    exact br_f z ⟨iP, h⟩
theorem sp_xAcc {post : Int32 → Prop} {oo : Nat} (ho : oo ≤ 11) (h1 : sp_acc oo → post 1) (h0 : ¬ sp_acc oo → post 0) : wpX_isAccess post () (nI oo) := by
  unfold wpX_isAccess
  exact pk_eq oo 4 (fun z => h1 (Or.inl z)) (fun n4 => pk_eq oo 5 (fun z => h1 (Or.inr (Or.inl z))) (fun n5 => pk_eq oo 6 (fun z => h1 (Or.inr (Or.inr z))) (fun n6 => h0 (by unfold sp_acc; omega))))
theorem sp_xMks {post : Int32 → Prop} {oo : Nat} (ho : oo ≤ 11) (h1 : (oo = 2 ∨ oo = 3) → post 1) (h0 : ¬ (oo = 2 ∨ oo = 3) → post 0) : wpX_makesInstance post () (nI oo) := by
  unfold wpX_makesInstance
  exact pk_eq oo 2 (fun z => h1 (Or.inl z)) (fun n2 => pk_eq oo 3 (fun z => h1 (Or.inr z)) (fun n3 => h0 (by omega)))
/-- the class executes -/
theorem sp_xGo {post : St2 → Prop} {L oo e : Nat} {arg ev : Int32} (h : sp_Q cc ce dc ic len (1) cnt (L + 1) md o n m st q ad cop carg xc xAd xOp xIn xCe xMk lAd lIn lA lX lSp bef awa rd wr yc stk nxt acc idx mkr yAd yOp yIn yCe lds) (hk : cnt < 128) (hf : sp_ft len cop carg (ad L) oo arg) (hm : (oo = 2 ∨ oo = 3) → L + 1 < dc ∧ md < ic) (he : e < ce)
    (r1 : arg + lX L - (arg + lX L) / nI ce * nI ce < 0 → arg + lX L - (arg + lX L) / nI ce * nI ce + nI ce = nI e) (r2 : ¬ arg + lX L - (arg + lX L) / nI ce * nI ce < 0 → arg + lX L - (arg + lX L) / nI ce * nI ce = nI e)
    (hev : (sp_acc oo ∧ ev = nI e) ∨ (¬ sp_acc oo ∧ ev = -1))
    (hw : ∀ mv f a r w, sp_rec oo L cnt ev mv bef awa rd wr f a r w → ∀ P : St2 → Prop, (∀ u, post u → P u) →
      wpX_execute P (nI cc, nI ce, nI dc, nI ic, nI len, nI 1, nI (cnt + 1), nI (L + 1), nI md, cop, carg, xc, upd xAd cnt (nI (ad L)), upd xOp cnt (nI oo), upd xIn cnt (nI (st L)), upd xCe cnt ev, upd xMk cnt mv, upd lAd L (nI (ad L + 1)), lIn, lA, lX, lSp, f, a, r, w) (nI L) (nI oo) arg ev) :
    wpX_advance post (nI cc, nI ce, nI dc, nI ic, nI len, nI 1, nI cnt, nI (L + 1), nI md, cop, carg, xc, xAd, xOp, xIn, xCe, xMk, lAd, lIn, lA, lX, lSp, bef, awa, rd, wr) := by
  obtain ⟨hK, hC, hc0, hAd, hxO, hyO, hxI, hyI, hCe, hS, hV, hMr, hRW, hMk, h01, H, IL⟩ := h
  unfold sp_K at hK
  have ho := hf.2.1
  have hst := IL.2.2.1 L (by omega)
  have hv := hV L (by omega)
  have iL : vp_in (nI L) 12 := vp_in_nI (by omega) (by omega)
  have cL : (nI L).toNatClampNeg = L := nI_clamp (by omega)
  have he' : sp_ev ce oo ev := by
    rcases hev with z | z
    · exact Or.inl ⟨z.1, e, he, z.2⟩
    · exact Or.inr z
  have h141 : wX_advance_141 post (nI L) (nI (ad L)) (nI oo) arg ev (nI cc) (nI ce) (nI dc) (nI ic) (nI len) (nI 1) (nI cnt) (nI (L + 1)) (nI md) (cop) (carg) (xc) (xAd) (xOp) (xIn) (xCe) (xMk) (lAd) (lIn) (lA) (lX) (lSp) (bef) (awa) (rd) (wr) := by
    unfold wX_advance_141
    refine sp_xRec (ce := ce) ho (by omega) hk (by omega) he' (fun mv f a r w hr => ⟨iL, ?_⟩)
    rw [cL, nI_1, hv.2.2.2.1]
    refine nm_e (hw mv f a r w hr _ (fun u hu => ?_))
    obtain ⟨f_codeCap, f_cellCount, f_depthCap, f_instanceCap, f_codeLength, f_state, f_stepCount, f_levelCount, f_instancesMade, a_codeOp, a_codeArg, a_cells, a_stepAddress, a_stepOp, a_stepInstance, a_stepCell, a_stepMask, a_levelAddress, a_levelInstance, a_levelA, a_levelX, a_levelSpawned, a_before, a_awaited, a_readers, a_writers⟩ := u
    exact hu
  have h123 : wX_advance_123 post (nI L) (nI (ad L)) (nI oo) arg (nI cc) (nI ce) (nI dc) (nI ic) (nI len) (nI 1) (nI cnt) (nI (L + 1)) (nI md) (cop) (carg) (xc) (xAd) (xOp) (xIn) (xCe) (xMk) (lAd) (lIn) (lA) (lX) (lSp) (bef) (awa) (rd) (wr) := by
    unfold wX_advance_123
    refine sp_xAcc ho (fun ha => br_f (by decide) ?_) (fun ha => br_t rfl ?_)
    · have ee : ev = nI e := by
        rcases hev with z | z
        · exact z.2
        · exact absurd ha z.1
      rw [ee] at h141
      unfold wpX_cellFor
      dsimp only
      rw [cL]
      refine ⟨iL, nI_ne0 (by omega) (by omega), nm_e ?_⟩
      by_cases z : arg + lX L - (arg + lX L) / nI ce * nI ce < 0
      · refine br_f (sp_nle z) ?_
        rw [r1 z]
        exact h141
      · refine br_t (Int32.not_lt.mp z) ?_
        rw [r2 z]
        exact h141
    · have ee : ev = -1 := by
        rcases hev with z | z
        · exact absurd z.1 ha
        · exact z.2
      rw [ee] at h141
      exact h141
  have h97 : wX_advance_97 post (nI L) (nI (ad L)) (nI oo) arg (nI cc) (nI ce) (nI dc) (nI ic) (nI len) (nI 1) (nI cnt) (nI (L + 1)) (nI md) (cop) (carg) (xc) (xAd) (xOp) (xIn) (xCe) (xMk) (lAd) (lIn) (lA) (lX) (lSp) (bef) (awa) (rd) (wr) := by
    unfold wX_advance_97
    refine sp_xMks ho (fun ha => br_f (by decide) (br_f (fun z => ?_) h123)) (fun ha => br_t rfl h123)
    have := (hm ha).2
    rw [nI_eq (by omega) (by omega)] at z
    omega
  refine sp_xFt (by omega) (by omega) (by omega) hv.1 hf ?_
  unfold wX_advance_51
  refine br_f (fun z => ?_) (sp_xMks ho (fun ha => br_f (by decide) (br_f (fun z => ?_) h97)) (fun ha => br_t rfl h97))
  · have z2 : nI cnt = nI 128 := z
    rw [nI_eq (by omega) (by omega)] at z2
    omega
  · have := (hm ha).1
    rw [nI_eq (by omega) (by omega)] at z
    omega
theorem sp_QR0' {bef' awa' rd' wr' : Nat → Int64} {mv pv : Int32} {lAd' nxt' : Nat → Int32} {i : Nat} (hi : i = 0) (h : sp_Q cc ce dc ic len s cnt dep md o n m st q ad cop carg xc xAd xOp xIn xCe xMk lAd lIn lA lX lSp bef awa rd wr yc stk nxt acc idx mkr yAd yOp yIn yCe lds) (hL : 1 = dep) (hk : cnt < 128) (hr : sp_rec 0 0 cnt (-1) mv bef awa rd wr bef' awa' rd' wr') :
    sp_Q cc ce dc ic len (2) (cnt + 1) (0) md (sp_u o cnt 0) (sp_u n cnt i) m st q ad cop carg xc (upd xAd cnt pv) (upd xOp cnt (nI 0)) (upd xIn cnt (nI i)) (upd xCe cnt (-1)) (upd xMk cnt mv) (lAd') lIn lA lX lSp (bef') (awa') (rd') (wr') yc stk (nxt') acc idx mkr (upd yAd cnt pv) (upd yOp cnt (nI 0)) (upd yIn cnt (nI i)) (upd yCe cnt (-1)) lds := by
  subst hi
  exact sp_QR0 h hL hk hr
end
end
section
/-! ===== a step of both machines, and run ===== -/
section
variable {cc ce dc ic len s cnt dep md : Nat} {o n m st q ad : Nat → Nat} {cop carg xc xAd xOp xIn xCe xMk lAd lIn lA lX lSp yc stk nxt acc idx mkr yAd yOp yIn yCe lds : Nat → Int32} {bef awa rd wr : Nat → Int64}
theorem sp_both {post : St2 → Prop} {L oo : Nat} {arg : Int32} (h : sp_Q cc ce dc ic len (1) cnt (L + 1) md o n m st q ad cop carg xc xAd xOp xIn xCe xMk lAd lIn lA lX lSp bef awa rd wr yc stk nxt acc idx mkr yAd yOp yIn yCe lds) (hk : cnt < 128) (hf : sp_ft len cop carg (ad L) oo arg) (hm : (oo = 2 ∨ oo = 3) → L + 1 < dc ∧ md < ic)
    (hp : ∀ u1, pp_R ce u1 → post u1)
    (hx : ∀ e ev, e < ce → ((sp_acc oo ∧ ev = nI e) ∨ (¬ sp_acc oo ∧ ev = -1)) → ∀ mv f a r w, sp_rec oo L cnt ev mv bef awa rd wr f a r w → ∀ P : St2 → Prop, (∀ u1, pp_R ce u1 → P u1) →
      wpX_execute P (nI cc, nI ce, nI dc, nI ic, nI len, nI 1, nI (cnt + 1), nI (L + 1), nI md, cop, carg, xc, upd xAd cnt (nI (ad L)), upd xOp cnt (nI oo), upd xIn cnt (nI (st L)), upd xCe cnt ev, upd xMk cnt mv, upd lAd L (nI (ad L + 1)), lIn, lA, lX, lSp, f, a, r, w) (nI L) (nI oo) arg ev) :
    wpX_advance post (nI cc, nI ce, nI dc, nI ic, nI len, nI 1, nI cnt, nI (L + 1), nI md, cop, carg, xc, xAd, xOp, xIn, xCe, xMk, lAd, lIn, lA, lX, lSp, bef, awa, rd, wr) := by
  have hQ := h
  obtain ⟨hK, hC, hc0, hAd, hxO, hyO, hxI, hyI, hCe, hS, hV, hMr, hRW, hMk, h01, H, IL⟩ := h
  unfold sp_K at hK
  obtain ⟨e, he, r1, r2⟩ := sp_rem (arg + lX L) (c := ce) (by omega) (by omega)
  have hevx : ∃ ev : Int32, (sp_acc oo ∧ ev = nI e) ∨ (¬ sp_acc oo ∧ ev = -1) := by
    by_cases z : sp_acc oo
    · exact ⟨nI e, Or.inl ⟨z, rfl⟩⟩
    · exact ⟨-1, Or.inr ⟨z, rfl⟩⟩
  obtain ⟨ev, hev⟩ := hevx
  exact sp_xGo (e := e) (ev := ev) hQ hk hf hm he r1 r2 hev (fun mv f a r w hr P hP => hx e ev he hev mv f a r w hr P (fun u1 hR => hP u1 (hp u1 hR)))
theorem sp_o1 {P : St2 → Prop} {L e : Nat} {arg mv : Int32} {f a r w : Nat → Int64} (h : sp_Q cc ce dc ic len (1) cnt (L + 1) md o n m st q ad cop carg xc xAd xOp xIn xCe xMk lAd lIn lA lX lSp bef awa rd wr yc stk nxt acc idx mkr yAd yOp yIn yCe lds) (D : sp_D o n m cnt md (L + 1) st) (hk : cnt < 128) (he : e < ce) (hr : sp_rec 1 L cnt (-1) mv bef awa rd wr f a r w)
    (hp : ∀ u1, pp_R ce u1 → P u1) : wpX_execute P (nI cc, nI ce, nI dc, nI ic, nI len, nI 1, nI (cnt + 1), nI (L + 1), nI md, cop, carg, xc, upd xAd cnt (nI (ad L)), upd xOp cnt (nI 1), upd xIn cnt (nI (st L)), upd xCe cnt (-1), upd xMk cnt mv, upd lAd L (nI (ad L + 1)), lIn, lA, lX, lSp, f, a, r, w) (nI L) (nI 1) arg (-1) := by
  have hQ := h
  obtain ⟨hK, hC, hc0, hAd, hxO, hyO, hxI, hyI, hCe, hS, hV, hMr, hRW, hMk, h01, H, IL⟩ := h
  unfold sp_K at hK
  have hv := hV L (by omega)
  have hst := IL.2.2.1 L (by omega)
  exact sp_xE1 (by omega) (hp _ (pp_mk (sp_QA (xc' := xc) (yc' := yc) (lAd' := upd lAd L (nI (ad L + 1))) (nxt' := upd nxt (st L) (nI (ad L + 1))) (lA' := lA) (acc' := acc) (lX' := lX) (idx' := idx) (a1 := ad L + 1) (pv := nI (ad L)) hQ rfl (by omega) (by omega) hk (by omega) (by omega) (by omega) (by omega) (Or.inr ⟨by unfold sp_acc; omega, rfl⟩) hr (by omega) hc0 (fun l hl => pk_un (by omega)) pk_us (fun i hi => pk_un hi) pk_us (fun _ _ => rfl) (fun _ _ => rfl) hv.2.2.2.2.2.1 (fun _ _ => rfl) (fun _ _ => rfl) hv.2.2.2.2.2.2.1) (sp_dA H IL D rfl (by omega) (by omega) (by omega))))
theorem sp_o4 {P : St2 → Prop} {L e : Nat} {arg mv : Int32} {f a r w : Nat → Int64} (h : sp_Q cc ce dc ic len (1) cnt (L + 1) md o n m st q ad cop carg xc xAd xOp xIn xCe xMk lAd lIn lA lX lSp bef awa rd wr yc stk nxt acc idx mkr yAd yOp yIn yCe lds) (D : sp_D o n m cnt md (L + 1) st) (hk : cnt < 128) (he : e < ce) (hr : sp_rec 4 L cnt (nI e) mv bef awa rd wr f a r w)
    (hp : ∀ u1, pp_R ce u1 → P u1) : wpX_execute P (nI cc, nI ce, nI dc, nI ic, nI len, nI 1, nI (cnt + 1), nI (L + 1), nI md, cop, carg, xc, upd xAd cnt (nI (ad L)), upd xOp cnt (nI 4), upd xIn cnt (nI (st L)), upd xCe cnt (nI e), upd xMk cnt mv, upd lAd L (nI (ad L + 1)), lIn, lA, lX, lSp, f, a, r, w) (nI L) (nI 4) arg (nI e) := by
  have hQ := h
  obtain ⟨hK, hC, hc0, hAd, hxO, hyO, hxI, hyI, hCe, hS, hV, hMr, hRW, hMk, h01, H, IL⟩ := h
  unfold sp_K at hK
  have hv := hV L (by omega)
  have hst := IL.2.2.1 L (by omega)
  exact sp_xE4 (by omega) (by omega) (hp _ (pp_mk (sp_QA (xc' := xc) (yc' := yc) (lAd' := upd lAd L (nI (ad L + 1))) (nxt' := upd nxt (st L) (nI (ad L + 1))) (lA' := upd lA L (xc e)) (acc' := upd acc (st L) (yc e)) (lX' := lX) (idx' := idx) (a1 := ad L + 1) (pv := nI (ad L)) hQ rfl (by omega) (by omega) hk (by omega) (by omega) (by omega) (by omega) (Or.inl ⟨by unfold sp_acc; omega, e, he, rfl⟩) hr (by omega) hc0 (fun l hl => pk_un (by omega)) pk_us (fun i hi => pk_un hi) pk_us (fun l hl => pk_un (by omega)) (fun i hi => pk_un hi) (by rw [pk_us, pk_us]; exact hc0 e he) (fun _ _ => rfl) (fun _ _ => rfl) hv.2.2.2.2.2.2.1) (sp_dA H IL D rfl (by omega) (by omega) (by omega))))
theorem sp_o5 {P : St2 → Prop} {L e : Nat} {arg mv : Int32} {f a r w : Nat → Int64} (h : sp_Q cc ce dc ic len (1) cnt (L + 1) md o n m st q ad cop carg xc xAd xOp xIn xCe xMk lAd lIn lA lX lSp bef awa rd wr yc stk nxt acc idx mkr yAd yOp yIn yCe lds) (D : sp_D o n m cnt md (L + 1) st) (hk : cnt < 128) (he : e < ce) (hr : sp_rec 5 L cnt (nI e) mv bef awa rd wr f a r w)
    (hp : ∀ u1, pp_R ce u1 → P u1) : wpX_execute P (nI cc, nI ce, nI dc, nI ic, nI len, nI 1, nI (cnt + 1), nI (L + 1), nI md, cop, carg, xc, upd xAd cnt (nI (ad L)), upd xOp cnt (nI 5), upd xIn cnt (nI (st L)), upd xCe cnt (nI e), upd xMk cnt mv, upd lAd L (nI (ad L + 1)), lIn, lA, lX, lSp, f, a, r, w) (nI L) (nI 5) arg (nI e) := by
  have hQ := h
  obtain ⟨hK, hC, hc0, hAd, hxO, hyO, hxI, hyI, hCe, hS, hV, hMr, hRW, hMk, h01, H, IL⟩ := h
  unfold sp_K at hK
  have hv := hV L (by omega)
  have hst := IL.2.2.1 L (by omega)
  exact sp_xE5 (by omega) (by omega) (hp _ (pp_mk (sp_QA (xc' := upd xc e (lA L)) (yc' := upd yc e (acc (st L))) (lAd' := upd lAd L (nI (ad L + 1))) (nxt' := upd nxt (st L) (nI (ad L + 1))) (lA' := lA) (acc' := acc) (lX' := lX) (idx' := idx) (a1 := ad L + 1) (pv := nI (ad L)) hQ rfl (by omega) (by omega) hk (by omega) (by omega) (by omega) (by omega) (Or.inl ⟨by unfold sp_acc; omega, e, he, rfl⟩) hr (by omega) (fun t ht => by by_cases z : t = e; (rw [z, pk_us, pk_us]; exact hv.2.2.2.2.2.1); (rw [pk_un z, pk_un z]; exact hc0 t ht)) (fun l hl => pk_un (by omega)) pk_us (fun i hi => pk_un hi) pk_us (fun _ _ => rfl) (fun _ _ => rfl) hv.2.2.2.2.2.1 (fun _ _ => rfl) (fun _ _ => rfl) hv.2.2.2.2.2.2.1) (sp_dA H IL D rfl (by omega) (by omega) (by omega))))
theorem sp_o6 {P : St2 → Prop} {L e : Nat} {arg mv : Int32} {f a r w : Nat → Int64} (h : sp_Q cc ce dc ic len (1) cnt (L + 1) md o n m st q ad cop carg xc xAd xOp xIn xCe xMk lAd lIn lA lX lSp bef awa rd wr yc stk nxt acc idx mkr yAd yOp yIn yCe lds) (D : sp_D o n m cnt md (L + 1) st) (hk : cnt < 128) (he : e < ce) (hr : sp_rec 6 L cnt (nI e) mv bef awa rd wr f a r w)
    (hp : ∀ u1, pp_R ce u1 → P u1) : wpX_execute P (nI cc, nI ce, nI dc, nI ic, nI len, nI 1, nI (cnt + 1), nI (L + 1), nI md, cop, carg, xc, upd xAd cnt (nI (ad L)), upd xOp cnt (nI 6), upd xIn cnt (nI (st L)), upd xCe cnt (nI e), upd xMk cnt mv, upd lAd L (nI (ad L + 1)), lIn, lA, lX, lSp, f, a, r, w) (nI L) (nI 6) arg (nI e) := by
  have hQ := h
  obtain ⟨hK, hC, hc0, hAd, hxO, hyO, hxI, hyI, hCe, hS, hV, hMr, hRW, hMk, h01, H, IL⟩ := h
  unfold sp_K at hK
  have hv := hV L (by omega)
  have hst := IL.2.2.1 L (by omega)
  exact sp_xE6 (by omega) (by omega) (hp _ (pp_mk (sp_QA (xc' := xc) (yc' := yc) (lAd' := upd lAd L (nI (ad L + 1))) (nxt' := upd nxt (st L) (nI (ad L + 1))) (lA' := upd lA L (lA L + xc e)) (acc' := upd acc (st L) (acc (st L) + yc e)) (lX' := lX) (idx' := idx) (a1 := ad L + 1) (pv := nI (ad L)) hQ rfl (by omega) (by omega) hk (by omega) (by omega) (by omega) (by omega) (Or.inl ⟨by unfold sp_acc; omega, e, he, rfl⟩) hr (by omega) hc0 (fun l hl => pk_un (by omega)) pk_us (fun i hi => pk_un hi) pk_us (fun l hl => pk_un (by omega)) (fun i hi => pk_un hi) (by rw [pk_us, pk_us, hv.2.2.2.2.2.1, hc0 e he]) (fun _ _ => rfl) (fun _ _ => rfl) hv.2.2.2.2.2.2.1) (sp_dA H IL D rfl (by omega) (by omega) (by omega))))
theorem sp_o7 {P : St2 → Prop} {L e : Nat} {arg mv : Int32} {f a r w : Nat → Int64} (h : sp_Q cc ce dc ic len (1) cnt (L + 1) md o n m st q ad cop carg xc xAd xOp xIn xCe xMk lAd lIn lA lX lSp bef awa rd wr yc stk nxt acc idx mkr yAd yOp yIn yCe lds) (D : sp_D o n m cnt md (L + 1) st) (hk : cnt < 128) (he : e < ce) (hr : sp_rec 7 L cnt (-1) mv bef awa rd wr f a r w)
    (hp : ∀ u1, pp_R ce u1 → P u1) : wpX_execute P (nI cc, nI ce, nI dc, nI ic, nI len, nI 1, nI (cnt + 1), nI (L + 1), nI md, cop, carg, xc, upd xAd cnt (nI (ad L)), upd xOp cnt (nI 7), upd xIn cnt (nI (st L)), upd xCe cnt (-1), upd xMk cnt mv, upd lAd L (nI (ad L + 1)), lIn, lA, lX, lSp, f, a, r, w) (nI L) (nI 7) arg (-1) := by
  have hQ := h
  obtain ⟨hK, hC, hc0, hAd, hxO, hyO, hxI, hyI, hCe, hS, hV, hMr, hRW, hMk, h01, H, IL⟩ := h
  unfold sp_K at hK
  have hv := hV L (by omega)
  have hst := IL.2.2.1 L (by omega)
  exact sp_xE7 (by omega) (hp _ (pp_mk (sp_QA (xc' := xc) (yc' := yc) (lAd' := upd lAd L (nI (ad L + 1))) (nxt' := upd nxt (st L) (nI (ad L + 1))) (lA' := upd lA L arg) (acc' := upd acc (st L) arg) (lX' := lX) (idx' := idx) (a1 := ad L + 1) (pv := nI (ad L)) hQ rfl (by omega) (by omega) hk (by omega) (by omega) (by omega) (by omega) (Or.inr ⟨by unfold sp_acc; omega, rfl⟩) hr (by omega) hc0 (fun l hl => pk_un (by omega)) pk_us (fun i hi => pk_un hi) pk_us (fun l hl => pk_un (by omega)) (fun i hi => pk_un hi) (by rw [pk_us, pk_us]) (fun _ _ => rfl) (fun _ _ => rfl) hv.2.2.2.2.2.2.1) (sp_dA H IL D rfl (by omega) (by omega) (by omega))))
theorem sp_o8 {P : St2 → Prop} {L e : Nat} {arg mv : Int32} {f a r w : Nat → Int64} (h : sp_Q cc ce dc ic len (1) cnt (L + 1) md o n m st q ad cop carg xc xAd xOp xIn xCe xMk lAd lIn lA lX lSp bef awa rd wr yc stk nxt acc idx mkr yAd yOp yIn yCe lds) (D : sp_D o n m cnt md (L + 1) st) (hk : cnt < 128) (he : e < ce) (hr : sp_rec 8 L cnt (-1) mv bef awa rd wr f a r w)
    (hp : ∀ u1, pp_R ce u1 → P u1) : wpX_execute P (nI cc, nI ce, nI dc, nI ic, nI len, nI 1, nI (cnt + 1), nI (L + 1), nI md, cop, carg, xc, upd xAd cnt (nI (ad L)), upd xOp cnt (nI 8), upd xIn cnt (nI (st L)), upd xCe cnt (-1), upd xMk cnt mv, upd lAd L (nI (ad L + 1)), lIn, lA, lX, lSp, f, a, r, w) (nI L) (nI 8) arg (-1) := by
  have hQ := h
  obtain ⟨hK, hC, hc0, hAd, hxO, hyO, hxI, hyI, hCe, hS, hV, hMr, hRW, hMk, h01, H, IL⟩ := h
  unfold sp_K at hK
  have hv := hV L (by omega)
  have hst := IL.2.2.1 L (by omega)
  exact sp_xE8 (by omega) (hp _ (pp_mk (sp_QA (xc' := xc) (yc' := yc) (lAd' := upd lAd L (nI (ad L + 1))) (nxt' := upd nxt (st L) (nI (ad L + 1))) (lA' := upd lA L (lA L + arg)) (acc' := upd acc (st L) (acc (st L) + arg)) (lX' := lX) (idx' := idx) (a1 := ad L + 1) (pv := nI (ad L)) hQ rfl (by omega) (by omega) hk (by omega) (by omega) (by omega) (by omega) (Or.inr ⟨by unfold sp_acc; omega, rfl⟩) hr (by omega) hc0 (fun l hl => pk_un (by omega)) pk_us (fun i hi => pk_un hi) pk_us (fun l hl => pk_un (by omega)) (fun i hi => pk_un hi) (by rw [pk_us, pk_us, hv.2.2.2.2.2.1]) (fun _ _ => rfl) (fun _ _ => rfl) hv.2.2.2.2.2.2.1) (sp_dA H IL D rfl (by omega) (by omega) (by omega))))
theorem sp_o9 {P : St2 → Prop} {L e : Nat} {arg mv : Int32} {f a r w : Nat → Int64} (h : sp_Q cc ce dc ic len (1) cnt (L + 1) md o n m st q ad cop carg xc xAd xOp xIn xCe xMk lAd lIn lA lX lSp bef awa rd wr yc stk nxt acc idx mkr yAd yOp yIn yCe lds) (D : sp_D o n m cnt md (L + 1) st) (hk : cnt < 128) (he : e < ce) (hr : sp_rec 9 L cnt (-1) mv bef awa rd wr f a r w)
    (hp : ∀ u1, pp_R ce u1 → P u1) : wpX_execute P (nI cc, nI ce, nI dc, nI ic, nI len, nI 1, nI (cnt + 1), nI (L + 1), nI md, cop, carg, xc, upd xAd cnt (nI (ad L)), upd xOp cnt (nI 9), upd xIn cnt (nI (st L)), upd xCe cnt (-1), upd xMk cnt mv, upd lAd L (nI (ad L + 1)), lIn, lA, lX, lSp, f, a, r, w) (nI L) (nI 9) arg (-1) := by
  have hQ := h
  obtain ⟨hK, hC, hc0, hAd, hxO, hyO, hxI, hyI, hCe, hS, hV, hMr, hRW, hMk, h01, H, IL⟩ := h
  unfold sp_K at hK
  have hv := hV L (by omega)
  have hst := IL.2.2.1 L (by omega)
  exact sp_xE9 (by omega) (hp _ (pp_mk (sp_QA (xc' := xc) (yc' := yc) (lAd' := upd lAd L (nI (ad L + 1))) (nxt' := upd nxt (st L) (nI (ad L + 1))) (lA' := lA) (acc' := acc) (lX' := upd lX L (lX L + arg)) (idx' := upd idx (st L) (idx (st L) + arg)) (a1 := ad L + 1) (pv := nI (ad L)) hQ rfl (by omega) (by omega) hk (by omega) (by omega) (by omega) (by omega) (Or.inr ⟨by unfold sp_acc; omega, rfl⟩) hr (by omega) hc0 (fun l hl => pk_un (by omega)) pk_us (fun i hi => pk_un hi) pk_us (fun _ _ => rfl) (fun _ _ => rfl) hv.2.2.2.2.2.1 (fun l hl => pk_un (by omega)) (fun i hi => pk_un hi) (by rw [pk_us, pk_us, hv.2.2.2.2.2.2.1])) (sp_dA H IL D rfl (by omega) (by omega) (by omega))))
theorem sp_o11 {P : St2 → Prop} {L e : Nat} {mv : Int32} {t : Nat} (ht : t < 48) {f a r w : Nat → Int64} (h : sp_Q cc ce dc ic len (1) cnt (L + 1) md o n m st q ad cop carg xc xAd xOp xIn xCe xMk lAd lIn lA lX lSp bef awa rd wr yc stk nxt acc idx mkr yAd yOp yIn yCe lds) (D : sp_D o n m cnt md (L + 1) st) (hk : cnt < 128) (he : e < ce) (hr : sp_rec 11 L cnt (-1) mv bef awa rd wr f a r w)
    (hp : ∀ u1, pp_R ce u1 → P u1) : wpX_execute P (nI cc, nI ce, nI dc, nI ic, nI len, nI 1, nI (cnt + 1), nI (L + 1), nI md, cop, carg, xc, upd xAd cnt (nI (ad L)), upd xOp cnt (nI 11), upd xIn cnt (nI (st L)), upd xCe cnt (-1), upd xMk cnt mv, upd lAd L (nI (ad L + 1)), lIn, lA, lX, lSp, f, a, r, w) (nI L) (nI 11) (nI t) (-1) := by
  have hQ := h
  obtain ⟨hK, hC, hc0, hAd, hxO, hyO, hxI, hyI, hCe, hS, hV, hMr, hRW, hMk, h01, H, IL⟩ := h
  unfold sp_K at hK
  have hv := hV L (by omega)
  have hst := IL.2.2.1 L (by omega)
  exact sp_xE11 (by omega) (hp _ (pp_mk (sp_QA (xc' := xc) (yc' := yc) (lAd' := upd (upd lAd L (nI (ad L + 1))) L (nI t)) (nxt' := upd (upd nxt (st L) (nI (ad L + 1))) (st L) (nI t)) (lA' := lA) (acc' := acc) (lX' := lX) (idx' := idx) (a1 := t) (pv := nI (ad L)) hQ rfl (by omega) (by omega) hk (by omega) (by omega) (by omega) (by omega) (Or.inr ⟨by unfold sp_acc; omega, rfl⟩) hr (by omega) hc0 (fun l hl => by rw [pk_un (by omega), pk_un (by omega)]) pk_us (fun i hi => by rw [pk_un hi, pk_un hi]) pk_us (fun _ _ => rfl) (fun _ _ => rfl) hv.2.2.2.2.2.1 (fun _ _ => rfl) (fun _ _ => rfl) hv.2.2.2.2.2.2.1) (sp_dA H IL D rfl (by omega) (by omega) (by omega))))
theorem sp_o10 {P : St2 → Prop} {L e : Nat} {mv : Int32} {t : Nat} (ht : t < 48) {f a r w : Nat → Int64} (h : sp_Q cc ce dc ic len (1) cnt (L + 1) md o n m st q ad cop carg xc xAd xOp xIn xCe xMk lAd lIn lA lX lSp bef awa rd wr yc stk nxt acc idx mkr yAd yOp yIn yCe lds) (D : sp_D o n m cnt md (L + 1) st) (hk : cnt < 128) (he : e < ce) (hr : sp_rec 10 L cnt (-1) mv bef awa rd wr f a r w)
    (hp : ∀ u1, pp_R ce u1 → P u1) : wpX_execute P (nI cc, nI ce, nI dc, nI ic, nI len, nI 1, nI (cnt + 1), nI (L + 1), nI md, cop, carg, xc, upd xAd cnt (nI (ad L)), upd xOp cnt (nI 10), upd xIn cnt (nI (st L)), upd xCe cnt (-1), upd xMk cnt mv, upd lAd L (nI (ad L + 1)), lIn, lA, lX, lSp, f, a, r, w) (nI L) (nI 10) (nI t) (-1) := by
  have hQ := h
  obtain ⟨hK, hC, hc0, hAd, hxO, hyO, hxI, hyI, hCe, hS, hV, hMr, hRW, hMk, h01, H, IL⟩ := h
  unfold sp_K at hK
  have hv := hV L (by omega)
  have hst := IL.2.2.1 L (by omega)
  have ev6 := hv.2.2.2.2.2.1
  refine sp_xE10 (by omega) (fun z => ?_) (fun z => ?_)
  · rw [ev6] at z
    exact hp _ (pp_mk (sp_QA (xc' := xc) (yc' := yc) (lAd' := upd (upd lAd L (nI (ad L + 1))) L (nI t)) (nxt' := upd (upd nxt (st L) (nI (ad L + 1))) (st L) (nI t)) (lA' := lA) (acc' := acc) (lX' := lX) (idx' := idx) (a1 := t) (pv := nI (ad L)) hQ rfl (by omega) (by omega) hk (by omega) (by omega) (by omega) (by omega) (Or.inr ⟨by unfold sp_acc; omega, rfl⟩) hr (by omega) hc0 (fun l hl => by rw [pk_un (by omega), pk_un (by omega)]) pk_us (fun i hi => by rw [pk_un hi, pk_un hi]) pk_us (fun _ _ => rfl) (fun _ _ => rfl) hv.2.2.2.2.2.1 (fun _ _ => rfl) (fun _ _ => rfl) hv.2.2.2.2.2.2.1) (sp_dA H IL D rfl (by omega) (by omega) (by omega)))
  · rw [ev6] at z
    exact hp _ (pp_mk (sp_QA (xc' := xc) (yc' := yc) (lAd' := upd lAd L (nI (ad L + 1))) (nxt' := upd nxt (st L) (nI (ad L + 1))) (lA' := lA) (acc' := acc) (lX' := lX) (idx' := idx) (a1 := ad L + 1) (pv := nI (ad L)) hQ rfl (by omega) (by omega) hk (by omega) (by omega) (by omega) (by omega) (Or.inr ⟨by unfold sp_acc; omega, rfl⟩) hr (by omega) hc0 (fun l hl => pk_un (by omega)) pk_us (fun i hi => pk_un hi) pk_us (fun _ _ => rfl) (fun _ _ => rfl) hv.2.2.2.2.2.1 (fun _ _ => rfl) (fun _ _ => rfl) hv.2.2.2.2.2.2.1) (sp_dA H IL D rfl (by omega) (by omega) (by omega)))
theorem sp_o2 {P : St2 → Prop} {L e : Nat} {mv : Int32} {t : Nat} (ht : t < 48) {f a r w : Nat → Int64} (h : sp_Q cc ce dc ic len (1) cnt (L + 1) md o n m st q ad cop carg xc xAd xOp xIn xCe xMk lAd lIn lA lX lSp bef awa rd wr yc stk nxt acc idx mkr yAd yOp yIn yCe lds) (D : sp_D o n m cnt md (L + 1) st) (hk : cnt < 128) (he : e < ce) (hr : sp_rec 2 L cnt (-1) mv bef awa rd wr f a r w)
    (hp : ∀ u1, pp_R ce u1 → P u1) (hd : L + 1 < dc) (hi : md < ic) : wpX_execute P (nI cc, nI ce, nI dc, nI ic, nI len, nI 1, nI (cnt + 1), nI (L + 1), nI md, cop, carg, xc, upd xAd cnt (nI (ad L)), upd xOp cnt (nI 2), upd xIn cnt (nI (st L)), upd xCe cnt (-1), upd xMk cnt mv, upd lAd L (nI (ad L + 1)), lIn, lA, lX, lSp, f, a, r, w) (nI L) (nI 2) (nI t) (-1) := by
  have hQ := h
  obtain ⟨hK, hC, hc0, hAd, hxO, hyO, hxI, hyI, hCe, hS, hV, hMr, hRW, hMk, h01, H, IL⟩ := h
  unfold sp_K at hK
  have hv := hV L (by omega)
  have hst := IL.2.2.1 L (by omega)
  refine sp_xE2 (by omega) (sp_xMake (by omega) (fun f2 g2 hf2 hg2 => ?_))
  exact hp _ (pp_mk (sp_QM (bef'' := f2) (awa'' := g2) (sv := 1) (t := t) (p := ad L) (pv := nI (ad L)) hQ rfl (by omega) (by omega) hk hd hi (by omega) hr (fun l j hj => by have := hf2 l j hj; simpa using this) hg2 rfl ht (fun z => by first | rfl | exact absurd z (by decide)) (fun z => by first | rfl | exact absurd rfl z)) (sp_dM H IL D rfl (by omega)))
theorem sp_o3 {P : St2 → Prop} {L e : Nat} {mv : Int32} {t : Nat} (ht : t < 48) {f a r w : Nat → Int64} (h : sp_Q cc ce dc ic len (1) cnt (L + 1) md o n m st q ad cop carg xc xAd xOp xIn xCe xMk lAd lIn lA lX lSp bef awa rd wr yc stk nxt acc idx mkr yAd yOp yIn yCe lds) (D : sp_D o n m cnt md (L + 1) st) (hk : cnt < 128) (he : e < ce) (hr : sp_rec 3 L cnt (-1) mv bef awa rd wr f a r w)
    (hp : ∀ u1, pp_R ce u1 → P u1) (hd : L + 1 < dc) (hi : md < ic) : wpX_execute P (nI cc, nI ce, nI dc, nI ic, nI len, nI 1, nI (cnt + 1), nI (L + 1), nI md, cop, carg, xc, upd xAd cnt (nI (ad L)), upd xOp cnt (nI 3), upd xIn cnt (nI (st L)), upd xCe cnt (-1), upd xMk cnt mv, upd lAd L (nI (ad L + 1)), lIn, lA, lX, lSp, f, a, r, w) (nI L) (nI 3) (nI t) (-1) := by
  have hQ := h
  obtain ⟨hK, hC, hc0, hAd, hxO, hyO, hxI, hyI, hCe, hS, hV, hMr, hRW, hMk, h01, H, IL⟩ := h
  unfold sp_K at hK
  have hv := hV L (by omega)
  have hst := IL.2.2.1 L (by omega)
  refine sp_xE3 (by omega) (sp_xMake (by omega) (fun f2 g2 hf2 hg2 => ?_))
  exact hp _ (pp_mk (sp_QM (bef'' := f2) (awa'' := g2) (sv := 0) (t := t) (p := ad L) (pv := nI (ad L)) hQ rfl (by omega) (by omega) hk hd hi (by omega) hr (fun l j hj => by have := hf2 l j hj; simpa using this) hg2 rfl ht (fun z => by first | rfl | exact absurd z (by decide)) (fun z => by first | rfl | exact absurd rfl z)) (sp_dM H IL D rfl (by omega)))
theorem sp_o0r {P : St2 → Prop} {e : Nat} {arg mv : Int32} {f a r w : Nat → Int64} (h : sp_Q cc ce dc ic len (1) cnt (0 + 1) md o n m st q ad cop carg xc xAd xOp xIn xCe xMk lAd lIn lA lX lSp bef awa rd wr yc stk nxt acc idx mkr yAd yOp yIn yCe lds) (D : sp_D o n m cnt md (0 + 1) st) (hk : cnt < 128) (he : e < ce) (hr : sp_rec 0 0 cnt (-1) mv bef awa rd wr f a r w)
    (hp : ∀ u1, pp_R ce u1 → P u1) : wpX_execute P (nI cc, nI ce, nI dc, nI ic, nI len, nI 1, nI (cnt + 1), nI (0 + 1), nI md, cop, carg, xc, upd xAd cnt (nI (ad 0)), upd xOp cnt (nI 0), upd xIn cnt (nI (st 0)), upd xCe cnt (-1), upd xMk cnt mv, upd lAd 0 (nI (ad 0 + 1)), lIn, lA, lX, lSp, f, a, r, w) (nI 0) (nI 0) arg (-1) := by
  have hQ := h
  obtain ⟨hK, hC, hc0, hAd, hxO, hyO, hxI, hyI, hCe, hS, hV, hMr, hRW, hMk, h01, H, IL⟩ := h
  unfold sp_K at hK
  have hv := hV 0 (by omega)
  have hst := IL.2.2.1 0 (by omega)
  have e0 : st 0 = 0 := IL.1 (by omega)
  exact sp_xE0 (sp_xEnd0 (hp _ (pp_mk (s := 2) (sp_QR0' (lAd' := upd lAd 0 (nI (ad 0 + 1))) (nxt' := upd nxt (st 0) (nI (ad 0 + 1))) (pv := nI (ad 0)) e0 hQ rfl hk hr) (sp_dR0 H IL D rfl))))
theorem sp_o0 {P : St2 → Prop} {p e : Nat} {arg mv : Int32} {f a r w : Nat → Int64} (h : sp_Q cc ce dc ic len (1) cnt (p + 1 + 1) md o n m st q ad cop carg xc xAd xOp xIn xCe xMk lAd lIn lA lX lSp bef awa rd wr yc stk nxt acc idx mkr yAd yOp yIn yCe lds) (D : sp_D o n m cnt md (p + 1 + 1) st) (hk : cnt < 128) (he : e < ce) (hr : sp_rec 0 (p + 1) cnt (-1) mv bef awa rd wr f a r w)
    (hp : ∀ u1, pp_R ce u1 → P u1) : wpX_execute P (nI cc, nI ce, nI dc, nI ic, nI len, nI 1, nI (cnt + 1), nI (p + 1 + 1), nI md, cop, carg, xc, upd xAd cnt (nI (ad (p + 1))), upd xOp cnt (nI 0), upd xIn cnt (nI (st (p + 1))), upd xCe cnt (-1), upd xMk cnt mv, upd lAd (p + 1) (nI (ad (p + 1) + 1)), lIn, lA, lX, lSp, f, a, r, w) (nI (p + 1)) (nI 0) arg (-1) := by
  have hQ := h
  obtain ⟨hK, hC, hc0, hAd, hxO, hyO, hxI, hyI, hCe, hS, hV, hMr, hRW, hMk, h01, H, IL⟩ := h
  unfold sp_K at hK
  have hv := hV (p + 1) (by omega)
  have hst := IL.2.2.1 (p + 1) (by omega)
  have hv0 := hV p (by omega)
  have hst0 := IL.2.2.1 p (by omega)
  have hps := sp_pos H IL (show 0 < p + 1 by omega) (show p + 1 < p + 1 + 1 by omega)
  have em := hMr (st (p + 1)) hps.1 hst
  have eo : upd yOp cnt (nI 0) (m (st (p + 1))) = nI (o (m (st (p + 1)))) := by
    rw [pk_un (by omega)]
    exact hyO _ hps.2.1
  have hob := (hS (m (st (p + 1))) hps.2.1).1
  refine sp_xE0 (sp_xEnd (by omega) (fun es f2 hf2 => ?_) (fun ec f2 hf2 => ?_))
  · have h2 : o (m (st (p + 1))) = 2 := by
      apply Classical.byContradiction
      intro z
      have := hv.2.2.2.2.2.2.2.2.2 (by omega) z
      rw [this] at es
      exact absurd es (by decide)
    refine hp _ (pp_mk (sp_QRs (awa'' := f2) (lAd' := upd lAd (p + 1) (nI (ad (p + 1) + 1))) (nxt' := upd nxt (st (p + 1)) (nI (ad (p + 1) + 1))) (pv := nI (ad (p + 1))) hQ rfl (by omega) (by omega) hk h2 hr hf2 (fun l hl => pk_un (by omega)) (fun i hi => pk_un hi)) (sp_dR H IL D rfl))
  · have h2 : ¬ o (m (st (p + 1))) = 2 := fun z => ec (hv.2.2.2.2.2.2.2.2.1 (by omega) z)
    refine hp _ (pp_mk (sp_QRc (bef'' := f2) (lAd' := upd lAd (p + 1) (nI (ad (p + 1) + 1))) (nxt' := upd nxt (st (p + 1)) (nI (ad (p + 1) + 1))) (pv := nI (ad (p + 1))) hQ rfl (by omega) (by omega) hk h2 hr hf2 (fun l hl => pk_un (by omega)) (fun i hi => pk_un hi)) (sp_dR H IL D rfl))
end
end
section
/-! ===== advance and run ===== -/
section
variable {cc ce dc ic len s cnt dep md : Nat} {o n m st q ad : Nat → Nat} {cop carg xc xAd xOp xIn xCe xMk lAd lIn lA lX lSp yc stk nxt acc idx mkr yAd yOp yIn yCe lds : Nat → Int32} {bef awa rd wr : Nat → Int64}
theorem sp_Qs {s' : Nat} (h : sp_Q cc ce dc ic len (1) cnt dep md o n m st q ad cop carg xc xAd xOp xIn xCe xMk lAd lIn lA lX lSp bef awa rd wr yc stk nxt acc idx mkr yAd yOp yIn yCe lds) (h1 : 3 ≤ s') (h2 : s' ≤ 5) : sp_Q cc ce dc ic len (s') cnt dep md o n m st q ad cop carg xc xAd xOp xIn xCe xMk lAd lIn lA lX lSp bef awa rd wr yc stk nxt acc idx mkr yAd yOp yIn yCe lds := by
  obtain ⟨hK, hC, hc0, hAd, hxO, hyO, hxI, hyI, hCe, hS, hV, hMr, hRW, hMk, h01, H, IL⟩ := h
  unfold sp_K at hK
  exact ⟨by unfold sp_K; omega, hC, hc0, hAd, hxO, hyO, hxI, hyI, hCe, hS, hV, hMr, hRW, hMk, h01, H, IL⟩
theorem sp_adv {post : St2 → Prop} (h : sp_Q cc ce dc ic len (1) cnt dep md o n m st q ad cop carg xc xAd xOp xIn xCe xMk lAd lIn lA lX lSp bef awa rd wr yc stk nxt acc idx mkr yAd yOp yIn yCe lds) (D : sp_D o n m cnt md dep st) (hp : ∀ u1, pp_R ce u1 → post u1) : wpX_advance post (nI cc, nI ce, nI dc, nI ic, nI len, nI 1, nI cnt, nI dep, nI md, cop, carg, xc, xAd, xOp, xIn, xCe, xMk, lAd, lIn, lA, lX, lSp, bef, awa, rd, wr) := by
  have hQ := h
  obtain ⟨hK, hC, hc0, hAd, hxO, hyO, hxI, hyI, hCe, hS, hV, hMr, hRW, hMk, h01, H, IL⟩ := h
  unfold sp_K at hK
  obtain ⟨L, rfl⟩ : ∃ L, dep = L + 1 := ⟨dep - 1, by omega⟩
  have hv := hV L (by omega)
  have hst := IL.2.2.1 L (by omega)
  obtain ⟨oo, arg, hf⟩ := sp_ftEx hC (ad L)
  have ho := hf.2.1
  by_cases hk : cnt < 128
  · have hm : ((oo = 2 ∨ oo = 3) → L + 1 < dc ∧ md < ic) ∨ ((oo = 2 ∨ oo = 3) ∧ L + 1 = dc) ∨ ((oo = 2 ∨ oo = 3) ∧ L + 1 < dc ∧ md = ic) := by omega
    have hc : nI cnt < 128 := nI_lt (b := 128) hk (by omega)
    have hc' : ¬ nI cnt = 128 := fun z => by
      have z2 : nI cnt = nI 128 := z
      rw [nI_eq (by omega) (by omega)] at z2
      omega
    rcases hm with hm | ⟨h23, hd⟩ | ⟨h23, hd, hi⟩
    · refine sp_both hQ hk hf hm hp (fun e ev he hev mv f a r w hr P hP => ?_)
      have hT := hf.2.2
      rcases (show oo = 0 ∨ oo = 1 ∨ oo = 2 ∨ oo = 3 ∨ oo = 4 ∨ oo = 5 ∨ oo = 6 ∨ oo = 7 ∨ oo = 8 ∨ oo = 9 ∨ oo = 10 ∨ oo = 11 by omega) with rfl | rfl | rfl | rfl | rfl | rfl | rfl | rfl | rfl | rfl | rfl | rfl
      · obtain rfl : ev = -1 := hev.elim (fun z => absurd z.1 (by unfold sp_acc; omega)) (fun z => z.2)
        cases L with
        | zero => exact sp_o0r hQ D hk he hr hP
        | succ p => exact sp_o0 hQ D hk he hr hP
      · obtain rfl : ev = -1 := hev.elim (fun z => absurd z.1 (by unfold sp_acc; omega)) (fun z => z.2)
        exact sp_o1 hQ D hk he hr hP
      · obtain rfl : ev = -1 := hev.elim (fun z => absurd z.1 (by unfold sp_acc; omega)) (fun z => z.2)
        obtain ⟨t, ht, rfl⟩ := hT (Or.inl rfl)
        exact sp_o2 ht hQ D hk he hr hP (hm (Or.inl rfl)).1 (hm (Or.inl rfl)).2
      · obtain rfl : ev = -1 := hev.elim (fun z => absurd z.1 (by unfold sp_acc; omega)) (fun z => z.2)
        obtain ⟨t, ht, rfl⟩ := hT (Or.inr (Or.inl rfl))
        exact sp_o3 ht hQ D hk he hr hP (hm (Or.inr rfl)).1 (hm (Or.inr rfl)).2
      · obtain rfl : ev = nI e := hev.elim (fun z => z.2) (fun z => absurd (Or.inl rfl) z.1)
        exact sp_o4 hQ D hk he hr hP
      · obtain rfl : ev = nI e := hev.elim (fun z => z.2) (fun z => absurd (Or.inr (Or.inl rfl)) z.1)
        exact sp_o5 hQ D hk he hr hP
      · obtain rfl : ev = nI e := hev.elim (fun z => z.2) (fun z => absurd (Or.inr (Or.inr rfl)) z.1)
        exact sp_o6 hQ D hk he hr hP
      · obtain rfl : ev = -1 := hev.elim (fun z => absurd z.1 (by unfold sp_acc; omega)) (fun z => z.2)
        exact sp_o7 hQ D hk he hr hP
      · obtain rfl : ev = -1 := hev.elim (fun z => absurd z.1 (by unfold sp_acc; omega)) (fun z => z.2)
        exact sp_o8 hQ D hk he hr hP
      · obtain rfl : ev = -1 := hev.elim (fun z => absurd z.1 (by unfold sp_acc; omega)) (fun z => z.2)
        exact sp_o9 hQ D hk he hr hP
      · obtain rfl : ev = -1 := hev.elim (fun z => absurd z.1 (by unfold sp_acc; omega)) (fun z => z.2)
        obtain ⟨t, ht, rfl⟩ := hT (Or.inr (Or.inr (Or.inl rfl)))
        exact sp_o10 ht hQ D hk he hr hP
      · obtain rfl : ev = -1 := hev.elim (fun z => absurd z.1 (by unfold sp_acc; omega)) (fun z => z.2)
        obtain ⟨t, ht, rfl⟩ := hT (Or.inr (Or.inr (Or.inr rfl)))
        exact sp_o11 ht hQ D hk he hr hP
    · refine sp_xFt (by omega) (by omega) (by omega) hv.1 hf ?_
      have hd1 : nI (L + 1) = nI dc := by rw [hd]
      have hd2 : ¬ nI (L + 1) < nI dc := nI_nlt (by omega) (by omega)
      unfold wX_advance_51
      refine br_f hc' (sp_xMks ho (fun _ => br_f (by decide) (br_t hd1 ?_)) (fun z => absurd h23 z))
      exact hp _ (pp_mk (s := 4) (sp_Qs hQ (by omega) (by omega)) D)
    · refine sp_xFt (by omega) (by omega) (by omega) hv.1 hf ?_
      have hd1 : ¬ nI (L + 1) = nI dc := fun z => by
        rw [nI_eq (by omega) (by omega)] at z
        omega
      have hd2 : nI (L + 1) < nI dc := nI_lt (by omega) (by omega)
      have hi1 : nI md = nI ic := by rw [hi]
      have hi2 : ¬ nI md < nI ic := nI_nlt (by omega) (by omega)
      unfold wX_advance_51
      refine br_f hc' (sp_xMks ho (fun _ => br_f (by decide) (br_f hd1 ?_)) (fun z => absurd h23 z))
      unfold wX_advance_97
      refine sp_xMks ho (fun _ => br_f (by decide) (br_t hi1 ?_)) (fun z => absurd h23 z)
      exact hp _ (pp_mk (s := 5) (sp_Qs hQ (by omega) (by omega)) D)
  · have hc' : nI cnt = 128 := by
      have e : cnt = 128 := by omega
      rw [e]; rfl
    have hc : ¬ nI cnt < 128 := nI_nlt (b := 128) (by omega) (by omega)
    refine sp_xFt (by omega) (by omega) (by omega) hv.1 hf ?_
    unfold wX_advance_51
    refine br_t hc' ?_
    exact hp _ (pp_mk (s := 3) (sp_Qs hQ (by omega) (by omega)) D)
theorem sp_loop {post : Int32 → St2 → Prop} {N CE : Nat} (hN : N ≤ 32) (hp : ∀ r u', pp_R CE u' → post r u') : ∀ d j, j + d = N → ∀ {cc ce dc ic len s cnt dep md : Nat} {o n m st q ad : Nat → Nat} {cop carg xc xAd xOp xIn xCe xMk lAd lIn lA lX lSp yc stk nxt acc idx mkr yAd yOp yIn yCe lds : Nat → Int32} {bef awa rd wr : Nat → Int64}, ce = CE → sp_Q cc ce dc ic len s cnt dep md o n m st q ad cop carg xc xAd xOp xIn xCe xMk lAd lIn lA lX lSp bef awa rd wr yc stk nxt acc idx mkr yAd yOp yIn yCe lds → sp_D o n m cnt md dep st →
    wX_run_20 post (nI N) (d + 1) (nI j) (nI cc) (nI ce) (nI dc) (nI ic) (nI len) (nI s) (nI cnt) (nI dep) (nI md) (cop) (carg) (xc) (xAd) (xOp) (xIn) (xCe) (xMk) (lAd) (lIn) (lA) (lX) (lSp) (bef) (awa) (rd) (wr) := by
  intro d
  induction d with
  | zero =>
    intro j hj cc ce dc ic len s cnt dep md o n m st q ad cop carg xc xAd xOp xIn xCe xMk lAd lIn lA lX lSp yc stk nxt acc idx mkr yAd yOp yIn yCe lds bef awa rd wr hce h D
    subst hce
    unfold wX_run_20
    exact br_t (nI_le (by omega) (by omega)) (hp _ _ (pp_mk h D))
  | succ d ih =>
    intro j hj cc ce dc ic len s cnt dep md o n m st q ad cop carg xc xAd xOp xIn xCe xMk lAd lIn lA lX lSp yc stk nxt acc idx mkr yAd yOp yIn yCe lds bef awa rd wr hce h D
    subst hce
    have hK := h.1
    unfold sp_K at hK
    unfold wX_run_20
    refine br_f (nI_ge (by omega) (by omega)) ?_
    by_cases s1 : s = 1
    · subst s1
      refine br_t rfl ?_
      refine sp_adv h D (fun u1 hR => ?_)
      obtain ⟨cc', ce', dc', ic', len', s', cnt', dep', md', o', n', m', st', q', ad', cop', carg', xc', xAd', xOp', xIn', xCe', xMk', lAd', lIn', lA', lX', lSp', bef', awa', rd', wr', yc', stk', nxt', acc', idx', mkr', yAd', yOp', yIn', yCe', lds', rfl, hce', hQ', hD'⟩ := hR
      exact nm_r (nI_1 j) (ih (j + 1) (by omega) hce' hQ' hD')
    · have zs : ¬ nI s = 1 := fun w => by
        have w2 : nI s = nI 1 := w
        rw [nI_eq (by omega) (by omega)] at w2
        exact s1 w2
      exact br_f zs (hp _ _ (pp_mk h D))
end
theorem pp_run {CE : Nat} {u : St2} {post : Int32 → St2 → Prop} (I : pp_R CE u) (v1 : Int32) (hp : ∀ r u', pp_R CE u' → post r u') : wpX_run post u v1 := by
  have J := I
  obtain ⟨cc, ce, dc, ic, len, s, cnt, dep, md, o, n, m, st, q, ad, cop, carg, xc, xAd, xOp, xIn, xCe, xMk, lAd, lIn, lA, lX, lSp, bef, awa, rd, wr, yc, stk, nxt, acc, idx, mkr, yAd, yOp, yIn, yCe, lds, rfl, rfl, hQ, hD⟩ := I
  have hK := hQ.1
  unfold sp_K at hK
  unfold wpX_run
  dsimp only
  by_cases s1 : s = 1
  · have z1 : nI s = 1 := by rw [s1]; rfl
    obtain ⟨N, a0, b0, e0⟩ := sp_clEx v1 (lo := 0) (hi := 32) (by omega) (by omega)
    exact br_t z1 (sp_xClamp (lo := 0) (hi := 32) e0 ⟨N + 1, sp_loop b0 hp N 0 (by omega) rfl hQ hD⟩)
  · have z1 : ¬ nI s = 1 := fun w => by
      have w2 : nI s = nI 1 := w
      rw [nI_eq (by omega) (by omega)] at w2
      exact s1 w2
    exact br_f z1 (hp _ _ J)
end
section
/-! ===== the calls that only ask, and the law's own sets ===== -/
theorem sp_band (x y : Int64) (i : Nat) : sp_b (x &&& y) i ↔ (sp_b x i ∧ sp_b y i) := by
  unfold sp_b
  rw [Int64.toBitVec_and, BitVec.getLsbD_and, Bool.and_eq_true]
/-- the law's set: bits of two longs -/
def pp_in (lo hi : Int64) (j : Nat) : Prop := (j < 64 ∧ sp_b lo j) ∨ (64 ≤ j ∧ sp_b hi (j - 64))
theorem pp_lh {e : Nat} (he : e < 128) : ∃ l h : Int64, (∀ post : Int64 → Prop, post l → wpL_low post () (nI e)) ∧ (∀ post : Int64 → Prop, post h → wpL_high post () (nI e)) ∧ (∀ i, i < 64 → (sp_b l i ↔ (e < 64 ∧ i = e))) ∧ (∀ i, i < 64 → (sp_b h i ↔ (64 ≤ e ∧ i = e - 64))) := by
  by_cases c : e < 64
  · have z : ¬ (64 : Int32) ≤ nI e := nI_ge (b := 64) c (by omega)
    refine ⟨(1 : Int64) <<< ((nI e).toInt64 &&& 63), 0, fun post hp => ?_, fun post hp => ?_, fun i hi => ?_, fun i hi => ?_⟩
    · unfold wpL_low
      exact br_f z hp
    · unfold wpL_high
      exact br_f z hp
    · rw [sp_bsh c hi]
      exact ⟨fun w => ⟨c, w⟩, fun w => w.2⟩
    · exact ⟨fun w => absurd w (sp_b0 i), fun w => by omega⟩
  · have z : (64 : Int32) ≤ nI e := nI_le (a := 64) (by omega) (by omega)
    have es : nI e - 64 = nI (e - 64) := pk_sub (b := 64) (by omega)
    refine ⟨0, (1 : Int64) <<< ((nI (e - 64)).toInt64 &&& 63), fun post hp => ?_, fun post hp => ?_, fun i hi => ?_, fun i hi => ?_⟩
    · unfold wpL_low
      exact br_t z hp
    · unfold wpL_high
      rw [es]
      exact br_t z hp
    · exact ⟨fun w => absurd w (sp_b0 i), fun w => by omega⟩
    · rw [sp_bsh (show e - 64 < 64 by omega) hi]
      exact ⟨fun w => ⟨by omega, w⟩, fun w => w.2⟩
theorem pp_ini {K : Int64 → Int64 → Prop} {e : Nat} (he : e < 128) (h : ∀ lo hi, (∀ j, j < 128 → (pp_in lo hi j ↔ j = e)) → K lo hi) : wpL_low (fun r => wpL_high (fun r2 => K r r2) () (nI e)) () (nI e) := by
  obtain ⟨l, g, h1, h2, h3, h4⟩ := pp_lh he
  refine h1 _ (h2 _ (h l g (fun j hj => ?_)))
  unfold pp_in
  constructor
  · rintro (⟨a, b⟩ | ⟨a, b⟩)
    · exact ((h3 j a).1 b).2
    · have := (h4 (j - 64) (by omega)).1 b
      omega
  · intro a
    by_cases c : j < 64
    · exact Or.inl ⟨c, (h3 j c).2 ⟨by omega, a⟩⟩
    · exact Or.inr ⟨by omega, (h4 (j - 64) (by omega)).2 ⟨by omega, by omega⟩⟩
theorem pp_add {K : Int64 → Int64 → Prop} {lo hi : Int64} {e : Nat} (he : e < 128) (h : ∀ lo' hi', (∀ j, j < 128 → (pp_in lo' hi' j ↔ (pp_in lo hi j ∨ j = e))) → K lo' hi') :
    wpL_low (fun r => ∀ x : Int64, x = lo ||| r → wpL_high (fun r2 => ∀ y : Int64, y = hi ||| r2 → K x y) () (nI e)) () (nI e) := by
  obtain ⟨l, g, h1, h2, h3, h4⟩ := pp_lh he
  refine h1 _ (nm_e (h2 _ (nm_e (h _ _ (fun j hj => ?_)))))
  unfold pp_in
  rw [sp_bor, sp_bor]
  constructor
  · rintro (⟨a, b | b⟩ | ⟨a, b | b⟩)
    · exact Or.inl (Or.inl ⟨a, b⟩)
    · exact Or.inr ((h3 j a).1 b).2
    · exact Or.inl (Or.inr ⟨a, b⟩)
    · have := (h4 (j - 64) (by omega)).1 b
      exact Or.inr (by omega)
  · rintro ((⟨a, b⟩ | ⟨a, b⟩) | a)
    · exact Or.inl ⟨a, Or.inl b⟩
    · exact Or.inr ⟨a, Or.inl b⟩
    · by_cases c : j < 64
      · exact Or.inl ⟨c, Or.inr ((h3 j c).2 ⟨by omega, a⟩)⟩
      · exact Or.inr ⟨by omega, Or.inr ((h4 (j - 64) (by omega)).2 ⟨by omega, by omega⟩)⟩
theorem pp_tst {A B : Prop} {lo hi : Int64} {e : Nat} (he : e < 128) (hA : ¬ pp_in lo hi e → A) (hB : pp_in lo hi e → B) :
    wpL_low (fun r => wpL_high (fun r2 => (((lo &&& r) ||| (hi &&& r2)) = 0 → A) ∧ (¬ ((lo &&& r) ||| (hi &&& r2)) = 0 → B)) () (nI e)) () (nI e) := by
  obtain ⟨l, g, h1, h2, h3, h4⟩ := pp_lh he
  have key : (¬ ((lo &&& l) ||| (hi &&& g)) = 0) ↔ pp_in lo hi e := by
    rw [sp_bnz]
    constructor
    · rintro ⟨i, hi', w⟩
      rw [sp_bor, sp_band, sp_band] at w
      rcases w with ⟨a, b⟩ | ⟨a, b⟩
      · have := (h3 i hi').1 b
        exact Or.inl ⟨this.1, by rw [← this.2]; exact a⟩
      · have := (h4 i hi').1 b
        exact Or.inr ⟨this.1, by rw [← this.2]; exact a⟩
    · rintro (⟨a, b⟩ | ⟨a, b⟩)
      · refine ⟨e, a, ?_⟩
        rw [sp_bor, sp_band, sp_band]
        exact Or.inl ⟨b, (h3 e a).2 ⟨a, rfl⟩⟩
      · refine ⟨e - 64, by omega, ?_⟩
        rw [sp_bor, sp_band, sp_band]
        exact Or.inr ⟨b, (h4 (e - 64) (by omega)).2 ⟨a, rfl⟩⟩
  refine h1 _ (h2 _ ⟨fun z => hA (fun w => key.2 w z), fun z => hB (key.1 z)⟩)
section
variable {g0 g1 g2 g3 g4 g5 g6 g7 g8 : Int32} {cop carg xc xAd xOp xIn xCe xMk lAd lIn lA lX lSp : Nat → Int32} {bef awa rd wr : Nat → Int64}
theorem pp_isStep {post : Int32 → Prop} {cnt j : Nat} (hc : cnt ≤ 128) (hj : j < cnt) (h : post 1) : wpX_isStep post (g0, g1, g2, g3, g4, g5, nI cnt, g7, g8, cop, carg, xc, xAd, xOp, xIn, xCe, xMk, lAd, lIn, lA, lX, lSp, bef, awa, rd, wr) (nI j) :=
  sp_xIsStep (nI j) (by omega) (fun _ _ _ => h) (fun z => by
    rcases z with z | z
    · exact absurd z (nI_pos (by omega))
    · exact absurd z (nI_ge hj (by omega)))
theorem pp_step1 {post : Int32 → Prop} {cnt j : Nat} (hc : cnt ≤ 128) (hj : j < cnt) (h : post (xOp j)) : wpX_step post (g0, g1, g2, g3, g4, g5, nI cnt, g7, g8, cop, carg, xc, xAd, xOp, xIn, xCe, xMk, lAd, lIn, lA, lX, lSp, bef, awa, rd, wr) (nI j) 1 := by
  have cj : (nI j).toNatClampNeg = j := nI_clamp (by omega)
  have ix : vp_in (nI j) 128 := vp_in_nI (by omega) (by omega)
  unfold wpX_step
  dsimp only
  rw [cj]
  exact pp_isStep hc hj (br_f (by decide) (br_f (by decide) (br_f (by decide) (br_f (by decide) (br_t (by decide) ⟨ix, h⟩)))))
theorem pp_step2 {post : Int32 → Prop} {cnt j : Nat} (hc : cnt ≤ 128) (hj : j < cnt) (h : post (xIn j)) : wpX_step post (g0, g1, g2, g3, g4, g5, nI cnt, g7, g8, cop, carg, xc, xAd, xOp, xIn, xCe, xMk, lAd, lIn, lA, lX, lSp, bef, awa, rd, wr) (nI j) 2 := by
  have cj : (nI j).toNatClampNeg = j := nI_clamp (by omega)
  have ix : vp_in (nI j) 128 := vp_in_nI (by omega) (by omega)
  unfold wpX_step
  dsimp only
  rw [cj]
  exact pp_isStep hc hj (br_f (by decide) (br_f (by decide) (br_f (by decide) (br_f (by decide) (br_f (by decide) (br_t (by decide) ⟨ix, h⟩))))))
theorem pp_step3 {post : Int32 → Prop} {cnt j : Nat} (hc : cnt ≤ 128) (hj : j < cnt) (h : post (xCe j)) : wpX_step post (g0, g1, g2, g3, g4, g5, nI cnt, g7, g8, cop, carg, xc, xAd, xOp, xIn, xCe, xMk, lAd, lIn, lA, lX, lSp, bef, awa, rd, wr) (nI j) 3 := by
  have cj : (nI j).toNatClampNeg = j := nI_clamp (by omega)
  have ix : vp_in (nI j) 128 := vp_in_nI (by omega) (by omega)
  unfold wpX_step
  dsimp only
  rw [cj]
  exact pp_isStep hc hj (br_f (by decide) (br_f (by decide) (br_f (by decide) (br_f (by decide) (br_f (by decide) (br_f (by decide) (br_t (by decide) ⟨ix, h⟩)))))))
theorem pp_racing {post : Int32 → Prop} {cnt j : Nat} (hc : cnt ≤ 128) (hj : j < cnt) (h : post (xMk j)) : wpX_racing post (g0, g1, g2, g3, g4, g5, nI cnt, g7, g8, cop, carg, xc, xAd, xOp, xIn, xCe, xMk, lAd, lIn, lA, lX, lSp, bef, awa, rd, wr) (nI j) := by
  have cj : (nI j).toNatClampNeg = j := nI_clamp (by omega)
  have ix : vp_in (nI j) 128 := vp_in_nI (by omega) (by omega)
  unfold wpX_racing
  dsimp only
  rw [cj]
  exact pp_isStep hc hj (br_f (by decide) ⟨ix, h⟩)
theorem pp_racesOn {post : Int32 → Prop} {j : Nat} {c : Int32} (hj : j < 128) (h1 : xCe j = c → ¬ xMk j = 0 → post 1) (h0 : ¬ (xCe j = c ∧ ¬ xMk j = 0) → post 0) : wpX_racesOn post (g0, g1, g2, g3, g4, g5, g6, g7, g8, cop, carg, xc, xAd, xOp, xIn, xCe, xMk, lAd, lIn, lA, lX, lSp, bef, awa, rd, wr) (nI j) c := by
  have ij : vp_in (nI j) 128 := vp_in_nI (by omega) (by omega)
  have cj : (nI j).toNatClampNeg = j := nI_clamp (by omega)
  unfold wpX_racesOn
  dsimp only
  rw [cj]
  exact ⟨ij, br_c (fun e => ⟨ij, br_c (fun e2 => h0 (fun w => w.2 e2)) (fun e2 => h1 e e2)⟩) (fun ne => h0 (fun w => ne w.1))⟩
end
/-- first and count after the steps below k -/
def pp_ac (xCe xMk : Nat → Int32) (c : Int32) : Nat → Int32 → Int32 → Prop
  | 0 => fun f n => f = -1 ∧ n = 0
  | k + 1 => fun f n => ∃ f0 n0, pp_ac xCe xMk c k f0 n0 ∧ ((xCe k = c ∧ ¬ xMk k = 0) → (n = n0 + 1 ∧ (f0 < 0 → f = nI k) ∧ (¬ f0 < 0 → f = f0))) ∧ (¬ (xCe k = c ∧ ¬ xMk k = 0) → (n = n0 ∧ f = f0))
theorem pp_ac_u {xCe xMk : Nat → Int32} {c : Int32} : ∀ k f n f' n', pp_ac xCe xMk c k f n → pp_ac xCe xMk c k f' n' → f = f' ∧ n = n' := by
  intro k
  induction k with
  | zero =>
    intro f n f' n' h h'
    exact ⟨h.1.trans h'.1.symm, h.2.trans h'.2.symm⟩
  | succ k ih =>
    rintro f n f' n' ⟨f0, n0, h0, h1, h2⟩ ⟨g0, m0, h0', h1', h2'⟩
    obtain ⟨e1, e2⟩ := ih _ _ _ _ h0 h0'
    rw [← e1, ← e2] at h1' h2'
    by_cases c : xCe k = c ∧ ¬ xMk k = 0
    · obtain ⟨a, b, d⟩ := h1 c
      obtain ⟨a', b', d'⟩ := h1' c
      by_cases z : f0 < 0
      · exact ⟨(b z).trans (b' z).symm, a.trans a'.symm⟩
      · exact ⟨(d z).trans (d' z).symm, a.trans a'.symm⟩
    · obtain ⟨a, b⟩ := h2 c
      obtain ⟨a', b'⟩ := h2' c
      exact ⟨b.trans b'.symm, a.trans a'.symm⟩
theorem pp_ac_s {xCe xMk : Nat → Int32} {c f n : Int32} {a : Nat} (h : pp_ac xCe xMk c a f n) (hf : ¬ f < 0) : ∀ d F N, pp_ac xCe xMk c (a + d) F N → F = f := by
  intro d
  induction d with
  | zero => exact fun F N hF => (pp_ac_u _ _ _ _ _ hF h).1
  | succ d ih =>
    rintro F N ⟨f0, n0, h0, h1, h2⟩
    have e := ih f0 n0 h0
    by_cases c : xCe (a + d) = c ∧ ¬ xMk (a + d) = 0
    · rw [(h1 c).2.2 (by rw [e]; exact hf), e]
    · rw [(h2 c).2, e]
theorem pp_ac_h {xCe xMk : Nat → Int32} {c f n : Int32} {k : Nat} (h : pp_ac xCe xMk c k f n) (hc : xCe k = c) (hm : ¬ xMk k = 0) : (f < 0 → pp_ac xCe xMk c (k + 1) (nI k) (n + 1)) ∧ (¬ f < 0 → pp_ac xCe xMk c (k + 1) f (n + 1)) :=
  ⟨fun z => ⟨f, n, h, fun _ => ⟨rfl, fun _ => rfl, fun w => absurd z w⟩, fun w => absurd ⟨hc, hm⟩ w⟩, fun z => ⟨f, n, h, fun _ => ⟨rfl, fun w => absurd w z, fun _ => rfl⟩, fun w => absurd ⟨hc, hm⟩ w⟩⟩
theorem pp_ac_k {xCe xMk : Nat → Int32} {c f n : Int32} {k : Nat} (h : pp_ac xCe xMk c k f n) (hc : ¬ (xCe k = c ∧ ¬ xMk k = 0)) : pp_ac xCe xMk c (k + 1) f n :=
  ⟨f, n, h, fun w => absurd w hc, fun _ => ⟨rfl, rfl⟩⟩
section
variable {g0 g1 g2 g3 g4 g5 g6 g7 g8 : Int32} {cop carg xc xAd xOp xIn xCe xMk lAd lIn lA lX lSp : Nat → Int32} {bef awa rd wr : Nat → Int64}
theorem pp_races14 {post : Int32 → Prop} {cnt : Nat} {c F N : Int32} (hc : cnt ≤ 128) (hF : pp_ac xCe xMk c cnt F N) (hp : post N) : ∀ d j, j + d = cnt → ∀ f n, pp_ac xCe xMk c j f n → wX_races_14 post c (g0) (g1) (g2) (g3) (g4) (g5) (nI cnt) (g7) (g8) (cop) (carg) (xc) (xAd) (xOp) (xIn) (xCe) (xMk) (lAd) (lIn) (lA) (lX) (lSp) (bef) (awa) (rd) (wr) (d + 1) n (nI j) := by
  intro d
  induction d with
  | zero =>
    intro j hj f n h
    obtain rfl : j = cnt := by omega
    unfold wX_races_14
    rw [(pp_ac_u _ _ _ _ _ h hF).2]
    exact br_t (nI_le (by omega) (by omega)) hp
  | succ d ih =>
    intro j hj f n h
    unfold wX_races_14
    refine br_f (nI_ge (by omega) (by omega)) (pp_racesOn (by omega) (fun e m => br_f (by decide) (nm_e (nm_r (nI_1 j) ?_))) (fun e => br_t rfl (nm_r (nI_1 j) (ih (j + 1) (by omega) f n (pp_ac_k h e)))))
    by_cases z : f < 0
    · exact ih (j + 1) (by omega) _ _ ((pp_ac_h h e m).1 z)
    · exact ih (j + 1) (by omega) _ _ ((pp_ac_h h e m).2 z)
theorem pp_first12 {post : Int32 → Prop} {cnt : Nat} {c F N : Int32} (hc : cnt ≤ 128) (hF : pp_ac xCe xMk c cnt F N) (hp : post F) : ∀ d j, j + d = cnt → ∀ n, pp_ac xCe xMk c j (-1) n → wX_firstRace_12 post c (g0) (g1) (g2) (g3) (g4) (g5) (nI cnt) (g7) (g8) (cop) (carg) (xc) (xAd) (xOp) (xIn) (xCe) (xMk) (lAd) (lIn) (lA) (lX) (lSp) (bef) (awa) (rd) (wr) (d + 1) (nI j) := by
  intro d
  induction d with
  | zero =>
    intro j hj n h
    obtain rfl : j = cnt := by omega
    unfold wX_firstRace_12
    refine br_t (nI_le (by omega) (by omega)) ?_
    rw [(pp_ac_u _ _ _ _ _ h hF).1]
    exact hp
  | succ d ih =>
    intro j hj n h
    unfold wX_firstRace_12
    refine br_f (nI_ge (by omega) (by omega)) (pp_racesOn (by omega) (fun e m => br_f (by decide) ?_) (fun e => br_t rfl (nm_r (nI_1 j) (ih (j + 1) (by omega) n (pp_ac_k h e)))))
    have h2 := (pp_ac_h h e m).1 (by decide)
    have e2 : j + 1 + d = cnt := by omega
    rw [← e2] at hF
    rw [← pp_ac_s h2 (nI_pos (by omega)) d F N hF]
    exact hp
theorem pp_races {post : Int32 → Prop} {cnt ce c : Nat} {F N : Int32} (hc : cnt ≤ 128) (hce : ce ≤ 16) (hcc : c < ce) (hF : pp_ac xCe xMk (nI c) cnt F N) (hp : post N) : wpX_races post (g0, nI ce, g2, g3, g4, g5, nI cnt, g7, g8, cop, carg, xc, xAd, xOp, xIn, xCe, xMk, lAd, lIn, lA, lX, lSp, bef, awa, rd, wr) (nI c) := by
  unfold wpX_races
  dsimp only
  refine sp_xCell (nI c) (by omega) (fun _ _ _ => br_f (by decide) ⟨cnt + 1, pp_races14 hc hF hp cnt 0 (by omega) (-1) 0 ⟨rfl, rfl⟩⟩) (fun z => ?_)
  rcases z with z | z
  · exact absurd z (nI_pos (by omega))
  · exact absurd z (nI_ge hcc (by omega))
theorem pp_firstRace {post : Int32 → Prop} {cnt ce c : Nat} {F N : Int32} (hc : cnt ≤ 128) (hce : ce ≤ 16) (hcc : c < ce) (hF : pp_ac xCe xMk (nI c) cnt F N) (hp : post F) : wpX_firstRace post (g0, nI ce, g2, g3, g4, g5, nI cnt, g7, g8, cop, carg, xc, xAd, xOp, xIn, xCe, xMk, lAd, lIn, lA, lX, lSp, bef, awa, rd, wr) (nI c) := by
  unfold wpX_firstRace
  dsimp only
  refine sp_xCell (nI c) (by omega) (fun _ _ _ => br_f (by decide) ⟨cnt + 1, pp_first12 hc hF hp cnt 0 (by omega) 0 ⟨rfl, rfl⟩⟩) (fun z => ?_)
  rcases z with z | z
  · exact absurd z (nI_pos (by omega))
  · exact absurd z (nI_ge hcc (by omega))
end
end
section
/-! ===== the law's search: the edges into one step ===== -/
section
variable {o n m : Nat → Nat} {k md : Nat}
theorem sp_lawy (H : sp_H o n m k md) (D : sp_Dh o n m k md) {t y j : Nat} (ht : t < k) (hj : sp_pj o n m t (n t) j) (hy : m (n j) < y) (hyt : y < t) (hn : n y = n t) : j < y := by
  obtain ⟨x, ⟨hx1, hx2⟩, hx3⟩ := pk_least (fun x => m (n j) < x ∧ n x = n t) ⟨y, hy, hn⟩
  have hxy : x ≤ y := by
    apply Classical.byContradiction
    intro z
    exact hx3 y (by omega) ⟨hy, hn⟩
  have e := sp_lawj H D ht (show x ≤ t by omega) hx1 hj.2.1.2.2.1 hx2 (fun z a b w => hx3 z b ⟨a, w⟩) hj.2.1.2.2.2 hj.2.1 hj.1 rfl
  omega
/-- what the inner loop has gathered once the steps from c on are seen -/
def pp_I (o n m : Nat → Nat) (t c nx jv : Nat) (S0 S : Nat → Prop) : Prop :=
  (c ≤ nx ∧ nx ≤ t ∧ n nx = n t ∧ ∀ y, c ≤ y → y < nx → ¬ n y = n t) ∧
  (jv ≤ 1 ∧ (jv = 1 ↔ ((o t = 1 ∨ o t = 0) ∧ ∀ y, c ≤ y → y < t → n y = n t → ¬ o y = 1))) ∧
  ∀ j, j < 128 → (S j ↔ (S0 j ∨ (nx < t ∧ sp_pn o n m t (n t) j) ∨ ((o t = 1 ∨ o t = 0) ∧ sp_pj o n m t (n t) j ∧ c ≤ m (n j))))
theorem pp_I0 (H : sp_H o n m k md) {t jv : Nat} {S0 : Nat → Prop} (ht : t < k) (h1 : jv ≤ 1) (hjv : jv = 1 ↔ (o t = 1 ∨ o t = 0)) : pp_I o n m t t t jv S0 S0 := by
  refine ⟨⟨Nat.le_refl t, Nat.le_refl t, rfl, fun y a b => by omega⟩, ⟨h1, hjv.trans ⟨fun z => ⟨z, fun y a b => by omega⟩, fun z => z.1⟩⟩, fun j hj => ?_⟩
  constructor
  · exact Or.inl
  · rintro (z | z | z)
    · exact z
    · omega
    · have h2 := z.2.1.1
      have h3 := H.2.1 j (by omega) z.2.1.2.1.2.1
      have h4 := z.2.2
      omega
/-- a step of another instance -/
theorem pp_In {t c nx jv : Nat} {S0 S : Nat → Prop} (hI : pp_I o n m t (c + 1) nx jv S0 S) (hn : ¬ n c = n t) : pp_I o n m t c nx jv S0 S := by
  obtain ⟨⟨a1, a2, a3, a4⟩, ⟨b1, b2⟩, h3⟩ := hI
  refine ⟨⟨by omega, a2, a3, fun y h1 h2 => ?_⟩, ⟨b1, b2.trans ⟨fun z => ⟨z.1, fun y h1 h2 h4 => ?_⟩, fun z => ⟨z.1, fun y h1 h2 h4 => z.2 y (by omega) h2 h4⟩⟩⟩, fun j hj => (h3 j hj).trans ?_⟩
  · by_cases e : y = c
    · rw [e]; exact hn
    · exact a4 y (by omega) h2
  · by_cases e : y = c
    · rw [e] at h4
      exact absurd h4 hn
    · exact z.2 y (by omega) h2 h4
  · constructor
    · rintro (z | z | z)
      · exact Or.inl z
      · exact Or.inr (Or.inl z)
      · exact Or.inr (Or.inr ⟨z.1, z.2.1, by have := z.2.2; omega⟩)
    · rintro (z | z | z)
      · exact Or.inl z
      · exact Or.inr (Or.inl z)
      · refine Or.inr (Or.inr ⟨z.1, z.2.1, ?_⟩)
        have h5 := z.2.2
        by_cases e : m (n j) = c
        · have h6 := z.2.1.2.1.2.2.1
          rw [e] at h6
          exact absurd h6 hn
        · omega
/-- a step of the same instance -/
theorem pp_Is (H : sp_H o n m k md) (D : sp_Dh o n m k md) {t c nx jv : Nat} {S0 S S' : Nat → Prop} (ht : t < k) (hc : c < t) (hI : pp_I o n m t (c + 1) nx jv S0 S) (hn : n c = n t)
    (hS : ∀ j, j < 128 → (S' j ↔ (S j ∨ (nx = t ∧ j = if o c = 3 then t - 1 else c) ∨ (jv = 1 ∧ o c = 2 ∧ j = nx - 1)))) : pp_I o n m t c c (if o c = 1 then 0 else jv) S0 S' := by
  obtain ⟨⟨a1, a2, a3, a4⟩, ⟨b1, b2⟩, h3⟩ := hI
  have hF : ∀ y, y < t → n y = n t → ¬ o y = 0 := fun y hy e => D.2.2.1 y t hy ht e
  refine ⟨⟨Nat.le_refl c, by omega, hn, fun y h1 h2 => by omega⟩, ⟨?_, ?_⟩, fun j hj => (hS j hj).trans ?_⟩
  · split
    · omega
    · exact b1
  · by_cases e : o c = 1
    · rw [if_pos e]
      exact ⟨fun z => by omega, fun z => absurd e (z.2 c (Nat.le_refl c) hc hn)⟩
    · rw [if_neg e, b2]
      refine ⟨fun z => ⟨z.1, fun y h1 h2 h4 => ?_⟩, fun z => ⟨z.1, fun y h1 h2 h4 => z.2 y (by omega) h2 h4⟩⟩
      by_cases e2 : y = c
      · rw [e2]; exact e
      · exact z.2 y (by omega) h2 h4
  · rw [h3 j hj]
    have hpn : sp_pn o n m t (n t) j ↔ ((nx < t ∧ sp_pn o n m t (n t) j) ∨ (nx = t ∧ j = if o c = 3 then t - 1 else c)) := by
      by_cases e : nx = t
      · have hl := sp_law1 H D ht hc hn (fun x h1 h2 => a4 x (by omega) (by omega)) j
        constructor
        · exact fun z => Or.inr ⟨e, hl.1 z⟩
        · rintro (z | z)
          · exact z.2
          · exact hl.2 z.2
      · constructor
        · exact fun z => Or.inl ⟨by omega, z⟩
        · rintro (z | z)
          · exact z.2
          · exact absurd z.1 e
    have hpj : ((o t = 1 ∨ o t = 0) ∧ sp_pj o n m t (n t) j ∧ m (n j) = c) ↔ (jv = 1 ∧ o c = 2 ∧ j = nx - 1) := by
      constructor
      · rintro ⟨z1, z2, z3⟩
        have h2 : o c = 2 := by
          have := z2.2.1.2.2.2
          rwa [z3] at this
        have hjx := sp_lawj H D ht a2 (show c < nx by omega) hn a3 (fun y h1 h4 => a4 y (by omega) h4) h2 z2.2.1 z2.1 z3
        refine ⟨b2.2 ⟨z1, fun y h1 h4 h5 h6 => ?_⟩, h2, hjx⟩
        have hlt := sp_lawy H D ht z2 (show m (n j) < y by omega) h4 h5
        exact z2.2.2 y hlt h4 ⟨h5, Or.inl h6⟩
      · rintro ⟨z1, z2, z3⟩
        obtain ⟨y1, y2⟩ := b2.1 z1
        obtain ⟨w1, w2⟩ := sp_lawx H D ht a2 (show c < nx by omega) hn a3 (fun y h1 h4 => a4 y (by omega) h4) z2
        rw [z3]
        refine ⟨y1, ⟨by omega, w1, fun s h1 h4 h5 => ?_⟩, w2⟩
        rcases h5.2 with h6 | h6
        · exact y2 s (by omega) h4 h5.1 h6
        · exact hF s h4 h5.1 h6
    constructor
    · rintro ((z | z | z) | z | z)
      · exact Or.inl z
      · exact Or.inr (Or.inl ⟨hc, z.2⟩)
      · exact Or.inr (Or.inr ⟨z.1, z.2.1, by have := z.2.2; omega⟩)
      · exact Or.inr (Or.inl ⟨hc, hpn.2 (Or.inr z)⟩)
      · have := hpj.2 z
        exact Or.inr (Or.inr ⟨this.1, this.2.1, by omega⟩)
    · rintro (z | z | z)
      · exact Or.inl (Or.inl z)
      · rcases hpn.1 z.2 with y | y
        · exact Or.inl (Or.inr (Or.inl y))
        · exact Or.inr (Or.inl y)
      · by_cases e : m (n j) = c
        · exact Or.inr (Or.inr (hpj.1 ⟨z.1, z.2.1, e⟩))
        · exact Or.inl (Or.inr (Or.inr ⟨z.1, z.2.1, by have := z.2.2; omega⟩))
/-- the loop's end -/
theorem pp_Ie (H : sp_H o n m k md) (D : sp_Dh o n m k md) {t c nx jv : Nat} {S0 S S' : Nat → Prop} (ht : t < k) (h0 : 0 < t) (hI : pp_I o n m t c nx jv S0 S) (hend : c = 0 ∨ (¬ nx = t ∧ jv = 0))
    (hS : ∀ j, j < 128 → (S' j ↔ (S j ∨ (nx = t ∧ j = t - 1)))) : ∀ j, j < 128 → (S' j ↔ (S0 j ∨ sp_E o n m j t)) := by
  obtain ⟨⟨a1, a2, a3, a4⟩, ⟨b1, b2⟩, h3⟩ := hI
  intro j hj
  rw [hS j hj, h3 j hj]
  have hpj : (o t = 1 ∨ o t = 0) → sp_pj o n m t (n t) j → c ≤ m (n j) := by
    intro z1 z2
    rcases hend with e | ⟨e1, e2⟩
    · omega
    · apply Classical.byContradiction
      intro hlt
      have : jv = 1 := by
        refine b2.2 ⟨z1, fun y h1 h4 h5 h6 => ?_⟩
        have hjy := sp_lawy H D ht z2 (show m (n j) < y by omega) h4 h5
        exact z2.2.2 y hjy h4 ⟨h5, Or.inl h6⟩
      omega
  constructor
  · rintro ((z | z | z) | z)
    · exact Or.inl z
    · exact Or.inr (Or.inl z.2)
    · exact Or.inr (Or.inr ⟨z.2.1, z.1⟩)
    · have hc0 : c = 0 := by
        rcases hend with e | e
        · exact e
        · exact absurd z.1 e.1
      exact Or.inr (Or.inl ((sp_law0 H D ht h0 (fun x hx => a4 x (by omega) (by omega)) j).2 z.2))
  · rintro (z | z | z)
    · exact Or.inl (Or.inl z)
    · by_cases e : nx = t
      · have hc0 : c = 0 := by
          rcases hend with e' | e'
          · exact e'
          · exact absurd e e'.1
        exact Or.inr ⟨e, (sp_law0 H D ht h0 (fun x hx => a4 x (by omega) (by omega)) j).1 z⟩
      · exact Or.inl (Or.inr (Or.inl ⟨by omega, z⟩))
    · exact Or.inl (Or.inr (Or.inr ⟨z.2, z.1, hpj z.2 z.1⟩))
end
section
variable {cc ce dc ic len s cnt dep md : Nat} {o n m st q ad : Nat → Nat} {cop carg xc xAd xOp xIn xCe xMk lAd lIn lA lX lSp yc stk nxt acc idx mkr yAd yOp yIn yCe lds : Nat → Int32} {bef awa rd wr : Nat → Int64}
variable {post : Int32 → Prop} {Ls : Nat} {xs : Nat → Int32} {J71 : Int32 → Int32 → Int32 → Int32 → Int32 → Int32 → Int32 → Int32 → Int32 → Int32 → Int32 → Int32 → (Nat → Int32) → (Nat → Int32) → (Nat → Int32) → (Nat → Int32) → (Nat → Int32) → (Nat → Int32) → (Nat → Int32) → (Nat → Int32) → (Nat → Int32) → (Nat → Int32) → (Nat → Int32) → (Nat → Int32) → (Nat → Int32) → (Nat → Int64) → (Nat → Int64) → (Nat → Int64) → (Nat → Int64) → Prop} {J249 : Int32 → Int32 → Int32 → Int32 → Int32 → Int32 → Int32 → Int32 → Int32 → Int32 → Int32 → (Nat → Int32) → (Nat → Int32) → (Nat → Int32) → (Nat → Int32) → (Nat → Int32) → (Nat → Int32) → (Nat → Int32) → (Nat → Int32) → (Nat → Int32) → (Nat → Int32) → (Nat → Int32) → (Nat → Int32) → (Nat → Int32) → (Nat → Int64) → (Nat → Int64) → (Nat → Int64) → (Nat → Int64) → Prop} {J308 : Int32 → Prop} {J323 : Int32 → Int32 → Int32 → Prop} {J371 : Int64 → Int64 → Int32 → Prop} {J447 : Int64 → Int64 → Int32 → Int32 → Int32 → Prop} {x1 x2 x4 x5 x6 x8 x9 x10 x11 x12 x13 x14 : Int32} {kc ks : Nat}
theorem pp_567 {lo hi : Int64} {x19 x20 : Int32} {jv q oo : Nat} (ho : oo ≤ 11) (hj : jv ≤ 1) (h : J447 lo hi (nI (if oo = 1 then 0 else jv)) (nI q) (nI q + (-1))) :
    wL_law_567 post Ls xs J71 J249 J308 J323 J371 J447 x1 x2 x4 x5 x6 x8 x9 x10 x11 x12 x13 x14 lo hi x19 x20 (nI jv) (nI q) (nI oo) kc ks (nI cc) (nI ce) (nI dc) (nI ic) (nI len) (nI s) (nI cnt) (nI dep) (nI md) (cop) (carg) (xc) (xAd) (xOp) (xIn) (xCe) (xMk) (lAd) (lIn) (lA) (lX) (lSp) (bef) (awa) (rd) (wr) := by
  unfold wL_law_567
  refine pk_eq oo 1 (fun e => nm_e ?_) (fun e => nm_e ?_)
  · rw [if_pos e] at h
    exact h
  · rw [if_neg e] at h
    exact h
theorem pp_532 {lo hi : Int64} {x19 x20 : Int32} {jv nx q oo : Nat} (ho : oo ≤ 11) (hj : jv ≤ 1) (hn0 : 0 < nx) (hn : nx ≤ 128)
    (h : ∀ lo' hi', (∀ j, j < 128 → (pp_in lo' hi' j ↔ (pp_in lo hi j ∨ (jv = 1 ∧ oo = 2 ∧ j = nx - 1)))) → J447 lo' hi' (nI (if oo = 1 then 0 else jv)) (nI q) (nI q + (-1))) :
    wL_law_532 post Ls xs J71 J249 J308 J323 J371 J447 x1 x2 x4 x5 x6 x8 x9 x10 x11 x12 x13 x14 lo hi x19 x20 (nI jv) (nI nx) (nI q) (nI oo) kc ks (nI cc) (nI ce) (nI dc) (nI ic) (nI len) (nI s) (nI cnt) (nI dep) (nI md) (cop) (carg) (xc) (xAd) (xOp) (xIn) (xCe) (xMk) (lAd) (lIn) (lA) (lX) (lSp) (bef) (awa) (rd) (wr) := by
  have e1 : nI nx - 1 = nI (nx - 1) := pk_sub (b := 1) (by omega)
  unfold wL_law_532
  rw [e1]
  refine pk_eq jv 0 (fun e => pp_567 ho hj (h lo hi (fun j hj' => ?_))) (fun e => pk_eq oo 2 (fun e2 => ?_) (fun e2 => pp_567 ho hj (h lo hi (fun j hj' => ?_))))
  · have z : ¬ jv = 1 := by omega
    simp only [z, false_and, or_false]
  · refine pp_add (K := fun x y => wL_law_567 post Ls xs J71 J249 J308 J323 J371 J447 x1 x2 x4 x5 x6 x8 x9 x10 x11 x12 x13 x14 x y x19 x20 (nI jv) (nI q) (nI oo) kc ks (nI cc) (nI ce) (nI dc) (nI ic) (nI len) (nI s) (nI cnt) (nI dep) (nI md) (cop) (carg) (xc) (xAd) (xOp) (xIn) (xCe) (xMk) (lAd) (lIn) (lA) (lX) (lSp) (bef) (awa) (rd) (wr)) (by omega) (fun lo' hi' hb => pp_567 ho hj (h lo' hi' (fun j hj' => ?_)))
    rw [hb j hj']
    have z : jv = 1 := by omega
    simp only [z, e2, true_and]
  · have e2' : ¬ oo = 2 := e2
    simp only [e2', false_and, and_false, or_false]
theorem pp_510 {lo hi : Int64} {x19 x20 : Int32} {jv nx q oo e : Nat} (ho : oo ≤ 11) (hj : jv ≤ 1) (hn0 : 0 < nx) (hn : nx ≤ 128) (he : e < 128)
    (h : ∀ lo' hi', (∀ j, j < 128 → (pp_in lo' hi' j ↔ (pp_in lo hi j ∨ j = e ∨ (jv = 1 ∧ oo = 2 ∧ j = nx - 1)))) → J447 lo' hi' (nI (if oo = 1 then 0 else jv)) (nI q) (nI q + (-1))) :
    wL_law_510 post Ls xs J71 J249 J308 J323 J371 J447 x1 x2 x4 x5 x6 x8 x9 x10 x11 x12 x13 x14 lo hi x19 x20 (nI jv) (nI nx) (nI q) (nI oo) (nI e) kc ks (nI cc) (nI ce) (nI dc) (nI ic) (nI len) (nI s) (nI cnt) (nI dep) (nI md) (cop) (carg) (xc) (xAd) (xOp) (xIn) (xCe) (xMk) (lAd) (lIn) (lA) (lX) (lSp) (bef) (awa) (rd) (wr) := by
  unfold wL_law_510
  refine pp_add (K := fun x y => wL_law_532 post Ls xs J71 J249 J308 J323 J371 J447 x1 x2 x4 x5 x6 x8 x9 x10 x11 x12 x13 x14 x y x19 x20 (nI jv) (nI nx) (nI q) (nI oo) kc ks (nI cc) (nI ce) (nI dc) (nI ic) (nI len) (nI s) (nI cnt) (nI dep) (nI md) (cop) (carg) (xc) (xAd) (xOp) (xIn) (xCe) (xMk) (lAd) (lIn) (lA) (lX) (lSp) (bef) (awa) (rd) (wr)) he (fun lo1 hi1 hb => pp_532 ho hj hn0 hn (fun lo' hi' hb' => h lo' hi' (fun j hj' => ?_)))
  rw [hb' j hj', hb j hj', or_assoc]
theorem pp_464 {lo hi : Int64} {t jv nx y : Nat} (h : sp_Q cc ce dc ic len s cnt dep md o n m st q ad cop carg xc xAd xOp xIn xCe xMk lAd lIn lA lX lSp bef awa rd wr yc stk nxt acc idx mkr yAd yOp yIn yCe lds) (ht : t < cnt) (hyt : y < t) (hj : jv ≤ 1) (hn0 : 0 < nx) (hn : nx ≤ t)
    (h1 : ¬ n y = n t → J447 lo hi (nI jv) (nI nx) (nI y + (-1)))
    (h2 : n y = n t → ∀ lo' hi', (∀ j, j < 128 → (pp_in lo' hi' j ↔ (pp_in lo hi j ∨ (nx = t ∧ j = if o y = 3 then t - 1 else y) ∨ (jv = 1 ∧ o y = 2 ∧ j = nx - 1)))) → J447 lo' hi' (nI (if o y = 1 then 0 else jv)) (nI y) (nI y + (-1))) :
    wL_law_464 post Ls xs J71 J249 J308 J323 J371 J447 x1 x2 x4 x5 x6 x8 x9 x10 x11 x12 x13 x14 lo hi (nI t) (nI (n t)) (nI jv) (nI nx) (nI y) kc ks (nI cc) (nI ce) (nI dc) (nI ic) (nI len) (nI s) (nI cnt) (nI dep) (nI md) (cop) (carg) (xc) (xAd) (xOp) (xIn) (xCe) (xMk) (lAd) (lIn) (lA) (lX) (lSp) (bef) (awa) (rd) (wr) := by
  obtain ⟨hK, hC, hc0, hAd, hxO, hyO, hxI, hyI, hCe, hS, hV, hMr, hRW, hMk, h01, H, IL⟩ := h
  unfold sp_K at hK
  have hnq := H.1 y (by omega)
  have hnt := H.1 t ht
  have hoq := (hS y (by omega)).1
  have e1 : nI t - 1 = nI (t - 1) := pk_sub (b := 1) (by omega)
  unfold wL_law_464
  rw [e1]
  refine pp_step2 (by omega) (by omega) ?_
  rw [hxI y (by omega)]
  refine pk_eq (n y) (n t) (fun e => ?_) (fun e => nm_e (h1 e))
  refine pp_step1 (by omega) (by omega) ?_
  rw [hxO y (by omega)]
  refine pk_eq nx t (fun ex => pk_eq (o y) 3 (fun e3 => ?_) (fun e3 => ?_)) (fun ex => ?_)
  · refine pp_510 hoq hj hn0 (by omega) (by omega) (fun lo' hi' hb => h2 e lo' hi' (fun j hj' => ?_))
    rw [hb j hj', if_pos e3]
    simp only [ex, true_and]
  · refine pp_510 hoq hj hn0 (by omega) (by omega) (fun lo' hi' hb => h2 e lo' hi' (fun j hj' => ?_))
    rw [hb j hj', if_neg e3]
    simp only [ex, true_and]
  · refine pp_532 hoq hj hn0 (by omega) (fun lo' hi' hb => h2 e lo' hi' (fun j hj' => ?_))
    have ex' : ¬ nx = t := ex
    rw [hb j hj']
    simp only [ex', false_and, false_or]
theorem pp_586 {lo hi : Int64} {t nx : Nat} (ht : t < 128) (h0 : 0 < t) (hn : nx ≤ t)
    (h : ∀ lo' hi', (∀ j, j < 128 → (pp_in lo' hi' j ↔ (pp_in lo hi j ∨ (nx = t ∧ j = t - 1)))) → J371 lo' hi' (nI (t - 1))) :
    wL_law_586 post Ls xs J71 J249 J308 J323 J371 x1 x2 x4 x5 x6 x8 x9 x10 x11 x12 x13 x14 lo hi (nI t) (nI nx) kc ks (nI cc) (nI ce) (nI dc) (nI ic) (nI len) (nI s) (nI cnt) (nI dep) (nI md) (cop) (carg) (xc) (xAd) (xOp) (xIn) (xCe) (xMk) (lAd) (lIn) (lA) (lX) (lSp) (bef) (awa) (rd) (wr) := by
  have e1 : nI t - 1 = nI (t - 1) := pk_sub (b := 1) (by omega)
  have e2 : nI t + (-1) = nI (t - 1) := by rw [← e1, Int32.sub_eq_add_neg]
  unfold wL_law_586
  rw [e1, e2]
  refine pk_eq nx t (fun e => ?_) (fun e => nm_e (h lo hi (fun j hj => ?_)))
  · refine pp_add (K := fun x y => ∀ z : Int32, z = nI (t - 1) → J371 x y z) (by omega) (fun lo' hi' hb => nm_e (h lo' hi' (fun j hj => ?_)))
    rw [hb j hj]
    simp only [e, true_and]
  · have e' : ¬ nx = t := e
    simp only [e', false_and, or_false]
theorem pp_447 {t : Nat} (h : sp_Q cc ce dc ic len s cnt dep md o n m st q ad cop carg xc xAd xOp xIn xCe xMk lAd lIn lA lX lSp bef awa rd wr yc stk nxt acc idx mkr yAd yOp yIn yCe lds) (D : sp_D o n m cnt md dep st) (ht : t < cnt) (h0 : 0 < t) {S0 : Nat → Prop}
    (hk : ∀ lo hi, (∀ j, j < 128 → (pp_in lo hi j ↔ (S0 j ∨ sp_E o n m j t))) → J371 lo hi (nI (t - 1))) :
    ∀ c, c ≤ t → ∀ lo hi jv nx, pp_I o n m t c nx jv S0 (pp_in lo hi) → wL_law_447 post Ls xs J71 J249 J308 J323 J371 x1 x2 x4 x5 x6 x8 x9 x10 x11 x12 x13 x14 (nI t) (nI (n t)) kc ks (nI cc) (nI ce) (nI dc) (nI ic) (nI len) (nI s) (nI cnt) (nI dep) (nI md) (cop) (carg) (xc) (xAd) (xOp) (xIn) (xCe) (xMk) (lAd) (lIn) (lA) (lX) (lSp) (bef) (awa) (rd) (wr) (c + 1) lo hi (nI jv) (nI nx) (nI c + (-1)) := by
  have hK := h.1
  have H := h.2.2.2.2.2.2.2.2.2.2.2.2.2.2.2.1
  unfold sp_K at hK
  intro c
  induction c with
  | zero =>
    intro _ lo hi jv nx hI
    unfold wL_law_447
    refine br_t (by decide) (pp_586 (by omega) h0 hI.1.2.1 (fun lo' hi' hb => hk lo' hi' ?_))
    exact pp_Ie H D.1 ht h0 hI (Or.inl rfl) hb
  | succ c ih =>
    intro hc lo hi jv nx hI
    have a1 := hI.1.1
    have a2 := hI.1.2.1
    have b1 := hI.2.1.1
    unfold wL_law_447
    rw [pk_m1]
    have go : wL_law_464 post Ls xs J71 J249 J308 J323 J371 (wL_law_447 post Ls xs J71 J249 J308 J323 J371 x1 x2 x4 x5 x6 x8 x9 x10 x11 x12 x13 x14 (nI t) (nI (n t)) kc ks (nI cc) (nI ce) (nI dc) (nI ic) (nI len) (nI s) (nI cnt) (nI dep) (nI md) (cop) (carg) (xc) (xAd) (xOp) (xIn) (xCe) (xMk) (lAd) (lIn) (lA) (lX) (lSp) (bef) (awa) (rd) (wr) (c + 1)) x1 x2 x4 x5 x6 x8 x9 x10 x11 x12 x13 x14 lo hi (nI t) (nI (n t)) (nI jv) (nI nx) (nI c) kc ks (nI cc) (nI ce) (nI dc) (nI ic) (nI len) (nI s) (nI cnt) (nI dep) (nI md) (cop) (carg) (xc) (xAd) (xOp) (xIn) (xCe) (xMk) (lAd) (lIn) (lA) (lX) (lSp) (bef) (awa) (rd) (wr) := by
      refine pp_464 h ht (by omega) b1 (by omega) a2 (fun e => ?_) (fun e lo' hi' hb => ?_)
      · exact ih (by omega) lo hi jv nx (pp_In hI e)
      · exact ih (by omega) lo' hi' _ c (pp_Is H D.1 ht (by omega) hI e hb)
    refine br_f (nI_pos (by omega)) (pk_eq nx t (fun e => go) (fun e => pk_eq jv 0 (fun e2 => ?_) (fun e2 => go)))
    refine pp_586 (by omega) h0 a2 (fun lo' hi' hb => hk lo' hi' ?_)
    exact pp_Ie H D.1 ht h0 hI (Or.inr ⟨e, e2⟩) hb
end
end
section
/-! ===== the law's checks ===== -/
section
variable {cc ce dc ic len s cnt dep md : Nat} {o n m st q ad : Nat → Nat} {cop carg xc xAd xOp xIn xCe xMk lAd lIn lA lX lSp yc stk nxt acc idx mkr yAd yOp yIn yCe lds : Nat → Int32} {bef awa rd wr : Nat → Int64}
variable {post : Int32 → Prop} {Ls : Nat} {xs : Nat → Int32} {J71 : Int32 → Int32 → Int32 → Int32 → Int32 → Int32 → Int32 → Int32 → Int32 → Int32 → Int32 → Int32 → (Nat → Int32) → (Nat → Int32) → (Nat → Int32) → (Nat → Int32) → (Nat → Int32) → (Nat → Int32) → (Nat → Int32) → (Nat → Int32) → (Nat → Int32) → (Nat → Int32) → (Nat → Int32) → (Nat → Int32) → (Nat → Int32) → (Nat → Int64) → (Nat → Int64) → (Nat → Int64) → (Nat → Int64) → Prop} {J249 : Int32 → Int32 → Int32 → Int32 → Int32 → Int32 → Int32 → Int32 → Int32 → Int32 → Int32 → (Nat → Int32) → (Nat → Int32) → (Nat → Int32) → (Nat → Int32) → (Nat → Int32) → (Nat → Int32) → (Nat → Int32) → (Nat → Int32) → (Nat → Int32) → (Nat → Int32) → (Nat → Int32) → (Nat → Int32) → (Nat → Int32) → (Nat → Int64) → (Nat → Int64) → (Nat → Int64) → (Nat → Int64) → Prop} {J308 : Int32 → Prop} {J323 : Int32 → Int32 → Int32 → Prop} {J371 : Int64 → Int64 → Int32 → Prop} {J447 : Int64 → Int64 → Int32 → Int32 → Int32 → Prop} {x1 x2 x4 x5 x6 x8 x9 x10 x11 x12 x13 x14 : Int32} {kc ks : Nat}
theorem pp_371 {k : Nat} (h : sp_Q cc ce dc ic len s cnt dep md o n m st q ad cop carg xc xAd xOp xIn xCe xMk lAd lIn lA lX lSp bef awa rd wr yc stk nxt acc idx mkr yAd yOp yIn yCe lds) (D : sp_D o n m cnt md dep st) (hk : k < cnt)
    (hfin : ∀ lo hi, (∀ j, j < 128 → (pp_in lo hi j ↔ sp_R (sp_E o n m) k j)) → wL_law_371 post Ls xs J71 J249 J308 J323 x1 x2 x4 x5 x6 x8 x9 x10 x11 x12 x13 x14 kc ks (nI cc) (nI ce) (nI dc) (nI ic) (nI len) (nI s) (nI cnt) (nI dep) (nI md) (cop) (carg) (xc) (xAd) (xOp) (xIn) (xCe) (xMk) (lAd) (lIn) (lA) (lX) (lSp) (bef) (awa) (rd) (wr) 1 lo hi (nI 0)) :
    ∀ t, t ≤ k → ∀ lo hi, (∀ j, j < 128 → (pp_in lo hi j ↔ (j = k ∨ ∃ t', t < t' ∧ t' ≤ k ∧ sp_R (sp_E o n m) k t' ∧ sp_E o n m j t'))) → wL_law_371 post Ls xs J71 J249 J308 J323 x1 x2 x4 x5 x6 x8 x9 x10 x11 x12 x13 x14 kc ks (nI cc) (nI ce) (nI dc) (nI ic) (nI len) (nI s) (nI cnt) (nI dep) (nI md) (cop) (carg) (xc) (xAd) (xOp) (xIn) (xCe) (xMk) (lAd) (lIn) (lA) (lX) (lSp) (bef) (awa) (rd) (wr) (t + 1) lo hi (nI t) := by
  have hQ := h
  obtain ⟨hK, hC, hc0, hAd, hxO, hyO, hxI, hyI, hCe, hS, hV, hMr, hRW, hMk, h01, H, IL⟩ := h
  unfold sp_K at hK
  have hR : ∀ j, j ≤ k → (sp_R (sp_E o n m) k j ↔ (j = k ∨ ∃ t', j < t' ∧ t' ≤ k ∧ sp_R (sp_E o n m) k t' ∧ sp_E o n m j t')) := by
    intro j hj
    constructor
    · intro r
      rcases sp_R_inv r with e | ⟨b, e, hb, r'⟩
      · exact Or.inl e
      · exact Or.inr ⟨b, sp_E_lt e, hb, r', e⟩
    · rintro (e | ⟨b, _, hb, r', e⟩)
      · rw [e]; exact sp_R_refl _ _
      · exact sp_R_step e hb r'
  intro t
  induction t with
  | zero =>
    intro _ lo hi hI
    refine hfin lo hi (fun j hj => (hI j hj).trans ?_)
    constructor
    · rintro (e | ⟨b, _, hb, r', e⟩)
      · rw [e]; exact sp_R_refl _ _
      · exact sp_R_step e hb r'
    · intro r
      rcases sp_R_inv r with e | ⟨b, e, hb, r'⟩
      · exact Or.inl e
      · exact Or.inr ⟨b, by have := sp_E_lt e; omega, hb, r', e⟩
  | succ t ih =>
    intro ht lo hi hI
    have hTe : pp_in lo hi (t + 1) ↔ sp_R (sp_E o n m) k (t + 1) := (hI (t + 1) (by omega)).trans (hR (t + 1) ht).symm
    have hnt := H.1 (t + 1) (by omega)
    have hot := (hS (t + 1) (by omega)).1
    have e1 : nI (t + 1) - 1 = nI (t + 1) + (-1) := Int32.sub_eq_add_neg _ _
    unfold wL_law_371
    refine br_f (nI_nle (by omega) (by omega)) ?_
    refine pp_tst (by omega) (fun hno => ?_) (fun hin => ?_)
    · refine nm_r (pk_m1 t) (ih (by omega) lo hi (fun j hj => (hI j hj).trans ?_))
      have hno' : ¬ sp_R (sp_E o n m) k (t + 1) := fun w => hno (hTe.2 w)
      constructor
      · rintro (e | ⟨b, b1, b2⟩)
        · exact Or.inl e
        · exact Or.inr ⟨b, by omega, b2⟩
      · rintro (e | ⟨b, b1, b2, b3, b4⟩)
        · exact Or.inl e
        · by_cases eb : b = t + 1
          · rw [eb] at b3
            exact absurd b3 hno'
          · exact Or.inr ⟨b, by omega, b2, b3, b4⟩
    · have hin' := hTe.1 hin
      have inner : ∀ jv : Nat, jv ≤ 1 → (jv = 1 ↔ (o (t + 1) = 1 ∨ o (t + 1) = 0)) → wL_law_447 post Ls xs J71 J249 J308 J323 (wL_law_371 post Ls xs J71 J249 J308 J323 x1 x2 x4 x5 x6 x8 x9 x10 x11 x12 x13 x14 kc ks (nI cc) (nI ce) (nI dc) (nI ic) (nI len) (nI s) (nI cnt) (nI dep) (nI md) (cop) (carg) (xc) (xAd) (xOp) (xIn) (xCe) (xMk) (lAd) (lIn) (lA) (lX) (lSp) (bef) (awa) (rd) (wr) (t + 1)) x1 x2 x4 x5 x6 x8 x9 x10 x11 x12 x13 x14 (nI (t + 1)) (nI (n (t + 1))) kc ks (nI cc) (nI ce) (nI dc) (nI ic) (nI len) (nI s) (nI cnt) (nI dep) (nI md) (cop) (carg) (xc) (xAd) (xOp) (xIn) (xCe) (xMk) (lAd) (lIn) (lA) (lX) (lSp) (bef) (awa) (rd) (wr) (t + 1 + 1) lo hi (nI jv) (nI (t + 1)) (nI (t + 1) + (-1)) := by
        intro jv h1 h2
        refine pp_447 (S0 := pp_in lo hi) hQ D (by omega) (by omega) (fun lo' hi' hb => ?_) (t + 1) (Nat.le_refl _) lo hi jv (t + 1) (pp_I0 H (by omega) h1 h2)
        refine ih (by omega) lo' hi' (fun j hj => ?_)
        rw [hb j hj, hI j hj]
        constructor
        · rintro ((e | ⟨b, b1, b2⟩) | e)
          · exact Or.inl e
          · exact Or.inr ⟨b, by omega, b2⟩
          · exact Or.inr ⟨t + 1, by omega, ht, hin', e⟩
        · rintro (e | ⟨b, b1, b2, b3, b4⟩)
          · exact Or.inl (Or.inl e)
          · by_cases eb : b = t + 1
            · rw [eb] at b4
              exact Or.inr b4
            · exact Or.inl (Or.inr ⟨b, by omega, b2, b3, b4⟩)
      refine pp_step2 (by omega) (by omega) ?_
      refine pp_step1 (by omega) (by omega) ?_
      rw [hxI (t + 1) (by omega), hxO (t + 1) (by omega)]
      have j430 : (o (t + 1) = 1 ∨ o (t + 1) = 0) → wL_law_430 post Ls xs J71 J249 J308 J323 (wL_law_371 post Ls xs J71 J249 J308 J323 x1 x2 x4 x5 x6 x8 x9 x10 x11 x12 x13 x14 kc ks (nI cc) (nI ce) (nI dc) (nI ic) (nI len) (nI s) (nI cnt) (nI dep) (nI md) (cop) (carg) (xc) (xAd) (xOp) (xIn) (xCe) (xMk) (lAd) (lIn) (lA) (lX) (lSp) (bef) (awa) (rd) (wr) (t + 1)) x1 x2 x4 x5 x6 x8 x9 x10 x11 x12 x13 x14 lo hi (nI (t + 1)) (nI (n (t + 1))) kc ks (nI cc) (nI ce) (nI dc) (nI ic) (nI len) (nI s) (nI cnt) (nI dep) (nI md) (cop) (carg) (xc) (xAd) (xOp) (xIn) (xCe) (xMk) (lAd) (lIn) (lA) (lX) (lSp) (bef) (awa) (rd) (wr) := by
        intro w
        unfold wL_law_430
        exact nm_r e1 ⟨t + 1 + 1, inner 1 (by omega) ⟨fun _ => w, fun _ => rfl⟩⟩
      refine pk_eq (o (t + 1)) 1 (fun e => j430 (Or.inl e)) (fun n1 => pk_eq (o (t + 1)) 0 (fun e => j430 (Or.inr e)) (fun n0 => nm_r e1 ⟨t + 1 + 1, inner 0 (by omega) ⟨fun w => by omega, fun w => by omega⟩⟩))
theorem pp_739 {k : Nat} {f c : Int32} (hc : cnt ≤ 128) (hk : k < cnt) (hcl : xCe k = x10) (hac : pp_ac xCe xMk x10 k f c)
    (h : ∀ f' c', pp_ac xCe xMk x10 (k + 1) f' c' → J323 f' c' (nI (k + 1))) :
    wL_law_739 post Ls xs J71 J249 J308 J323 x1 x2 x4 x5 x6 x8 x9 x10 f c (nI k) (xMk k) kc ks (nI cc) (nI ce) (nI dc) (nI ic) (nI len) (nI s) (nI cnt) (nI dep) (nI md) (cop) (carg) (xc) (xAd) (xOp) (xIn) (xCe) (xMk) (lAd) (lIn) (lA) (lX) (lSp) (bef) (awa) (rd) (wr) := by
  unfold wL_law_739
  refine pp_racing hc hk (br_t rfl ?_)
  rw [nI_1]
  by_cases z : xMk k = 0
  · exact br_t z (nm_e (h f c (pp_ac_k hac (fun w => w.2 z))))
  · refine br_f z (nm_e ?_)
    by_cases y : f < 0
    · exact br_f (sp_nle y) (nm_e (h _ _ ((pp_ac_h hac hcl z).1 y)))
    · exact br_t (Int32.not_lt.mp y) (nm_e (h _ _ ((pp_ac_h hac hcl z).2 y)))
theorem sp_or1 : ∀ a, a ≤ 1 → ∀ b, b ≤ 1 → nI (a + 2 * b) ||| 1 = nI (1 + 2 * b) := by
  intro a ha b hb
  rcases (show a = 0 ∨ a = 1 by omega) with e | e <;> rcases (show b = 0 ∨ b = 1 by omega) with e2 | e2 <;> rw [e, e2] <;> decide
theorem sp_or2 : ∀ a, a ≤ 1 → ∀ b, b ≤ 1 → nI (a + 2 * b) ||| 2 = nI (a + 2 * 1) := by
  intro a ha b hb
  rcases (show a = 0 ∨ a = 1 by omega) with e | e <;> rcases (show b = 0 ∨ b = 1 by omega) with e2 | e2 <;> rw [e, e2] <;> decide
theorem pp_644 {k e sv : Nat} {lo hi : Int64} {f11 c12 : Int32} (h : sp_Q cc ce dc ic len s cnt dep md o n m st q ad cop carg xc xAd xOp xIn xCe xMk lAd lIn lA lX lSp bef awa rd wr yc stk nxt acc idx mkr yAd yOp yIn yCe lds) (hk : k < cnt) (hek : e < ce) (hce : xCe k = nI e) (hsv : sv ≤ 1) (hs5 : sv = 1 ↔ o k = 5)
    (hR : ∀ j, j < 128 → (pp_in lo hi j ↔ sp_R (sp_E o n m) k j))
    (hfin : wL_law_739 post Ls xs J71 J249 J308 J323 x1 x2 x4 x5 x6 x8 x9 (nI e) f11 c12 (nI k) (xMk k) kc ks (nI cc) (nI ce) (nI dc) (nI ic) (nI len) (nI s) (nI cnt) (nI dep) (nI md) (cop) (carg) (xc) (xAd) (xOp) (xIn) (xCe) (xMk) (lAd) (lIn) (lA) (lX) (lSp) (bef) (awa) (rd) (wr)) :
    ∀ d j, j + d = k → ∀ a b : Nat, a ≤ 1 → b ≤ 1 → (a = 1 ↔ ∃ i, i < j ∧ xCe i = nI e ∧ o i = 5 ∧ ¬ sp_R (sp_E o n m) k i) → (b = 1 ↔ (o k = 5 ∧ ∃ i, i < j ∧ xCe i = nI e ∧ ¬ o i = 5 ∧ ¬ sp_R (sp_E o n m) k i)) →
      wL_law_644 post Ls xs J71 J249 J308 J323 x1 x2 x4 x5 x6 x8 x9 (nI e) f11 c12 (nI k) lo hi (nI sv) kc ks (nI cc) (nI ce) (nI dc) (nI ic) (nI len) (nI s) (nI cnt) (nI dep) (nI md) (cop) (carg) (xc) (xAd) (xOp) (xIn) (xCe) (xMk) (lAd) (lIn) (lA) (lX) (lSp) (bef) (awa) (rd) (wr) (d + 1) (nI (a + 2 * b)) (nI j) := by
  obtain ⟨hK, hC, hc0, hAd, hxO, hyO, hxI, hyI, hCe, hS, hV, hMr, hRW, hMk, h01, H, IL⟩ := h
  unfold sp_K at hK
  intro d
  induction d with
  | zero =>
    intro j hj a b ha hb hA hB
    obtain rfl : j = k := by omega
    unfold wL_law_644
    refine br_t (nI_le (by omega) (by omega)) ?_
    have hm : sp_mk o n m yCe j (nI (a + 2 * b)) := by
      have hy : yCe j = nI e := (hCe j hk).symm.trans hce
      refine ⟨fun w => ?_, fun _ => ⟨a, b, ha, hb, rfl, hA.trans ?_, hB.trans ?_⟩⟩
      · rw [hy] at w
        exact absurd w.symm (sp_m1n (by omega))
      · constructor
        · rintro ⟨i, i1, i2, i3, i4⟩
          exact ⟨i, i1, by rw [hy, ← hCe i (by omega)]; exact i2, i3, i4⟩
        · rintro ⟨i, i1, i2, i3, i4⟩
          rw [hy, ← hCe i (by omega)] at i2
          exact ⟨i, i1, i2, i3, i4⟩
      · constructor
        · rintro ⟨w, i, i1, i2, i3, i4⟩
          exact ⟨w, i, i1, by rw [hy, ← hCe i (by omega)]; exact i2, i3, i4⟩
        · rintro ⟨w, i, i1, i2, i3, i4⟩
          rw [hy, ← hCe i (by omega)] at i2
          exact ⟨w, i, i1, i2, i3, i4⟩
    rw [sp_mk_u (hMk j hk) hm] at hfin
    exact hfin
  | succ d ih =>
    intro j hj a b ha hb hA hB
    have hjc : j < cnt := by omega
    have hoj := (hS j hjc).1
    have keep : ¬ (xCe j = nI e ∧ ¬ sp_R (sp_E o n m) k j ∧ (o j = 5 ∨ o k = 5)) → wL_law_644 post Ls xs J71 J249 J308 J323 x1 x2 x4 x5 x6 x8 x9 (nI e) f11 c12 (nI k) lo hi (nI sv) kc ks (nI cc) (nI ce) (nI dc) (nI ic) (nI len) (nI s) (nI cnt) (nI dep) (nI md) (cop) (carg) (xc) (xAd) (xOp) (xIn) (xCe) (xMk) (lAd) (lIn) (lA) (lX) (lSp) (bef) (awa) (rd) (wr) (d + 1) (nI (a + 2 * b)) (nI (j + 1)) := by
      intro hn
      refine ih (j + 1) (by omega) a b ha hb (hA.trans ?_) (hB.trans ?_)
      · constructor
        · rintro ⟨i, i1, i2⟩
          exact ⟨i, by omega, i2⟩
        · rintro ⟨i, i1, i2, i3, i4⟩
          by_cases e : i = j
          · rw [e] at i2 i3 i4
            exact absurd ⟨i2, i4, Or.inl i3⟩ hn
          · exact ⟨i, by omega, i2, i3, i4⟩
      · constructor
        · rintro ⟨z, i, i1, i2⟩
          exact ⟨z, i, by omega, i2⟩
        · rintro ⟨z, i, i1, i2, i3, i4⟩
          by_cases e : i = j
          · rw [e] at i2 i3 i4
            exact absurd ⟨i2, i4, Or.inr z⟩ hn
          · exact ⟨z, i, by omega, i2, i3, i4⟩
    unfold wL_law_644
    refine br_f (nI_ge (by omega) (by omega)) (pp_step3 (by omega) hjc ?_)
    refine br_c (fun hc => ?_) (fun hc => nm_r (nI_1 j) (keep (fun z => hc z.1)))
    refine pp_tst (by omega) (fun hno => ?_) (fun hin => nm_r (nI_1 j) (keep (fun z => z.2.1 ((hR j (by omega)).1 hin))))
    have hno' : ¬ sp_R (sp_E o n m) k j := fun w => hno ((hR j (by omega)).2 w)
    refine pp_step1 (by omega) hjc ?_
    rw [hxO j hjc, sp_or1 a ha b hb]
    refine pk_eq (o j) 5 (fun e5 => nm_e ?_) (fun n5 => ?_)
    · unfold wL_law_709
      have fin5 : wL_law_644 post Ls xs J71 J249 J308 J323 x1 x2 x4 x5 x6 x8 x9 (nI e) f11 c12 (nI k) lo hi (nI sv) kc ks (nI cc) (nI ce) (nI dc) (nI ic) (nI len) (nI s) (nI cnt) (nI dep) (nI md) (cop) (carg) (xc) (xAd) (xOp) (xIn) (xCe) (xMk) (lAd) (lIn) (lA) (lX) (lSp) (bef) (awa) (rd) (wr) (d + 1) (nI (1 + 2 * b)) (nI (j + 1)) := by
        refine ih (j + 1) (by omega) 1 b (by omega) hb ⟨fun _ => ⟨j, by omega, hc, e5, hno'⟩, fun _ => rfl⟩ (hB.trans ?_)
        constructor
        · rintro ⟨z, i, i1, i2⟩
          exact ⟨z, i, by omega, i2⟩
        · rintro ⟨z, i, i1, i2, i3, i4⟩
          by_cases e' : i = j
          · rw [e'] at i3
            exact absurd e5 i3
          · exact ⟨z, i, by omega, i2, i3, i4⟩
      refine pk_eq sv 0 (fun s0 => nm_r (nI_1 j) fin5) (fun s1 => pk_eq (o j) 4 (fun z => by omega) (fun z => pk_eq (o j) 6 (fun z => by omega) (fun z => nm_r (nI_1 j) fin5)))
    · unfold wL_law_709
      rw [sp_or2 a ha b hb]
      have hacc : o j = 4 ∨ o j = 6 := by
        rcases (hS j hjc).2 with ⟨w, _⟩ | ⟨_, w⟩
        · unfold sp_acc at w
          omega
        · have hy : yCe j = nI e := (hCe j hjc).symm.trans hc
          rw [hy] at w
          exact absurd w.symm (sp_m1n (by omega))
      have fin2 : ¬ sv = 0 → wL_law_644 post Ls xs J71 J249 J308 J323 x1 x2 x4 x5 x6 x8 x9 (nI e) f11 c12 (nI k) lo hi (nI sv) kc ks (nI cc) (nI ce) (nI dc) (nI ic) (nI len) (nI s) (nI cnt) (nI dep) (nI md) (cop) (carg) (xc) (xAd) (xOp) (xIn) (xCe) (xMk) (lAd) (lIn) (lA) (lX) (lSp) (bef) (awa) (rd) (wr) (d + 1) (nI (a + 2 * 1)) (nI (j + 1)) := by
        intro s1
        have hk5 : o k = 5 := hs5.1 (by omega)
        refine ih (j + 1) (by omega) a 1 ha (by omega) (hA.trans ?_) ⟨fun _ => ⟨hk5, j, by omega, hc, n5, hno'⟩, fun _ => rfl⟩
        constructor
        · rintro ⟨i, i1, i2⟩
          exact ⟨i, by omega, i2⟩
        · rintro ⟨i, i1, i2, i3, i4⟩
          by_cases e' : i = j
          · rw [e'] at i3
            exact absurd i3 n5
          · exact ⟨i, by omega, i2, i3, i4⟩
      refine pk_eq sv 0 (fun s0 => nm_r (nI_1 j) (keep (fun z => ?_))) (fun s1 => pk_eq (o j) 4 (fun z => nm_e (nm_r (nI_1 j) (fin2 s1))) (fun z => pk_eq (o j) 6 (fun z => nm_e (nm_r (nI_1 j) (fin2 s1))) (fun z => by omega)))
      rcases z.2.2 with w | w
      · exact n5 w
      · have := hs5.2 w
        omega
/-- one step k that touches cell x10 -/
theorem pp_323 {c : Nat} (h : sp_Q cc ce dc ic len s cnt dep md o n m st q ad cop carg xc xAd xOp xIn xCe xMk lAd lIn lA lX lSp bef awa rd wr yc stk nxt acc idx mkr yAd yOp yIn yCe lds) (D : sp_D o n m cnt md dep st) (hc : c ≤ ce) (hJ : J308 (nI (c + 1) + (-1))) :
    ∀ d k, k + d = cnt → ∀ f g, pp_ac xCe xMk (nI c + (-1)) k f g → wL_law_323 post Ls xs J71 J249 J308 x1 x2 x4 x5 x6 x8 (nI cnt) (nI c + (-1)) kc ks (nI cc) (nI ce) (nI dc) (nI ic) (nI len) (nI s) (nI cnt) (nI dep) (nI md) (cop) (carg) (xc) (xAd) (xOp) (xIn) (xCe) (xMk) (lAd) (lIn) (lA) (lX) (lSp) (bef) (awa) (rd) (wr) (d + 1) f g (nI k) := by
  have hQ := h
  obtain ⟨hK, hC, hc0, hAd, hxO, hyO, hxI, hyI, hCe, hS, hV, hMr, hRW, hMk, h01, H, IL⟩ := h
  unfold sp_K at hK
  have eJ : nI c + (-1) + 1 = nI (c + 1) + (-1) := by
    rw [pk_m1, Int32.add_assoc]
    have e : (-1 : Int32) + 1 = 0 := by decide
    rw [e, Int32.add_zero]
  intro d
  induction d with
  | zero =>
    intro k hk f g hac
    obtain rfl : k = cnt := by omega
    unfold wL_law_323
    refine br_t (nI_le (by omega) (by omega)) ?_
    cases c with
    | zero => exact br_t (by decide) (nm_r eJ hJ)
    | succ c =>
      have e1 : nI (c + 1) + (-1) = nI c := pk_m1 c
      have e2 : nI (c + 1 + 1) + (-1) = nI (c + 1) := pk_m1 (c + 1)
      rw [e1] at hac ⊢
      rw [e2] at hJ
      exact br_f (nI_pos (by omega)) (pp_firstRace (by omega) (by omega) (show c < ce by omega) hac (br_t rfl (pp_races (by omega) (by omega) (show c < ce by omega) hac (br_t rfl (nm_r (nI_1 c) hJ)))))
  | succ d ih =>
    intro k hk f g hac
    have hkc : k < cnt := by omega
    unfold wL_law_323
    refine br_f (nI_ge (by omega) (by omega)) (pp_step3 (by omega) hkc ?_)
    refine br_c (fun hcl => ?_) (fun hcl => nm_r (nI_1 k) (ih (k + 1) (by omega) f g (pp_ac_k hac (fun w => hcl w.1))))
    have nxt : ∀ f' g', pp_ac xCe xMk (nI c + (-1)) (k + 1) f' g' → wL_law_323 post Ls xs J71 J249 J308 x1 x2 x4 x5 x6 x8 (nI cnt) (nI c + (-1)) kc ks (nI cc) (nI ce) (nI dc) (nI ic) (nI len) (nI s) (nI cnt) (nI dep) (nI md) (cop) (carg) (xc) (xAd) (xOp) (xIn) (xCe) (xMk) (lAd) (lIn) (lA) (lX) (lSp) (bef) (awa) (rd) (wr) (d + 1) f' g' (nI (k + 1)) := fun f' g' h' => ih (k + 1) (by omega) f' g' h'
    cases c with
    | zero =>
      have hm0 : xMk k = 0 := (hMk k hkc).1 (by rw [← hCe k hkc, hcl]; decide)
      have w := pp_739 (post := post) (Ls := Ls) (xs := xs) (J71 := J71) (J249 := J249) (J308 := J308) (x1 := x1) (x2 := x2) (x4 := x4) (x5 := x5) (x6 := x6) (x8 := x8) (x9 := nI cnt) (kc := kc) (ks := ks) (cc := cc) (ce := ce) (dc := dc) (ic := ic) (len := len) (s := s) (dep := dep) (md := md) (cop := cop) (carg := carg) (xc := xc) (xAd := xAd) (xOp := xOp) (xIn := xIn) (lAd := lAd) (lIn := lIn) (lA := lA) (lX := lX) (lSp := lSp) (bef := bef) (awa := awa) (rd := rd) (wr := wr) (by omega) hkc hcl hac nxt
      rw [hm0] at w
      exact br_t (by decide) w
    | succ c =>
      rw [pk_m1] at *
      refine br_f (nI_pos (by omega)) (pp_ini (K := fun a b => ∃ fu371 : Nat, wL_law_371 post Ls xs J71 J249 J308 (wL_law_323 post Ls xs J71 J249 J308 x1 x2 x4 x5 x6 x8 (nI cnt) (nI c) kc ks (nI cc) (nI ce) (nI dc) (nI ic) (nI len) (nI s) (nI cnt) (nI dep) (nI md) (cop) (carg) (xc) (xAd) (xOp) (xIn) (xCe) (xMk) (lAd) (lIn) (lA) (lX) (lSp) (bef) (awa) (rd) (wr) (d + 1)) x1 x2 x4 x5 x6 x8 (nI cnt) (nI c) f g (nI k) 0 kc ks (nI cc) (nI ce) (nI dc) (nI ic) (nI len) (nI s) (nI cnt) (nI dep) (nI md) (cop) (carg) (xc) (xAd) (xOp) (xIn) (xCe) (xMk) (lAd) (lIn) (lA) (lX) (lSp) (bef) (awa) (rd) (wr) fu371 a b (nI k)) (by omega) (fun lo hi hb => ⟨k + 1, ?_⟩))
      refine pp_371 hQ D hkc (fun lo' hi' hR => ?_) k (Nat.le_refl k) lo hi (fun j hj => ?_)
      · unfold wL_law_371
        refine br_t (by decide) (pp_step1 (by omega) hkc ?_)
        rw [hxO k hkc]
        have hok := (hS k hkc).1
        have fin : ∀ sv : Nat, sv ≤ 1 → (sv = 1 ↔ o k = 5) → wL_law_644 post Ls xs J71 J249 J308 (wL_law_323 post Ls xs J71 J249 J308 x1 x2 x4 x5 x6 x8 (nI cnt) (nI c) kc ks (nI cc) (nI ce) (nI dc) (nI ic) (nI len) (nI s) (nI cnt) (nI dep) (nI md) (cop) (carg) (xc) (xAd) (xOp) (xIn) (xCe) (xMk) (lAd) (lIn) (lA) (lX) (lSp) (bef) (awa) (rd) (wr) (d + 1)) x1 x2 x4 x5 x6 x8 (nI cnt) (nI c) f g (nI k) lo' hi' (nI sv) kc ks (nI cc) (nI ce) (nI dc) (nI ic) (nI len) (nI s) (nI cnt) (nI dep) (nI md) (cop) (carg) (xc) (xAd) (xOp) (xIn) (xCe) (xMk) (lAd) (lIn) (lA) (lX) (lSp) (bef) (awa) (rd) (wr) (k + 1) (nI (0 + 2 * 0)) (nI 0) :=
          fun sv h1 h5 => pp_644 hQ hkc (show c < ce by omega) hcl h1 h5 hR (pp_739 (by omega) hkc hcl hac nxt) k 0 (by omega) 0 0 (by omega) (by omega) ⟨fun w => absurd w (by omega), fun ⟨i, i1, _⟩ => by omega⟩ ⟨fun w => absurd w (by omega), fun ⟨_, i, i1, _⟩ => by omega⟩
        exact pk_eq (o k) 5 (fun e5 => ⟨k + 1, fin 1 (by omega) ⟨fun _ => e5, fun _ => rfl⟩⟩) (fun n5 => ⟨k + 1, fin 0 (by omega) ⟨fun w => by omega, fun w => absurd w n5⟩⟩)
      · rw [hb j hj]
        constructor
        · exact Or.inl
        · rintro (e | ⟨b, b1, b2, _⟩)
          · exact e
          · omega
end
end
section
/-! ===== the law ===== -/
theorem pp_mod {post : Int32 → Prop} {v : Int32} (d : Nat) (h0 : 0 < d) (hd : d < 2 ^ 31) (h : ∀ r, r < d → post (nI r)) : wpL_mod post () v (nI d) := by
  unfold wpL_mod
  refine ⟨nI_ne0 h0 hd, ?_⟩
  rw [pk_and v (m := 2147483647) 31 (by decide), pk_rem (Nat.mod_lt _ (by decide)) h0 hd]
  exact h _ (Nat.mod_lt _ h0)
theorem pp_cell {post : Int32 → Prop} {Ls : Nat} {xs : Nat → Int32} {a : Nat} (hL : Ls ≤ 260) (ha : a < 2 ^ 31) (h : ∀ r, post r) : wpL_cell post Ls xs () (nI a) := by
  unfold wpL_cell
  exact pk_le Ls a (fun _ => h _) (fun z => ⟨vp_in_nI z (by omega), h _⟩)
theorem pp_op {post : Int32 → Prop} {a b : Int32} (h : ∀ r, post r) : wpL_op post () a b := by
  simp [wpL_op, h]
theorem pp_arg {post : Int32 → Prop} {a b c d : Int32} (hd : ¬ d = 0) (h : ∀ r, post r) : wpL_arg post () a b c d := by
  simp [wpL_arg, wL_arg_22, wL_arg_27, wpL_mod, h, hd]
def pp_J1 (J : Int32 → Int32 → Int32 → Int32 → Int32 → Int32 → Int32 → Int32 → Int32 → Int32 → Int32 → Int32 → (Nat → Int32) → (Nat → Int32) → (Nat → Int32) → (Nat → Int32) → (Nat → Int32) → (Nat → Int32) → (Nat → Int32) → (Nat → Int32) → (Nat → Int32) → (Nat → Int32) → (Nat → Int32) → (Nat → Int32) → (Nat → Int32) → (Nat → Int64) → (Nat → Int64) → (Nat → Int64) → (Nat → Int64) → Prop) (x4 x5 x6 : Int32) (u : St2) : Prop := match u with
  | (u1, u2, u3, u4, u5, u6, u7, u8, u9, u10, u11, u12, u13, u14, u15, u16, u17, u18, u19, u20, u21, u22, u23, u24, u25, u26) => J x4 x5 x6 u1 u2 u3 u4 u5 u6 u7 u8 u9 u10 u11 u12 u13 u14 u15 u16 u17 u18 u19 u20 u21 u22 u23 u24 u25 u26
def pp_J2 (J : Int32 → Int32 → Int32 → Int32 → Int32 → Int32 → Int32 → Int32 → Int32 → Int32 → Int32 → (Nat → Int32) → (Nat → Int32) → (Nat → Int32) → (Nat → Int32) → (Nat → Int32) → (Nat → Int32) → (Nat → Int32) → (Nat → Int32) → (Nat → Int32) → (Nat → Int32) → (Nat → Int32) → (Nat → Int32) → (Nat → Int32) → (Nat → Int64) → (Nat → Int64) → (Nat → Int64) → (Nat → Int64) → Prop) (x4 x8 : Int32) (u : St2) : Prop := match u with
  | (u1, u2, u3, u4, u5, u6, u7, u8, u9, u10, u11, u12, u13, u14, u15, u16, u17, u18, u19, u20, u21, u22, u23, u24, u25, u26) => J x4 x8 u1 u2 u3 u4 u5 u6 u7 u8 u9 u10 u11 u12 u13 u14 u15 u16 u17 u18 u19 u20 u21 u22 u23 u24 u25 u26
section
variable {post : Int32 → Prop} {Ls : Nat} {xs : Nat → Int32} {J71 : Int32 → Int32 → Int32 → Int32 → Int32 → Int32 → Int32 → Int32 → Int32 → Int32 → Int32 → Int32 → (Nat → Int32) → (Nat → Int32) → (Nat → Int32) → (Nat → Int32) → (Nat → Int32) → (Nat → Int32) → (Nat → Int32) → (Nat → Int32) → (Nat → Int32) → (Nat → Int32) → (Nat → Int32) → (Nat → Int32) → (Nat → Int32) → (Nat → Int64) → (Nat → Int64) → (Nat → Int64) → (Nat → Int64) → Prop} {J249 : Int32 → Int32 → Int32 → Int32 → Int32 → Int32 → Int32 → Int32 → Int32 → Int32 → Int32 → (Nat → Int32) → (Nat → Int32) → (Nat → Int32) → (Nat → Int32) → (Nat → Int32) → (Nat → Int32) → (Nat → Int32) → (Nat → Int32) → (Nat → Int32) → (Nat → Int32) → (Nat → Int32) → (Nat → Int32) → (Nat → Int32) → (Nat → Int64) → (Nat → Int64) → (Nat → Int64) → (Nat → Int64) → Prop} {J308 : Int32 → Prop} {J323 : Int32 → Int32 → Int32 → Prop} {J371 : Int64 → Int64 → Int32 → Prop} {J447 : Int64 → Int64 → Int32 → Int32 → Int32 → Prop} {x1 x2 x4 x5 x6 x8 x9 x10 x11 x12 x13 x14 : Int32} {kc ks : Nat}
variable {CE : Nat}
theorem pp_827 {u : St2} (I : pp_R CE u) (h : ∀ u', pp_R CE u' → pp_J1 J71 x4 x5 (x6 + 1) u') : (match u with | (u1, u2, u3, u4, u5, u6, u7, u8, u9, u10, u11, u12, u13, u14, u15, u16, u17, u18, u19, u20, u21, u22, u23, u24, u25, u26) => wL_law_827 post Ls xs J71 x1 x2 x4 x5 x6 kc ks u1 u2 u3 u4 u5 u6 u7 u8 u9 u10 u11 u12 u13 u14 u15 u16 u17 u18 u19 u20 u21 u22 u23 u24 u25 u26) := by
  obtain ⟨u1, u2, u3, u4, u5, u6, u7, u8, u9, u10, u11, u12, u13, u14, u15, u16, u17, u18, u19, u20, u21, u22, u23, u24, u25, u26⟩ := u
  show wL_law_827 post Ls xs J71 x1 x2 x4 x5 x6 kc ks u1 u2 u3 u4 u5 u6 u7 u8 u9 u10 u11 u12 u13 u14 u15 u16 u17 u18 u19 u20 u21 u22 u23 u24 u25 u26
  unfold wL_law_827
  refine pp_reset I (fun u' hu' => ?_)
  obtain ⟨u1, u2, u3, u4, u5, u6, u7, u8, u9, u10, u11, u12, u13, u14, u15, u16, u17, u18, u19, u20, u21, u22, u23, u24, u25, u26⟩ := u'
  exact nm_e (h _ hu')
end
section
variable {cc ce dc ic len s cnt dep md : Nat} {o n m st q ad : Nat → Nat} {cop carg xc xAd xOp xIn xCe xMk lAd lIn lA lX lSp yc stk nxt acc idx mkr yAd yOp yIn yCe lds : Nat → Int32} {bef awa rd wr : Nat → Int64}
variable {post : Int32 → Prop} {Ls : Nat} {xs : Nat → Int32} {J71 : Int32 → Int32 → Int32 → Int32 → Int32 → Int32 → Int32 → Int32 → Int32 → Int32 → Int32 → Int32 → (Nat → Int32) → (Nat → Int32) → (Nat → Int32) → (Nat → Int32) → (Nat → Int32) → (Nat → Int32) → (Nat → Int32) → (Nat → Int32) → (Nat → Int32) → (Nat → Int32) → (Nat → Int32) → (Nat → Int32) → (Nat → Int32) → (Nat → Int64) → (Nat → Int64) → (Nat → Int64) → (Nat → Int64) → Prop} {J249 : Int32 → Int32 → Int32 → Int32 → Int32 → Int32 → Int32 → Int32 → Int32 → Int32 → Int32 → (Nat → Int32) → (Nat → Int32) → (Nat → Int32) → (Nat → Int32) → (Nat → Int32) → (Nat → Int32) → (Nat → Int32) → (Nat → Int32) → (Nat → Int32) → (Nat → Int32) → (Nat → Int32) → (Nat → Int32) → (Nat → Int32) → (Nat → Int64) → (Nat → Int64) → (Nat → Int64) → (Nat → Int64) → Prop} {J308 : Int32 → Prop} {J323 : Int32 → Int32 → Int32 → Prop} {J371 : Int64 → Int64 → Int32 → Prop} {J447 : Int64 → Int64 → Int32 → Int32 → Int32 → Prop} {x1 x2 x4 x5 x6 x8 x9 x10 x11 x12 x13 x14 : Int32} {kc ks : Nat}
theorem pp_308 (h : sp_Q cc ce dc ic len s cnt dep md o n m st q ad cop carg xc xAd xOp xIn xCe xMk lAd lIn lA lX lSp bef awa rd wr yc stk nxt acc idx mkr yAd yOp yIn yCe lds) (D : sp_D o n m cnt md dep st) (h249 : J249 x4 (x8 + 1) (nI cc) (nI ce) (nI dc) (nI ic) (nI len) (nI s) (nI cnt) (nI dep) (nI md) (cop) (carg) (xc) (xAd) (xOp) (xIn) (xCe) (xMk) (lAd) (lIn) (lA) (lX) (lSp) (bef) (awa) (rd) (wr)) (h827 : wL_law_827 post Ls xs J71 x1 (nI ce) x4 x5 x6 kc ks (nI cc) (nI ce) (nI dc) (nI ic) (nI len) (nI s) (nI cnt) (nI dep) (nI md) (cop) (carg) (xc) (xAd) (xOp) (xIn) (xCe) (xMk) (lAd) (lIn) (lA) (lX) (lSp) (bef) (awa) (rd) (wr)) :
    ∀ d c, c + d = ce + 1 → wL_law_308 post Ls xs J71 J249 x1 (nI ce) x4 x5 x6 x8 (nI cnt) kc ks (nI cc) (nI ce) (nI dc) (nI ic) (nI len) (nI s) (nI cnt) (nI dep) (nI md) (cop) (carg) (xc) (xAd) (xOp) (xIn) (xCe) (xMk) (lAd) (lIn) (lA) (lX) (lSp) (bef) (awa) (rd) (wr) (d + 1) (nI c + (-1)) := by
  have hK := h.1
  unfold sp_K at hK
  intro d
  induction d with
  | zero =>
    intro c hc
    obtain rfl : c = ce + 1 := by omega
    unfold wL_law_308
    rw [pk_m1]
    refine br_t (nI_le (by omega) (by omega)) ?_
    unfold wpX_status
    exact br_c (fun _ => nm_e h249) (fun _ => h827)
  | succ d ih =>
    intro c hc
    have z : ¬ nI ce ≤ nI c + (-1) := by
      cases c with
      | zero =>
        have e : nI 0 + (-1) = -1 := by decide
        rw [e]
        exact sp_nle (sp_m1lt (by omega))
      | succ c =>
        rw [pk_m1]
        exact nI_ge (by omega) (by omega)
    unfold wL_law_308
    exact br_f z ⟨cnt + 1, pp_323 h D (by omega) (ih (c + 1) (by omega)) cnt 0 (by omega) (-1) 0 ⟨rfl, rfl⟩⟩
theorem pp_283 (h : sp_Q cc ce dc ic len s cnt dep md o n m st q ad cop carg xc xAd xOp xIn xCe xMk lAd lIn lA lX lSp bef awa rd wr yc stk nxt acc idx mkr yAd yOp yIn yCe lds) (D : sp_D o n m cnt md dep st) (h249 : J249 x4 (x8 + 1) (nI cc) (nI ce) (nI dc) (nI ic) (nI len) (nI s) (nI cnt) (nI dep) (nI md) (cop) (carg) (xc) (xAd) (xOp) (xIn) (xCe) (xMk) (lAd) (lIn) (lA) (lX) (lSp) (bef) (awa) (rd) (wr)) (h827 : wL_law_827 post Ls xs J71 x1 (nI ce) x4 x5 x6 kc ks (nI cc) (nI ce) (nI dc) (nI ic) (nI len) (nI s) (nI cnt) (nI dep) (nI md) (cop) (carg) (xc) (xAd) (xOp) (xIn) (xCe) (xMk) (lAd) (lIn) (lA) (lX) (lSp) (bef) (awa) (rd) (wr)) : wL_law_283 post Ls xs J71 J249 x1 (nI ce) x4 x5 x6 x8 kc ks (nI cc) (nI ce) (nI dc) (nI ic) (nI len) (nI s) (nI cnt) (nI dep) (nI md) (cop) (carg) (xc) (xAd) (xOp) (xIn) (xCe) (xMk) (lAd) (lIn) (lA) (lX) (lSp) (bef) (awa) (rd) (wr) := by
  have hK := h.1
  unfold sp_K at hK
  have key : wL_law_308 post Ls xs J71 J249 x1 (nI ce) x4 x5 x6 x8 (nI cnt) kc ks (nI cc) (nI ce) (nI dc) (nI ic) (nI len) (nI s) (nI cnt) (nI dep) (nI md) (cop) (carg) (xc) (xAd) (xOp) (xIn) (xCe) (xMk) (lAd) (lIn) (lA) (lX) (lSp) (bef) (awa) (rd) (wr) (ce + 1 + 1) (-1) := pp_308 h D h249 h827 (ce + 1) 0 (by omega)
  unfold wL_law_283
  unfold wpX_steps
  refine pk_le 128 cnt (fun z => ⟨ce + 1 + 1, ?_⟩) (fun z => ⟨ce + 1 + 1, key⟩)
  have e : cnt = 128 := by omega
  have e2 : nI cnt = 128 := by rw [e]; rfl
  rw [e2] at key
  rw [e2]
  exact key
end
section
variable {post : Int32 → Prop} {Ls : Nat} {xs : Nat → Int32} {J71 : Int32 → Int32 → Int32 → Int32 → Int32 → Int32 → Int32 → Int32 → Int32 → Int32 → Int32 → Int32 → (Nat → Int32) → (Nat → Int32) → (Nat → Int32) → (Nat → Int32) → (Nat → Int32) → (Nat → Int32) → (Nat → Int32) → (Nat → Int32) → (Nat → Int32) → (Nat → Int32) → (Nat → Int32) → (Nat → Int32) → (Nat → Int32) → (Nat → Int64) → (Nat → Int64) → (Nat → Int64) → (Nat → Int64) → Prop} {J249 : Int32 → Int32 → Int32 → Int32 → Int32 → Int32 → Int32 → Int32 → Int32 → Int32 → Int32 → (Nat → Int32) → (Nat → Int32) → (Nat → Int32) → (Nat → Int32) → (Nat → Int32) → (Nat → Int32) → (Nat → Int32) → (Nat → Int32) → (Nat → Int32) → (Nat → Int32) → (Nat → Int32) → (Nat → Int32) → (Nat → Int32) → (Nat → Int64) → (Nat → Int64) → (Nat → Int64) → (Nat → Int64) → Prop} {J308 : Int32 → Prop} {J323 : Int32 → Int32 → Int32 → Prop} {J371 : Int64 → Int64 → Int32 → Prop} {J447 : Int64 → Int64 → Int32 → Int32 → Int32 → Prop} {x1 x2 x4 x5 x6 x8 x9 x10 x11 x12 x13 x14 : Int32} {kc ks : Nat}
variable {CE : Nat}
theorem pp_249 {A0 : Nat} (hL : Ls ≤ 260) (hA : A0 ≤ 1000) (h71 : ∀ a u', a ≤ A0 + 9 → pp_R CE u' → pp_J1 J71 (nI a) x5 (x6 + 1) u') :
    ∀ d t, t + d = 9 → ∀ a, a ≤ A0 + t → ∀ u, pp_R CE u → pp_J2 (wL_law_249 post Ls xs J71 x1 (nI CE) x5 x6 kc ks (d + 1)) (nI a) (nI t) u := by
  intro d
  induction d with
  | zero =>
    intro t ht a ha u hu
    have h8 := pp_827 (post := post) (Ls := Ls) (xs := xs) (x1 := x1) (x2 := nI CE) (x4 := nI a) (x5 := x5) (x6 := x6) (kc := kc) (ks := ks) hu (fun u' hu' => h71 a u' (by omega) hu')
    obtain ⟨u1, u2, u3, u4, u5, u6, u7, u8, u9, u10, u11, u12, u13, u14, u15, u16, u17, u18, u19, u20, u21, u22, u23, u24, u25, u26⟩ := u
    show wL_law_249 post Ls xs J71 x1 (nI CE) x5 x6 kc ks (0 + 1) (nI a) (nI t) u1 u2 u3 u4 u5 u6 u7 u8 u9 u10 u11 u12 u13 u14 u15 u16 u17 u18 u19 u20 u21 u22 u23 u24 u25 u26
    unfold wL_law_249
    exact br_t (nI_lt (a := 8) (by omega) (by omega)) h8
  | succ d ih =>
    intro t ht a ha u hu
    have chk : ∀ b, b ≤ A0 + t + 1 → ∀ u', pp_R CE u' → (match u' with | (u1, u2, u3, u4, u5, u6, u7, u8, u9, u10, u11, u12, u13, u14, u15, u16, u17, u18, u19, u20, u21, u22, u23, u24, u25, u26) => wL_law_283 post Ls xs J71 (wL_law_249 post Ls xs J71 x1 (nI CE) x5 x6 kc ks (d + 1)) x1 (nI CE) (nI b) x5 x6 (nI t) kc ks u1 u2 u3 u4 u5 u6 u7 u8 u9 u10 u11 u12 u13 u14 u15 u16 u17 u18 u19 u20 u21 u22 u23 u24 u25 u26) := by
      intro b hb u' hu'
      have h8 := pp_827 (post := post) (Ls := Ls) (xs := xs) (x1 := x1) (x2 := nI CE) (x4 := nI b) (x5 := x5) (x6 := x6) (kc := kc) (ks := ks) hu' (fun u'' hu'' => h71 b u'' (by omega) hu'')
      have h9 := ih (t + 1) (by omega) b (by omega) u' hu'
      obtain ⟨cc, ce, dc, ic, len, s, cnt, dep, md, o, n, m, st, q, ad, cop, carg, xc, xAd, xOp, xIn, xCe, xMk, lAd, lIn, lA, lX, lSp, bef, awa, rd, wr, yc, stk, nxt, acc, idx, mkr, yAd, yOp, yIn, yCe, lds, rfl, rfl, hQ, hD⟩ := hu'
      rw [← nI_1] at h9
      exact pp_283 hQ hD h9 h8
    obtain ⟨u1, u2, u3, u4, u5, u6, u7, u8, u9, u10, u11, u12, u13, u14, u15, u16, u17, u18, u19, u20, u21, u22, u23, u24, u25, u26⟩ := u
    show wL_law_249 post Ls xs J71 x1 (nI CE) x5 x6 kc ks (d + 1 + 1) (nI a) (nI t) u1 u2 u3 u4 u5 u6 u7 u8 u9 u10 u11 u12 u13 u14 u15 u16 u17 u18 u19 u20 u21 u22 u23 u24 u25 u26
    unfold wL_law_249
    refine br_f (nI_nlt (a := 8) (by omega) (by omega)) ?_
    refine br_c (fun _ => chk a (by omega) _ hu) (fun _ => ?_)
    refine pp_cell hL (by omega) (fun r => pp_mod 29 (by omega) (by omega) (fun r2 _ => pp_run hu _ (fun r3 u' hu' => ?_)))
    have w := chk (a + 1) (by omega) u' hu'
    obtain ⟨u1, u2, u3, u4, u5, u6, u7, u8, u9, u10, u11, u12, u13, u14, u15, u16, u17, u18, u19, u20, u21, u22, u23, u24, u25, u26⟩ := u'
    exact nm_r (nI_1 a) w
theorem pp_197 {A0 : Nat} (hL : Ls ≤ 260) (hA : A0 ≤ 900) (hCE : 0 < CE) (hCE2 : CE ≤ 16) (h71 : ∀ a u', a ≤ A0 + 13 → pp_R CE u' → pp_J1 J71 (nI a) x5 (x6 + 1) u') :
    ∀ d i, i + d = 2 → ∀ a, a ≤ A0 + 2 * i → ∀ u, pp_R CE u → pp_J2 (wL_law_197 post Ls xs J71 x1 (nI CE) x5 x6 kc ks (d + 1)) (nI a) (nI i) u := by
  intro d
  induction d with
  | zero =>
    intro i hi a ha u hu
    obtain ⟨u1, u2, u3, u4, u5, u6, u7, u8, u9, u10, u11, u12, u13, u14, u15, u16, u17, u18, u19, u20, u21, u22, u23, u24, u25, u26⟩ := u
    show wL_law_197 post Ls xs J71 x1 (nI CE) x5 x6 kc ks (0 + 1) (nI a) (nI i) u1 u2 u3 u4 u5 u6 u7 u8 u9 u10 u11 u12 u13 u14 u15 u16 u17 u18 u19 u20 u21 u22 u23 u24 u25 u26
    unfold wL_law_197
    refine br_t (nI_le (a := 2) (by omega) (by omega)) (pp_start hu (fun r u' hu' => ?_))
    have w := pp_249 (post := post) (xs := xs) (x1 := x1) (x5 := x5) (x6 := x6) (kc := kc) (ks := ks) (A0 := A0 + 4) hL (by omega) (fun b v hb hv => h71 b v (by omega) hv) 9 0 (by omega) a (by omega) u' hu'
    obtain ⟨u1, u2, u3, u4, u5, u6, u7, u8, u9, u10, u11, u12, u13, u14, u15, u16, u17, u18, u19, u20, u21, u22, u23, u24, u25, u26⟩ := u'
    exact ⟨10, w⟩
  | succ d ih =>
    intro i hi a ha u hu
    obtain ⟨u1, u2, u3, u4, u5, u6, u7, u8, u9, u10, u11, u12, u13, u14, u15, u16, u17, u18, u19, u20, u21, u22, u23, u24, u25, u26⟩ := u
    show wL_law_197 post Ls xs J71 x1 (nI CE) x5 x6 kc ks (d + 1 + 1) (nI a) (nI i) u1 u2 u3 u4 u5 u6 u7 u8 u9 u10 u11 u12 u13 u14 u15 u16 u17 u18 u19 u20 u21 u22 u23 u24 u25 u26
    unfold wL_law_197
    rw [nI_1 a]
    refine br_f (nI_ge (b := 2) (by omega) (by omega)) ?_
    refine pp_cell hL (by omega) (fun r1 => pp_mod CE (by omega) (by omega) (fun r2 _ => pp_cell hL (by omega) (fun r3 => pp_mod 3 (by omega) (by omega) (fun r4 _ => pp_poke hu _ _ (fun r5 u' hu' => ?_)))))
    have w := ih (i + 1) (by omega) (a + 2) (by omega) u' hu'
    obtain ⟨u1, u2, u3, u4, u5, u6, u7, u8, u9, u10, u11, u12, u13, u14, u15, u16, u17, u18, u19, u20, u21, u22, u23, u24, u25, u26⟩ := u'
    exact nm_r (nI_add a 2) (nm_r (nI_1 i) w)
theorem pp_118 {A0 M : Nat} (hL : Ls ≤ 260) (hA : A0 ≤ 500) (hM : M ≤ 31) (hCE : 0 < CE) (hCE2 : CE ≤ 16) (hx1 : ¬ x1 = 0) (h71 : ∀ x5 a u', a ≤ A0 + 75 → pp_R CE u' → pp_J1 J71 (nI a) x5 (x6 + 1) u') :
    ∀ d i, i + d = M → ∀ a x5, a ≤ A0 + 2 * i → ∀ u, pp_R CE u → pp_J1 (wL_law_118 post Ls xs J71 x1 (nI CE) x6 (nI M) kc ks (d + 1)) (nI a) x5 (nI i) u := by
  intro d
  induction d with
  | zero =>
    intro i hi a x5 ha u hu
    have w := pp_197 (post := post) (xs := xs) (x1 := x1) (x5 := x5) (x6 := x6) (kc := kc) (ks := ks) (A0 := A0 + 62) hL (by omega) hCE hCE2 (fun b v hb hv => h71 x5 b v (by omega) hv) 2 0 (by omega) a (by omega) u hu
    obtain ⟨u1, u2, u3, u4, u5, u6, u7, u8, u9, u10, u11, u12, u13, u14, u15, u16, u17, u18, u19, u20, u21, u22, u23, u24, u25, u26⟩ := u
    show wL_law_118 post Ls xs J71 x1 (nI CE) x6 (nI M) kc ks (0 + 1) (nI a) x5 (nI i) u1 u2 u3 u4 u5 u6 u7 u8 u9 u10 u11 u12 u13 u14 u15 u16 u17 u18 u19 u20 u21 u22 u23 u24 u25 u26
    unfold wL_law_118
    exact br_t (nI_le (by omega) (by omega)) ⟨3, w⟩
  | succ d ih =>
    intro i hi a x5 ha u hu
    obtain ⟨u1, u2, u3, u4, u5, u6, u7, u8, u9, u10, u11, u12, u13, u14, u15, u16, u17, u18, u19, u20, u21, u22, u23, u24, u25, u26⟩ := u
    show wL_law_118 post Ls xs J71 x1 (nI CE) x6 (nI M) kc ks (d + 1 + 1) (nI a) x5 (nI i) u1 u2 u3 u4 u5 u6 u7 u8 u9 u10 u11 u12 u13 u14 u15 u16 u17 u18 u19 u20 u21 u22 u23 u24 u25 u26
    unfold wL_law_118
    rw [nI_1 a]
    refine br_f (nI_ge (by omega) (by omega)) ?_
    refine pp_cell hL (by omega) (fun r1 => pp_mod 22 (by omega) (by omega) (fun r2 _ => pp_op (fun r3 => pp_cell hL (by omega) (fun r4 => pp_arg hx1 (fun r5 => nm_r (nI_add a 2) (pp_emit hu _ _ (fun r6 u' hu' => ?_)))))))
    have w1 := ih (i + 1) (by omega) (a + 2) x5 (by omega) u' hu'
    have w2 := ih (i + 1) (by omega) (a + 2) (x5 + 1) (by omega) u' hu'
    obtain ⟨u1, u2, u3, u4, u5, u6, u7, u8, u9, u10, u11, u12, u13, u14, u15, u16, u17, u18, u19, u20, u21, u22, u23, u24, u25, u26⟩ := u'
    exact br_c (fun _ => nm_r (nI_1 i) w1) (fun _ => nm_e (nm_r (nI_1 i) w2))
theorem pp_71 (hL : Ls ≤ 260) (hCE : 0 < CE) (hCE2 : CE ≤ 16) (hx1 : ¬ x1 = 0) (hp : post 1) :
    ∀ d i, i + d = 2 → ∀ a x5, a ≤ 4 + 100 * i → ∀ u, pp_R CE u → pp_J1 (wL_law_71 post Ls xs x1 (nI CE) kc ks (d + 1)) (nI a) x5 (nI i) u := by
  intro d
  induction d with
  | zero =>
    intro i hi a x5 ha u hu
    obtain ⟨u1, u2, u3, u4, u5, u6, u7, u8, u9, u10, u11, u12, u13, u14, u15, u16, u17, u18, u19, u20, u21, u22, u23, u24, u25, u26⟩ := u
    show wL_law_71 post Ls xs x1 (nI CE) kc ks (0 + 1) (nI a) x5 (nI i) u1 u2 u3 u4 u5 u6 u7 u8 u9 u10 u11 u12 u13 u14 u15 u16 u17 u18 u19 u20 u21 u22 u23 u24 u25 u26
    unfold wL_law_71
    exact br_t (nI_le (a := 2) (by omega) (by omega)) hp
  | succ d ih =>
    intro i hi a x5 ha u hu
    have go : ∀ M, M ≤ 31 → pp_J1 (wL_law_118 post Ls xs (wL_law_71 post Ls xs x1 (nI CE) kc ks (d + 1)) x1 (nI CE) (nI i) (nI M) kc ks (M + 1)) (nI (a + 1)) x5 (nI 0) u := by
      intro M hM
      refine pp_118 (A0 := 5 + 100 * i) hL (by omega) hM hCE hCE2 hx1 (fun x5' b v hb hv => ?_) M 0 (by omega) (a + 1) x5 (by omega) u hu
      rw [nI_1]
      exact ih (i + 1) (by omega) b x5' (by omega) v hv
    obtain ⟨u1, u2, u3, u4, u5, u6, u7, u8, u9, u10, u11, u12, u13, u14, u15, u16, u17, u18, u19, u20, u21, u22, u23, u24, u25, u26⟩ := u
    show wL_law_71 post Ls xs x1 (nI CE) kc ks (d + 1 + 1) (nI a) x5 (nI i) u1 u2 u3 u4 u5 u6 u7 u8 u9 u10 u11 u12 u13 u14 u15 u16 u17 u18 u19 u20 u21 u22 u23 u24 u25 u26
    unfold wL_law_71
    refine br_f (nI_ge (b := 2) (by omega) (by omega)) (br_c (fun _ => ?_) (fun _ => ?_))
    · refine pp_cell hL (by omega) (fun r => pp_mod 20 (by omega) (by omega) (fun r2 h2 => nm_r (nI_add 12 r2) (nm_r (nI_1 a) ⟨12 + r2 + 1, go (12 + r2) (by omega)⟩)))
    · refine pp_cell hL (by omega) (fun r => pp_mod 8 (by omega) (by omega) (fun r2 h2 => nm_r (nI_1 a) ⟨r2 + 1, go r2 (by omega)⟩))
end
theorem i_vc (xs : Nat → Int32) (L : Nat) (hL : L ≤ 260) : wpL_law (fun r => r = 1) L xs := by
  unfold wpL_law
  refine pp_cell (a := 0) hL (by omega) (fun r1 => pp_mod 17 (by omega) (by omega) (fun r2 h2 => nm_r (nI_add 32 r2) ?_))
  refine pp_cell (a := 1) hL (by omega) (fun r4 => pp_mod 4 (by omega) (by omega) (fun r5 h5 => nm_r (nI_add 2 r5) ?_))
  refine pp_cell (a := 2) hL (by omega) (fun r8 => pp_mod 6 (by omega) (by omega) (fun r9 h9 => ?_))
  refine pp_cell (a := 3) hL (by omega) (fun r10 => pp_mod 8 (by omega) (by omega) (fun r11 h11 => ?_))
  refine ⟨17, 924, by omega, by omega, pp_init (by omega) (by omega) (by omega) (by omega) _ _ _ (fun u hu => ?_)⟩
  have w := pp_71 (post := fun r => r = 1) (xs := xs) (x1 := nI (32 + r2)) (kc := 1 + 17) (ks := 26 + 924) hL (by omega) (by omega) (nI_ne0 (by omega) (by omega)) rfl 2 0 (by omega) 4 0 (by omega) u hu
  obtain ⟨u1, u2, u3, u4, u5, u6, u7, u8, u9, u10, u11, u12, u13, u14, u15, u16, u17, u18, u19, u20, u21, u22, u23, u24, u25, u26⟩ := u
  exact ⟨3, w⟩
end

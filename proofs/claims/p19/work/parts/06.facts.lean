/-! ===== the facts that the relation holds ===== -/
def sp_K (cc ce dc ic len s cnt dep md : Nat) : Prop :=
  8 ≤ cc ∧ cc ≤ 48 ∧ 2 ≤ ce ∧ ce ≤ 16 ∧ 2 ≤ dc ∧ dc ≤ 12 ∧ 2 ≤ ic ∧ ic ≤ 32 ∧ len ≤ cc ∧ s ≤ 5 ∧ cnt ≤ 128 ∧ dep ≤ dc ∧ md ≤ ic ∧ (s = 0 → cnt = 0 ∧ dep = 0 ∧ md = 0) ∧ (s = 2 → dep = 0) ∧ (¬ s = 0 → ¬ s = 2 → 0 < dep)
def sp_C (len : Nat) (cop carg : Nat → Int32) : Prop :=
  ∀ p, p < len → ∃ a : Nat, a ≤ 11 ∧ cop p = nI a ∧ ((a = 2 ∨ a = 3 ∨ a = 10 ∨ a = 11) → ∃ b : Nat, b < 48 ∧ carg p = nI b)
def sp_eq (c : Nat) (f g : Nat → Int32) : Prop := ∀ t, t < c → f t = g t
def sp_rep (c : Nat) (f : Nat → Int32) (g : Nat → Nat) : Prop := ∀ t, t < c → f t = nI (g t)
def sp_acc (a : Nat) : Prop := a = 4 ∨ a = 5 ∨ a = 6
def sp_S (cnt ce : Nat) (o : Nat → Nat) (yCe : Nat → Int32) : Prop :=
  ∀ t, t < cnt → o t ≤ 11 ∧ ((sp_acc (o t) ∧ ∃ e, e < ce ∧ yCe t = nI e) ∨ (¬ sp_acc (o t) ∧ yCe t = -1))
def sp_Vl (dep cnt : Nat) (o m st ad : Nat → Nat) (lAd lIn lA lX lSp stk nxt acc idx : Nat → Int32) : Prop :=
  ∀ l, l < dep → lAd l = nI (ad l) ∧ nxt (st l) = nI (ad l) ∧ ad l ≤ 48 + cnt ∧ lIn l = nI (st l) ∧ stk l = nI (st l) ∧ lA l = acc (st l) ∧ lX l = idx (st l) ∧
    (l = 0 → lSp l = 0) ∧ (0 < l → o (m (st l)) = 2 → lSp l = 1) ∧ (0 < l → ¬ o (m (st l)) = 2 → lSp l = 0)
def sp_RW (cnt : Nat) (o : Nat → Nat) (yCe : Nat → Int32) (rd wr : Nat → Int64) : Prop :=
  ∀ c, c < 16 → ∀ j, j < 128 → (sp_mem wr c j ↔ (j < cnt ∧ (yCe j = nI c ∧ o j = 5))) ∧ (sp_mem rd c j ↔ (j < cnt ∧ (yCe j = nI c ∧ ¬ o j = 5)))
def sp_Mk (cnt : Nat) (o n m : Nat → Nat) (yCe xMk : Nat → Int32) : Prop := ∀ t, t < cnt → sp_mk o n m yCe t (xMk t)
def sp_Mr (md : Nat) (m : Nat → Nat) (mkr : Nat → Int32) : Prop := ∀ i, ¬ i = 0 → i < md → mkr i = nI (m i)
def sp_01 (lds : Nat → Int32) : Prop := ∀ t, lds t = 0 ∨ lds t = 1
theorem sp_eq_u {c : Nat} {f g : Nat → Int32} {x : Int32} (h : sp_eq c f g) : sp_eq (c + 1) (upd f c x) (upd g c x) := by
  intro t ht
  by_cases e : t = c
  · rw [e, pk_us, pk_us]
  · rw [pk_un e, pk_un e]; exact h t (by omega)
theorem sp_rep_u {c : Nat} {f : Nat → Int32} {g : Nat → Nat} {x : Nat} (h : sp_rep c f g) : sp_rep (c + 1) (upd f c (nI x)) (sp_u g c x) := by
  intro t ht
  by_cases e : t = c
  · rw [e, pk_us, sp_us]
  · rw [pk_un e, sp_un e]; exact h t (by omega)
theorem sp_rep_k {c : Nat} {f : Nat → Int32} {g : Nat → Nat} {x : Int32} (h : sp_rep c f g) : sp_rep c (upd f c x) g := by
  intro t ht
  rw [pk_un (show t ≠ c by omega)]; exact h t ht
/-- the touched cell of a step with opcode oo -/
def sp_ev (ce oo : Nat) (ev : Int32) : Prop := (sp_acc oo ∧ ∃ e, e < ce ∧ ev = nI e) ∨ (¬ sp_acc oo ∧ ev = -1)
theorem sp_S_u {cnt ce oo : Nat} {o : Nat → Nat} {yCe : Nat → Int32} {ev : Int32} (h : sp_S cnt ce o yCe) (ho : oo ≤ 11) (he : sp_ev ce oo ev) : sp_S (cnt + 1) ce (sp_u o cnt oo) (upd yCe cnt ev) := by
  intro t ht
  by_cases e : t = cnt
  · rw [e, pk_us, sp_us]; exact ⟨ho, he⟩
  · rw [pk_un e, sp_un e]; exact h t (by omega)
theorem sp_m1n {c : Nat} (h : c < 2 ^ 31) : ¬ (-1 : Int32) = nI c := by
  intro e
  have h2 := nI_pos h
  rw [← e] at h2
  exact h2 (by decide)
theorem sp_RW_u {cnt oo : Nat} {o : Nat → Nat} {yCe : Nat → Int32} {rd wr rd' wr' : Nat → Int64} {ev : Int32} (h : sp_RW cnt o yCe rd wr)
    (hw : ∀ c, c < 16 → ∀ j, j < 128 → (sp_mem wr' c j ↔ (sp_mem wr c j ∨ (j = cnt ∧ ev = nI c ∧ oo = 5))))
    (hr : ∀ c, c < 16 → ∀ j, j < 128 → (sp_mem rd' c j ↔ (sp_mem rd c j ∨ (j = cnt ∧ ev = nI c ∧ ¬ oo = 5)))) : sp_RW (cnt + 1) (sp_u o cnt oo) (upd yCe cnt ev) rd' wr' := by
  intro c hc j hj
  obtain ⟨h1, h2⟩ := h c hc j hj
  rw [hw c hc j hj, hr c hc j hj, h1, h2]
  by_cases e : j = cnt
  · rw [e, pk_us, sp_us]
    have a1 : ¬ cnt < cnt := by omega
    have a2 : cnt < cnt + 1 := by omega
    simp only [a1, a2, false_and, false_or, true_and, and_self]
  · rw [pk_un e, sp_un e]
    have a1 : j < cnt ↔ j < cnt + 1 := by omega
    rw [a1]
    simp only [e, false_and, or_false, and_self]
theorem sp_Mk_u {cnt md : Nat} {o n m o' n' m' : Nat → Nat} {yCe xMk : Nat → Int32} {ev mv : Int32} (H : sp_H o n m cnt md) (X : sp_X o n m o' n' m' cnt md) (h : sp_Mk cnt o n m yCe xMk)
    (hm : sp_mk o' n' m' (upd yCe cnt ev) cnt mv) : sp_Mk (cnt + 1) o' n' m' (upd yCe cnt ev) (upd xMk cnt mv) := by
  intro t ht
  by_cases e : t = cnt
  · rw [e, pk_us]; exact hm
  · rw [pk_un e]
    exact sp_mk_x H X (fun s hs => pk_un (show s ≠ cnt by omega)) (by omega) (h t (by omega))
/-- the mask of the new step, as the class works it out -/
def sp_mv (oo L : Nat) (bef rd wr : Nat → Int64) (ev mv : Int32) : Prop :=
  (ev = -1 → mv = 0) ∧ ∀ e, e < 16 → ev = nI e → ∃ a b : Nat, a ≤ 1 ∧ b ≤ 1 ∧ mv = nI (a + 2 * b) ∧ (a = 1 ↔ ∃ j, j < 128 ∧ sp_mem wr e j ∧ ¬ sp_mem bef L j) ∧ (b = 1 ↔ (oo = 5 ∧ ∃ j, j < 128 ∧ sp_mem rd e j ∧ ¬ sp_mem bef L j))
theorem sp_mv_mk {o n m o' n' m' st q : Nat → Nat} {k dep md ce oo L : Nat} {bef rd wr : Nat → Int64} {A : Nat → Nat → Prop} {yCe : Nat → Int32} {ev mv : Int32} (H : sp_H o n m k md) (I : sp_L o n m k dep md st q (sp_mem bef) A) (X : sp_X o n m o' n' m' k md) (hL : L + 1 = dep) (hn : n' k = st L) (ho : o' k = oo) (hk : k ≤ 128) (hce : ce ≤ 16)
    (he : sp_ev ce oo ev) (hRW : sp_RW k o yCe rd wr) (h : sp_mv oo L bef rd wr ev mv) : sp_mk o' n' m' (upd yCe k ev) k mv := by
  unfold sp_mk
  rw [pk_us]
  refine ⟨h.1, fun hne => ?_⟩
  rcases he with ⟨ha, e, he1, he2⟩ | ⟨_, he2⟩
  · obtain ⟨a, b, h1, h2, h3, h4, h5⟩ := h.2 e (by omega) he2
    have n1 : ¬ o' k = 1 := by rw [ho]; rcases ha with z | z | z <;> omega
    have n0 : ¬ o' k = 0 := by rw [ho]; rcases ha with z | z | z <;> omega
    refine ⟨a, b, h1, h2, h3, ?_, ?_⟩
    · rw [h4, sp_unb H I X hL hn n1 n0 hk (fun j hj => (hRW e (by omega) j hj).1)]
      constructor
      · rintro ⟨j, a1, a2, a3⟩
        refine ⟨j, a1, ?_, ?_, a3⟩
        · rw [pk_us, pk_un (show j ≠ k by omega), he2]; exact a2.1
        · rw [X.1 j a1]; exact a2.2
      · rintro ⟨j, a1, a2, a4, a3⟩
        rw [pk_us, pk_un (show j ≠ k by omega), he2] at a2
        rw [X.1 j a1] at a4
        exact ⟨j, a1, ⟨a2, a4⟩, a3⟩
    · rw [h5, sp_unb H I X hL hn n1 n0 hk (fun j hj => (hRW e (by omega) j hj).2)]
      unfold sp_V
      rw [ho]
      constructor
      · rintro ⟨z, j, a1, a2, a3⟩
        refine ⟨z, j, a1, ?_, ?_, a3⟩
        · rw [pk_us, pk_un (show j ≠ k by omega), he2]; exact a2.1
        · rw [X.1 j a1]; exact a2.2
      · rintro ⟨z, j, a1, a2, a4, a3⟩
        rw [pk_us, pk_un (show j ≠ k by omega), he2] at a2
        rw [X.1 j a1] at a4
        exact ⟨z, j, a1, ⟨a2, a4⟩, a3⟩
  · exact absurd he2 hne
section
variable {o n m st q ad : Nat → Nat} {dep cnt md : Nat} {B A : Nat → Nat → Prop} {lAd lIn lA lX lSp stk nxt acc idx lAd' lIn' lA' lX' lSp' stk' nxt' acc' idx' : Nat → Int32}
/-- levels after a step of the top that keeps the stack -/
theorem sp_VlA (H : sp_H o n m cnt md) (I : sp_L o n m cnt dep md st q B A) (h : sp_Vl dep cnt o m st ad lAd lIn lA lX lSp stk nxt acc idx) {L a1 oo : Nat} (hL : L + 1 = dep)
    (ha : a1 ≤ 48 + (cnt + 1))
    (k1 : ∀ l, l < L → lAd' l = lAd l) (k1' : lAd' L = nI a1) (k2 : ∀ i, ¬ i = st L → nxt' i = nxt i) (k2' : nxt' (st L) = nI a1)
    (k3 : ∀ l, l < L → lA' l = lA l) (k4 : ∀ i, ¬ i = st L → acc' i = acc i) (k5 : lA' L = acc' (st L))
    (k6 : ∀ l, l < L → lX' l = lX l) (k7 : ∀ i, ¬ i = st L → idx' i = idx i) (k8 : lX' L = idx' (st L)) :
    sp_Vl dep (cnt + 1) (sp_u o cnt oo) m st (sp_u ad L a1) lAd' lIn lA' lX' lSp stk nxt' acc' idx' := by
  intro l hl
  obtain ⟨g1, g2, g3, g4, g5, g6, g7, g8, g9, g10⟩ := h l hl
  have hm : 0 < l → sp_u o cnt oo (m (st l)) = o (m (st l)) := fun h0 => sp_un (by have := (sp_pos H I h0 hl).2.1; omega)
  refine ⟨?_, ?_, ?_, g4, g5, ?_, ?_, g8, fun h0 => by rw [hm h0]; exact g9 h0, fun h0 => by rw [hm h0]; exact g10 h0⟩
  · by_cases e : l = L
    · rw [e, sp_us]; exact k1'
    · rw [sp_un e, k1 l (by omega)]; exact g1
  · by_cases e : l = L
    · rw [e, sp_us]; exact k2'
    · have := I.2.1 l L (by omega) (by omega)
      rw [sp_un e, k2 _ (by omega)]; exact g2
  · by_cases e : l = L
    · rw [e, sp_us]; exact ha
    · rw [sp_un e]; omega
  · by_cases e : l = L
    · rw [e]; exact k5
    · have := I.2.1 l L (by omega) (by omega)
      rw [k3 l (by omega), k4 _ (by omega)]; exact g6
  · by_cases e : l = L
    · rw [e]; exact k8
    · have := I.2.1 l L (by omega) (by omega)
      rw [k6 l (by omega), k7 _ (by omega)]; exact g7
/-- levels after SPAWN or CALL -/
theorem sp_VlM (H : sp_H o n m cnt md) (I : sp_L o n m cnt dep md st q B A) (h : sp_Vl dep cnt o m st ad lAd lIn lA lX lSp stk nxt acc idx) {L p t oo : Nat} (hL : L + 1 = dep) (hp : p = ad L) (ht : t < 48)
    {sv : Int32} (hs2 : oo = 2 → sv = 1) (hs3 : ¬ oo = 2 → sv = 0) :
    sp_Vl (dep + 1) (cnt + 1) (sp_u o cnt oo) (sp_u m md cnt) (sp_u st dep md) (sp_u (sp_u ad L (p + 1)) dep t)
      (upd (upd lAd L (nI (p + 1))) dep (nI t)) (upd lIn dep (nI md)) (upd lA dep (lA L)) (upd lX dep (lX L)) (upd lSp dep sv) (upd stk dep (nI md))
      (upd (upd nxt (st L) (nI (p + 1))) md (nI t)) (upd acc md (acc (st L))) (upd idx md (idx (st L))) := by
  intro l hl
  have hLd : L < dep := by omega
  have gL := h L hLd
  by_cases e : l = dep
  · rw [e]
    simp only [pk_us, sp_us]
    refine ⟨trivial, trivial, by omega, trivial, trivial, gL.2.2.2.2.2.1, gL.2.2.2.2.2.2.1, fun z => by omega, fun _ z => hs2 z, fun _ z => hs3 z⟩
  · have hld : l < dep := by omega
    obtain ⟨g1, g2, g3, g4, g5, g6, g7, g8, g9, g10⟩ := h l hld
    have hst := I.2.2.1 l hld
    have e2 : ¬ st l = md := by omega
    rw [sp_un e (f := st), sp_un e, sp_un e2, pk_un e, pk_un e2, pk_un e, pk_un e, pk_un e, pk_un e2, pk_un e, pk_un e2, pk_un e]
    have hm : 0 < l → sp_u o cnt oo (m (st l)) = o (m (st l)) := fun h0 => sp_un (by have := (sp_pos H I h0 hld).2.1; omega)
    refine ⟨?_, ?_, ?_, g4, g5, g6, g7, g8, fun h0 => by rw [hm h0]; exact g9 h0, fun h0 => by rw [hm h0]; exact g10 h0⟩
    · by_cases e3 : l = L
      · rw [e3, sp_us, pk_us]
      · rw [sp_un e3, pk_un e3]; exact g1
    · by_cases e3 : l = L
      · rw [e3, sp_us, pk_us]
      · have := I.2.1 l L (by omega) (by omega)
        rw [sp_un e3, pk_un (show st l ≠ st L by omega)]; exact g2
    · by_cases e3 : l = L
      · rw [e3, sp_us]; have := gL.2.2.1; omega
      · rw [sp_un e3]; omega
/-- levels after a RET above the root; the parent's A may change -/
theorem sp_VlR (H : sp_H o n m cnt md) (I : sp_L o n m cnt dep md st q B A) (h : sp_Vl dep cnt o m st ad lAd lIn lA lX lSp stk nxt acc idx) {p : Nat} (hL : p + 1 + 1 = dep)
    (k1 : ∀ l, l < p + 1 → lAd' l = lAd l) (k2 : ∀ i, ¬ i = st (p + 1) → nxt' i = nxt i)
    (k3 : ∀ l, l < p → lA' l = lA l) (k4 : ∀ i, ¬ i = st p → acc' i = acc i) (k5 : lA' p = acc' (st p)) :
    sp_Vl (p + 1) (cnt + 1) (sp_u o cnt 0) m st ad lAd' lIn lA' lX lSp stk nxt' acc' idx := by
  intro l hl
  have hld : l < dep := by omega
  obtain ⟨g1, g2, g3, g4, g5, g6, g7, g8, g9, g10⟩ := h l hld
  have h1 := I.2.1 l (p + 1) hl (by omega)
  have hm : 0 < l → sp_u o cnt 0 (m (st l)) = o (m (st l)) := fun h0 => sp_un (by have := (sp_pos H I h0 hld).2.1; omega)
  refine ⟨?_, ?_, by omega, g4, g5, ?_, g7, g8, fun h0 => by rw [hm h0]; exact g9 h0, fun h0 => by rw [hm h0]; exact g10 h0⟩
  · rw [k1 l hl]; exact g1
  · rw [k2 _ (by omega)]; exact g2
  · by_cases e : l = p
    · rw [e]; exact k5
    · have := I.2.1 l p (by omega) (by omega)
      rw [k3 l (by omega), k4 _ (by omega)]; exact g6
end

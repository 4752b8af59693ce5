/-! ===== sets of steps: set s of an array of longs stands in its words 2 s and 2 s + 1 ===== -/
def sp_b (w : Int64) (i : Nat) : Prop := w.toBitVec.getLsbD i = true
def sp_mem (f : Nat → Int64) (s j : Nat) : Prop := sp_b (f (2 * s + j / 64)) (j % 64)
theorem sp_b0 (i : Nat) : ¬ sp_b 0 i := by
  unfold sp_b
  show ¬ (0#64).getLsbD i = true
  simp
theorem sp_bor (x y : Int64) (i : Nat) : sp_b (x ||| y) i ↔ (sp_b x i ∨ sp_b y i) := by
  unfold sp_b
  rw [Int64.toBitVec_or, BitVec.getLsbD_or, Bool.or_eq_true]
theorem sp_bnz (x : Int64) : (¬ x = 0) ↔ ∃ i, i < 64 ∧ sp_b x i := by
  constructor
  · intro h
    apply Classical.byContradiction
    intro hn
    apply h
    apply wb_inj
    apply BitVec.eq_of_getLsbD_eq
    intro i hi
    have h1 : ¬ sp_b x i := fun z => hn ⟨i, hi, z⟩
    unfold sp_b at h1
    show _ = (0#64).getLsbD i
    rw [BitVec.getLsbD_zero]
    simpa using h1
  · rintro ⟨i, _, h⟩ e
    rw [e] at h
    exact sp_b0 i h
theorem sp_ban (x y : Int64) {i : Nat} (hi : i < 64) : sp_b (x &&& (y ^^^ (-1))) i ↔ (sp_b x i ∧ ¬ sp_b y i) := by
  have ha : (-1 : Int64).toBitVec = BitVec.allOnes 64 := by decide
  unfold sp_b
  rw [Int64.toBitVec_and, Int64.toBitVec_xor, ha, BitVec.getLsbD_and, BitVec.getLsbD_xor, BitVec.getLsbD_allOnes]
  simp [hi]
theorem sp_bsh {k : Nat} (hk : k < 64) {i : Nat} (hi : i < 64) : sp_b ((1 : Int64) <<< ((nI k).toInt64 &&& 63)) i ↔ i = k := by
  have e : (1 : Int64) <<< ((nI k).toInt64 &&& 63) = lN (1 * 2 ^ k) := wb_shl 1 hk
  unfold sp_b
  rw [e, wb_tb, BitVec.getLsbD_ofNat, Nat.one_mul, Nat.testBit_two_pow]
  simp only [hi, decide_true, Bool.true_and, decide_eq_true_eq]
  omega
theorem sp_bhas (w : Int64) {k : Nat} (hk : k < 64) : ((w >>> ((nI k).toInt64 &&& 63)) &&& 1) = 1 ↔ sp_b w k := by
  have e : (w >>> ((nI k).toInt64 &&& 63)).toBitVec = w.toBitVec.sshiftRight k := by
    rw [wb_c k hk, Int64.toBitVec_shiftRight, wb_tb]
    show w.toBitVec.sshiftRight ((BitVec.ofNat 64 k).smod 64).toNat = _
    rw [wb_sm k hk, BitVec.toNat_ofNat, Nat.mod_eq_of_lt (show k < 2 ^ 64 by omega)]
  have e0 : (w.toBitVec.sshiftRight k).getLsbD 0 = w.toBitVec.getLsbD k := by
    rw [BitVec.getLsbD_sshiftRight]
    simp [hk]
  unfold sp_b
  constructor
  · intro h
    have h2 : ((w >>> ((nI k).toInt64 &&& 63)) &&& 1).toBitVec.getLsbD 0 = (1 : Int64).toBitVec.getLsbD 0 := by rw [h]
    rw [Int64.toBitVec_and, BitVec.getLsbD_and, e, e0] at h2
    have h3 : (1 : Int64).toBitVec.getLsbD 0 = true := by decide
    rw [h3, Bool.and_true] at h2
    exact h2
  · intro h
    apply wb_inj
    rw [Int64.toBitVec_and, e]
    apply BitVec.eq_of_getLsbD_eq
    intro i hi
    rw [BitVec.getLsbD_and]
    have h1 : (1 : Int64).toBitVec = 1#64 := by decide
    rw [h1]
    by_cases hi0 : i = 0
    · rw [hi0, e0, h]; decide
    · have h4 : (1#64).getLsbD i = false := by
        rw [BitVec.getLsbD_one]
        simp [hi0]
      rw [h4, Bool.and_false]
theorem sp_ix {s t a b : Nat} (ha : a < 2) (hb : b < 2) : 2 * s + a = 2 * t + b ↔ (s = t ∧ a = b) := by omega
/-- addStep -/
theorem sp_mAdd {f : Nat → Int64} {s k : Nat} (hk : k < 128) {t j : Nat} (hj : j < 128) :
    sp_mem (vp_updL f (2 * s + k / 64) (f (2 * s + k / 64) ||| ((1 : Int64) <<< ((nI (k % 64)).toInt64 &&& 63)))) t j ↔ (sp_mem f t j ∨ (t = s ∧ j = k)) := by
  unfold sp_mem
  by_cases h : 2 * t + j / 64 = 2 * s + k / 64
  · have h2 := (sp_ix (by omega) (by omega)).1 h
    rw [h, pk_uLs, sp_bor, sp_bsh (by omega) (by omega)]
    have h3 : j % 64 = k % 64 ↔ (t = s ∧ j = k) := by omega
    rw [h3]
  · rw [pk_uLn h]
    have h3 : ¬ (t = s ∧ j = k) := fun z => h (by rw [z.1, z.2])
    simp only [h3, or_false]
/-- clearSet -/
theorem sp_mClr {f : Nat → Int64} {s t j : Nat} (hj : j < 128) :
    sp_mem (vp_updL (vp_updL f (2 * s) 0) (2 * s + 1) 0) t j ↔ (sp_mem f t j ∧ ¬ t = s) := by
  unfold sp_mem
  by_cases h : t = s
  · subst h
    have : ¬ sp_b (vp_updL (vp_updL f (2 * t) 0) (2 * t + 1) 0 (2 * t + j / 64)) (j % 64) := by
      by_cases h2 : j / 64 = 1
      · rw [h2, pk_uLs]; exact sp_b0 _
      · have h3 : j / 64 = 0 := by omega
        rw [h3, pk_uLn (by omega), Nat.add_zero, pk_uLs]; exact sp_b0 _
    exact ⟨fun z => absurd z this, fun z => absurd rfl z.2⟩
  · rw [pk_uLn (by omega), pk_uLn (by omega)]
    exact ⟨fun z => ⟨z, h⟩, fun z => z.1⟩
/-- addSet, from one array into another, and within one -/
theorem sp_mOr {f g : Nat → Int64} {s t l j : Nat} (hj : j < 128) :
    sp_mem (vp_updL (vp_updL g (2 * t) (g (2 * t) ||| f (2 * s))) (2 * t + 1) (vp_updL g (2 * t) (g (2 * t) ||| f (2 * s)) (2 * t + 1) ||| f (2 * s + 1))) l j ↔ (sp_mem g l j ∨ (l = t ∧ sp_mem f s j)) := by
  unfold sp_mem
  by_cases h : l = t
  · subst h
    by_cases h2 : j / 64 = 1
    · rw [h2, pk_uLs, sp_bor, pk_uLn (by omega)]
      simp only [true_and]
    · have h3 : j / 64 = 0 := by omega
      rw [h3, pk_uLn (by omega), Nat.add_zero, pk_uLs, sp_bor]
      simp only [true_and, Nat.add_zero]
  · rw [pk_uLn (by omega), pk_uLn (by omega)]
    simp only [h, false_and, or_false]
theorem sp_mOr' {g : Nat → Int64} {s t l j : Nat} (hj : j < 128) :
    sp_mem (vp_updL (vp_updL g (2 * t) (g (2 * t) ||| g (2 * s))) (2 * t + 1) (vp_updL g (2 * t) (g (2 * t) ||| g (2 * s)) (2 * t + 1) ||| vp_updL g (2 * t) (g (2 * t) ||| g (2 * s)) (2 * s + 1))) l j ↔ (sp_mem g l j ∨ (l = t ∧ sp_mem g s j)) := by
  have e : vp_updL g (2 * t) (g (2 * t) ||| g (2 * s)) (2 * s + 1) = g (2 * s + 1) := pk_uLn (by omega)
  rw [e]
  exact sp_mOr hj
/-- hasUnordered -/
theorem sp_mUn {f g : Nat → Int64} {c l : Nat} :
    (¬ (((f (2 * c) &&& (g (2 * l) ^^^ (-1))) ||| (f (2 * c + 1) &&& (g (2 * l + 1) ^^^ (-1)))) = 0)) ↔ ∃ j, j < 128 ∧ sp_mem f c j ∧ ¬ sp_mem g l j := by
  rw [sp_bnz]
  constructor
  · rintro ⟨i, hi, h⟩
    rw [sp_bor, sp_ban _ _ hi, sp_ban _ _ hi] at h
    rcases h with h | h
    · refine ⟨i, by omega, ?_⟩
      unfold sp_mem
      rw [show i / 64 = 0 by omega, show i % 64 = i by omega]
      exact h
    · refine ⟨i + 64, by omega, ?_⟩
      unfold sp_mem
      rw [show (i + 64) / 64 = 1 by omega, show (i + 64) % 64 = i by omega]
      exact h
  · rintro ⟨j, hj, h⟩
    unfold sp_mem at h
    refine ⟨j % 64, by omega, ?_⟩
    rw [sp_bor, sp_ban _ _ (by omega), sp_ban _ _ (by omega)]
    by_cases h2 : j / 64 = 1
    · rw [h2] at h
      exact Or.inr h
    · rw [show j / 64 = 0 by omega] at h
      exact Or.inl h
theorem sp_k6 {k : Nat} (hk : k < 128) : nI k >>> ((6 : Int32) &&& 31) = nI (k / 64) := pk_shrN (by omega) _ 6 (by decide)
theorem sp_k63 {k : Nat} (hk : k < 128) : nI k &&& 63 = nI (k % 64) := pk_andN (by omega) 6 (by decide)
theorem sp_2s (s : Nat) : (2 : Int32) * nI s = nI (2 * s) := pk_mul 2 s

/-! ===== the calls that only ask, and the law's own sets ===== -/
theorem sp_band (x y : Int64) (i : Nat) : sp_b (x &&& y) i ↔ (sp_b x i ∧ sp_b y i) := by
  unfold sp_b
  rw [Int64.toBitVec_and, BitVec.getLsbD_and, Bool.and_eq_true]
/-- the law's set: bits of two longs -/
def pp_in (lo hi : Int64) (j : Nat) : Prop := (j < 64 ∧ sp_b lo j) ∨ (64 ≤ j ∧ sp_b hi (j - 64))
theorem pp_lh {e : Nat} (he : e < 128) : ∃ l h : Int64, (∀ post : Int64 → Prop, post l → wpL_low post () (nI e)) ∧ (∀ post : Int64 → Prop, post h → wpL_high post () (nI e)) ∧ (∀ i, i < 64 → (sp_b l i ↔ (e < 64 ∧ i = e))) ∧ (∀ i, i < 64 → (sp_b h i ↔ (64 ≤ e ∧ i = e - 64))) := by
  by_cases c : e < 64
  · have z : ¬ (64 : Int32) ≤ nI e := nI_ge (b := 64) c (by omega)
    refine ⟨(1 : Int64) <<< ((nI e).toInt64 &&& 63), 0, fun post hp => ?_, fun post hp => ?_, fun i hi => ?_, fun i hi => ?_⟩
    · unfold wpL_low
      exact br_f z hp
    · unfold wpL_high
      exact br_f z hp
    · rw [sp_bsh c hi]
      exact ⟨fun w => ⟨c, w⟩, fun w => w.2⟩
    · exact ⟨fun w => absurd w (sp_b0 i), fun w => by omega⟩
  · have z : (64 : Int32) ≤ nI e := nI_le (a := 64) (by omega) (by omega)
    have es : nI e - 64 = nI (e - 64) := pk_sub (b := 64) (by omega)
    refine ⟨0, (1 : Int64) <<< ((nI (e - 64)).toInt64 &&& 63), fun post hp => ?_, fun post hp => ?_, fun i hi => ?_, fun i hi => ?_⟩
    · unfold wpL_low
      exact br_t z hp
    · unfold wpL_high
      rw [es]
      exact br_t z hp
    · exact ⟨fun w => absurd w (sp_b0 i), fun w => by omega⟩
    · rw [sp_bsh (show e - 64 < 64 by omega) hi]
      exact ⟨fun w => ⟨by omega, w⟩, fun w => w.2⟩
theorem pp_ini {K : Int64 → Int64 → Prop} {e : Nat} (he : e < 128) (h : ∀ lo hi, (∀ j, j < 128 → (pp_in lo hi j ↔ j = e)) → K lo hi) : wpL_low (fun r => wpL_high (fun r2 => K r r2) () (nI e)) () (nI e) := by
  obtain ⟨l, g, h1, h2, h3, h4⟩ := pp_lh he
  refine h1 _ (h2 _ (h l g (fun j hj => ?_)))
  unfold pp_in
  constructor
  · rintro (⟨a, b⟩ | ⟨a, b⟩)
    · exact ((h3 j a).1 b).2
    · have := (h4 (j - 64) (by omega)).1 b
      omega
  · intro a
    by_cases c : j < 64
    · exact Or.inl ⟨c, (h3 j c).2 ⟨by omega, a⟩⟩
    · exact Or.inr ⟨by omega, (h4 (j - 64) (by omega)).2 ⟨by omega, by omega⟩⟩
theorem pp_add {K : Int64 → Int64 → Prop} {lo hi : Int64} {e : Nat} (he : e < 128) (h : ∀ lo' hi', (∀ j, j < 128 → (pp_in lo' hi' j ↔ (pp_in lo hi j ∨ j = e))) → K lo' hi') :
    wpL_low (fun r => ∀ x : Int64, x = lo ||| r → wpL_high (fun r2 => ∀ y : Int64, y = hi ||| r2 → K x y) () (nI e)) () (nI e) := by
  obtain ⟨l, g, h1, h2, h3, h4⟩ := pp_lh he
  refine h1 _ (nm_e (h2 _ (nm_e (h _ _ (fun j hj => ?_)))))
  unfold pp_in
  rw [sp_bor, sp_bor]
  constructor
  · rintro (⟨a, b | b⟩ | ⟨a, b | b⟩)
    · exact Or.inl (Or.inl ⟨a, b⟩)
    · exact Or.inr ((h3 j a).1 b).2
    · exact Or.inl (Or.inr ⟨a, b⟩)
    · have := (h4 (j - 64) (by omega)).1 b
      exact Or.inr (by omega)
  · rintro ((⟨a, b⟩ | ⟨a, b⟩) | a)
    · exact Or.inl ⟨a, Or.inl b⟩
    · exact Or.inr ⟨a, Or.inl b⟩
    · by_cases c : j < 64
      · exact Or.inl ⟨c, Or.inr ((h3 j c).2 ⟨by omega, a⟩)⟩
      · exact Or.inr ⟨by omega, Or.inr ((h4 (j - 64) (by omega)).2 ⟨by omega, by omega⟩)⟩
theorem pp_tst {A B : Prop} {lo hi : Int64} {e : Nat} (he : e < 128) (hA : ¬ pp_in lo hi e → A) (hB : pp_in lo hi e → B) :
    wpL_low (fun r => wpL_high (fun r2 => (((lo &&& r) ||| (hi &&& r2)) = 0 → A) ∧ (¬ ((lo &&& r) ||| (hi &&& r2)) = 0 → B)) () (nI e)) () (nI e) := by
  obtain ⟨l, g, h1, h2, h3, h4⟩ := pp_lh he
  have key : (¬ ((lo &&& l) ||| (hi &&& g)) = 0) ↔ pp_in lo hi e := by
    rw [sp_bnz]
    constructor
    · rintro ⟨i, hi', w⟩
      rw [sp_bor, sp_band, sp_band] at w
      rcases w with ⟨a, b⟩ | ⟨a, b⟩
      · have := (h3 i hi').1 b
        exact Or.inl ⟨this.1, by rw [← this.2]; exact a⟩
      · have := (h4 i hi').1 b
        exact Or.inr ⟨this.1, by rw [← this.2]; exact a⟩
    · rintro (⟨a, b⟩ | ⟨a, b⟩)
      · refine ⟨e, a, ?_⟩
        rw [sp_bor, sp_band, sp_band]
        exact Or.inl ⟨b, (h3 e a).2 ⟨a, rfl⟩⟩
      · refine ⟨e - 64, by omega, ?_⟩
        rw [sp_bor, sp_band, sp_band]
        exact Or.inr ⟨b, (h4 (e - 64) (by omega)).2 ⟨a, rfl⟩⟩
  refine h1 _ (h2 _ ⟨fun z => hA (fun w => key.2 w z), fun z => hB (key.1 z)⟩)
section
variable {g0 g1 g2 g3 g4 g5 g6 g7 g8 : Int32} {cop carg xc xAd xOp xIn xCe xMk lAd lIn lA lX lSp : Nat → Int32} {bef awa rd wr : Nat → Int64}
theorem pp_isStep {post : Int32 → Prop} {cnt j : Nat} (hc : cnt ≤ 128) (hj : j < cnt) (h : post 1) : wpX_isStep post (g0, g1, g2, g3, g4, g5, nI cnt, g7, g8, cop, carg, xc, xAd, xOp, xIn, xCe, xMk, lAd, lIn, lA, lX, lSp, bef, awa, rd, wr) (nI j) :=
  sp_xIsStep (nI j) (by omega) (fun _ _ _ => h) (fun z => by
    rcases z with z | z
    · exact absurd z (nI_pos (by omega))
    · exact absurd z (nI_ge hj (by omega)))
theorem pp_step1 {post : Int32 → Prop} {cnt j : Nat} (hc : cnt ≤ 128) (hj : j < cnt) (h : post (xOp j)) : wpX_step post (g0, g1, g2, g3, g4, g5, nI cnt, g7, g8, cop, carg, xc, xAd, xOp, xIn, xCe, xMk, lAd, lIn, lA, lX, lSp, bef, awa, rd, wr) (nI j) 1 := by
  have cj : (nI j).toNatClampNeg = j := nI_clamp (by omega)
  have ix : vp_in (nI j) 128 := vp_in_nI (by omega) (by omega)
  unfold wpX_step
  dsimp only
  rw [cj]
  exact pp_isStep hc hj (br_f (by decide) (br_f (by decide) (br_f (by decide) (br_f (by decide) (br_t (by decide) ⟨ix, h⟩)))))
theorem pp_step2 {post : Int32 → Prop} {cnt j : Nat} (hc : cnt ≤ 128) (hj : j < cnt) (h : post (xIn j)) : wpX_step post (g0, g1, g2, g3, g4, g5, nI cnt, g7, g8, cop, carg, xc, xAd, xOp, xIn, xCe, xMk, lAd, lIn, lA, lX, lSp, bef, awa, rd, wr) (nI j) 2 := by
  have cj : (nI j).toNatClampNeg = j := nI_clamp (by omega)
  have ix : vp_in (nI j) 128 := vp_in_nI (by omega) (by omega)
  unfold wpX_step
  dsimp only
  rw [cj]
  exact pp_isStep hc hj (br_f (by decide) (br_f (by decide) (br_f (by decide) (br_f (by decide) (br_f (by decide) (br_t (by decide) ⟨ix, h⟩))))))
theorem pp_step3 {post : Int32 → Prop} {cnt j : Nat} (hc : cnt ≤ 128) (hj : j < cnt) (h : post (xCe j)) : wpX_step post (g0, g1, g2, g3, g4, g5, nI cnt, g7, g8, cop, carg, xc, xAd, xOp, xIn, xCe, xMk, lAd, lIn, lA, lX, lSp, bef, awa, rd, wr) (nI j) 3 := by
  have cj : (nI j).toNatClampNeg = j := nI_clamp (by omega)
  have ix : vp_in (nI j) 128 := vp_in_nI (by omega) (by omega)
  unfold wpX_step
  dsimp only
  rw [cj]
  exact pp_isStep hc hj (br_f (by decide) (br_f (by decide) (br_f (by decide) (br_f (by decide) (br_f (by decide) (br_f (by decide) (br_t (by decide) ⟨ix, h⟩)))))))
theorem pp_racing {post : Int32 → Prop} {cnt j : Nat} (hc : cnt ≤ 128) (hj : j < cnt) (h : post (xMk j)) : wpX_racing post (g0, g1, g2, g3, g4, g5, nI cnt, g7, g8, cop, carg, xc, xAd, xOp, xIn, xCe, xMk, lAd, lIn, lA, lX, lSp, bef, awa, rd, wr) (nI j) := by
  have cj : (nI j).toNatClampNeg = j := nI_clamp (by omega)
  have ix : vp_in (nI j) 128 := vp_in_nI (by omega) (by omega)
  unfold wpX_racing
  dsimp only
  rw [cj]
  exact pp_isStep hc hj (br_f (by decide) ⟨ix, h⟩)
theorem pp_racesOn {post : Int32 → Prop} {j : Nat} {c : Int32} (hj : j < 128) (h1 : xCe j = c → ¬ xMk j = 0 → post 1) (h0 : ¬ (xCe j = c ∧ ¬ xMk j = 0) → post 0) : wpX_racesOn post (g0, g1, g2, g3, g4, g5, g6, g7, g8, cop, carg, xc, xAd, xOp, xIn, xCe, xMk, lAd, lIn, lA, lX, lSp, bef, awa, rd, wr) (nI j) c := by
  have ij : vp_in (nI j) 128 := vp_in_nI (by omega) (by omega)
  have cj : (nI j).toNatClampNeg = j := nI_clamp (by omega)
  unfold wpX_racesOn
  dsimp only
  rw [cj]
  exact ⟨ij, br_c (fun e => ⟨ij, br_c (fun e2 => h0 (fun w => w.2 e2)) (fun e2 => h1 e e2)⟩) (fun ne => h0 (fun w => ne w.1))⟩
end
/-- first and count after the steps below k -/
def pp_ac (xCe xMk : Nat → Int32) (c : Int32) : Nat → Int32 → Int32 → Prop
  | 0 => fun f n => f = -1 ∧ n = 0
  | k + 1 => fun f n => ∃ f0 n0, pp_ac xCe xMk c k f0 n0 ∧ ((xCe k = c ∧ ¬ xMk k = 0) → (n = n0 + 1 ∧ (f0 < 0 → f = nI k) ∧ (¬ f0 < 0 → f = f0))) ∧ (¬ (xCe k = c ∧ ¬ xMk k = 0) → (n = n0 ∧ f = f0))
theorem pp_ac_u {xCe xMk : Nat → Int32} {c : Int32} : ∀ k f n f' n', pp_ac xCe xMk c k f n → pp_ac xCe xMk c k f' n' → f = f' ∧ n = n' := by
  intro k
  induction k with
  | zero =>
    intro f n f' n' h h'
    exact ⟨h.1.trans h'.1.symm, h.2.trans h'.2.symm⟩
  | succ k ih =>
    rintro f n f' n' ⟨f0, n0, h0, h1, h2⟩ ⟨g0, m0, h0', h1', h2'⟩
    obtain ⟨e1, e2⟩ := ih _ _ _ _ h0 h0'
    rw [← e1, ← e2] at h1' h2'
    by_cases c : xCe k = c ∧ ¬ xMk k = 0
    · obtain ⟨a, b, d⟩ := h1 c
      obtain ⟨a', b', d'⟩ := h1' c
      by_cases z : f0 < 0
      · exact ⟨(b z).trans (b' z).symm, a.trans a'.symm⟩
      · exact ⟨(d z).trans (d' z).symm, a.trans a'.symm⟩
    · obtain ⟨a, b⟩ := h2 c
      obtain ⟨a', b'⟩ := h2' c
      exact ⟨b.trans b'.symm, a.trans a'.symm⟩
theorem pp_ac_s {xCe xMk : Nat → Int32} {c f n : Int32} {a : Nat} (h : pp_ac xCe xMk c a f n) (hf : ¬ f < 0) : ∀ d F N, pp_ac xCe xMk c (a + d) F N → F = f := by
  intro d
  induction d with
  | zero => exact fun F N hF => (pp_ac_u _ _ _ _ _ hF h).1
  | succ d ih =>
    rintro F N ⟨f0, n0, h0, h1, h2⟩
    have e := ih f0 n0 h0
    by_cases c : xCe (a + d) = c ∧ ¬ xMk (a + d) = 0
    · rw [(h1 c).2.2 (by rw [e]; exact hf), e]
    · rw [(h2 c).2, e]
theorem pp_ac_h {xCe xMk : Nat → Int32} {c f n : Int32} {k : Nat} (h : pp_ac xCe xMk c k f n) (hc : xCe k = c) (hm : ¬ xMk k = 0) : (f < 0 → pp_ac xCe xMk c (k + 1) (nI k) (n + 1)) ∧ (¬ f < 0 → pp_ac xCe xMk c (k + 1) f (n + 1)) :=
  ⟨fun z => ⟨f, n, h, fun _ => ⟨rfl, fun _ => rfl, fun w => absurd z w⟩, fun w => absurd ⟨hc, hm⟩ w⟩, fun z => ⟨f, n, h, fun _ => ⟨rfl, fun w => absurd w z, fun _ => rfl⟩, fun w => absurd ⟨hc, hm⟩ w⟩⟩
theorem pp_ac_k {xCe xMk : Nat → Int32} {c f n : Int32} {k : Nat} (h : pp_ac xCe xMk c k f n) (hc : ¬ (xCe k = c ∧ ¬ xMk k = 0)) : pp_ac xCe xMk c (k + 1) f n :=
  ⟨f, n, h, fun w => absurd w hc, fun _ => ⟨rfl, rfl⟩⟩
section
variable {g0 g1 g2 g3 g4 g5 g6 g7 g8 : Int32} {cop carg xc xAd xOp xIn xCe xMk lAd lIn lA lX lSp : Nat → Int32} {bef awa rd wr : Nat → Int64}
theorem pp_races14 {post : Int32 → Prop} {cnt : Nat} {c F N : Int32} (hc : cnt ≤ 128) (hF : pp_ac xCe xMk c cnt F N) (hp : post N) : ∀ d j, j + d = cnt → ∀ f n, pp_ac xCe xMk c j f n → wX_races_14 post c (g0) (g1) (g2) (g3) (g4) (g5) (nI cnt) (g7) (g8) (cop) (carg) (xc) (xAd) (xOp) (xIn) (xCe) (xMk) (lAd) (lIn) (lA) (lX) (lSp) (bef) (awa) (rd) (wr) (d + 1) n (nI j) := by
  intro d
  induction d with
  | zero =>
    intro j hj f n h
    obtain rfl : j = cnt := by omega
    unfold wX_races_14
    rw [(pp_ac_u _ _ _ _ _ h hF).2]
    exact br_t (nI_le (by omega) (by omega)) hp
  | succ d ih =>
    intro j hj f n h
    unfold wX_races_14
    refine br_f (nI_ge (by omega) (by omega)) (pp_racesOn (by omega) (fun e m => br_f (by decide) (nm_e (nm_r (nI_1 j) ?_))) (fun e => br_t rfl (nm_r (nI_1 j) (ih (j + 1) (by omega) f n (pp_ac_k h e)))))
    by_cases z : f < 0
    · exact ih (j + 1) (by omega) _ _ ((pp_ac_h h e m).1 z)
    · exact ih (j + 1) (by omega) _ _ ((pp_ac_h h e m).2 z)
theorem pp_first12 {post : Int32 → Prop} {cnt : Nat} {c F N : Int32} (hc : cnt ≤ 128) (hF : pp_ac xCe xMk c cnt F N) (hp : post F) : ∀ d j, j + d = cnt → ∀ n, pp_ac xCe xMk c j (-1) n → wX_firstRace_12 post c (g0) (g1) (g2) (g3) (g4) (g5) (nI cnt) (g7) (g8) (cop) (carg) (xc) (xAd) (xOp) (xIn) (xCe) (xMk) (lAd) (lIn) (lA) (lX) (lSp) (bef) (awa) (rd) (wr) (d + 1) (nI j) := by
  intro d
  induction d with
  | zero =>
    intro j hj n h
    obtain rfl : j = cnt := by omega
    unfold wX_firstRace_12
    refine br_t (nI_le (by omega) (by omega)) ?_
    rw [(pp_ac_u _ _ _ _ _ h hF).1]
    exact hp
  | succ d ih =>
    intro j hj n h
    unfold wX_firstRace_12
    refine br_f (nI_ge (by omega) (by omega)) (pp_racesOn (by omega) (fun e m => br_f (by decide) ?_) (fun e => br_t rfl (nm_r (nI_1 j) (ih (j + 1) (by omega) n (pp_ac_k h e)))))
    have h2 := (pp_ac_h h e m).1 (by decide)
    have e2 : j + 1 + d = cnt := by omega
    rw [← e2] at hF
    rw [← pp_ac_s h2 (nI_pos (by omega)) d F N hF]
    exact hp
theorem pp_races {post : Int32 → Prop} {cnt ce c : Nat} {F N : Int32} (hc : cnt ≤ 128) (hce : ce ≤ 16) (hcc : c < ce) (hF : pp_ac xCe xMk (nI c) cnt F N) (hp : post N) : wpX_races post (g0, nI ce, g2, g3, g4, g5, nI cnt, g7, g8, cop, carg, xc, xAd, xOp, xIn, xCe, xMk, lAd, lIn, lA, lX, lSp, bef, awa, rd, wr) (nI c) := by
  unfold wpX_races
  dsimp only
  refine sp_xCell (nI c) (by omega) (fun _ _ _ => br_f (by decide) ⟨cnt + 1, pp_races14 hc hF hp cnt 0 (by omega) (-1) 0 ⟨rfl, rfl⟩⟩) (fun z => ?_)
  rcases z with z | z
  · exact absurd z (nI_pos (by omega))
  · exact absurd z (nI_ge hcc (by omega))
theorem pp_firstRace {post : Int32 → Prop} {cnt ce c : Nat} {F N : Int32} (hc : cnt ≤ 128) (hce : ce ≤ 16) (hcc : c < ce) (hF : pp_ac xCe xMk (nI c) cnt F N) (hp : post F) : wpX_firstRace post (g0, nI ce, g2, g3, g4, g5, nI cnt, g7, g8, cop, carg, xc, xAd, xOp, xIn, xCe, xMk, lAd, lIn, lA, lX, lSp, bef, awa, rd, wr) (nI c) := by
  unfold wpX_firstRace
  dsimp only
  refine sp_xCell (nI c) (by omega) (fun _ _ _ => br_f (by decide) ⟨cnt + 1, pp_first12 hc hF hp cnt 0 (by omega) 0 ⟨rfl, rfl⟩⟩) (fun z => ?_)
  rcases z with z | z
  · exact absurd z (nI_pos (by omega))
  · exact absurd z (nI_ge hcc (by omega))
end

/-! sets of points as naturals below 256, and as Int32 -/
def mt_df (a b : Nat) : Nat := a &&& (b ^^^ 255)
def mt_sb (x y : Nat) : Prop := ∀ i, x.testBit i = true → y.testBit i = true
theorem mt_255 (i : Nat) : (255 : Nat).testBit i = decide (i < 8) := Nat.testBit_two_pow_sub_one 8 i
theorem mt_hi {x i : Nat} (hx : x < 256) (hi : 8 ≤ i) : x.testBit i = false := by
  have h : 2 ^ 8 ≤ 2 ^ i := Nat.pow_le_pow_right (by decide) hi
  exact Nat.testBit_lt_two_pow (Nat.lt_of_lt_of_le hx h)
theorem mt_lo {x n i : Nat} (hx : x < 2 ^ n) (h : x.testBit i = true) : i < n := by
  rcases Nat.lt_or_ge i n with h1 | h1
  · exact h1
  · have h2 : 2 ^ n ≤ 2 ^ i := Nat.pow_le_pow_right (by decide) h1
    rw [Nat.testBit_lt_two_pow (Nat.lt_of_lt_of_le hx h2)] at h
    exact absurd h (by decide)
theorem mt_tdf {a : Nat} (ha : a < 256) (b i : Nat) : (mt_df a b).testBit i = (a.testBit i && !b.testBit i) := by
  unfold mt_df
  rw [Nat.testBit_and, Nat.testBit_xor, mt_255]
  rcases Nat.lt_or_ge i 8 with h | h
  · rw [decide_eq_true h]; cases a.testBit i <;> cases b.testBit i <;> rfl
  · rw [mt_hi ha h]; rfl
theorem mt_dfle (a b : Nat) : mt_df a b ≤ a := Nat.and_le_left
theorem mt_z {x : Nat} : x = 0 ↔ ∀ i, x.testBit i = false := by
  constructor
  · intro h i; rw [h]; exact Nat.zero_testBit i
  · intro h; apply Nat.eq_of_testBit_eq; intro i; rw [h i, Nat.zero_testBit]
theorem mt_nz {x : Nat} (h : x ≠ 0) : ∃ i, x.testBit i = true := by
  refine Classical.byContradiction fun z => h (mt_z.mpr fun i => ?_)
  cases e : x.testBit i
  · rfl
  · exact absurd ⟨i, e⟩ z
theorem mt_and0 (x y : Nat) : x &&& y = 0 ↔ ∀ i, x.testBit i = true → y.testBit i = false := by
  rw [mt_z]
  constructor
  · intro h i hx
    have := h i
    rw [Nat.testBit_and, hx] at this
    simpa using this
  · intro h i
    rw [Nat.testBit_and]
    cases hx : x.testBit i
    · rfl
    · rw [h i hx]; rfl
theorem mt_andn0 (x y : Nat) : ¬ x &&& y = 0 ↔ ∃ i, x.testBit i = true ∧ y.testBit i = true := by
  constructor
  · intro h
    obtain ⟨i, hi⟩ := mt_nz h
    rw [Nat.testBit_and] at hi
    exact ⟨i, by simpa using hi⟩
  · rintro ⟨i, hx, hy⟩ h
    rw [mt_and0] at h
    rw [h i hx] at hy
    exact absurd hy (by decide)
theorem mt_sbA (x y : Nat) : x &&& y = x ↔ mt_sb x y := by
  constructor
  · intro h i hx
    rw [← h, Nat.testBit_and] at hx
    simp at hx
    exact hx.2
  · intro h
    apply Nat.eq_of_testBit_eq
    intro i
    rw [Nat.testBit_and]
    cases hx : x.testBit i
    · rfl
    · rw [h i hx]; rfl
theorem mt_sbD {x : Nat} (hx : x < 256) (y : Nat) : mt_df x y = 0 ↔ mt_sb x y := by
  rw [mt_z]
  constructor
  · intro h i hi
    have := h i
    rw [mt_tdf hx, hi] at this
    simpa using this
  · intro h i
    rw [mt_tdf hx]
    cases e : x.testBit i
    · rfl
    · rw [h i e]; rfl
theorem mt_sble {x y : Nat} (h : mt_sb x y) : x ≤ y := by
  have := (mt_sbA x y).mpr h
  rw [← this]
  exact Nat.and_le_right
theorem mt_sbaa {x y : Nat} (h : mt_sb x y) (h2 : mt_sb y x) : x = y := Nat.le_antisymm (mt_sble h) (mt_sble h2)
theorem mt_sbrf (x : Nat) : mt_sb x x := fun _ h => h
theorem mt_sbtr {x y z : Nat} (h : mt_sb x y) (h2 : mt_sb y z) : mt_sb x z := fun i hi => h2 i (h i hi)
theorem mt_pt (u i : Nat) : (2 ^ u).testBit i = decide (u = i) := by
  rcases Nat.decEq u i with h | h
  · rw [decide_eq_false h]; exact Nat.testBit_two_pow_of_ne h
  · subst h; rw [decide_eq_true rfl]; exact Nat.testBit_two_pow_self
theorem mt_sbpt (u y : Nat) : mt_sb (2 ^ u) y ↔ y.testBit u = true := by
  constructor
  · intro h; exact h u (by rw [mt_pt]; simp)
  · intro h i hi; rw [mt_pt] at hi; simp at hi; subst hi; exact h
theorem mt_pt8 {u : Nat} (h : u < 8) : 2 ^ u < 256 := by
  have : 2 ^ u < 2 ^ 8 := Nat.pow_lt_pow_right (by decide) h
  exact this
/-! the same in Int32 -/
theorem mt_shl : ∀ u, u < 8 → (1 : Int32) <<< (nI u &&& 31) = nI (2 ^ u) := by decide +kernel
theorem mt_all : ∀ n, n < 9 → ((1 : Int32) <<< (nI n &&& 31)) - 1 = nI (2 ^ n - 1) := by decide +kernel
theorem mt_or (a b : Nat) : nI a ||| nI b = nI (a ||| b) := by
  apply Int32.toBitVec_inj.1
  show BitVec.ofNat 32 a ||| BitVec.ofNat 32 b = BitVec.ofNat 32 (a ||| b)
  apply BitVec.eq_of_getLsbD_eq
  intro i hi
  simp [hi]
theorem mt_m1 : ((-1 : Int32)).toBitVec = BitVec.allOnes 32 := by decide
theorem mt_not {a : Nat} (ha : a < 256) (b : Nat) : nI a &&& (nI b ^^^ (-1)) = nI (mt_df a b) := by
  apply Int32.toBitVec_inj.1
  rw [Int32.toBitVec_and, Int32.toBitVec_xor, mt_m1]
  show BitVec.ofNat 32 a &&& (BitVec.ofNat 32 b ^^^ BitVec.allOnes 32) = BitVec.ofNat 32 (mt_df a b)
  apply BitVec.eq_of_getLsbD_eq
  intro i hi
  rw [BitVec.getLsbD_and, BitVec.getLsbD_xor, BitVec.getLsbD_ofNat, BitVec.getLsbD_ofNat, BitVec.getLsbD_ofNat, BitVec.getLsbD_allOnes, mt_tdf ha]
  simp [hi]
theorem mt_i0 {x : Nat} (hx : x < 256) : nI x = 0 ↔ x = 0 := by
  rw [← nI_0, nI_eq (by omega) (by omega)]
theorem mt_iE {x y : Nat} (hx : x < 256) (hy : y < 256) : nI x = nI y ↔ x = y := nI_eq (by omega) (by omega)
theorem mt_al {x y : Nat} (hx : x < 256) : x &&& y < 256 := Nat.lt_of_le_of_lt Nat.and_le_left hx
theorem mt_iand0 {x : Nat} (hx : x < 256) (y : Nat) : nI x &&& nI y = 0 ↔ x &&& y = 0 := by
  rw [nx_and, mt_i0 (mt_al hx)]
theorem mt_iwi {x : Nat} (hx : x < 256) (y : Nat) : nI x &&& nI y = nI x ↔ mt_sb x y := by
  rw [nx_and, mt_iE (mt_al hx) hx, mt_sbA]
theorem mt_idf {x : Nat} (hx : x < 256) (y : Nat) : nI x &&& (nI y ^^^ (-1)) = 0 ↔ mt_sb x y := by
  rw [mt_not hx, mt_i0 (Nat.lt_of_le_of_lt (mt_dfle x y) hx), mt_sbD hx]
theorem mt_ibit {x u : Nat} (hx : x < 256) (hu : u < 8) : nI x &&& ((1 : Int32) <<< (nI u &&& 31)) = 0 ↔ x.testBit u = false := by
  rw [mt_shl u hu, mt_iand0 hx, mt_and0]
  constructor
  · intro h
    cases e : x.testBit u
    · rfl
    · have := h u e
      rw [mt_pt] at this
      simp at this
  · intro h i hi
    rw [mt_pt]
    apply decide_eq_false
    intro e
    subst e
    rw [h] at hi
    exact absurd hi (by decide)
theorem mt_iin {x u : Nat} (hx : x < 256) (hu : u < 8) : ((nI x >>> (nI u &&& 31)) &&& 1) = 1 ↔ x.testBit u = true := by
  rw [pk_shrN (by omega) _ u (s_l u (by omega))]
  show nI (x / 2 ^ u) &&& nI 1 = nI 1 ↔ _
  rw [nx_and, Nat.and_one_is_mod, nI_eq (by omega) (by omega), Nat.testBit_eq_decide_div_mod_eq, decide_eq_true_eq]

section
/-! rows taken from kit/rows -/
theorem pk_us {f : Nat → Int32} {k : Nat} {x : Int32} : upd f k x k = x := if_pos rfl
theorem pk_un {f : Nat → Int32} {k j : Nat} {x : Int32} (h : j ≠ k) : upd f k x j = f j := if_neg h
theorem pk_sub {a b : Nat} (h : b ≤ a) : nI a - nI b = nI (a - b) := by
  obtain ⟨c, rfl⟩ : ∃ c, a = c + b := ⟨a - b, by omega⟩
  rw [← nI_add, Int32.add_sub_cancel, Nat.add_sub_cancel]
theorem pk_m1 (n : Nat) : nI (n + 1) + (-1) = nI n := by
  rw [← nI_1, Int32.add_assoc, show (1 : Int32) + (-1) = 0 from rfl, Int32.add_zero]
theorem pk_ix (x : Int32) {n : Nat} (hn : n < 2 ^ 31) : x < 0 ∨ nI n ≤ x ∨ ∃ j : Nat, j < n ∧ x = nI j := by
  by_cases h : x < 0
  · exact Or.inl h
  · obtain ⟨j, hj, rfl⟩ := nI_of h
    by_cases h2 : j < n
    · exact Or.inr (Or.inr ⟨j, h2, rfl⟩)
    · exact Or.inr (Or.inl (nI_le (by omega) hj))
theorem pk_le {x y : Int32} {A B : Prop} (a b : Nat) (f : a ≤ b → A) (g : b < a → B) (hx : x = nI a := by rfl) (hy : y = nI b := by rfl) (ha : a < 2 ^ 31 := by omega) (hb : b < 2 ^ 31 := by omega) : (x ≤ y → A) ∧ (¬ x ≤ y → B) := by
  subst hx hy
  rw [nI_leI ha hb]
  exact ⟨f, fun z => g (by omega)⟩
theorem pk_lt {x y : Int32} {A B : Prop} (a b : Nat) (f : a < b → A) (g : b ≤ a → B) (hx : x = nI a := by rfl) (hy : y = nI b := by rfl) (ha : a < 2 ^ 31 := by omega) (hb : b < 2 ^ 31 := by omega) : (x < y → A) ∧ (¬ x < y → B) := by
  subst hx hy
  rw [nI_ltI ha hb]
  exact ⟨f, fun z => g (by omega)⟩
theorem pk_eq {x y : Int32} {A B : Prop} (a b : Nat) (f : a = b → A) (g : a ≠ b → B) (hx : x = nI a := by rfl) (hy : y = nI b := by rfl) (ha : a < 2 ^ 31 := by omega) (hb : b < 2 ^ 31 := by omega) : (x = y → A) ∧ (¬ x = y → B) := by
  subst hx hy
  rw [nI_eq ha hb]
  exact ⟨f, g⟩
theorem pk_in {x : Int32} (n N : Nat) (h : n < N) (hx : x = nI n := by rfl) (hN : N < 2 ^ 31 := by omega) : vp_in x N := by
  subst hx
  exact vp_in_nI h hN
theorem pk_cl {x : Int32} (n : Nat) (hx : x = nI n := by rfl) (h : n < 2 ^ 31 := by omega) : x.toNatClampNeg = n := by
  subst hx
  exact nI_clamp h
theorem pk_tn {n : Nat} (h : n < 2 ^ 32) : (nI n).toBitVec.toNat = n := Nat.mod_eq_of_lt h
theorem pk_shr (a s : Int32) (k : Nat) (hs : (s.toBitVec.smod 32).toNat = k) : (a >>> s).toInt = a.toInt >>> k := by
  show (a.toBitVec.sshiftRight (s.toBitVec.smod 32).toNat).toInt = _
  rw [hs, BitVec.toInt_sshiftRight]
  rfl
theorem pk_shrN {n : Nat} (h : n < 2 ^ 31) (s : Int32) (k : Nat) (hs : (s.toBitVec.smod 32).toNat = k) : nI n >>> s = nI (n / 2 ^ k) := by
  apply Int32.toInt_inj.mp
  have h2 : n / 2 ^ k ≤ n := Nat.div_le_self _ _
  rw [pk_shr _ _ k hs, nI_toInt h, nI_toInt (by omega), Int.shiftRight_eq_div_pow]
  rfl
theorem pk_least (P : Nat → Prop) (h : ∃ k, P k) : ∃ k, P k ∧ ∀ j, j < k → ¬ P j := by
  obtain ⟨k, hk⟩ := h
  induction k using Nat.strongRecOn with
  | ind k ih =>
    by_cases e : ∃ j, j < k ∧ P j
    · obtain ⟨j, hj, pj⟩ := e
      exact ih j hj pj
    · exact ⟨k, hk, fun j hj pj => e ⟨j, hj, pj⟩⟩
theorem ek_if {c d A B : Prop} (e : c ↔ d) (f : d → A) (g : ¬ d → B) : (c → A) ∧ (¬ c → B) :=
  ⟨fun z => f (e.mp z), fun z => g (fun y => z (e.mpr y))⟩
theorem s_l : ∀ n, n < 32 → ((nI n &&& 31).toBitVec.smod 32).toNat = n := by decide +kernel
theorem nx_and (a b : Nat) : nI a &&& nI b = nI (a &&& b) := by
  apply Int32.toBitVec_inj.1
  show BitVec.ofNat 32 a &&& BitVec.ofNat 32 b = BitVec.ofNat 32 (a &&& b)
  apply BitVec.eq_of_getLsbD_eq
  intro i hi
  simp [hi]
theorem nx_xor (a b : Nat) : nI a ^^^ nI b = nI (a ^^^ b) := by
  apply Int32.toBitVec_inj.1
  show BitVec.ofNat 32 a ^^^ BitVec.ofNat 32 b = BitVec.ofNat 32 (a ^^^ b)
  apply BitVec.eq_of_getLsbD_eq
  intro i hi
  simp [hi]
end
section
/-! sets of points as naturals below 256, and as Int32 -/
def mt_df (a b : Nat) : Nat := a &&& (b ^^^ 255)
def mt_sb (x y : Nat) : Prop := ∀ i, x.testBit i = true → y.testBit i = true
theorem mt_255 (i : Nat) : (255 : Nat).testBit i = decide (i < 8) := Nat.testBit_two_pow_sub_one 8 i
theorem mt_hi {x i : Nat} (hx : x < 256) (hi : 8 ≤ i) : x.testBit i = false := by
  have h : 2 ^ 8 ≤ 2 ^ i := Nat.pow_le_pow_right (by decide) hi
  exact Nat.testBit_lt_two_pow (Nat.lt_of_lt_of_le hx h)
theorem mt_lo {x n i : Nat} (hx : x < 2 ^ n) (h : x.testBit i = true) : i < n := by
  rcases Nat.lt_or_ge i n with h1 | h1
  · exact h1
  · have h2 : 2 ^ n ≤ 2 ^ i := Nat.pow_le_pow_right (by decide) h1
    rw [Nat.testBit_lt_two_pow (Nat.lt_of_lt_of_le hx h2)] at h
    exact absurd h (by decide)
theorem mt_tdf {a : Nat} (ha : a < 256) (b i : Nat) : (mt_df a b).testBit i = (a.testBit i && !b.testBit i) := by
  unfold mt_df
  rw [Nat.testBit_and, Nat.testBit_xor, mt_255]
  rcases Nat.lt_or_ge i 8 with h | h
  · rw [decide_eq_true h]; cases a.testBit i <;> cases b.testBit i <;> rfl
  · rw [mt_hi ha h]; rfl
theorem mt_dfle (a b : Nat) : mt_df a b ≤ a := Nat.and_le_left
theorem mt_z {x : Nat} : x = 0 ↔ ∀ i, x.testBit i = false := by
  constructor
  · intro h i; rw [h]; exact Nat.zero_testBit i
  · intro h; apply Nat.eq_of_testBit_eq; intro i; rw [h i, Nat.zero_testBit]
theorem mt_nz {x : Nat} (h : x ≠ 0) : ∃ i, x.testBit i = true := by
  refine Classical.byContradiction fun z => h (mt_z.mpr fun i => ?_)
  cases e : x.testBit i
  · rfl
  · exact absurd ⟨i, e⟩ z
theorem mt_and0 (x y : Nat) : x &&& y = 0 ↔ ∀ i, x.testBit i = true → y.testBit i = false := by
  rw [mt_z]
  constructor
  · intro h i hx
    have := h i
    rw [Nat.testBit_and, hx] at this
    simpa using this
  · intro h i
    rw [Nat.testBit_and]
    cases hx : x.testBit i
    · rfl
    · rw [h i hx]; rfl
theorem mt_andn0 (x y : Nat) : ¬ x &&& y = 0 ↔ ∃ i, x.testBit i = true ∧ y.testBit i = true := by
  constructor
  · intro h
    obtain ⟨i, hi⟩ := mt_nz h
    rw [Nat.testBit_and] at hi
    exact ⟨i, by simpa using hi⟩
  · rintro ⟨i, hx, hy⟩ h
    rw [mt_and0] at h
    rw [h i hx] at hy
    exact absurd hy (by decide)
theorem mt_sbA (x y : Nat) : x &&& y = x ↔ mt_sb x y := by
  constructor
  · intro h i hx
    rw [← h, Nat.testBit_and] at hx
    simp at hx
    exact hx.2
  · intro h
    apply Nat.eq_of_testBit_eq
    intro i
    rw [Nat.testBit_and]
    cases hx : x.testBit i
    · rfl
    · rw [h i hx]; rfl
theorem mt_sbD {x : Nat} (hx : x < 256) (y : Nat) : mt_df x y = 0 ↔ mt_sb x y := by
  rw [mt_z]
  constructor
  · intro h i hi
    have := h i
    rw [mt_tdf hx, hi] at this
    simpa using this
  · intro h i
    rw [mt_tdf hx]
    cases e : x.testBit i
    · rfl
    · rw [h i e]; rfl
theorem mt_sble {x y : Nat} (h : mt_sb x y) : x ≤ y := by
  have := (mt_sbA x y).mpr h
  rw [← this]
  exact Nat.and_le_right
theorem mt_sbaa {x y : Nat} (h : mt_sb x y) (h2 : mt_sb y x) : x = y := Nat.le_antisymm (mt_sble h) (mt_sble h2)
theorem mt_sbrf (x : Nat) : mt_sb x x := fun _ h => h
theorem mt_sbtr {x y z : Nat} (h : mt_sb x y) (h2 : mt_sb y z) : mt_sb x z := fun i hi => h2 i (h i hi)
theorem mt_pt (u i : Nat) : (2 ^ u).testBit i = decide (u = i) := by
  rcases Nat.decEq u i with h | h
  · rw [decide_eq_false h]; exact Nat.testBit_two_pow_of_ne h
  · subst h; rw [decide_eq_true rfl]; exact Nat.testBit_two_pow_self
theorem mt_sbpt (u y : Nat) : mt_sb (2 ^ u) y ↔ y.testBit u = true := by
  constructor
  · intro h; exact h u (by rw [mt_pt]; simp)
  · intro h i hi; rw [mt_pt] at hi; simp at hi; subst hi; exact h
theorem mt_pt8 {u : Nat} (h : u < 8) : 2 ^ u < 256 := by
  have : 2 ^ u < 2 ^ 8 := Nat.pow_lt_pow_right (by decide) h
  exact this
/-! the same in Int32 -/
theorem mt_shl : ∀ u, u < 8 → (1 : Int32) <<< (nI u &&& 31) = nI (2 ^ u) := by decide +kernel
theorem mt_all : ∀ n, n < 9 → ((1 : Int32) <<< (nI n &&& 31)) - 1 = nI (2 ^ n - 1) := by decide +kernel
theorem mt_or (a b : Nat) : nI a ||| nI b = nI (a ||| b) := by
  apply Int32.toBitVec_inj.1
  show BitVec.ofNat 32 a ||| BitVec.ofNat 32 b = BitVec.ofNat 32 (a ||| b)
  apply BitVec.eq_of_getLsbD_eq
  intro i hi
  simp [hi]
theorem mt_m1 : ((-1 : Int32)).toBitVec = BitVec.allOnes 32 := by decide
theorem mt_not {a : Nat} (ha : a < 256) (b : Nat) : nI a &&& (nI b ^^^ (-1)) = nI (mt_df a b) := by
  apply Int32.toBitVec_inj.1
  rw [Int32.toBitVec_and, Int32.toBitVec_xor, mt_m1]
  show BitVec.ofNat 32 a &&& (BitVec.ofNat 32 b ^^^ BitVec.allOnes 32) = BitVec.ofNat 32 (mt_df a b)
  apply BitVec.eq_of_getLsbD_eq
  intro i hi
  rw [BitVec.getLsbD_and, BitVec.getLsbD_xor, BitVec.getLsbD_ofNat, BitVec.getLsbD_ofNat, BitVec.getLsbD_ofNat, BitVec.getLsbD_allOnes, mt_tdf ha]
  simp [hi]
theorem mt_i0 {x : Nat} (hx : x < 256) : nI x = 0 ↔ x = 0 := by
  rw [← nI_0, nI_eq (by omega) (by omega)]
theorem mt_iE {x y : Nat} (hx : x < 256) (hy : y < 256) : nI x = nI y ↔ x = y := nI_eq (by omega) (by omega)
theorem mt_al {x y : Nat} (hx : x < 256) : x &&& y < 256 := Nat.lt_of_le_of_lt Nat.and_le_left hx
theorem mt_iand0 {x : Nat} (hx : x < 256) (y : Nat) : nI x &&& nI y = 0 ↔ x &&& y = 0 := by
  rw [nx_and, mt_i0 (mt_al hx)]
theorem mt_iwi {x : Nat} (hx : x < 256) (y : Nat) : nI x &&& nI y = nI x ↔ mt_sb x y := by
  rw [nx_and, mt_iE (mt_al hx) hx, mt_sbA]
theorem mt_idf {x : Nat} (hx : x < 256) (y : Nat) : nI x &&& (nI y ^^^ (-1)) = 0 ↔ mt_sb x y := by
  rw [mt_not hx, mt_i0 (Nat.lt_of_le_of_lt (mt_dfle x y) hx), mt_sbD hx]
theorem mt_ibit {x u : Nat} (hx : x < 256) (hu : u < 8) : nI x &&& ((1 : Int32) <<< (nI u &&& 31)) = 0 ↔ x.testBit u = false := by
  rw [mt_shl u hu, mt_iand0 hx, mt_and0]
  constructor
  · intro h
    cases e : x.testBit u
    · rfl
    · have := h u e
      rw [mt_pt] at this
      simp at this
  · intro h i hi
    rw [mt_pt]
    apply decide_eq_false
    intro e
    subst e
    rw [h] at hi
    exact absurd hi (by decide)
theorem mt_iin {x u : Nat} (hx : x < 256) (hu : u < 8) : ((nI x >>> (nI u &&& 31)) &&& 1) = 1 ↔ x.testBit u = true := by
  rw [pk_shrN (by omega) _ u (s_l u (by omega))]
  show nI (x / 2 ^ u) &&& nI 1 = nI 1 ↔ _
  rw [nx_and, Nat.and_one_is_mod, nI_eq (by omega) (by omega), Nat.testBit_eq_decide_div_mod_eq, decide_eq_true_eq]
end
section
/-! the pure picture: modules, crossing, strong, children, sizes, counts -/
def mt_G (n a : Nat) (N : Nat → Nat) : Prop := 1 ≤ n ∧ n ≤ 8 ∧ a + 1 = 2 ^ n ∧ a < 256 ∧ ∀ j, N j ≤ a ∧ (N j).testBit j = false
def mt_mod (n : Nat) (N : Nat → Nat) (s : Nat) : Prop := ∀ u, u < n → s.testBit u = false → N u &&& s = 0 ∨ N u &&& s = s
def mt_crs (x y : Nat) : Prop := (∃ i, x.testBit i = true ∧ y.testBit i = true) ∧ ¬ mt_sb x y ∧ ¬ mt_sb y x
def mt_str (n a : Nat) (N : Nat → Nat) (s : Nat) : Prop := mt_mod n N s ∧ ∀ o, 1 ≤ o → o ≤ a → mt_mod n N o → ¬ mt_crs s o
def mt_btw (n a : Nat) (N : Nat → Nat) (c s o : Nat) : Prop := mt_str n a N o ∧ o ≠ s ∧ o ≠ c ∧ mt_sb c o ∧ mt_sb o s
def mt_chd (n a : Nat) (N : Nat → Nat) (s c : Nat) : Prop := mt_str n a N c ∧ c ≠ s ∧ mt_sb c s ∧ ∀ o, 1 ≤ o → o ≤ a → ¬ mt_btw n a N c s o
def mt_sz (s : Nat) : Nat → Nat
  | 0 => 0
  | k + 1 => mt_sz s k + (if s.testBit k = true then 1 else 0)
noncomputable def mt_cn (P : Nat → Prop) : Nat → Nat
  | 0 => 0
  | j + 1 => mt_cn P j + @ite Nat (P j) (Classical.propDecidable (P j)) 1 0
theorem mt_cnT {P : Nat → Prop} {j : Nat} (h : P j) : mt_cn P (j + 1) = mt_cn P j + 1 := by
  show mt_cn P j + @ite Nat (P j) (Classical.propDecidable (P j)) 1 0 = _
  rw [if_pos h]
theorem mt_cnF {P : Nat → Prop} {j : Nat} (h : ¬ P j) : mt_cn P (j + 1) = mt_cn P j := by
  show mt_cn P j + @ite Nat (P j) (Classical.propDecidable (P j)) 1 0 = _
  rw [if_neg h, Nat.add_zero]
theorem mt_cnLe (P : Nat → Prop) : ∀ j, mt_cn P j ≤ j := by
  intro j
  induction j with
  | zero => exact Nat.le_refl _
  | succ j ih =>
    by_cases h : P j
    · rw [mt_cnT h]; omega
    · rw [mt_cnF h]; omega
theorem mt_cnE {P Q : Nat → Prop} : ∀ j, (∀ c, c < j → (P c ↔ Q c)) → mt_cn P j = mt_cn Q j := by
  intro j
  induction j with
  | zero => intro _; rfl
  | succ j ih =>
    intro h
    have e := ih fun c hc => h c (by omega)
    by_cases hp : P j
    · rw [mt_cnT hp, mt_cnT ((h j (by omega)).mp hp), e]
    · rw [mt_cnF hp, mt_cnF (fun z => hp ((h j (by omega)).mpr z)), e]
theorem mt_cn0 {P : Nat → Prop} : ∀ j, (∀ c, c < j → ¬ P c) → mt_cn P j = 0 := by
  intro j
  induction j with
  | zero => intro _; rfl
  | succ j ih =>
    intro h
    rw [mt_cnF (h j (by omega)), ih fun c hc => h c (by omega)]
theorem mt_cn1 {P Q : Nat → Prop} {x : Nat} (hp : P x) (hq : ¬ Q x) : ∀ j, x < j → (∀ c, c < j → c ≠ x → (P c ↔ Q c)) → mt_cn P j = mt_cn Q j + 1 := by
  intro j
  induction j with
  | zero => intro h; omega
  | succ j ih =>
    intro hx h
    by_cases e : x = j
    · subst e
      rw [mt_cnT hp, mt_cnF hq, mt_cnE x fun c hc => h c (by omega) (by omega)]
    · have i := ih (by omega) fun c hc hne => h c (by omega) hne
      by_cases hj : P j
      · rw [mt_cnT hj, mt_cnT ((h j (by omega) (by omega)).mp hj), i]
      · rw [mt_cnF hj, mt_cnF (fun z => hj ((h j (by omega) (by omega)).mpr z)), i]
/-! sizes -/
theorem mt_szT {s k : Nat} (h : s.testBit k = true) : mt_sz s (k + 1) = mt_sz s k + 1 := by
  show mt_sz s k + _ = _
  rw [if_pos h]
theorem mt_szF {s k : Nat} (h : s.testBit k = false) : mt_sz s (k + 1) = mt_sz s k := by
  show mt_sz s k + _ = _
  rw [if_neg (by rw [h]; decide), Nat.add_zero]
theorem mt_szLe (s : Nat) : ∀ k, mt_sz s k ≤ k := by
  intro k
  induction k with
  | zero => exact Nat.le_refl _
  | succ k ih =>
    cases h : s.testBit k
    · rw [mt_szF h]; omega
    · rw [mt_szT h]; omega
theorem mt_szM {x y : Nat} (h : mt_sb x y) : ∀ k, mt_sz x k ≤ mt_sz y k := by
  intro k
  induction k with
  | zero => exact Nat.le_refl _
  | succ k ih =>
    cases e : x.testBit k
    · rw [mt_szF e]
      cases e2 : y.testBit k
      · rw [mt_szF e2]; exact ih
      · rw [mt_szT e2]; omega
    · rw [mt_szT e, mt_szT (h k e)]; omega
theorem mt_szS {x y w : Nat} (h : mt_sb x y) (hx : x.testBit w = false) (hy : y.testBit w = true) : ∀ k, w < k → mt_sz x k < mt_sz y k := by
  intro k
  induction k with
  | zero => intro h; omega
  | succ k ih =>
    intro hw
    by_cases e : w = k
    · subst e
      rw [mt_szF hx, mt_szT hy]
      have := mt_szM h w
      omega
    · have i := ih (by omega)
      cases e : x.testBit k
      · rw [mt_szF e]
        cases e2 : y.testBit k
        · rw [mt_szF e2]; exact i
        · rw [mt_szT e2]; omega
      · rw [mt_szT e, mt_szT (h k e)]; omega
theorem mt_szN {x y n : Nat} (h : mt_sb x y) (hne : x ≠ y) (hy : y < 2 ^ n) : mt_sz x n < mt_sz y n := by
  have z : ¬ mt_sb y x := fun z => hne (mt_sbaa h z)
  have : ∃ w, y.testBit w = true ∧ x.testBit w = false := by
    refine Classical.byContradiction fun q => z fun i hi => ?_
    cases e : x.testBit i
    · exact absurd ⟨i, hi, e⟩ q
    · rfl
  obtain ⟨w, h1, h2⟩ := this
  exact mt_szS h h2 h1 n (mt_lo hy h1)
theorem mt_szP {x w n : Nat} (hw : x.testBit w = true) (hx : x < 2 ^ n) : 0 < mt_sz x n := by
  have := mt_szN (x := 0) (y := x) (n := n) (fun i hi => by rw [Nat.zero_testBit] at hi; exact absurd hi (by decide)) (fun e => by rw [← e, Nat.zero_testBit] at hw; exact absurd hw (by decide)) hx
  omega
/-! modules -/
theorem mt_ta {n a : Nat} (h : a + 1 = 2 ^ n) (i : Nat) : a.testBit i = decide (i < n) := by
  have e : a = 2 ^ n - 1 := by omega
  rw [e]
  exact Nat.testBit_two_pow_sub_one n i
theorem mt_sa {n a s : Nat} (h : a + 1 = 2 ^ n) (hs : s ≤ a) : mt_sb s a := by
  intro i hi
  rw [mt_ta h]
  exact decide_eq_true (mt_lo (n := n) (by omega) hi)
theorem mt_modA {n : Nat} {N : Nat → Nat} {x y : Nat} (hx : mt_mod n N x) (hy : mt_mod n N y) : mt_mod n N (x &&& y) := by
  intro u hu hb
  rw [Nat.testBit_and] at hb
  cases e : x.testBit u
  · rcases hx u hu e with q | q
    · left; rw [← Nat.and_assoc, q, Nat.zero_and]
    · right; rw [← Nat.and_assoc, q]
  · rw [e] at hb
    rcases hy u hu (by simpa using hb) with q | q
    · left; rw [Nat.and_comm x y, ← Nat.and_assoc, q, Nat.zero_and]
    · right; rw [Nat.and_comm x y, ← Nat.and_assoc, q]
theorem mt_modAll {n a : Nat} {N : Nat → Nat} (h : a + 1 = 2 ^ n) : mt_mod n N a := by
  intro u hu hb
  rw [mt_ta h, decide_eq_true hu] at hb
  exact absurd hb (by decide)
theorem mt_strAll {n a : Nat} {N : Nat → Nat} (h : a + 1 = 2 ^ n) : mt_str n a N a :=
  ⟨mt_modAll h, fun _ _ ho _ hc => hc.2.2 (mt_sa h ho)⟩
theorem mt_strPt {n a : Nat} {N : Nat → Nat} (u : Nat) : mt_str n a N (2 ^ u) := by
  refine ⟨fun w _ _ => ?_, fun o _ _ _ hc => ?_⟩
  · cases e : (N w).testBit u
    · left
      rw [mt_and0]
      intro i hi
      rw [mt_pt]
      apply decide_eq_false
      intro z
      subst z
      rw [e] at hi
      exact absurd hi (by decide)
    · right
      rw [Nat.and_comm, mt_sbA, mt_sbpt]
      exact e
  · obtain ⟨⟨i, h1, h2⟩, h3, _⟩ := hc
    apply h3
    rw [mt_pt] at h1
    simp at h1
    subst h1
    exact (mt_sbpt _ _).mpr h2
theorem mt_nest {n a : Nat} {N : Nat → Nat} {x y w : Nat} (hx : mt_str n a N x) (hy : mt_mod n N y) (h1 : 1 ≤ y) (h2 : y ≤ a) (wx : x.testBit w = true) (wy : y.testBit w = true) : mt_sb x y ∨ mt_sb y x := by
  by_cases p : mt_sb x y
  · exact Or.inl p
  · by_cases q : mt_sb y x
    · exact Or.inr q
    · exact absurd ⟨⟨w, wx, wy⟩, p, q⟩ (hx.2 y h1 h2 hy)
theorem mt_frst {P : Nat → Prop} {a : Nat} (h : P a) : ∃ A, A ≤ a ∧ P A ∧ ∀ j, j < A → ¬ P j := by
  obtain ⟨k, hk, hj⟩ := pk_least P ⟨a, h⟩
  refine ⟨k, ?_, hk, hj⟩
  rcases Nat.lt_or_ge a k with z | z
  · exact absurd h (hj a z)
  · exact z
theorem mt_last {P : Nat → Prop} {b : Nat} (hb : P b) : ∀ s, b < s → ∃ C, b ≤ C ∧ C < s ∧ P C ∧ ∀ j, C < j → j < s → ¬ P j := by
  intro s
  induction s with
  | zero => intro h; omega
  | succ s ih =>
    intro h
    by_cases p : P s
    · exact ⟨s, by omega, by omega, p, fun j h1 h2 => by omega⟩
    · by_cases e : b = s
      · subst e; exact absurd hb p
      · obtain ⟨C, h1, h2, h3, h4⟩ := ih (by omega)
        refine ⟨C, h1, by omega, h3, fun j q1 q2 => ?_⟩
        by_cases e2 : j = s
        · subst e2; exact p
        · exact h4 j q1 (by omega)
theorem mt_one {x : Nat} (h : 1 ≤ x) : ∃ i, x.testBit i = true := mt_nz (by omega)
theorem mt_pos {x i : Nat} (h : x.testBit i = true) : 1 ≤ x := by
  rcases Nat.eq_zero_or_pos x with z | z
  · rw [z, Nat.zero_testBit] at h; exact absurd h (by decide)
  · exact z
/-- the smallest module with the points p -/
theorem mt_arA {n a : Nat} {N : Nat → Nat} {p w : Nat} (h : a + 1 = 2 ^ n) (hp : p ≤ a) (hw : p.testBit w = true) : ∃ A, 1 ≤ A ∧ A ≤ a ∧ mt_mod n N A ∧ mt_sb p A ∧ (∀ s, s < A → ¬ (mt_mod n N s ∧ mt_sb p s)) ∧ (∀ B, B ≤ a → mt_mod n N B → mt_sb p B → mt_sb A B) := by
  obtain ⟨A, h1, h2, h3⟩ := mt_frst (P := fun s => mt_mod n N s ∧ mt_sb p s) (a := a) ⟨mt_modAll h, mt_sa h hp⟩
  refine ⟨A, mt_pos (h2.2 w hw), h1, h2.1, h2.2, h3, fun B _ hb hpb => ?_⟩
  have hm : mt_mod n N (A &&& B) ∧ mt_sb p (A &&& B) := ⟨mt_modA h2.1 hb, fun i hi => by rw [Nat.testBit_and, h2.2 i hi, hpb i hi]; rfl⟩
  have hle : A &&& B ≤ A := Nat.and_le_left
  have e : A &&& B = A := by
    rcases Nat.lt_or_ge (A &&& B) A with z | z
    · exact absurd hm (h3 _ z)
    · omega
  exact (mt_sbA A B).mp e
/-- the smallest strong module with the points p and a number not below f -/
theorem mt_fsA {n a : Nat} {N : Nat → Nat} {p w f : Nat} (h : a + 1 = 2 ^ n) (hp : p ≤ a) (hf : f ≤ a) (hw : p.testBit w = true) : ∃ A, 1 ≤ A ∧ f ≤ A ∧ A ≤ a ∧ mt_str n a N A ∧ mt_sb p A ∧ (∀ s, f ≤ s → s < A → ¬ (mt_str n a N s ∧ mt_sb p s)) ∧ (∀ B, f ≤ B → B ≤ a → mt_str n a N B → mt_sb p B → mt_sb A B) := by
  obtain ⟨A, h1, h2, h3⟩ := mt_frst (P := fun s => f ≤ s ∧ mt_str n a N s ∧ mt_sb p s) (a := a) ⟨hf, mt_strAll h, mt_sa h hp⟩
  refine ⟨A, mt_pos (h2.2.2 w hw), h2.1, h1, h2.2.1, h2.2.2, fun s q1 q2 q3 => h3 s q2 ⟨q1, q3⟩, fun B hfB hB hb hpb => ?_⟩
  rcases mt_nest h2.2.1 hb.1 (mt_pos (hpb w hw)) hB (h2.2.2 w hw) (hpb w hw) with z | z
  · exact z
  · have e : B = A := by
      rcases Nat.lt_or_ge B A with q | q
      · exact absurd ⟨hfB, hb, hpb⟩ (h3 B q)
      · have := mt_sble z; omega
    rw [e]
    exact mt_sbrf A
/-- the child of s with its point u -/
theorem mt_cwA {n a : Nat} {N : Nat → Nat} {s u : Nat} (hs : s ≤ a) (hu : s.testBit u = true) (h1 : s ≠ 2 ^ u) : ∃ C, 1 ≤ C ∧ 2 ^ u ≤ C ∧ C < s ∧ C.testBit u = true ∧ mt_chd n a N s C ∧ (∀ c, C < c → c < s → ¬ (mt_sb (2 ^ u) c ∧ mt_sb c s ∧ mt_str n a N c)) := by
  have hle : 2 ^ u ≤ s := mt_sble ((mt_sbpt u s).mpr hu)
  obtain ⟨C, q1, q2, q3, q4⟩ := mt_last (P := fun c => mt_sb (2 ^ u) c ∧ mt_sb c s ∧ mt_str n a N c) (b := 2 ^ u) ⟨mt_sbrf _, (mt_sbpt u s).mpr hu, mt_strPt u⟩ s (by omega)
  have cu : C.testBit u = true := (mt_sbpt u C).mp q3.1
  refine ⟨C, mt_pos cu, q1, q2, cu, ⟨q3.2.2, by omega, q3.2.1, fun o _ _ hb => ?_⟩, q4⟩
  obtain ⟨b1, b2, b3, b4, b5⟩ := hb
  have l1 := mt_sble b4
  have l2 := mt_sble b5
  exact q4 o (by omega) (by omega) ⟨mt_sbtr q3.1 b4, b5, b1⟩
theorem mt_chU {n a : Nat} {N : Nat → Nat} {s c d w : Nat} (hs : s ≤ a) (hc : mt_chd n a N s c) (hd : mt_chd n a N s d) (wc : c.testBit w = true) (wd : d.testBit w = true) : c = d := by
  have c1 := mt_pos wc
  have d1 := mt_pos wd
  have c2 := mt_sble hc.2.2.1
  have d2 := mt_sble hd.2.2.1
  refine Classical.byContradiction fun ne => ?_
  rcases mt_nest hc.1 hd.1.1 d1 (by omega) wc wd with z | z
  · exact hc.2.2.2 d d1 (by omega) ⟨hd.1, hd.2.1, fun e => ne e.symm, z, hd.2.2.1⟩
  · exact hd.2.2.2 c c1 (by omega) ⟨hc.1, hc.2.1, ne, z, hc.2.2.1⟩
end
section
/-! the component's walks: isModule, cross, isStrong, isWithin, searches -/
def mt_g (N : Nat → Nat) : Nat → Int32 := fun j => nI (N j)
theorem mt_gc (N : Nat → Nat) {u : Nat} (hu : u < 8) : mt_g N (nI u).toNatClampNeg = nI (N u) := by
  rw [nI_clamp (by omega)]; rfl
def mt_bad (a : Nat) (x : Int32) : Prop := x < 1 ∨ nI a < x
theorem mt_arg {a : Nat} (ha : a < 256) (x : Int32) : mt_bad a x ∨ ∃ s, 1 ≤ s ∧ s ≤ a ∧ x = nI s := by
  rcases pk_ix x (n := a + 1) (by omega) with h | h | ⟨j, hj, e⟩
  · left; left; exact Int32.lt_trans h (by decide)
  · left; right
    obtain ⟨j, hj, e⟩ := nI_of (x := x) (by
      intro z
      have q : nI (a + 1) < 0 := Int32.lt_of_le_of_lt h z
      exact absurd q (nI_pos (by omega)))
    subst e
    rw [nI_leI (by omega) hj] at h
    rw [nI_ltI (by omega) hj]
    omega
  · by_cases z : j = 0
    · left; left; subst z; subst e; exact (by decide : nI 0 < 1)
    · right; exact ⟨j, by omega, by omega, e⟩
theorem mx_modL {n a : Nat} {N : Nat → Nat} {s : Nat} (hG : mt_G n a N) (hs : s < 256) {post : Int32 → Prop} (h1 : mt_mod n N s → post 1) (h0 : ¬ mt_mod n N s → post 0) : ∀ d u, u + d = n → (∀ w, w < u → s.testBit w = false → N w &&& s = 0 ∨ N w &&& s = s) → wX_isModule_17 post (nI s) (nI n) (nI a) (mt_g N) (d + 1) (nI u) := by
  obtain ⟨g1, g2, g3, g4, g5⟩ := hG
  intro d
  induction d with
  | zero =>
    intro u hu hw
    refine br_t (nI_le (by omega) (by omega)) (h1 fun w hw' => hw w (by omega))
  | succ d ih =>
    intro u hu hw
    have next : (s.testBit u = false → N u &&& s = 0 ∨ N u &&& s = s) → wX_isModule_17 post (nI s) (nI n) (nI a) (mt_g N) (d + 1) (nI u + 1) := by
      intro hc
      rw [nI_1]
      refine ih (u + 1) (by omega) fun w h => ?_
      by_cases e : w = u
      · subst e; exact hc
      · exact hw w (by omega)
    have hN : N u < 256 := by have := (g5 u).1; omega
    refine br_f (nI_ge (by omega) (by omega)) ⟨vp_in_nI (by omega) (by omega), nm_r (e' := nI (N u &&& s)) (by rw [mt_gc N (by omega), nx_and]) ?_⟩
    refine ek_if (mt_ibit hs (by omega)) (fun hb => ?_) (fun hb => ?_)
    · refine br_f (by decide) ?_
      refine ek_if (mt_i0 (mt_al hN)) (fun hz => nm_e (next fun _ => Or.inl hz)) (fun hz => ?_)
      refine ek_if (mt_iE (mt_al hN) hs) (fun he => nm_e (next fun _ => Or.inr he)) (fun he => h0 fun hm => ?_)
      rcases hm u (by omega) hb with q | q
      · exact hz q
      · exact he q
    · exact br_t rfl (nm_e (next fun z => absurd z hb))
theorem mx_mod {n a : Nat} {N : Nat → Nat} {s : Nat} (hG : mt_G n a N) (hs1 : 1 ≤ s) (hs : s ≤ a) {post : Int32 → Prop} (h1 : mt_mod n N s → post 1) (h0 : ¬ mt_mod n N s → post 0) : wpX_isModule post (nI n, nI a, mt_g N) (nI s) := by
  have g4 := hG.2.2.2.1
  exact br_f (nI_nlt (b := 1) (by omega) (by omega)) (br_t (nI_le hs (by omega)) ⟨n + 1, mx_modL hG (by omega) h1 h0 n 0 (by omega) fun w hw => by omega⟩)
theorem mx_modB {n a : Nat} {N : Nat → Nat} {x : Int32} (hx : mt_bad a x) {post : Int32 → Prop} (h0 : post 0) : wpX_isModule post (nI n, nI a, mt_g N) x := by
  by_cases z : x < 1
  · exact br_t z h0
  · rcases hx with q | q
    · exact absurd q z
    · exact br_f z (br_f (Int32.not_le.mpr q) h0)
theorem mx_crs {x y : Nat} (hx : x < 256) (hy : y < 256) {post : Int32 → Prop} (h1 : mt_crs x y → post 1) (h0 : ¬ mt_crs x y → post 0) : wpX_cross post (nI x) (nI y) := by
  refine ek_if (mt_iand0 hx y) (fun z => h0 fun c => (mt_andn0 x y).mpr c.1 z) fun z => ?_
  refine ek_if (mt_idf hx y) (fun z2 => h0 fun c => c.2.1 z2) fun z2 => ?_
  exact ek_if (mt_idf hy x) (fun z3 => h0 fun c => c.2.2 z3) fun z3 => h1 ⟨(mt_andn0 x y).mp z, z2, z3⟩
theorem mx_strL {n a : Nat} {N : Nat → Nat} {s : Nat} (hG : mt_G n a N) (hs : s < 256) (hm : mt_mod n N s) {post : Int32 → Prop} (h1 : mt_str n a N s → post 1) (h0 : ¬ mt_str n a N s → post 0) : ∀ d o, o + d = a + 1 → 1 ≤ o → (∀ w, 1 ≤ w → w < o → mt_mod n N w → ¬ mt_crs s w) → wX_isStrong_12 post (nI s) (nI n) (nI a) (mt_g N) (d + 1) (nI o) := by
  have g4 := hG.2.2.2.1
  intro d
  induction d with
  | zero =>
    intro o ho h hw
    exact br_t (nI_lt (by omega) (by omega)) (h1 ⟨hm, fun w q1 q2 => hw w q1 (by omega)⟩)
  | succ d ih =>
    intro o ho h hw
    have next : (mt_mod n N o → ¬ mt_crs s o) → wX_isStrong_12 post (nI s) (nI n) (nI a) (mt_g N) (d + 1) (nI o + 1) := by
      intro hc
      rw [nI_1]
      refine ih (o + 1) (by omega) (by omega) fun w q h => ?_
      by_cases e : w = o
      · subst e; exact hc
      · exact hw w q (by omega)
    refine br_f (nI_nlt (by omega) (by omega)) ?_
    refine mx_crs hs (by omega) (fun hc => ?_) (fun hc => ?_)
    · refine br_f (by decide) ?_
      refine mx_mod hG h (by omega) (fun ho' => ?_) (fun ho' => ?_)
      · exact br_f (by decide) (h0 fun z => z.2 o h (by omega) ho' hc)
      · exact br_t rfl (nm_e (next fun z => absurd z ho'))
    · exact br_t rfl (nm_e (next fun _ => hc))
theorem mx_str {n a : Nat} {N : Nat → Nat} {s : Nat} (hG : mt_G n a N) (hs1 : 1 ≤ s) (hs : s ≤ a) {post : Int32 → Prop} (h1 : mt_str n a N s → post 1) (h0 : ¬ mt_str n a N s → post 0) : wpX_isStrong post (nI n, nI a, mt_g N) (nI s) := by
  have g4 := hG.2.2.2.1
  unfold wpX_isStrong
  dsimp only
  refine mx_mod hG hs1 hs (fun hm => ?_) (fun hm => ?_)
  · exact br_f (by decide) ⟨a + 1, mx_strL hG (by omega) hm h1 h0 a 1 (by omega) (by omega) fun w q1 q2 => by omega⟩
  · exact br_t rfl (h0 fun z => hm z.1)
theorem mx_strB {n a : Nat} {N : Nat → Nat} {x : Int32} (hx : mt_bad a x) {post : Int32 → Prop} (h0 : post 0) : wpX_isStrong post (nI n, nI a, mt_g N) x := by
  unfold wpX_isStrong
  dsimp only
  exact mx_modB hx (br_t rfl h0)
theorem mx_wi {x y : Nat} (hx : x < 256) {post : Int32 → Prop} (h1 : mt_sb x y → post 1) (h0 : ¬ mt_sb x y → post 0) : wpX_isWithin post (nI x) (nI y) :=
  ek_if (mt_iwi hx y) h1 h0
theorem mx_arL {n a : Nat} {N : Nat → Nat} {p A : Nat} (hG : mt_G n a N) (hp1 : 1 ≤ p) (hp : p ≤ a) (hA : A ≤ a) (hm : mt_mod n N A) (hb : mt_sb p A) (hf : ∀ s, s < A → ¬ (mt_mod n N s ∧ mt_sb p s)) {post : Int32 → Prop} (h1 : post (nI A)) : ∀ d s, s + d = a → s ≤ A → wX_around_29 post (nI p) (nI n) (nI a) (mt_g N) (d + 1) (nI s) := by
  have g4 := hG.2.2.2.1
  intro d
  induction d with
  | zero =>
    intro s hs hsA
    have e : A = a := by omega
    subst e
    exact br_t (nI_le (by omega) (by omega)) h1
  | succ d ih =>
    intro s hs hsA
    have next : ¬ (mt_mod n N s ∧ mt_sb p s) → wX_around_29 post (nI p) (nI n) (nI a) (mt_g N) (d + 1) (nI s + 1) := by
      intro hc
      rw [nI_1]
      refine ih (s + 1) (by omega) ?_
      by_cases e : s = A
      · subst e; exact absurd ⟨hm, hb⟩ hc
      · omega
    refine br_f (nI_ge (by omega) (by omega)) ?_
    refine mx_wi (by omega) (fun hc => ?_) (fun hc => ?_)
    · refine br_f (by decide) ?_
      have l := mt_sble hc
      refine mx_mod hG (by omega) (by omega) (fun ho' => ?_) (fun ho' => ?_)
      · refine br_f (by decide) ?_
        by_cases e : s = A
        · subst e; exact h1
        · exact absurd ⟨ho', hc⟩ (hf s (by omega))
      · exact br_t rfl (nm_e (next fun z => ho' z.1))
    · exact br_t rfl (nm_e (next fun z => hc z.2))
theorem mx_fsL {n a : Nat} {N : Nat → Nat} {p A f : Nat} (hG : mt_G n a N) (hp1 : 1 ≤ p) (hp : p ≤ a) (hA : A ≤ a) (hm : mt_str n a N A) (hb : mt_sb p A) (hf : ∀ s, f ≤ s → s < A → ¬ (mt_str n a N s ∧ mt_sb p s)) {post : Int32 → Prop} (h1 : post (nI A)) : ∀ d s, s + d = a → f ≤ s → s ≤ A → wX_firstStrong_2 post (nI p) (nI n) (nI a) (mt_g N) (d + 1) (nI s) := by
  have g4 := hG.2.2.2.1
  intro d
  induction d with
  | zero =>
    intro s hs _ hsA
    have e : A = a := by omega
    subst e
    exact br_t (nI_le (by omega) (by omega)) h1
  | succ d ih =>
    intro s hs hfs hsA
    have next : ¬ (mt_str n a N s ∧ mt_sb p s) → wX_firstStrong_2 post (nI p) (nI n) (nI a) (mt_g N) (d + 1) (nI s + 1) := by
      intro hc
      rw [nI_1]
      refine ih (s + 1) (by omega) (by omega) ?_
      by_cases e : s = A
      · subst e; exact absurd ⟨hm, hb⟩ hc
      · omega
    refine br_f (nI_ge (by omega) (by omega)) ?_
    refine mx_wi (by omega) (fun hc => ?_) (fun hc => ?_)
    · refine br_f (by decide) ?_
      have l := mt_sble hc
      refine mx_str hG (by omega) (by omega) (fun ho' => ?_) (fun ho' => ?_)
      · refine br_f (by decide) ?_
        by_cases e : s = A
        · subst e; exact h1
        · exact absurd ⟨ho', hc⟩ (hf s hfs (by omega))
      · exact br_t rfl (nm_e (next fun z => ho' z.1))
    · exact br_t rfl (nm_e (next fun z => hc z.2))
theorem mx_fs {n a : Nat} {N : Nat → Nat} {p A f : Nat} (hG : mt_G n a N) (hp1 : 1 ≤ p) (hp : p ≤ a) (hA : A ≤ a) (hfA : f ≤ A) (hm : mt_str n a N A) (hb : mt_sb p A) (hf : ∀ s, f ≤ s → s < A → ¬ (mt_str n a N s ∧ mt_sb p s)) {post : Int32 → Prop} (h1 : post (nI A)) : wpX_firstStrong post (nI n, nI a, mt_g N) (nI p) (nI f) :=
  ⟨a - f + 1, mx_fsL hG hp1 hp hA hm hb hf h1 (a - f) f (by omega) (by omega) hfA⟩
theorem mx_cwL {n a : Nat} {N : Nat → Nat} {s u C : Nat} (hG : mt_G n a N) (hu : u < 8) (hs : s ≤ a) (hC : 2 ^ u ≤ C) (hCs : C < s) (hm : mt_str n a N C) (hbu : mt_sb (2 ^ u) C) (hbs : mt_sb C s) (hf : ∀ c, C < c → c < s → ¬ (mt_sb (2 ^ u) c ∧ mt_sb c s ∧ mt_str n a N c)) {post : Int32 → Prop} (h1 : post (nI C)) : ∀ d j, j = C + d → j < s → wX_childWith_9 post (nI s) (nI (2 ^ u)) (nI n) (nI a) (mt_g N) (d + 1) (nI j) := by
  have g4 := hG.2.2.2.1
  have p8 := mt_pt8 hu
  have p0 : 0 < 2 ^ u := Nat.two_pow_pos u
  intro d
  induction d with
  | zero =>
    intro j hj hjs
    have e : j = C := by omega
    subst e
    by_cases q : j = 2 ^ u
    · exact br_t (nI_le (by omega) (by omega)) (q ▸ h1)
    · refine br_f (nI_ge (by omega) (by omega)) ?_
      refine mx_wi p8 (fun _ => ?_) (fun z => absurd hbu z)
      refine br_f (by decide) ?_
      refine mx_wi (by omega) (fun _ => ?_) (fun z => absurd hbs z)
      refine br_f (by decide) ?_
      refine mx_str hG (by omega) (by omega) (fun _ => ?_) (fun z => absurd hm z)
      exact br_f (by decide) h1
  | succ d ih =>
    intro j hj hjs
    have next : wX_childWith_9 post (nI s) (nI (2 ^ u)) (nI n) (nI a) (mt_g N) (d + 1) (nI j + (-1)) := by
      have e : j = (C + d) + 1 := by omega
      rw [e, pk_m1]
      exact ih (C + d) rfl (by omega)
    refine br_f (nI_ge (by omega) (by omega)) ?_
    refine mx_wi p8 (fun z1 => ?_) (fun _ => br_t rfl (nm_e next))
    refine br_f (by decide) ?_
    refine mx_wi (by omega) (fun z2 => ?_) (fun _ => br_t rfl (nm_e next))
    refine br_f (by decide) ?_
    refine mx_str hG (by omega) (by omega) (fun z3 => absurd ⟨z1, z2, z3⟩ (hf j (by omega) (by omega))) (fun _ => br_t rfl (nm_e next))
theorem mx_cw {n a : Nat} {N : Nat → Nat} {s u C : Nat} (hG : mt_G n a N) (hu : u < 8) (hs : s ≤ a) (hC : 2 ^ u ≤ C) (hCs : C < s) (hm : mt_str n a N C) (hbu : C.testBit u = true) (hbs : mt_sb C s) (hf : ∀ c, C < c → c < s → ¬ (mt_sb (2 ^ u) c ∧ mt_sb c s ∧ mt_str n a N c)) {post : Int32 → Prop} (h1 : post (nI C)) : wpX_childWith post (nI n, nI a, mt_g N) (nI s) (nI u) := by
  refine nm_r (mt_shl u hu) (nm_r (e' := nI (s - 1)) ?_ ⟨s - 1 - C + 1, ?_⟩)
  · show nI s - nI 1 = _
    exact pk_sub (by omega)
  · exact mx_cwL hG hu hs hC hCs hm ((mt_sbpt u C).mpr hbu) hbs hf h1 (s - 1 - C) (s - 1) (by omega) (by omega)
end
section
/-! the component's walks: counts, hasChildren, kind, children -/
def mt_fl (p : Prop) (x : Int32) : Prop := (p → x = 1) ∧ (¬ p → x = 0)
theorem mt_flE {p q : Prop} {x : Int32} (h : mt_fl p x) (e : q ↔ p) : mt_fl q x := ⟨fun z => h.1 (e.mp z), fun z => h.2 fun y => z (e.mpr y)⟩
theorem mt_fl1 {p : Prop} (h : p) : mt_fl p 1 := ⟨fun _ => rfl, fun z => absurd h z⟩
theorem mt_fl0 {p : Prop} (h : ¬ p) : mt_fl p 0 := ⟨fun z => absurd z h, fun _ => rfl⟩
theorem mt_flz {p : Prop} {x : Int32} (h : mt_fl p x) : x = 0 ↔ ¬ p := by
  constructor
  · intro z q
    rw [h.1 q] at z
    exact absurd z (by decide)
  · exact h.2
theorem mt_cnOne {Q : Nat → Prop} : mt_cn (fun c => 1 ≤ c ∧ Q c) 1 = 0 := by
  rw [mt_cnF (fun z => absurd z.1 (by omega))]
  rfl
theorem mx_strongL {n a : Nat} {N : Nat → Nat} (hG : mt_G n a N) {post : Int32 → Prop} (h1 : post (nI (mt_cn (fun c => 1 ≤ c ∧ mt_str n a N c) (a + 1)))) : ∀ d s, s + d = a + 1 → 1 ≤ s → wX_strong_4 post (nI n) (nI a) (mt_g N) (d + 1) (nI (mt_cn (fun c => 1 ≤ c ∧ mt_str n a N c) s)) (nI s) := by
  have g4 := hG.2.2.2.1
  intro d
  induction d with
  | zero =>
    intro s hs _
    have e : s = a + 1 := by omega
    subst e
    exact br_t (nI_lt (by omega) (by omega)) h1
  | succ d ih =>
    intro s hs hs1
    have i := ih (s + 1) (by omega) (by omega)
    refine br_f (nI_nlt (by omega) (by omega)) ?_
    refine mx_str hG hs1 (by omega) (fun hc => ?_) (fun hc => ?_)
    · rw [mt_cnT ⟨hs1, hc⟩] at i
      exact br_f (by decide) (nm_r (nI_1 _) (nm_r (nI_1 _) i))
    · rw [mt_cnF (fun z => hc z.2)] at i
      exact br_t rfl (nm_r (nI_1 _) i)
theorem mx_strong {n a : Nat} {N : Nat → Nat} (hG : mt_G n a N) {post : Int32 → Prop} (h1 : post (nI (mt_cn (fun c => 1 ≤ c ∧ mt_str n a N c) (a + 1)))) : wpX_strong post (nI n, nI a, mt_g N) := by
  have i := mx_strongL hG h1 a 1 (by omega) (by omega)
  rw [mt_cnOne] at i
  exact ⟨a + 1, i⟩
theorem mx_modulesL {n a : Nat} {N : Nat → Nat} (hG : mt_G n a N) {post : Int32 → Prop} (h1 : post (nI (mt_cn (fun c => 1 ≤ c ∧ mt_mod n N c) (a + 1)))) : ∀ d s, s + d = a + 1 → 1 ≤ s → wX_modules_4 post (nI n) (nI a) (mt_g N) (d + 1) (nI (mt_cn (fun c => 1 ≤ c ∧ mt_mod n N c) s)) (nI s) := by
  have g4 := hG.2.2.2.1
  intro d
  induction d with
  | zero =>
    intro s hs _
    have e : s = a + 1 := by omega
    subst e
    exact br_t (nI_lt (by omega) (by omega)) h1
  | succ d ih =>
    intro s hs hs1
    have i := ih (s + 1) (by omega) (by omega)
    refine br_f (nI_nlt (by omega) (by omega)) ?_
    refine mx_mod hG hs1 (by omega) (fun hc => ?_) (fun hc => ?_)
    · rw [mt_cnT ⟨hs1, hc⟩] at i
      exact br_f (by decide) (nm_r (nI_1 _) (nm_r (nI_1 _) i))
    · rw [mt_cnF (fun z => hc z.2)] at i
      exact br_t rfl (nm_r (nI_1 _) i)
theorem mx_modules {n a : Nat} {N : Nat → Nat} (hG : mt_G n a N) {post : Int32 → Prop} (h1 : post (nI (mt_cn (fun c => 1 ≤ c ∧ mt_mod n N c) (a + 1)))) : wpX_modules post (nI n, nI a, mt_g N) := by
  have i := mx_modulesL hG h1 a 1 (by omega) (by omega)
  rw [mt_cnOne] at i
  exact ⟨a + 1, i⟩
theorem mt_twoN : ∀ n, n < 9 → ∀ s, s < 256 → s < 2 ^ n → 1 ≤ s → (s &&& (s - 1) = 0 ↔ mt_sz s n ≤ 1) := by decide +kernel
theorem mt_two {n s : Nat} (hn : n < 9) (hs : s < 256) (h : s < 2 ^ n) (h1 : 1 ≤ s) : nI s &&& (nI s - 1) = 0 ↔ mt_sz s n ≤ 1 := by
  have e : nI s - 1 = nI (s - 1) := by
    show nI s - nI 1 = _
    exact pk_sub h1
  rw [e, mt_iand0 hs, mt_twoN n hn s hs h h1]
theorem mx_has {n a : Nat} {N : Nat → Nat} {s : Nat} (hG : mt_G n a N) (hs1 : 1 ≤ s) (hs : s ≤ a) {post : Int32 → Prop} (h1 : mt_str n a N s → 1 < mt_sz s n → post 1) (h0 : ¬ (mt_str n a N s ∧ 1 < mt_sz s n) → post 0) : wpX_hasChildren post (nI n, nI a, mt_g N) (nI s) := by
  obtain ⟨g1, g2, g3, g4, g5⟩ := id hG
  refine ek_if (mt_two (n := n) (by omega) (by omega) (by omega) hs1) (fun z => ?_) (fun z => ?_)
  · exact br_t rfl (h0 fun q => by omega)
  · refine br_f (by decide) ?_
    refine mx_str hG hs1 hs (fun q => ?_) (fun q => ?_)
    · exact br_f (by decide) (h1 q (by omega))
    · exact br_t rfl (h0 fun r => q r.1)
theorem mx_hasB {n a : Nat} {N : Nat → Nat} {x : Int32} (hx : mt_bad a x) {post : Int32 → Prop} (h0 : post 0) : wpX_hasChildren post (nI n, nI a, mt_g N) x := by
  refine br_c (fun _ => br_t rfl h0) (fun _ => br_f (by decide) ?_)
  exact mx_strB hx (br_t rfl h0)
/-! kind -/
def mt_nn (n a : Nat) (N : Nat → Nat) (s u : Nat) : Prop := ∀ c w, w < u → mt_chd n a N s c → c.testBit w = true → N w &&& mt_df s c = 0
def mt_aa (n a : Nat) (N : Nat → Nat) (s u : Nat) : Prop := ∀ c w, w < u → mt_chd n a N s c → c.testBit w = true → N w &&& mt_df s c = mt_df s c
theorem mt_nnF {n a : Nat} {N : Nat → Nat} {s u : Nat} (h : s.testBit u = false) : mt_nn n a N s (u + 1) ↔ mt_nn n a N s u := by
  constructor
  · intro q c w hw; exact q c w (by omega)
  · intro q c w hw hc hcw
    by_cases e : w = u
    · subst e; rw [hc.2.2.1 w hcw] at h; exact absurd h (by decide)
    · exact q c w (by omega) hc hcw
theorem mt_aaF {n a : Nat} {N : Nat → Nat} {s u : Nat} (h : s.testBit u = false) : mt_aa n a N s (u + 1) ↔ mt_aa n a N s u := by
  constructor
  · intro q c w hw; exact q c w (by omega)
  · intro q c w hw hc hcw
    by_cases e : w = u
    · subst e; rw [hc.2.2.1 w hcw] at h; exact absurd h (by decide)
    · exact q c w (by omega) hc hcw
theorem mt_nnT {n a : Nat} {N : Nat → Nat} {s u C : Nat} (hs : s ≤ a) (hC : mt_chd n a N s C) (hu : C.testBit u = true) : mt_nn n a N s (u + 1) ↔ (mt_nn n a N s u ∧ N u &&& mt_df s C = 0) := by
  constructor
  · intro q; exact ⟨fun c w hw => q c w (by omega), q C u (by omega) hC hu⟩
  · rintro ⟨q, r⟩ c w hw hc hcw
    by_cases e : w = u
    · subst e; rw [mt_chU hs hc hC hcw hu]; exact r
    · exact q c w (by omega) hc hcw
theorem mt_aaT {n a : Nat} {N : Nat → Nat} {s u C : Nat} (hs : s ≤ a) (hC : mt_chd n a N s C) (hu : C.testBit u = true) : mt_aa n a N s (u + 1) ↔ (mt_aa n a N s u ∧ N u &&& mt_df s C = mt_df s C) := by
  constructor
  · intro q; exact ⟨fun c w hw => q c w (by omega), q C u (by omega) hC hu⟩
  · rintro ⟨q, r⟩ c w hw hc hcw
    by_cases e : w = u
    · subst e; rw [mt_chU hs hc hC hcw hu]; exact r
    · exact q c w (by omega) hc hcw
theorem mx_k75 {post : Int32 → Prop} {J : Int32 → Int32 → Int32 → Prop} {x1 x3 z0 fn fa : Int32} {g : Nat → Int32} {u O M : Nat} {p : Prop} (hO : O < 256) (hM : M < 256) (h3 : mt_fl p x3) (h : ∀ y, mt_fl (p ∧ M = O) y → J z0 y (nI (u + 1))) : wX_kind_75 post J x1 x3 (nI u) (nI O) (nI M) z0 fn fa g := by
  refine ek_if (mt_flz h3) (fun z => nm_r (nI_1 _) (h 0 (mt_fl0 fun q => z q.1))) (fun z => ?_)
  have hp : p := Classical.byContradiction z
  exact ek_if (mt_iE hM hO) (fun e => nm_r (nI_1 _) (h 1 (mt_fl1 ⟨hp, e⟩))) (fun e => nm_r (nI_1 _) (h 0 (mt_fl0 fun q => e q.2)))
theorem mt_ne2 {n s u : Nat} (hs : s < 2 ^ n) (h : 1 < mt_sz s n) (hu : s.testBit u = true) : s ≠ 2 ^ u := by
  intro e
  have hun : u < n := mt_lo hs hu
  subst e
  have : ∀ k, mt_sz (2 ^ u) k ≤ if u < k then 1 else 0 := by
    intro k
    induction k with
    | zero => exact Nat.zero_le _
    | succ k ih =>
      by_cases e : u = k
      · subst e
        rw [mt_szT hu, if_pos (by omega)]
        rw [if_neg (by omega)] at ih
        omega
      · rw [mt_szF (by rw [mt_pt]; exact decide_eq_false e)]
        refine Nat.le_trans ih ?_
        by_cases q : u < k
        · rw [if_pos q, if_pos (by omega)]; exact Nat.le_refl _
        · rw [if_neg q]; exact Nat.zero_le _
  have t := this n
  rw [if_pos hun] at t
  omega
theorem mx_kdL {n a : Nat} {N : Nat → Nat} {s : Nat} (hG : mt_G n a N) (hs1 : 1 ≤ s) (hs : s ≤ a) (hz : 1 < mt_sz s n) {post : Int32 → Prop} (k0 : mt_nn n a N s n → post 0) (k1 : ¬ mt_nn n a N s n → mt_aa n a N s n → post 1) (k2 : ¬ mt_nn n a N s n → ¬ mt_aa n a N s n → post 2) : ∀ d u, u + d = n → ∀ x2 x3, mt_fl (mt_nn n a N s u) x2 → mt_fl (mt_aa n a N s u) x3 → wX_kind_18 post (nI s) (nI n) (nI a) (mt_g N) (d + 1) x2 x3 (nI u) := by
  obtain ⟨g1, g2, g3, g4, g5⟩ := id hG
  intro d
  induction d with
  | zero =>
    intro u hu x2 x3 f2 f3
    have e : u = n := by omega
    subst e
    refine br_t (nI_le (by omega) (by omega)) ?_
    refine ek_if (mt_flz f2) (fun z => ?_) (fun z => k0 (Classical.byContradiction z))
    exact ek_if (mt_flz f3) (fun z2 => k2 z z2) (fun z2 => k1 z (Classical.byContradiction z2))
  | succ d ih =>
    intro u hu x2 x3 f2 f3
    refine br_f (nI_ge (by omega) (by omega)) ?_
    refine ek_if (mt_ibit (by omega) (by omega)) (fun hb => ?_) (fun hb => ?_)
    · exact nm_r (nI_1 _) (ih (u + 1) (by omega) x2 x3 (mt_flE f2 (mt_nnF hb)) (mt_flE f3 (mt_aaF hb)))
    · have hb' : s.testBit u = true := by simpa using hb
      obtain ⟨C, c1, c2, c3, c4, c5, c6⟩ := mt_cwA (n := n) (a := a) (N := N) hs hb' (mt_ne2 (n := n) (by omega) hz hb')
      have hN : N u < 256 := by have := (g5 u).1; omega
      have hO : mt_df s C < 256 := by have := mt_dfle s C; omega
      refine mx_cw hG (by omega) hs c2 c3 c5.1 c4 c5.2.2.1 c6 ?_
      refine nm_r (mt_not (by omega) C) ⟨vp_in_nI (by omega) (by omega), nm_r (e' := nI (N u &&& mt_df s C)) (by rw [mt_gc N (by omega), nx_and]) ?_⟩
      have step : ∀ y2, mt_fl (mt_nn n a N s u ∧ N u &&& mt_df s C = 0) y2 → wX_kind_75 post (wX_kind_18 post (nI s) (nI n) (nI a) (mt_g N) (d + 1)) (nI s) x3 (nI u) (nI (mt_df s C)) (nI (N u &&& mt_df s C)) y2 (nI n) (nI a) (mt_g N) := by
        intro y2 fy
        refine mx_k75 hO (mt_al hN) f3 fun y3 fy3 => ?_
        exact ih (u + 1) (by omega) y2 y3 (mt_flE fy (mt_nnT hs c5 c4)) (mt_flE fy3 (mt_aaT hs c5 c4))
      refine ek_if (mt_flz f2) (fun z => step 0 (mt_fl0 fun q => z q.1)) (fun z => ?_)
      exact ek_if (mt_i0 (mt_al hN)) (fun e => step 1 (mt_fl1 ⟨Classical.byContradiction z, e⟩)) (fun e => step 0 (mt_fl0 fun q => e q.2))
theorem mx_kind {n a : Nat} {N : Nat → Nat} {s : Nat} (hG : mt_G n a N) (hs1 : 1 ≤ s) (hs : s ≤ a) {post : Int32 → Prop} (h0 : ¬ (mt_str n a N s ∧ 1 < mt_sz s n) → post (-2)) (h1 : mt_str n a N s → 1 < mt_sz s n → (mt_nn n a N s n → post 0) ∧ (¬ mt_nn n a N s n → mt_aa n a N s n → post 1) ∧ (¬ mt_nn n a N s n → ¬ mt_aa n a N s n → post 2)) : wpX_kind post (nI n, nI a, mt_g N) (nI s) := by
  unfold wpX_kind
  dsimp only
  refine mx_has hG hs1 hs (fun q1 q2 => ?_) (fun q => br_t rfl (h0 q))
  obtain ⟨k0, k1, k2⟩ := h1 q1 q2
  exact br_f (by decide) ⟨n + 1, mx_kdL hG hs1 hs q2 k0 k1 k2 n 0 (by omega) 1 1 (mt_fl1 fun c w hw => by omega) (mt_fl1 fun c w hw => by omega)⟩
theorem mx_kindB {n a : Nat} {N : Nat → Nat} {x : Int32} (hx : mt_bad a x) {post : Int32 → Prop} (h0 : post (-2)) : wpX_kind post (nI n, nI a, mt_g N) x := by
  unfold wpX_kind
  dsimp only
  exact mx_hasB hx (br_t rfl h0)
/-! children -/
theorem mt_cut {n a : Nat} {N : Nat → Nat} {s l u C : Nat} (hs : s ≤ a) (hs8 : a < 256) (hl : mt_sb l s) (hC : mt_chd n a N s C) (hu : C.testBit u = true) (hlu : l.testBit u = true) (hp : ∀ c, mt_chd n a N s c → mt_sb c l ∨ ∀ i, c.testBit i = true → l.testBit i = false) :
    (∀ c, mt_chd n a N s c → mt_sb c (mt_df l C) ∨ ∀ i, c.testBit i = true → (mt_df l C).testBit i = false) ∧ mt_cn (fun c => 1 ≤ c ∧ mt_chd n a N s c ∧ mt_sb c l) (a + 1) = mt_cn (fun c => 1 ≤ c ∧ mt_chd n a N s c ∧ mt_sb c (mt_df l C)) (a + 1) + 1 := by
  have ll := mt_sble hl
  have l8 : l < 256 := by omega
  have hCl : mt_sb C l := by
    rcases hp C hC with z | z
    · exact z
    · rw [z u hu] at hlu; exact absurd hlu (by decide)
  have key : ∀ c, mt_chd n a N s c → c ≠ C → mt_sb c l → mt_sb c (mt_df l C) := by
    intro c hc ne hcl i hi
    rw [mt_tdf l8, hcl i hi]
    cases e : C.testBit i
    · rfl
    · exact absurd (mt_chU hs hc hC hi e) ne
  have sub : ∀ i, (mt_df l C).testBit i = true → l.testBit i = true ∧ C.testBit i = false := by
    intro i hi
    rw [mt_tdf l8] at hi
    simpa using hi
  refine ⟨fun c hc => ?_, ?_⟩
  · by_cases e : c = C
    · right
      intro i hi
      rw [mt_tdf l8, ← e, hi]
      simp
    · rcases hp c hc with z | z
      · left; exact key c hc e z
      · right
        intro i hi
        rw [mt_tdf l8, z i hi]
        rfl
  · have hCs := mt_sble hC.2.2.1
    refine mt_cn1 (x := C) ⟨mt_pos hu, hC, hCl⟩ (fun z => ?_) (a + 1) (by omega) (fun c _ ne => ?_)
    · have := (sub u (z.2.2 u hu)).2
      rw [hu] at this
      exact absurd this (by decide)
    · constructor
      · rintro ⟨q1, q2, q3⟩; exact ⟨q1, q2, key c q2 ne q3⟩
      · rintro ⟨q1, q2, q3⟩; exact ⟨q1, q2, fun i hi => (sub i (q3 i hi)).1⟩
theorem mx_chL {n a : Nat} {N : Nat → Nat} {s : Nat} (hG : mt_G n a N) (hs1 : 1 ≤ s) (hs : s ≤ a) (hz : 1 < mt_sz s n) {post : Int32 → Prop} (h1 : post (nI (mt_cn (fun c => 1 ≤ c ∧ mt_chd n a N s c) (a + 1)))) : ∀ d u, u + d = n → ∀ k l, k + mt_cn (fun c => 1 ≤ c ∧ mt_chd n a N s c ∧ mt_sb c l) (a + 1) = mt_cn (fun c => 1 ≤ c ∧ mt_chd n a N s c) (a + 1) → mt_sb l s → (∀ c, mt_chd n a N s c → mt_sb c l ∨ ∀ i, c.testBit i = true → l.testBit i = false) → (∀ w, w < u → l.testBit w = false) → wX_children_18 post (nI s) (nI n) (nI a) (mt_g N) (d + 1) (nI k) (nI l) (nI u) := by
  obtain ⟨g1, g2, g3, g4, g5⟩ := id hG
  intro d
  induction d with
  | zero =>
    intro u hu k l hk hl hp hw
    have e : u = n := by omega
    subst e
    have ll := mt_sble hl
    have e0 : l = 0 := by
      rw [mt_z]
      intro i
      cases q : l.testBit i
      · rfl
      · have := hw i (mt_lo (by omega) q); rw [q] at this; exact this
    rw [mt_cn0 (a + 1) (fun c _ z => by
      have := mt_sble z.2.2
      omega), Nat.add_zero] at hk
    exact br_t (nI_le (by omega) (by omega)) (hk ▸ h1)
  | succ d ih =>
    intro u hu k l hk hl hp hw
    have ll := mt_sble hl
    refine br_f (nI_ge (by omega) (by omega)) ?_
    refine ek_if (mt_ibit (by omega) (by omega)) (fun hb => ?_) (fun hb => ?_)
    · refine nm_r (nI_1 _) (ih (u + 1) (by omega) k l hk hl hp fun w h => ?_)
      by_cases e : w = u
      · subst e; exact hb
      · exact hw w (by omega)
    · have hlu : l.testBit u = true := by simpa using hb
      have hb' : s.testBit u = true := hl u hlu
      obtain ⟨C, c1, c2, c3, c4, c5, c6⟩ := mt_cwA (n := n) (a := a) (N := N) hs hb' (mt_ne2 (n := n) (by omega) hz hb')
      obtain ⟨p1, p2⟩ := mt_cut hs g4 hl c5 c4 hlu hp
      have l8 : l < 256 := by omega
      refine mx_cw hG (by omega) hs c2 c3 c5.1 c4 c5.2.2.1 c6 ?_
      refine nm_r (mt_not l8 C) (nm_r (nI_1 _) (nm_r (nI_1 _) ?_))
      refine ih (u + 1) (by omega) (k + 1) (mt_df l C) (by omega) (fun i hi => ?_) p1 (fun w h => ?_)
      · rw [mt_tdf l8] at hi
        simp at hi
        exact hl i hi.1
      · rw [mt_tdf l8]
        by_cases e : w = u
        · subst e; rw [c4]; simp
        · rw [hw w (by omega)]; rfl
theorem mx_children {n a : Nat} {N : Nat → Nat} {s : Nat} (hG : mt_G n a N) (hs1 : 1 ≤ s) (hs : s ≤ a) {post : Int32 → Prop} (h0 : ¬ (mt_str n a N s ∧ 1 < mt_sz s n) → post (-2)) (h1 : mt_str n a N s → 1 < mt_sz s n → post (nI (mt_cn (fun c => 1 ≤ c ∧ mt_chd n a N s c) (a + 1)))) : wpX_children post (nI n, nI a, mt_g N) (nI s) := by
  unfold wpX_children
  dsimp only
  refine mx_has hG hs1 hs (fun q1 q2 => ?_) (fun q => br_t rfl (h0 q))
  refine br_f (by decide) ⟨n + 1, mx_chL hG hs1 hs q2 (h1 q1 q2) n 0 (by omega) 0 s ?_ (mt_sbrf s) (fun c hc => Or.inl hc.2.2.1) (fun w hw => by omega)⟩
  rw [Nat.zero_add]
  exact mt_cnE (a + 1) fun c _ => ⟨fun z => ⟨z.1, z.2.1⟩, fun z => ⟨z.1, z.2, z.2.2.2.1⟩⟩
theorem mx_childrenB {n a : Nat} {N : Nat → Nat} {x : Int32} (hx : mt_bad a x) {post : Int32 → Prop} (h0 : post (-2)) : wpX_children post (nI n, nI a, mt_g N) x := by
  unfold wpX_children
  dsimp only
  exact mx_hasB hx (br_t rfl h0)
end
section
/-! the reference's walks: all, in, lookSame, cross, crossesNone, look, isSet, sizeOf -/
theorem my_all {n a : Nat} {N : Nat → Nat} (hG : mt_G n a N) {kn : Int32} {g md fm : Nat → Int32} {post : Int32 → Prop} (h : post (nI a)) : wpY_all post (nI n, kn, g, md, fm) := by
  obtain ⟨g1, g2, g3, g4, g5⟩ := hG
  have e : ((1 : Int32) <<< (nI n &&& 31)) - 1 = nI a := by
    rw [mt_all n (by omega)]
    exact congrArg nI (by omega)
  show post (((1 : Int32) <<< (nI n &&& 31)) - 1)
  rw [e]
  exact h
theorem my_in {x u : Nat} (hx : x < 256) (hu : u < 8) {fn kn : Int32} {g md fm : Nat → Int32} {post : Int32 → Prop} (h1 : x.testBit u = true → post 1) (h0 : x.testBit u = false → post 0) : wpY_in post (fn, kn, g, md, fm) (nI x) (nI u) :=
  ek_if (mt_iin hx hu) h1 fun z => h0 (by simpa using z)
theorem my_lsL {n a : Nat} {N : Nat → Nat} {s : Nat} (hG : mt_G n a N) (hs : s < 256) {kn : Int32} {md fm : Nat → Int32} {post : Int32 → Prop} (h1 : mt_mod n N s → post 1) (h0 : ¬ mt_mod n N s → post 0) : ∀ d u, u + d = n → (∀ w, w < u → s.testBit w = false → N w &&& s = 0 ∨ N w &&& s = s) → wY_lookSame_2 post (nI s) (nI n) kn (mt_g N) md fm (d + 1) (nI u) := by
  obtain ⟨g1, g2, g3, g4, g5⟩ := hG
  intro d
  induction d with
  | zero =>
    intro u hu hw
    refine br_t (nI_le (by omega) (by omega)) (h1 fun w hw' => hw w (by omega))
  | succ d ih =>
    intro u hu hw
    have next : (s.testBit u = false → N u &&& s = 0 ∨ N u &&& s = s) → wY_lookSame_2 post (nI s) (nI n) kn (mt_g N) md fm (d + 1) (nI u + 1) := by
      intro hc
      rw [nI_1]
      refine ih (u + 1) (by omega) fun w h => ?_
      by_cases e : w = u
      · subst e; exact hc
      · exact hw w (by omega)
    have hN : N u < 256 := by have := (g5 u).1; omega
    refine br_f (nI_ge (by omega) (by omega)) ⟨vp_in_nI (by omega) (by omega), nm_r (e' := nI (N u &&& s)) (by rw [mt_gc N (by omega), nx_and]) ?_⟩
    refine my_in hs (by omega) (fun hb => ?_) (fun hb => ?_)
    · exact br_f (by decide) (nm_e (next fun z => by rw [hb] at z; exact absurd z (by decide)))
    · refine br_t rfl ?_
      refine ek_if (mt_i0 (mt_al hN)) (fun hz => nm_e (next fun _ => Or.inl hz)) (fun hz => ?_)
      refine ek_if (mt_iE (mt_al hN) hs) (fun he => nm_e (next fun _ => Or.inr he)) (fun he => h0 fun hm => ?_)
      rcases hm u (by omega) hb with q | q
      · exact hz q
      · exact he q
theorem my_ls {n a : Nat} {N : Nat → Nat} {s : Nat} (hG : mt_G n a N) (hs : s < 256) {kn : Int32} {md fm : Nat → Int32} {post : Int32 → Prop} (h1 : mt_mod n N s → post 1) (h0 : ¬ mt_mod n N s → post 0) : wpY_lookSame post (nI n, kn, mt_g N, md, fm) (nI s) :=
  ⟨n + 1, my_lsL hG hs h1 h0 n 0 (by omega) fun w hw => by omega⟩
theorem my_crs {x y : Nat} (hx : x < 256) (hy : y < 256) {fn kn : Int32} {g md fm : Nat → Int32} {post : Int32 → Prop} (h1 : mt_crs x y → post 1) (h0 : ¬ mt_crs x y → post 0) : wpY_cross post (fn, kn, g, md, fm) (nI x) (nI y) := by
  refine ek_if (mt_iand0 hx y) (fun z => h0 fun c => (mt_andn0 x y).mpr c.1 z) fun z => ?_
  refine ek_if (mt_idf hx y) (fun z2 => h0 fun c => c.2.1 z2) fun z2 => ?_
  exact ek_if (mt_idf hy x) (fun z3 => h0 fun c => c.2.2 z3) fun z3 => h1 ⟨(mt_andn0 x y).mp z, z2, z3⟩
theorem mt_ft {p : Prop} {f : Nat → Int32} {s : Nat} (hs : s < 256) (h : mt_fl p (f s)) : f (nI s).toNatClampNeg = 0 ↔ ¬ p := by
  rw [nI_clamp (by omega)]
  exact mt_flz h
theorem my_cnL {n a : Nat} {N : Nat → Nat} {s : Nat} (hG : mt_G n a N) (hs : s < 256) {kn : Int32} {g md fm : Nat → Int32} (hT : ∀ w, 1 ≤ w → w ≤ a → mt_fl (mt_mod n N w) (md w)) {post : Int32 → Prop} (h1 : (∀ o, 1 ≤ o → o ≤ a → mt_mod n N o → ¬ mt_crs s o) → post 1) (h0 : ¬ (∀ o, 1 ≤ o → o ≤ a → mt_mod n N o → ¬ mt_crs s o) → post 0) : ∀ d o, o + d = a + 1 → 1 ≤ o → (∀ w, 1 ≤ w → w < o → mt_mod n N w → ¬ mt_crs s w) → wY_crossesNone_2 post (nI s) (nI n) kn g md fm (d + 1) (nI o) := by
  have g4 := hG.2.2.2.1
  intro d
  induction d with
  | zero =>
    intro o ho h hw
    rw [wY_crossesNone_2]
    refine my_all hG ?_
    exact br_t (nI_lt (by omega) (by omega)) (h1 fun w q1 q2 => hw w q1 (by omega))
  | succ d ih =>
    intro o ho h hw
    have next : (mt_mod n N o → ¬ mt_crs s o) → wY_crossesNone_2 post (nI s) (nI n) kn g md fm (d + 1) (nI o + 1) := by
      intro hc
      rw [nI_1]
      refine ih (o + 1) (by omega) (by omega) fun w q h => ?_
      by_cases e : w = o
      · subst e; exact hc
      · exact hw w q (by omega)
    rw [wY_crossesNone_2]
    refine my_all hG ?_
    refine br_f (nI_nlt (by omega) (by omega)) ⟨vp_in_nI (by omega) (by omega), ?_⟩
    refine ek_if (mt_ft (by omega) (hT o h (by omega))) (fun z => nm_e (next fun q => absurd q z)) (fun z => ?_)
    refine my_crs hs (by omega) (fun hc => ?_) (fun hc => ?_)
    · exact br_f (by decide) (h0 fun q => q o h (by omega) (Classical.byContradiction z) hc)
    · exact br_t rfl (nm_e (next fun _ => hc))
theorem my_cn {n a : Nat} {N : Nat → Nat} {s : Nat} (hG : mt_G n a N) (hs : s < 256) (hm : mt_mod n N s) {kn : Int32} {g md fm : Nat → Int32} (hT : ∀ w, 1 ≤ w → w ≤ a → mt_fl (mt_mod n N w) (md w)) {post : Int32 → Prop} (h1 : mt_str n a N s → post 1) (h0 : ¬ mt_str n a N s → post 0) : wpY_crossesNone post (nI n, kn, g, md, fm) (nI s) :=
  ⟨a + 1, my_cnL hG hs hT (fun z => h1 ⟨hm, z⟩) (fun z => h0 fun q => z q.2) a 1 (by omega) (by omega) fun w q1 q2 => by omega⟩
def mt_T (n a : Nat) (N : Nat → Nat) (md fm : Nat → Int32) : Prop := ∀ s, 1 ≤ s → s ≤ a → mt_fl (mt_mod n N s) (md s) ∧ mt_fl (mt_str n a N s) (fm s)
def mt_K (n a : Nat) (N : Nat → Nat) (kn : Int32) (md fm : Nat → Int32) : Prop := kn = 0 ∨ (kn = 1 ∧ mt_T n a N md fm)
theorem mt_nb1 : vp_nar .boolean 1 = 1 := rfl
theorem mt_nb0 : vp_nar .boolean 0 = 0 := rfl
/-- one more right row in a table -/
theorem mt_put {P : Nat → Prop} {f : Nat → Int32} {s : Nat} {x y : Int32} (hs : s < 256) (h : ∀ w, 1 ≤ w → w < s → mt_fl (P w) (f w)) (hx : mt_fl (P s) x) (e : y = x) : ∀ w, 1 ≤ w → w < s + 1 → mt_fl (P w) (upd f (nI s).toNatClampNeg y w) := by
  intro w q1 q2
  rw [nI_clamp (by omega)]
  by_cases z : w = s
  · subst z; rw [pk_us, e]; exact hx
  · rw [pk_un z]; exact h w q1 (by omega)
theorem my_lk37 {n a : Nat} {N : Nat → Nat} (hG : mt_G n a N) {kn : Int32} {md : Nat → Int32} (hT : ∀ w, 1 ≤ w → w ≤ a → mt_fl (mt_mod n N w) (md w)) {post : SY → Prop} (h : ∀ fm, mt_T n a N md fm → post (nI n, 1, mt_g N, md, fm)) : ∀ d s, s + d = a + 1 → 1 ≤ s → ∀ fm, (∀ w, 1 ≤ w → w < s → mt_fl (mt_str n a N w) (fm w)) → wY_look_37 post (nI n) kn (d + 1) (nI s) (mt_g N) md fm := by
  have g4 := hG.2.2.2.1
  intro d
  induction d with
  | zero =>
    intro s hs h1 fm hf
    rw [wY_look_37]
    refine my_all hG ?_
    exact br_t (nI_lt (by omega) (by omega)) (h fm fun w q1 q2 => ⟨hT w q1 q2, hf w q1 (by omega)⟩)
  | succ d ih =>
    intro s hs h1 fm hf
    rw [wY_look_37]
    refine my_all hG ?_
    refine br_f (nI_nlt (by omega) (by omega)) ⟨vp_in_nI (by omega) (by omega), ?_⟩
    refine ek_if (mt_ft (by omega) (hT s h1 (by omega))) (fun z => ?_) (fun z => ?_)
    · exact ⟨vp_in_nI (by omega) (by omega), nm_e (nm_r (nI_1 _) (ih (s + 1) (by omega) (by omega) _ (mt_put (by omega) hf (mt_fl0 fun q => z q.1) mt_nb0)))⟩
    · refine my_cn hG (by omega) (Classical.byContradiction z) hT (fun q => ?_) (fun q => ?_)
      · exact br_f (by decide) ⟨vp_in_nI (by omega) (by omega), nm_e (nm_r (nI_1 _) (ih (s + 1) (by omega) (by omega) _ (mt_put (by omega) hf (mt_fl1 q) mt_nb1)))⟩
      · exact br_t rfl ⟨vp_in_nI (by omega) (by omega), nm_e (nm_r (nI_1 _) (ih (s + 1) (by omega) (by omega) _ (mt_put (by omega) hf (mt_fl0 q) mt_nb0)))⟩
theorem my_lk10 {n a : Nat} {N : Nat → Nat} (hG : mt_G n a N) {kn : Int32} {fm : Nat → Int32} {post : SY → Prop} (h : ∀ md fm, mt_T n a N md fm → post (nI n, 1, mt_g N, md, fm)) : ∀ d s, s + d = a + 1 → 1 ≤ s → ∀ md, (∀ w, 1 ≤ w → w < s → mt_fl (mt_mod n N w) (md w)) → wY_look_10 post (nI n) kn (d + 1) (nI s) (mt_g N) md fm := by
  have g4 := hG.2.2.2.1
  intro d
  induction d with
  | zero =>
    intro s hs h1 md hf
    rw [wY_look_10]
    refine my_all hG ?_
    exact br_t (nI_lt (by omega) (by omega)) ⟨a + 1, my_lk37 hG (fun w q1 q2 => hf w q1 (by omega)) (h md) a 1 (by omega) (by omega) fm (fun w q1 q2 => by omega)⟩
  | succ d ih =>
    intro s hs h1 md hf
    rw [wY_look_10]
    refine my_all hG ?_
    refine br_f (nI_nlt (by omega) (by omega)) ?_
    refine my_ls hG (by omega) (fun q => ?_) (fun q => ?_)
    · exact ⟨vp_in_nI (by omega) (by omega), nm_e (nm_r (nI_1 _) (ih (s + 1) (by omega) (by omega) _ (mt_put (by omega) hf (mt_fl1 q) mt_nb1)))⟩
    · exact ⟨vp_in_nI (by omega) (by omega), nm_e (nm_r (nI_1 _) (ih (s + 1) (by omega) (by omega) _ (mt_put (by omega) hf (mt_fl0 q) mt_nb0)))⟩
theorem my_look {n a : Nat} {N : Nat → Nat} (hG : mt_G n a N) {kn : Int32} {md fm : Nat → Int32} (hK : mt_K n a N kn md fm) {post : SY → Prop} (h : ∀ md fm, mt_T n a N md fm → post (nI n, 1, mt_g N, md, fm)) : wpY_look post (nI n, kn, mt_g N, md, fm) := by
  rcases hK with e | ⟨e, hT⟩
  · exact br_t e ⟨a + 1, my_lk10 hG h a 1 (by omega) (by omega) md (fun w q1 q2 => by omega)⟩
  · subst e
    exact br_f (by decide) (h md fm hT)
theorem my_set {n a : Nat} {N : Nat → Nat} (hG : mt_G n a N) {s : Nat} (h1 : 1 ≤ s) (hs : s ≤ a) {kn : Int32} {g md fm : Nat → Int32} {post : Int32 → Prop} (h : post 1) : wpY_isSet post (nI n, kn, g, md, fm) (nI s) := by
  have g4 := hG.2.2.2.1
  exact br_f (nI_ge (a := 0) h1 (by omega)) (my_all hG (br_f (nI_nlt (by omega) (by omega)) h))
theorem mt_le0 {x : Int32} (h : x < 1) : x ≤ 0 := by
  rw [Int32.lt_iff_toInt_lt] at h
  rw [Int32.le_iff_toInt_le]
  have e1 : (1 : Int32).toInt = 1 := by decide
  have e0 : (0 : Int32).toInt = 0 := by decide
  omega
theorem my_setB {n a : Nat} {N : Nat → Nat} (hG : mt_G n a N) {x : Int32} (hx : mt_bad a x) {kn : Int32} {g md fm : Nat → Int32} {post : Int32 → Prop} (h : post 0) : wpY_isSet post (nI n, kn, g, md, fm) x := by
  rcases hx with z | z
  · exact br_t (mt_le0 z) h
  · exact br_c (fun _ => h) (fun _ => my_all hG (br_t z h))
theorem my_szL {n a : Nat} {N : Nat → Nat} (hG : mt_G n a N) {s : Nat} (hs : s < 256) {kn : Int32} {g md fm : Nat → Int32} {post : Int32 → Prop} (h : post (nI (mt_sz s n))) : ∀ d u, u + d = n → wY_sizeOf_4 post (nI s) (nI n) kn g md fm (d + 1) (nI (mt_sz s u)) (nI u) := by
  obtain ⟨g1, g2, g3, g4, g5⟩ := id hG
  intro d
  induction d with
  | zero =>
    intro u hu
    have e : u = n := by omega
    subst e
    exact br_t (nI_le (by omega) (by omega)) h
  | succ d ih =>
    intro u hu
    have i := ih (u + 1) (by omega)
    refine br_f (nI_ge (by omega) (by omega)) ?_
    refine my_in hs (by omega) (fun hb => ?_) (fun hb => ?_)
    · rw [mt_szT hb] at i
      exact br_f (by decide) (nm_r (nI_1 _) (nm_r (nI_1 _) i))
    · rw [mt_szF hb] at i
      exact br_t rfl (nm_r (nI_1 _) i)
theorem my_sz {n a : Nat} {N : Nat → Nat} (hG : mt_G n a N) {s : Nat} (hs : s < 256) {kn : Int32} {g md fm : Nat → Int32} {post : Int32 → Prop} (h : post (nI (mt_sz s n))) : wpY_sizeOf post (nI n, kn, g, md, fm) (nI s) :=
  ⟨n + 1, my_szL hG hs h n 0 (by omega)⟩
end
section
/-! the reference's walks: isModule, isStrong, smallest, counts, isInner -/
theorem my_isM {n a : Nat} {N : Nat → Nat} (hG : mt_G n a N) {kn : Int32} {md fm : Nat → Int32} (hK : mt_K n a N kn md fm) {s : Nat} (h1 : 1 ≤ s) (hs : s ≤ a) {post : Int32 → SY → Prop} (h : ∀ md fm, mt_T n a N md fm → (mt_mod n N s → post 1 (nI n, 1, mt_g N, md, fm)) ∧ (¬ mt_mod n N s → post 0 (nI n, 1, mt_g N, md, fm))) : wpY_isModule post (nI n, kn, mt_g N, md, fm) (nI s) := by
  have g4 := hG.2.2.2.1
  unfold wpY_isModule
  dsimp only
  refine my_look hG hK fun md fm hT => ?_
  dsimp only
  refine my_set hG h1 hs ?_
  refine br_f (by decide) ⟨vp_in_nI (by omega) (by omega), ?_⟩
  exact ek_if (mt_ft (by omega) (hT s h1 hs).1) (fun z => (h md fm hT).2 z) (fun z => (h md fm hT).1 (Classical.byContradiction z))
theorem my_isMB {n a : Nat} {N : Nat → Nat} (hG : mt_G n a N) {kn : Int32} {md fm : Nat → Int32} (hK : mt_K n a N kn md fm) {x : Int32} (hx : mt_bad a x) {post : Int32 → SY → Prop} (h : ∀ md fm, mt_T n a N md fm → post 0 (nI n, 1, mt_g N, md, fm)) : wpY_isModule post (nI n, kn, mt_g N, md, fm) x := by
  unfold wpY_isModule
  dsimp only
  refine my_look hG hK fun md fm hT => ?_
  dsimp only
  refine my_setB hG hx ?_
  exact br_t rfl (h md fm hT)
theorem my_isS {n a : Nat} {N : Nat → Nat} (hG : mt_G n a N) {kn : Int32} {md fm : Nat → Int32} (hK : mt_K n a N kn md fm) {s : Nat} (h1 : 1 ≤ s) (hs : s ≤ a) {post : Int32 → SY → Prop} (h : ∀ md fm, mt_T n a N md fm → (mt_str n a N s → post 1 (nI n, 1, mt_g N, md, fm)) ∧ (¬ mt_str n a N s → post 0 (nI n, 1, mt_g N, md, fm))) : wpY_isStrong post (nI n, kn, mt_g N, md, fm) (nI s) := by
  have g4 := hG.2.2.2.1
  unfold wpY_isStrong
  dsimp only
  refine my_look hG hK fun md fm hT => ?_
  dsimp only
  refine my_set hG h1 hs ?_
  refine br_f (by decide) ⟨vp_in_nI (by omega) (by omega), ?_⟩
  exact ek_if (mt_ft (by omega) (hT s h1 hs).2) (fun z => (h md fm hT).2 z) (fun z => (h md fm hT).1 (Classical.byContradiction z))
theorem my_isSB {n a : Nat} {N : Nat → Nat} (hG : mt_G n a N) {kn : Int32} {md fm : Nat → Int32} (hK : mt_K n a N kn md fm) {x : Int32} (hx : mt_bad a x) {post : Int32 → SY → Prop} (h : ∀ md fm, mt_T n a N md fm → post 0 (nI n, 1, mt_g N, md, fm)) : wpY_isStrong post (nI n, kn, mt_g N, md, fm) x := by
  unfold wpY_isStrong
  dsimp only
  refine my_look hG hK fun md fm hT => ?_
  dsimp only
  refine my_setB hG hx ?_
  exact br_t rfl (h md fm hT)
theorem my_inn {n a : Nat} {N : Nat → Nat} (hG : mt_G n a N) {kn : Int32} {md fm : Nat → Int32} (hK : mt_K n a N kn md fm) {s : Nat} (h1 : 1 ≤ s) (hs : s ≤ a) {post : Int32 → SY → Prop} (h : ∀ md fm, mt_T n a N md fm → (mt_str n a N s → 1 < mt_sz s n → post 1 (nI n, 1, mt_g N, md, fm)) ∧ (¬ (mt_str n a N s ∧ 1 < mt_sz s n) → post 0 (nI n, 1, mt_g N, md, fm))) : wpY_isInner post (nI n, kn, mt_g N, md, fm) (nI s) := by
  have g4 := hG.2.2.2.1
  have g2 := hG.2.1
  have sl := mt_szLe s n
  unfold wpY_isInner
  dsimp only
  refine my_look hG hK fun md fm hT => ?_
  dsimp only
  refine my_set hG h1 hs ?_
  refine br_f (by decide) ⟨vp_in_nI (by omega) (by omega), ?_⟩
  refine ek_if (mt_ft (by omega) (hT s h1 hs).2) (fun z => (h md fm hT).2 fun q => z q.1) (fun z => ?_)
  refine my_sz hG (by omega) ?_
  refine ek_if (nI_leI (b := 1) (by omega) (by omega)) (fun q => (h md fm hT).2 fun r => by omega) (fun q => (h md fm hT).1 (Classical.byContradiction z) (by omega))
theorem my_innB {n a : Nat} {N : Nat → Nat} (hG : mt_G n a N) {kn : Int32} {md fm : Nat → Int32} (hK : mt_K n a N kn md fm) {x : Int32} (hx : mt_bad a x) {post : Int32 → SY → Prop} (h : ∀ md fm, mt_T n a N md fm → post 0 (nI n, 1, mt_g N, md, fm)) : wpY_isInner post (nI n, kn, mt_g N, md, fm) x := by
  unfold wpY_isInner
  dsimp only
  refine my_look hG hK fun md fm hT => ?_
  dsimp only
  refine my_setB hG hx ?_
  exact br_t rfl (h md fm hT)
theorem my_smL {n a : Nat} {N : Nat → Nat} (hG : mt_G n a N) {md fm : Nat → Int32} (hT : mt_T n a N md fm) {F : Nat → Prop} {x2 : Int32} (hF : (x2 = 0 ∧ F = mt_mod n N) ∨ (x2 = 1 ∧ F = mt_str n a N)) {p L A : Nat} (hp : p < 256) (hL : L < 256) (hA1 : 1 ≤ A) (hA : A ≤ a) (hP : F A ∧ mt_sb p A ∧ L < mt_sz A n) (hf : ∀ s, 1 ≤ s → s < A → ¬ (F s ∧ mt_sb p s ∧ L < mt_sz s n)) (hm : ∀ s, s ≤ a → F s → mt_sb p s → L < mt_sz s n → mt_sz A n ≤ mt_sz s n) {post : Int32 → SY → Prop} (h : post (nI A) (nI n, 1, mt_g N, md, fm)) : ∀ d s, s + d = a + 1 → 1 ≤ s → ∀ b, (A < s → b = A) → (s ≤ A → b = 0) → wY_smallest_10 post (nI p) x2 (nI L) (nI n) 1 (mt_g N) md fm (d + 1) (nI b) (nI s) := by
  have g4 := hG.2.2.2.1
  have g2 := hG.2.1
  intro d
  induction d with
  | zero =>
    intro s hs _ b b1 _
    rw [wY_smallest_10]
    refine my_all hG ?_
    have e : b = A := b1 (by omega)
    subst e
    exact br_t (nI_lt (by omega) (by omega)) h
  | succ d ih =>
    intro s hs hs1 b b1 b2
    have sl := mt_szLe s n
    have Al := mt_szLe A n
    have stay : s ≠ A → wY_smallest_10 post (nI p) x2 (nI L) (nI n) 1 (mt_g N) md fm (d + 1) (nI b) (nI s + 1) := by
      intro ne
      rw [nI_1]
      exact ih (s + 1) (by omega) (by omega) b (fun z => b1 (by omega)) (fun z => b2 (by omega))
    have k69 : s ≠ A → wY_smallest_69 post (wY_smallest_10 post (nI p) x2 (nI L) (nI n) 1 (mt_g N) md fm (d + 1)) (nI p) x2 (nI L) (nI b) (nI s) (nI n) 1 (mt_g N) md fm := fun ne => br_t rfl (nm_e (stay ne))
    have k70 : F s → mt_sb p s → L < mt_sz s n → wY_smallest_70 post (wY_smallest_10 post (nI p) x2 (nI L) (nI n) 1 (mt_g N) md fm (d + 1)) (nI p) x2 (nI L) (nI b) (nI s) 1 (nI n) 1 (mt_g N) md fm := by
      intro q1 q2 q3
      have hsA : A ≤ s := by
        rcases Nat.lt_or_ge s A with z | z
        · exact absurd ⟨q1, q2, q3⟩ (hf s hs1 z)
        · exact z
      refine br_f (by decide) ?_
      by_cases e : s = A
      · have e0 : b = 0 := b2 (by omega)
        subst e0
        exact br_t rfl (nm_r (nI_1 _) (ih (s + 1) (by omega) (by omega) s (fun _ => e) (fun z => by omega)))
      · have eA : b = A := b1 (by omega)
        have hq := hm s (by omega) q1 q2 q3
        subst eA
        refine br_f (nI_ne0 (by omega) (by omega)) ?_
        refine my_sz hG (by omega) ?_
        refine my_sz hG (by omega) ?_
        exact br_t (nI_le hq (by omega)) (nm_e (stay e))
    have k46 : F s → wY_smallest_46 post (wY_smallest_10 post (nI p) x2 (nI L) (nI n) 1 (mt_g N) md fm (d + 1)) (nI p) x2 (nI L) (nI b) (nI s) (nI n) 1 (mt_g N) md fm := by
      intro q1
      refine ek_if (mt_idf hp s) (fun hb => ?_) (fun hb => k69 fun e => hb (e ▸ hP.2.1))
      refine my_sz hG (by omega) ?_
      refine ek_if (nI_leI (by omega) (by omega)) (fun z => k69 fun e => ?_) (fun z => k70 q1 hb (by omega))
      subst e
      have := hP.2.2
      omega
    rw [wY_smallest_10]
    refine my_all hG ?_
    refine br_f (nI_nlt (by omega) (by omega)) ?_
    rcases hF with ⟨rfl, rfl⟩ | ⟨rfl, rfl⟩
    · refine br_t rfl ⟨vp_in_nI (by omega) (by omega), ?_⟩
      exact ek_if (mt_ft (by omega) (hT s hs1 (by omega)).1) (fun z => k69 fun e => z (e ▸ hP.1)) (fun z => k46 (Classical.byContradiction z))
    · refine br_f (by decide) ⟨vp_in_nI (by omega) (by omega), ?_⟩
      exact ek_if (mt_ft (by omega) (hT s hs1 (by omega)).2) (fun z => k69 fun e => z (e ▸ hP.1)) (fun z => k46 (Classical.byContradiction z))
theorem my_sm {n a : Nat} {N : Nat → Nat} (hG : mt_G n a N) {kn : Int32} {md fm : Nat → Int32} (hK : mt_K n a N kn md fm) {F : Nat → Prop} {x2 : Int32} (hF : (x2 = 0 ∧ F = mt_mod n N) ∨ (x2 = 1 ∧ F = mt_str n a N)) {p L A : Nat} (hp : p < 256) (hL : L < 256) (hA1 : 1 ≤ A) (hA : A ≤ a) (hP : F A ∧ mt_sb p A ∧ L < mt_sz A n) (hf : ∀ s, 1 ≤ s → s < A → ¬ (F s ∧ mt_sb p s ∧ L < mt_sz s n)) (hm : ∀ s, s ≤ a → F s → mt_sb p s → L < mt_sz s n → mt_sz A n ≤ mt_sz s n) {post : Int32 → SY → Prop} (h : ∀ md fm, mt_T n a N md fm → post (nI A) (nI n, 1, mt_g N, md, fm)) : wpY_smallest post (nI n, kn, mt_g N, md, fm) (nI p) x2 (nI L) := by
  unfold wpY_smallest
  dsimp only
  refine my_look hG hK fun md fm hT => ?_
  dsimp only
  exact ⟨a + 1, my_smL hG hT hF hp hL hA1 hA hP hf hm (h md fm hT) a 1 (by omega) (by omega) 0 (fun z => by omega) (fun _ => rfl)⟩
theorem my_strongL {n a : Nat} {N : Nat → Nat} (hG : mt_G n a N) {md fm : Nat → Int32} (hT : mt_T n a N md fm) {post : Int32 → SY → Prop} (h : post (nI (mt_cn (fun c => 1 ≤ c ∧ mt_str n a N c) (a + 1))) (nI n, 1, mt_g N, md, fm)) : ∀ d s, s + d = a + 1 → 1 ≤ s → wY_strong_8 post (nI n) 1 (mt_g N) md fm (d + 1) (nI (mt_cn (fun c => 1 ≤ c ∧ mt_str n a N c) s)) (nI s) := by
  have g4 := hG.2.2.2.1
  intro d
  induction d with
  | zero =>
    intro s hs _
    have e : s = a + 1 := by omega
    subst e
    rw [wY_strong_8]
    refine my_all hG ?_
    exact br_t (nI_lt (by omega) (by omega)) h
  | succ d ih =>
    intro s hs hs1
    have i := ih (s + 1) (by omega) (by omega)
    rw [wY_strong_8]
    refine my_all hG ?_
    refine br_f (nI_nlt (by omega) (by omega)) ⟨vp_in_nI (by omega) (by omega), ?_⟩
    refine ek_if (mt_ft (by omega) (hT s hs1 (by omega)).2) (fun z => ?_) (fun z => ?_)
    · rw [mt_cnF (fun q => z q.2)] at i
      exact nm_r (nI_1 _) i
    · rw [mt_cnT ⟨hs1, Classical.byContradiction z⟩] at i
      exact nm_r (nI_1 _) (nm_r (nI_1 _) i)
theorem my_strong {n a : Nat} {N : Nat → Nat} (hG : mt_G n a N) {kn : Int32} {md fm : Nat → Int32} (hK : mt_K n a N kn md fm) {post : Int32 → SY → Prop} (h : ∀ md fm, mt_T n a N md fm → post (nI (mt_cn (fun c => 1 ≤ c ∧ mt_str n a N c) (a + 1))) (nI n, 1, mt_g N, md, fm)) : wpY_strong post (nI n, kn, mt_g N, md, fm) := by
  unfold wpY_strong
  dsimp only
  refine my_look hG hK fun md fm hT => ?_
  dsimp only
  have i := my_strongL hG hT (h md fm hT) a 1 (by omega) (by omega)
  rw [mt_cnOne] at i
  exact ⟨a + 1, i⟩
theorem my_modulesL {n a : Nat} {N : Nat → Nat} (hG : mt_G n a N) {md fm : Nat → Int32} (hT : mt_T n a N md fm) {post : Int32 → SY → Prop} (h : post (nI (mt_cn (fun c => 1 ≤ c ∧ mt_mod n N c) (a + 1))) (nI n, 1, mt_g N, md, fm)) : ∀ d s, s + d = a + 1 → 1 ≤ s → wY_modules_8 post (nI n) 1 (mt_g N) md fm (d + 1) (nI (mt_cn (fun c => 1 ≤ c ∧ mt_mod n N c) s)) (nI s) := by
  have g4 := hG.2.2.2.1
  intro d
  induction d with
  | zero =>
    intro s hs _
    have e : s = a + 1 := by omega
    subst e
    rw [wY_modules_8]
    refine my_all hG ?_
    exact br_t (nI_lt (by omega) (by omega)) h
  | succ d ih =>
    intro s hs hs1
    have i := ih (s + 1) (by omega) (by omega)
    rw [wY_modules_8]
    refine my_all hG ?_
    refine br_f (nI_nlt (by omega) (by omega)) ⟨vp_in_nI (by omega) (by omega), ?_⟩
    refine ek_if (mt_ft (by omega) (hT s hs1 (by omega)).1) (fun z => ?_) (fun z => ?_)
    · rw [mt_cnF (fun q => z q.2)] at i
      exact nm_r (nI_1 _) i
    · rw [mt_cnT ⟨hs1, Classical.byContradiction z⟩] at i
      exact nm_r (nI_1 _) (nm_r (nI_1 _) i)
theorem my_modules {n a : Nat} {N : Nat → Nat} (hG : mt_G n a N) {kn : Int32} {md fm : Nat → Int32} (hK : mt_K n a N kn md fm) {post : Int32 → SY → Prop} (h : ∀ md fm, mt_T n a N md fm → post (nI (mt_cn (fun c => 1 ≤ c ∧ mt_mod n N c) (a + 1))) (nI n, 1, mt_g N, md, fm)) : wpY_modules post (nI n, kn, mt_g N, md, fm) := by
  unfold wpY_modules
  dsimp only
  refine my_look hG hK fun md fm hT => ?_
  dsimp only
  have i := my_modulesL hG hT (h md fm hT) a 1 (by omega) (by omega)
  rw [mt_cnOne] at i
  exact ⟨a + 1, i⟩
end
section
/-! the reference's walks: isChild, kind, children -/
theorem my_icL {n a : Nat} {N : Nat → Nat} (hG : mt_G n a N) {g md fm : Nat → Int32} (hT : mt_T n a N md fm) {c s : Nat} (hc : c < 256) (hs : s < 256) {post : Int32 → Prop} (h1 : (∀ o, 1 ≤ o → o ≤ a → ¬ mt_btw n a N c s o) → post 1) (h0 : ¬ (∀ o, 1 ≤ o → o ≤ a → ¬ mt_btw n a N c s o) → post 0) : ∀ d o, o + d = a + 1 → 1 ≤ o → (∀ w, 1 ≤ w → w < o → ¬ mt_btw n a N c s w) → wY_isChild_26 post (nI c) (nI s) (nI n) 1 g md fm (d + 1) (nI o) := by
  have g4 := hG.2.2.2.1
  intro d
  induction d with
  | zero =>
    intro o ho h hw
    rw [wY_isChild_26]
    refine my_all hG ?_
    exact br_t (nI_lt (by omega) (by omega)) (h1 fun w q1 q2 => hw w q1 (by omega))
  | succ d ih =>
    intro o ho h hw
    have k73 : ¬ mt_btw n a N c s o → wY_isChild_73 post (wY_isChild_26 post (nI c) (nI s) (nI n) 1 g md fm (d + 1)) (nI c) (nI s) (nI o) (nI n) 1 g md fm := by
      intro hb
      refine br_t rfl (nm_r (nI_1 _) (ih (o + 1) (by omega) (by omega) fun w q h => ?_))
      by_cases e : w = o
      · subst e; exact hb
      · exact hw w q (by omega)
    rw [wY_isChild_26]
    refine my_all hG ?_
    refine br_f (nI_nlt (by omega) (by omega)) ⟨vp_in_nI (by omega) (by omega), ?_⟩
    refine ek_if (mt_ft (by omega) (hT o h (by omega)).2) (fun z => k73 fun q => z q.1) (fun z => ?_)
    refine ek_if (mt_iE (by omega) hs) (fun e => k73 fun q => q.2.1 e) (fun ne => ?_)
    refine ek_if (mt_iE (by omega) hc) (fun e => k73 fun q => q.2.2.1 e) (fun ne2 => ?_)
    refine ek_if (mt_idf hc o) (fun b1 => ?_) (fun b1 => k73 fun q => b1 q.2.2.2.1)
    refine ek_if (mt_idf (by omega) s) (fun b2 => ?_) (fun b2 => k73 fun q => b2 q.2.2.2.2)
    exact br_f (by decide) (h0 fun q => q o h (by omega) ⟨Classical.byContradiction z, ne, ne2, b1, b2⟩)
theorem my_ic {n a : Nat} {N : Nat → Nat} (hG : mt_G n a N) {g md fm : Nat → Int32} (hT : mt_T n a N md fm) {c s : Nat} (hc1 : 1 ≤ c) (hc : c ≤ a) (hs : s < 256) {post : Int32 → Prop} (h1 : mt_chd n a N s c → post 1) (h0 : ¬ mt_chd n a N s c → post 0) : wpY_isChild post (nI n, 1, g, md, fm) (nI c) (nI s) := by
  have g4 := hG.2.2.2.1
  refine ⟨vp_in_nI (by omega) (by omega), ?_⟩
  refine ek_if (mt_ft (by omega) (hT c hc1 hc).2) (fun z => h0 fun q => z q.1) (fun z => ?_)
  refine ek_if (mt_iE (by omega) hs) (fun e => h0 fun q => q.2.1 e) (fun ne => ?_)
  refine ek_if (mt_idf (by omega) s) (fun b => ?_) (fun b => h0 fun q => b q.2.2.1)
  exact ⟨a + 1, my_icL hG hT (by omega) hs (fun q => h1 ⟨Classical.byContradiction z, ne, b, q⟩) (fun q => h0 fun r => q r.2.2.2) a 1 (by omega) (by omega) fun w q1 q2 => by omega⟩
/-! kind -/
theorem my_k70 {post : Int32 → SY → Prop} {J K : Int32 → Int32 → Int32 → Prop} {x1 x2 x3 x4 fn kn : Int32} {md fm : Nat → Int32} {N : Nat → Nat} {u Z : Nat} {p q : Prop} (hu : u < 8) (hN : N u < 256) (hZ : Z < 256) (h2 : mt_fl p x2) (h3 : mt_fl q x3) (h : ∀ y2 y3, mt_fl (p ∨ ¬ N u &&& Z = 0) y2 → mt_fl (q ∧ N u &&& Z = Z) y3 → K y2 y3 (nI (u + 1))) : wY_kind_70 post J K x1 x2 x3 x4 (nI u) (nI Z) fn kn (mt_g N) md fm := by
  have e : mt_g N (nI u).toNatClampNeg &&& nI Z = nI (N u &&& Z) := by rw [mt_gc N hu, nx_and]
  have i0 : mt_g N (nI u).toNatClampNeg &&& nI Z = 0 ↔ N u &&& Z = 0 := by rw [e, mt_i0 (mt_al hN)]
  have iE : mt_g N (nI u).toNatClampNeg &&& nI Z = nI Z ↔ N u &&& Z = Z := by rw [e, mt_iE (mt_al hN) hZ]
  have k87 : ∀ y2, mt_fl (p ∨ ¬ N u &&& Z = 0) y2 → wY_kind_87 post J K x1 y2 x3 x4 (nI u) (nI Z) fn kn (mt_g N) md fm := by
    intro y2 f2
    refine ⟨vp_in_nI hu (by omega), ?_⟩
    refine ek_if iE (fun z => nm_r (nI_1 _) (h y2 x3 f2 (mt_flE h3 ⟨fun r => r.1, fun r => ⟨r, z⟩⟩))) (fun z => nm_r (nI_1 _) (h y2 0 f2 (mt_fl0 fun r => z r.2)))
  refine ⟨vp_in_nI hu (by omega), ?_⟩
  exact ek_if i0 (fun z => k87 x2 (mt_flE h2 ⟨fun r => r.elim id fun w => absurd z w, Or.inl⟩)) (fun z => k87 1 (mt_fl1 (Or.inr z)))
theorem my_k40 {n a : Nat} {N : Nat → Nat} (hG : mt_G n a N) {md fm : Nat → Int32} {c s : Nat} (hc : c < 256) (hs : s < 256) {post : Int32 → SY → Prop} {J : Int32 → Int32 → Int32 → Prop} {p q : Prop} (h : ∀ x2 x3, mt_fl (p ∨ ∃ w, w < n ∧ c.testBit w = true ∧ ¬ N w &&& mt_df s c = 0) x2 → mt_fl (q ∧ ∀ w, w < n → c.testBit w = true → N w &&& mt_df s c = mt_df s c) x3 → J x2 x3 (nI (c + 1))) : ∀ d u, u + d = n → ∀ x2 x3, mt_fl (p ∨ ∃ w, w < u ∧ c.testBit w = true ∧ ¬ N w &&& mt_df s c = 0) x2 → mt_fl (q ∧ ∀ w, w < u → c.testBit w = true → N w &&& mt_df s c = mt_df s c) x3 → wY_kind_40 post J (nI s) (nI c) (nI n) 1 (mt_g N) md fm (d + 1) x2 x3 (nI u) := by
  obtain ⟨g1, g2, g3, g4, g5⟩ := id hG
  have hO : mt_df s c < 256 := by have := mt_dfle s c; omega
  intro d
  induction d with
  | zero =>
    intro u hu x2 x3 f2 f3
    have e : u = n := by omega
    subst e
    exact br_t (nI_le (by omega) (by omega)) (nm_r (nI_1 _) (h x2 x3 f2 f3))
  | succ d ih =>
    intro u hu x2 x3 f2 f3
    have hN : N u < 256 := by have := (g5 u).1; omega
    refine br_f (nI_ge (by omega) (by omega)) ?_
    refine my_in hc (by omega) (fun hb => ?_) (fun hb => ?_)
    · refine br_f (by decide) ?_
      rw [mt_not hs c]
      refine my_k70 (by omega) hN hO f2 f3 fun y2 y3 e2 e3 => ih (u + 1) (by omega) y2 y3 (mt_flE e2 ?_) (mt_flE e3 ?_)
      · constructor
        · rintro (r | ⟨w, w1, w2, w3⟩)
          · exact Or.inl (Or.inl r)
          · by_cases e : w = u
            · subst e; exact Or.inr w3
            · exact Or.inl (Or.inr ⟨w, by omega, w2, w3⟩)
        · rintro ((r | ⟨w, w1, w2, w3⟩) | r)
          · exact Or.inl r
          · exact Or.inr ⟨w, by omega, w2, w3⟩
          · exact Or.inr ⟨u, by omega, hb, r⟩
      · constructor
        · rintro ⟨r, t⟩; exact ⟨⟨r, fun w hw => t w (by omega)⟩, t u (by omega) hb⟩
        · rintro ⟨⟨r, t⟩, v⟩
          refine ⟨r, fun w hw hcw => ?_⟩
          by_cases e : w = u
          · subst e; exact v
          · exact t w (by omega) hcw
    · refine br_t rfl ?_
      have z0 : N u &&& 0 = 0 := Nat.and_zero _
      refine my_k70 (Z := 0) (by omega) hN (by omega) f2 f3 fun y2 y3 e2 e3 => ih (u + 1) (by omega) y2 y3 (mt_flE e2 ?_) (mt_flE e3 ?_)
      · constructor
        · rintro (r | ⟨w, w1, w2, w3⟩)
          · exact Or.inl (Or.inl r)
          · by_cases e : w = u
            · subst e; rw [hb] at w2; exact absurd w2 (by decide)
            · exact Or.inl (Or.inr ⟨w, by omega, w2, w3⟩)
        · rintro ((r | ⟨w, w1, w2, w3⟩) | r)
          · exact Or.inl r
          · exact Or.inr ⟨w, by omega, w2, w3⟩
          · exact absurd z0 r
      · constructor
        · rintro ⟨r, t⟩; exact ⟨⟨r, fun w hw => t w (by omega)⟩, z0⟩
        · rintro ⟨⟨r, t⟩, v⟩
          refine ⟨r, fun w hw hcw => ?_⟩
          by_cases e : w = u
          · subst e; rw [hb] at hcw; exact absurd hcw (by decide)
          · exact t w (by omega) hcw
def mt_ys (n a : Nat) (N : Nat → Nat) (s c : Nat) : Prop := ∃ e, e < c ∧ mt_chd n a N s e ∧ ∃ w, w < n ∧ e.testBit w = true ∧ ¬ N w &&& mt_df s e = 0
def mt_ye (n a : Nat) (N : Nat → Nat) (s c : Nat) : Prop := ∀ e, e < c → mt_chd n a N s e → ∀ w, w < n → e.testBit w = true → N w &&& mt_df s e = mt_df s e
theorem mt_ysE {n a : Nat} {N : Nat → Nat} {s : Nat} (hs : s ≤ a) : ¬ mt_ys n a N s (a + 1) ↔ mt_nn n a N s n := by
  constructor
  · intro h c w hw hc hcw
    have l := mt_sble hc.2.2.1
    exact Classical.byContradiction fun z => h ⟨c, by omega, hc, w, hw, hcw, z⟩
  · rintro h ⟨c, _, hc, w, hw, hcw, z⟩
    exact z (h c w hw hc hcw)
theorem mt_yeE {n a : Nat} {N : Nat → Nat} {s : Nat} (hs : s ≤ a) : mt_ye n a N s (a + 1) ↔ mt_aa n a N s n := by
  constructor
  · intro h c w hw hc hcw
    have l := mt_sble hc.2.2.1
    exact h c (by omega) hc w hw hcw
  · intro h c _ hc w hw hcw
    exact h c w hw hc hcw
theorem mt_ysF {n a : Nat} {N : Nat → Nat} {s c : Nat} (h : ¬ mt_chd n a N s c) : mt_ys n a N s (c + 1) ↔ mt_ys n a N s c := by
  constructor
  · rintro ⟨e, q1, q2, q3⟩
    by_cases z : e = c
    · subst z; exact absurd q2 h
    · exact ⟨e, by omega, q2, q3⟩
  · rintro ⟨e, q1, q2, q3⟩
    exact ⟨e, by omega, q2, q3⟩
theorem mt_yeF {n a : Nat} {N : Nat → Nat} {s c : Nat} (h : ¬ mt_chd n a N s c) : mt_ye n a N s (c + 1) ↔ mt_ye n a N s c := by
  constructor
  · intro q e he; exact q e (by omega)
  · intro q e he hc
    by_cases z : e = c
    · subst z; exact absurd hc h
    · exact q e (by omega) hc
theorem mt_ysT {n a : Nat} {N : Nat → Nat} {s c : Nat} (h : mt_chd n a N s c) : mt_ys n a N s (c + 1) ↔ (mt_ys n a N s c ∨ ∃ w, w < n ∧ c.testBit w = true ∧ ¬ N w &&& mt_df s c = 0) := by
  constructor
  · rintro ⟨e, q1, q2, q3⟩
    by_cases z : e = c
    · subst z; exact Or.inr q3
    · exact Or.inl ⟨e, by omega, q2, q3⟩
  · rintro (⟨e, q1, q2, q3⟩ | r)
    · exact ⟨e, by omega, q2, q3⟩
    · exact ⟨c, by omega, h, r⟩
theorem mt_yeT {n a : Nat} {N : Nat → Nat} {s c : Nat} (h : mt_chd n a N s c) : mt_ye n a N s (c + 1) ↔ (mt_ye n a N s c ∧ ∀ w, w < n → c.testBit w = true → N w &&& mt_df s c = mt_df s c) := by
  constructor
  · intro q; exact ⟨fun e he => q e (by omega), q c (by omega) h⟩
  · rintro ⟨q, r⟩ e he hc
    by_cases z : e = c
    · subst z; exact r
    · exact q e (by omega) hc
theorem my_k18 {n a : Nat} {N : Nat → Nat} (hG : mt_G n a N) {md fm : Nat → Int32} (hT : mt_T n a N md fm) {s : Nat} (hs : s ≤ a) {post : Int32 → SY → Prop} (k0 : mt_nn n a N s n → post 0 (nI n, 1, mt_g N, md, fm)) (k1 : ¬ mt_nn n a N s n → mt_aa n a N s n → post 1 (nI n, 1, mt_g N, md, fm)) (k2 : ¬ mt_nn n a N s n → ¬ mt_aa n a N s n → post 2 (nI n, 1, mt_g N, md, fm)) : ∀ d c, c + d = a + 1 → 1 ≤ c → ∀ x2 x3, mt_fl (mt_ys n a N s c) x2 → mt_fl (mt_ye n a N s c) x3 → wY_kind_18 post (nI s) (nI n) 1 (mt_g N) md fm (d + 1) x2 x3 (nI c) := by
  have g4 := hG.2.2.2.1
  intro d
  induction d with
  | zero =>
    intro c hc hc1 x2 x3 f2 f3
    have e : c = a + 1 := by omega
    subst e
    rw [wY_kind_18]
    refine my_all hG ?_
    refine br_t (nI_lt (by omega) (by omega)) ?_
    refine ek_if (mt_flz f2) (fun z => k0 ((mt_ysE hs).mp z)) (fun z => ?_)
    have z' : ¬ mt_nn n a N s n := fun q => z ((mt_ysE hs).mpr q)
    exact ek_if (mt_flz f3) (fun y => k2 z' fun q => y ((mt_yeE hs).mpr q)) (fun y => k1 z' ((mt_yeE hs).mp (Classical.byContradiction y)))
  | succ d ih =>
    intro c hc hc1 x2 x3 f2 f3
    rw [wY_kind_18]
    refine my_all hG ?_
    refine br_f (nI_nlt (by omega) (by omega)) ?_
    refine my_ic hG hT hc1 (by omega) (by omega) (fun q => ?_) (fun q => ?_)
    · refine br_f (by decide) ⟨n + 1, ?_⟩
      refine my_k40 hG (p := mt_ys n a N s c) (q := mt_ye n a N s c) (by omega) (by omega) (fun y2 y3 e2 e3 => ih (c + 1) (by omega) (by omega) y2 y3 (mt_flE e2 (mt_ysT q)) (mt_flE e3 (mt_yeT q))) n 0 (by omega) x2 x3 (mt_flE f2 ?_) (mt_flE f3 ?_)
      · constructor
        · rintro (r | ⟨w, w1, _⟩)
          · exact r
          · omega
        · exact Or.inl
      · exact ⟨fun r => r.1, fun r => ⟨r, fun w hw => by omega⟩⟩
    · exact br_t rfl (nm_r (nI_1 _) (ih (c + 1) (by omega) (by omega) x2 x3 (mt_flE f2 (mt_ysF q)) (mt_flE f3 (mt_yeF q))))
theorem my_kind {n a : Nat} {N : Nat → Nat} (hG : mt_G n a N) {kn : Int32} {md fm : Nat → Int32} (hK : mt_K n a N kn md fm) {s : Nat} (h1 : 1 ≤ s) (hs : s ≤ a) {post : Int32 → SY → Prop} (h0 : ¬ (mt_str n a N s ∧ 1 < mt_sz s n) → ∀ md fm, mt_T n a N md fm → post (-2) (nI n, 1, mt_g N, md, fm)) (h : mt_str n a N s → 1 < mt_sz s n → ∀ md fm, mt_T n a N md fm → (mt_nn n a N s n → post 0 (nI n, 1, mt_g N, md, fm)) ∧ (¬ mt_nn n a N s n → mt_aa n a N s n → post 1 (nI n, 1, mt_g N, md, fm)) ∧ (¬ mt_nn n a N s n → ¬ mt_aa n a N s n → post 2 (nI n, 1, mt_g N, md, fm))) : wpY_kind post (nI n, kn, mt_g N, md, fm) (nI s) := by
  unfold wpY_kind
  dsimp only
  refine my_inn hG hK h1 hs fun md fm hT => ⟨fun q1 q2 => ?_, fun q => ?_⟩
  · dsimp only
    obtain ⟨k0, k1, k2⟩ := h q1 q2 md fm hT
    refine br_f (by decide) ⟨a + 1, my_k18 hG hT hs k0 k1 k2 a 1 (by omega) (by omega) 0 1 (mt_fl0 ?_) (mt_fl1 ?_)⟩
    · rintro ⟨e, e1, _, w, _, e2, _⟩
      have := mt_pos e2
      omega
    · intro e e1 _ w _ e2
      have := mt_pos e2
      omega
  · exact br_t rfl (h0 q md fm hT)
theorem my_kindB {n a : Nat} {N : Nat → Nat} (hG : mt_G n a N) {kn : Int32} {md fm : Nat → Int32} (hK : mt_K n a N kn md fm) {x : Int32} (hx : mt_bad a x) {post : Int32 → SY → Prop} (h0 : ∀ md fm, mt_T n a N md fm → post (-2) (nI n, 1, mt_g N, md, fm)) : wpY_kind post (nI n, kn, mt_g N, md, fm) x := by
  unfold wpY_kind
  dsimp only
  exact my_innB hG hK hx fun md fm hT => br_t rfl (h0 md fm hT)
/-! children -/
theorem my_chL {n a : Nat} {N : Nat → Nat} (hG : mt_G n a N) {md fm : Nat → Int32} (hT : mt_T n a N md fm) {s : Nat} (hs : s ≤ a) {post : Int32 → SY → Prop} (h : post (nI (mt_cn (fun c => 1 ≤ c ∧ mt_chd n a N s c) (a + 1))) (nI n, 1, mt_g N, md, fm)) : ∀ d c, c + d = a + 1 → 1 ≤ c → wY_children_15 post (nI s) (nI n) 1 (mt_g N) md fm (d + 1) (nI (mt_cn (fun c => 1 ≤ c ∧ mt_chd n a N s c) c)) (nI c) := by
  have g4 := hG.2.2.2.1
  intro d
  induction d with
  | zero =>
    intro c hc _
    have e : c = a + 1 := by omega
    subst e
    rw [wY_children_15]
    refine my_all hG ?_
    exact br_t (nI_lt (by omega) (by omega)) h
  | succ d ih =>
    intro c hc hc1
    have i := ih (c + 1) (by omega) (by omega)
    rw [wY_children_15]
    refine my_all hG ?_
    refine br_f (nI_nlt (by omega) (by omega)) ?_
    refine my_ic hG hT hc1 (by omega) (by omega) (fun q => ?_) (fun q => ?_)
    · rw [mt_cnT ⟨hc1, q⟩] at i
      exact br_f (by decide) (nm_r (nI_1 _) (nm_r (nI_1 _) i))
    · rw [mt_cnF (fun z => q z.2)] at i
      exact br_t rfl (nm_r (nI_1 _) i)
theorem my_children {n a : Nat} {N : Nat → Nat} (hG : mt_G n a N) {kn : Int32} {md fm : Nat → Int32} (hK : mt_K n a N kn md fm) {s : Nat} (h1 : 1 ≤ s) (hs : s ≤ a) {post : Int32 → SY → Prop} (h0 : ¬ (mt_str n a N s ∧ 1 < mt_sz s n) → ∀ md fm, mt_T n a N md fm → post (-2) (nI n, 1, mt_g N, md, fm)) (h : mt_str n a N s → 1 < mt_sz s n → ∀ md fm, mt_T n a N md fm → post (nI (mt_cn (fun c => 1 ≤ c ∧ mt_chd n a N s c) (a + 1))) (nI n, 1, mt_g N, md, fm)) : wpY_children post (nI n, kn, mt_g N, md, fm) (nI s) := by
  unfold wpY_children
  dsimp only
  refine my_inn hG hK h1 hs fun md fm hT => ⟨fun q1 q2 => ?_, fun q => ?_⟩
  · dsimp only
    have i := my_chL hG hT hs (h q1 q2 md fm hT) a 1 (by omega) (by omega)
    rw [mt_cnOne] at i
    exact br_f (by decide) ⟨a + 1, i⟩
  · exact br_t rfl (h0 q md fm hT)
theorem my_childrenB {n a : Nat} {N : Nat → Nat} (hG : mt_G n a N) {kn : Int32} {md fm : Nat → Int32} (hK : mt_K n a N kn md fm) {x : Int32} (hx : mt_bad a x) {post : Int32 → SY → Prop} (h0 : ∀ md fm, mt_T n a N md fm → post (-2) (nI n, 1, mt_g N, md, fm)) : wpY_children post (nI n, kn, mt_g N, md, fm) x := by
  unfold wpY_children
  dsimp only
  exact my_innB hG hK hx fun md fm hT => br_t rfl (h0 md fm hT)
end
section
/-! the relation, the constructors, join, complement -/
def i_Rel (k : Nat) (u : SX) (v : SY) : Prop := ∃ n a N kn md fm, mt_G n a N ∧ mt_K n a N kn md fm ∧ u = (nI n, nI a, mt_g N) ∧ v = (nI n, kn, mt_g N, md, fm)
theorem i_up {k : Nat} {u : SX} {v : SY} (h : i_Rel k u v) : i_Rel (k + 4) u v := h
theorem mt_z0 : (fun _ => 0 : Nat → Int32) = mt_g (fun _ => 0) := funext fun _ => nI_0.symm
theorem mt_G0 {n : Nat} (h1 : 1 ≤ n) (h8 : n ≤ 8) : mt_G n (2 ^ n - 1) (fun _ => 0) := by
  have hp : 2 ^ n ≤ 2 ^ 8 := Nat.pow_le_pow_right (by decide) h8
  have hq : 0 < 2 ^ n := Nat.two_pow_pos n
  refine ⟨h1, h8, by omega, by omega, fun j => ⟨Nat.zero_le _, Nat.zero_testBit j⟩⟩
theorem mt_rel0 {n : Nat} (h1 : 1 ≤ n) (h8 : n ≤ 8) : i_Rel 1 (nI n, nI (2 ^ n - 1), (fun _ => 0)) (nI n, 0, (fun _ => 0), (fun _ => 0), (fun _ => 0)) :=
  ⟨n, 2 ^ n - 1, fun _ => 0, 0, fun _ => 0, fun _ => 0, mt_G0 h1 h8, Or.inl rfl, by rw [mt_z0], by rw [mt_z0]⟩
theorem mt_8 : nI 8 = 8 := by decide +kernel
theorem mt_1 : nI 1 = 1 := by decide +kernel
theorem mx_in45 {n : Nat} (h8 : n ≤ 8) {g : Nat → Int32} {fa : Int32} {post : SX → Prop} (h : post (nI n, nI (2 ^ n - 1), g)) : wX_init_45 post (nI n) fa g :=
  nm_r (mt_all n (by omega)) h
theorem i_vc0 (k0 : Int32) : wpX_init (fun u => wpY_init (fun v => i_Rel 1 u v) k0) k0 := by
  by_cases h1 : 1 ≤ k0
  · by_cases h8 : k0 ≤ 8
    · have hn : ¬ k0 < 0 := by
        intro z
        exact absurd (Int32.lt_of_le_of_lt h1 z) (by decide)
      obtain ⟨j, hj, rfl⟩ := nI_of2 (n := 8) (M := 8) (by decide) hn h8
      have hj1 : 1 ≤ j := by
        rw [← mt_1, nI_leI (by omega) (by omega)] at h1
        exact h1
      exact br_t h1 (br_t h8 (mx_in45 hj (br_t h1 (br_t h8 (mt_rel0 hj1 hj)))))
    · exact br_t h1 (br_f h8 (mx_in45 (n := 8) (by omega) (br_t h1 (br_f h8 (mt_rel0 (n := 8) (by omega) (by omega))))))
  · exact br_f h1 (mx_in45 (n := 1) (by omega) (br_f h1 (mt_rel0 (n := 1) (by omega) (by omega))))
/-! points -/
theorem mx_pt1 {n j : Nat} (hn : n ≤ 8) (hj : j < n) {fa : Int32} {g : Nat → Int32} {post : Int32 → Prop} (h : post 1) : wpX_isPoint post (nI n, fa, g) (nI j) :=
  br_f (nI_pos (by omega)) (br_f (nI_ge hj (by omega)) h)
theorem mx_pt0 {n : Nat} {x : Int32} (hx : x < 0 ∨ nI n ≤ x) {fa : Int32} {g : Nat → Int32} {post : Int32 → Prop} (h : post 0) : wpX_isPoint post (nI n, fa, g) x := by
  rcases hx with z | z
  · exact br_t z h
  · exact br_c (fun _ => h) (fun _ => br_t z h)
theorem my_pt1 {n j : Nat} (hn : n ≤ 8) (hj : j < n) {kn : Int32} {g md fm : Nat → Int32} {post : Int32 → Prop} (h : post 1) : wpY_isPoint post (nI n, kn, g, md, fm) (nI j) :=
  br_f (nI_pos (by omega)) (br_f (nI_ge hj (by omega)) h)
theorem my_pt0 {n : Nat} {x : Int32} (hx : x < 0 ∨ nI n ≤ x) {kn : Int32} {g md fm : Nat → Int32} {post : Int32 → Prop} (h : post 0) : wpY_isPoint post (nI n, kn, g, md, fm) x := by
  rcases hx with z | z
  · exact br_t z h
  · exact br_c (fun _ => h) (fun _ => br_t z h)
theorem mt_poi (n : Nat) (hn : n ≤ 8) (x : Int32) : (x < 0 ∨ nI n ≤ x) ∨ ∃ j, j < n ∧ x = nI j := by
  rcases pk_ix x (n := n) (by omega) with h | h | h
  · exact Or.inl (Or.inl h)
  · exact Or.inl (Or.inr h)
  · exact Or.inr h
/-! stores -/
def mt_up (N : Nat → Nat) (k x : Nat) : Nat → Nat := fun j => if j = k then x else N j
theorem mt_upE (N : Nat → Nat) {k : Nat} (hk : k < 8) {x : Nat} {y : Int32} (e : y = nI x) : upd (mt_g N) (nI k).toNatClampNeg y = mt_g (mt_up N k x) := by
  rw [nI_clamp (by omega), e]
  funext j
  show (if j = k then nI x else nI (N j)) = nI (if j = k then x else N j)
  by_cases z : j = k
  · rw [if_pos z, if_pos z]
  · rw [if_neg z, if_neg z]
theorem mt_Gup {n a : Nat} {N : Nat → Nat} (hG : mt_G n a N) {k x : Nat} (hx : x ≤ a) (hb : x.testBit k = false) : mt_G n a (mt_up N k x) := by
  obtain ⟨g1, g2, g3, g4, g5⟩ := hG
  refine ⟨g1, g2, g3, g4, fun j => ?_⟩
  unfold mt_up
  by_cases z : j = k
  · rw [if_pos z, z]; exact ⟨hx, hb⟩
  · rw [if_neg z]; exact g5 j
theorem mt_vor (N : Nat → Nat) {i j : Nat} (hi : i < 8) (hj : j < 8) : mt_g N (nI i).toNatClampNeg ||| ((1 : Int32) <<< (nI j &&& 31)) = nI (N i ||| 2 ^ j) := by
  rw [mt_gc N hi, mt_shl j hj, mt_or]
theorem mt_van (N : Nat → Nat) {i j : Nat} (hi : i < 8) (hj : j < 8) (hN : N i < 256) : mt_g N (nI i).toNatClampNeg &&& (((1 : Int32) <<< (nI j &&& 31)) ^^^ (-1)) = nI (mt_df (N i) (2 ^ j)) := by
  rw [mt_gc N hi, mt_shl j hj, mt_not hN]
theorem mt_Gor {n a : Nat} {N : Nat → Nat} (hG : mt_G n a N) {i j : Nat} (hj : j < n) (ne : i ≠ j) : mt_G n a (mt_up N i (N i ||| 2 ^ j)) := by
  obtain ⟨g1, g2, g3, g4, g5⟩ := id hG
  refine mt_Gup hG ?_ ?_
  · have h1 : N i < 2 ^ n := by have := (g5 i).1; omega
    have h2 : 2 ^ j < 2 ^ n := Nat.pow_lt_pow_right (by decide) hj
    have := Nat.or_lt_two_pow h1 h2
    omega
  · rw [Nat.testBit_or, (g5 i).2, mt_pt, decide_eq_false (fun e => ne e.symm)]
    rfl
theorem mt_Gan {n a : Nat} {N : Nat → Nat} (hG : mt_G n a N) {i j : Nat} : mt_G n a (mt_up N i (mt_df (N i) (2 ^ j))) := by
  obtain ⟨g1, g2, g3, g4, g5⟩ := id hG
  have h := (g5 i).1
  refine mt_Gup hG ?_ ?_
  · have := mt_dfle (N i) (2 ^ j); omega
  · rw [mt_tdf (by omega), (g5 i).2]
    rfl
def mt_jo (N : Nat → Nat) (i j : Nat) : Nat → Nat := mt_up (mt_up N i (N i ||| 2 ^ j)) j (mt_up N i (N i ||| 2 ^ j) j ||| 2 ^ i)
def mt_ja (N : Nat → Nat) (i j : Nat) : Nat → Nat := mt_up (mt_up N i (mt_df (N i) (2 ^ j))) j (mt_df (mt_up N i (mt_df (N i) (2 ^ j)) j) (2 ^ i))
theorem mx_join1 {n a : Nat} {N : Nat → Nat} (hG : mt_G n a N) {i j : Nat} (hi : i < n) (hj : j < n) (ne : i ≠ j) {b : Int32} (hb : ¬ b = 0) {post : Int32 → SX → Prop} (h : post 1 (nI n, nI a, mt_g (mt_jo N i j))) : wpX_join post (nI n, nI a, mt_g N) (nI i) (nI j) b := by
  have g2 := hG.2.1
  unfold wpX_join
  dsimp only
  refine mx_pt1 g2 hi ?_
  refine br_f (by decide) ?_
  refine mx_pt1 g2 hj ?_
  refine br_f (by decide) ?_
  refine br_f (fun e => ne ((nI_eq (by omega) (by omega)).mp e)) ?_
  refine br_f hb ?_
  refine ⟨vp_in_nI (by omega) (by omega), vp_in_nI (by omega) (by omega), nm_r (mt_upE N (by omega) (mt_vor N (by omega) (by omega))) ?_⟩
  exact ⟨vp_in_nI (by omega) (by omega), vp_in_nI (by omega) (by omega), nm_r (mt_upE _ (by omega) (mt_vor _ (by omega) (by omega))) h⟩
theorem mx_join0 {n a : Nat} {N : Nat → Nat} (hG : mt_G n a N) {i j : Nat} (hi : i < n) (hj : j < n) (ne : i ≠ j) {post : Int32 → SX → Prop} (h : post 1 (nI n, nI a, mt_g (mt_ja N i j))) : wpX_join post (nI n, nI a, mt_g N) (nI i) (nI j) 0 := by
  have g2 := hG.2.1
  have g4 := hG.2.2.2.1
  have n1 := (hG.2.2.2.2 i).1
  have n2 := ((mt_Gan (i := i) (j := j) hG).2.2.2.2 j).1
  unfold wpX_join
  dsimp only
  refine mx_pt1 g2 hi ?_
  refine br_f (by decide) ?_
  refine mx_pt1 g2 hj ?_
  refine br_f (by decide) ?_
  refine br_f (fun e => ne ((nI_eq (by omega) (by omega)).mp e)) ?_
  refine br_t rfl ?_
  refine ⟨vp_in_nI (by omega) (by omega), vp_in_nI (by omega) (by omega), nm_r (mt_upE N (by omega) (mt_van N (by omega) (by omega) (by omega))) ?_⟩
  exact ⟨vp_in_nI (by omega) (by omega), vp_in_nI (by omega) (by omega), nm_r (mt_upE _ (by omega) (mt_van _ (by omega) (by omega) (by omega))) h⟩
theorem my_join1 {n a : Nat} {N : Nat → Nat} (hG : mt_G n a N) {i j : Nat} (hi : i < n) (hj : j < n) (ne : i ≠ j) {b kn : Int32} {md fm : Nat → Int32} (hb : ¬ b = 0) {post : Int32 → SY → Prop} (h : post 1 (nI n, 0, mt_g (mt_jo N i j), md, fm)) : wpY_join post (nI n, kn, mt_g N, md, fm) (nI i) (nI j) b := by
  have g2 := hG.2.1
  unfold wpY_join
  dsimp only
  refine my_pt1 g2 hi ?_
  refine br_f (by decide) ?_
  refine my_pt1 g2 hj ?_
  refine br_f (by decide) ?_
  refine br_f (fun e => ne ((nI_eq (by omega) (by omega)).mp e)) ?_
  refine br_f hb ?_
  refine ⟨vp_in_nI (by omega) (by omega), vp_in_nI (by omega) (by omega), nm_r (mt_upE N (by omega) (mt_vor N (by omega) (by omega))) (br_f hb ?_)⟩
  exact ⟨vp_in_nI (by omega) (by omega), vp_in_nI (by omega) (by omega), nm_r (mt_upE _ (by omega) (mt_vor _ (by omega) (by omega))) h⟩
theorem my_join0 {n a : Nat} {N : Nat → Nat} (hG : mt_G n a N) {i j : Nat} (hi : i < n) (hj : j < n) (ne : i ≠ j) {kn : Int32} {md fm : Nat → Int32} {post : Int32 → SY → Prop} (h : post 1 (nI n, 0, mt_g (mt_ja N i j), md, fm)) : wpY_join post (nI n, kn, mt_g N, md, fm) (nI i) (nI j) 0 := by
  have g2 := hG.2.1
  have g4 := hG.2.2.2.1
  have n1 := (hG.2.2.2.2 i).1
  have n2 := ((mt_Gan (i := i) (j := j) hG).2.2.2.2 j).1
  unfold wpY_join
  dsimp only
  refine my_pt1 g2 hi ?_
  refine br_f (by decide) ?_
  refine my_pt1 g2 hj ?_
  refine br_f (by decide) ?_
  refine br_f (fun e => ne ((nI_eq (by omega) (by omega)).mp e)) ?_
  refine br_t rfl ?_
  refine ⟨vp_in_nI (by omega) (by omega), vp_in_nI (by omega) (by omega), nm_r (mt_upE N (by omega) (mt_van N (by omega) (by omega) (by omega))) (br_t rfl ?_)⟩
  exact ⟨vp_in_nI (by omega) (by omega), vp_in_nI (by omega) (by omega), nm_r (mt_upE _ (by omega) (mt_van _ (by omega) (by omega) (by omega))) h⟩
def mt_jb (n : Nat) (x y : Int32) : Prop := (x < 0 ∨ nI n ≤ x) ∨ ((∃ i, i < n ∧ x = nI i) ∧ ((y < 0 ∨ nI n ≤ y) ∨ ((∃ i, i < n ∧ y = nI i) ∧ x = y)))
theorem mx_joinB {n : Nat} (hn : n ≤ 8) {x y b fa : Int32} {g : Nat → Int32} (hx : mt_jb n x y) {post : Int32 → SX → Prop} (h : post 0 (nI n, fa, g)) : wpX_join post (nI n, fa, g) x y b := by
  unfold wpX_join
  dsimp only
  rcases hx with z | ⟨⟨i, hi, rfl⟩, z | ⟨⟨j, hj, rfl⟩, e⟩⟩
  · exact mx_pt0 z (br_t rfl h)
  · refine mx_pt1 hn hi ?_
    refine br_f (by decide) ?_
    exact mx_pt0 z (br_t rfl h)
  · refine mx_pt1 hn hi ?_
    refine br_f (by decide) ?_
    refine mx_pt1 hn hj ?_
    refine br_f (by decide) ?_
    exact br_t e h
theorem my_joinB {n : Nat} (hn : n ≤ 8) {x y b kn : Int32} {g md fm : Nat → Int32} (hx : mt_jb n x y) {post : Int32 → SY → Prop} (h : post 0 (nI n, kn, g, md, fm)) : wpY_join post (nI n, kn, g, md, fm) x y b := by
  unfold wpY_join
  dsimp only
  rcases hx with z | ⟨⟨i, hi, rfl⟩, z | ⟨⟨j, hj, rfl⟩, e⟩⟩
  · exact my_pt0 z (br_t rfl h)
  · refine my_pt1 hn hi ?_
    refine br_f (by decide) ?_
    exact my_pt0 z (br_t rfl h)
  · refine my_pt1 hn hi ?_
    refine br_f (by decide) ?_
    refine my_pt1 hn hj ?_
    refine br_f (by decide) ?_
    exact br_t e h
theorem i_vc_join {k : Nat} {u : SX} {v : SY} (I : i_Rel k u v) (hk : k + 4 ≤ 2049) (v1 : Int32) (v2 : Int32) (v3 : Int32) : wpX_join (fun r u' => wpY_join (fun r' v' => r' = r ∧ i_Rel (k + 4) u' v') v v1 v2 (lw_bz v3)) u v1 v2 (lw_bz v3) := by
  obtain ⟨n, a, N, kn, md, fm, hG, hK, rfl, rfl⟩ := I
  have g2 := hG.2.1
  have bad : mt_jb n v1 v2 → wpX_join (fun r u' => wpY_join (fun r' v' => r' = r ∧ i_Rel (k + 4) u' v') (nI n, kn, mt_g N, md, fm) v1 v2 (lw_bz v3)) (nI n, nI a, mt_g N) v1 v2 (lw_bz v3) := fun z =>
    mx_joinB g2 z (my_joinB g2 z ⟨rfl, n, a, N, kn, md, fm, hG, hK, rfl, rfl⟩)
  rcases mt_poi n g2 v1 with z | ⟨i, hi, rfl⟩
  · exact bad (Or.inl z)
  · rcases mt_poi n g2 v2 with z | ⟨j, hj, rfl⟩
    · exact bad (Or.inr ⟨⟨i, hi, rfl⟩, Or.inl z⟩)
    · by_cases e : i = j
      · exact bad (Or.inr ⟨⟨i, hi, rfl⟩, Or.inr ⟨⟨j, hj, rfl⟩, by rw [e]⟩⟩)
      · rcases lw_bz_01 v3 with z | z
        · rw [z]
          exact mx_join0 hG hi hj e (my_join0 hG hi hj e ⟨rfl, n, a, mt_ja N i j, 0, md, fm, mt_Gan (mt_Gan hG), Or.inl rfl, rfl, rfl⟩)
        · have hb : ¬ lw_bz v3 = 0 := by rw [z]; decide
          exact mx_join1 hG hi hj e hb (my_join1 hG hi hj e hb ⟨rfl, n, a, mt_jo N i j, 0, md, fm, mt_Gor (mt_Gor hG hj e) hi (fun q => e q.symm), Or.inl rfl, rfl, rfl⟩)
/-! complement -/
def mt_cv (a : Nat) (N : Nat → Nat) (u : Nat) : Nat := mt_df (mt_df a (N u)) (2 ^ u)
def mt_cp (a : Nat) : Nat → Nat → (Nat → Nat) → (Nat → Nat)
  | 0, _, N => N
  | d + 1, u, N => mt_cp a d (u + 1) (mt_up N u (mt_cv a N u))
theorem mt_Gcv {n a : Nat} {N : Nat → Nat} (hG : mt_G n a N) (u : Nat) : mt_G n a (mt_up N u (mt_cv a N u)) := by
  have g4 := hG.2.2.2.1
  have l1 := mt_dfle a (N u)
  have l2 := mt_dfle (mt_df a (N u)) (2 ^ u)
  refine mt_Gup hG (by unfold mt_cv; omega) ?_
  unfold mt_cv
  rw [mt_tdf (by omega), mt_pt]
  simp
theorem mt_Gcp {n a : Nat} : ∀ d u N, mt_G n a N → mt_G n a (mt_cp a d u N) := by
  intro d
  induction d with
  | zero => intro u N h; exact h
  | succ d ih => intro u N h; exact ih (u + 1) _ (mt_Gcv h u)
theorem mt_cvX {n a : Nat} {N : Nat → Nat} (hG : mt_G n a N) {u : Nat} (hu : u < 8) : mt_g N (nI u).toNatClampNeg ^^^ (nI a &&& (((1 : Int32) <<< (nI u &&& 31)) ^^^ (-1))) = nI (mt_cv a N u) := by
  obtain ⟨g1, g2, g3, g4, g5⟩ := hG
  rw [mt_gc N hu, mt_shl u hu, mt_not g4, nx_xor]
  refine congrArg nI (Nat.eq_of_testBit_eq fun i => ?_)
  have l1 := mt_dfle a (N u)
  unfold mt_cv
  rw [Nat.testBit_xor, mt_tdf g4, mt_tdf (by omega), mt_tdf g4]
  have hs := mt_sa g3 (g5 u).1
  cases e : (N u).testBit i
  · simp
  · rw [hs i e, mt_pt]
    have : u ≠ i := by
      intro z
      subst z
      rw [(g5 u).2] at e
      exact absurd e (by decide)
    rw [decide_eq_false this]
    rfl
theorem mt_cvY {n a : Nat} {N : Nat → Nat} (hG : mt_G n a N) {u : Nat} (hu : u < 8) : (nI a &&& (mt_g N (nI u).toNatClampNeg ^^^ (-1))) &&& (((1 : Int32) <<< (nI u &&& 31)) ^^^ (-1)) = nI (mt_cv a N u) := by
  have g4 := hG.2.2.2.1
  have l1 := mt_dfle a (N u)
  rw [mt_gc N hu, mt_shl u hu, mt_not g4, mt_not (by omega)]
  rfl
theorem mx_cmpL {n a : Nat} {post : SX → Prop} : ∀ d u N, mt_G n a N → u + d = n → post (nI n, nI a, mt_g (mt_cp a d u N)) → wX_complement_2 post (nI n) (nI a) (d + 1) (nI u) (mt_g N) := by
  intro d
  induction d with
  | zero =>
    intro u N hG hu h
    have g2 := hG.2.1
    exact br_t (nI_le (by omega) (by omega)) h
  | succ d ih =>
    intro u N hG hu h
    have g2 := hG.2.1
    refine br_f (nI_ge (by omega) (by omega)) ⟨vp_in_nI (by omega) (by omega), vp_in_nI (by omega) (by omega), nm_r (mt_upE N (by omega) (mt_cvX hG (by omega))) (nm_r (nI_1 _) ?_)⟩
    exact ih (u + 1) _ (mt_Gcv hG u) (by omega) h
theorem my_cmpL {n a : Nat} {kn : Int32} {md fm : Nat → Int32} {post : SY → Prop} : ∀ d u N, mt_G n a N → u + d = n → post (nI n, 0, mt_g (mt_cp a d u N), md, fm) → wY_complement_2 post (nI n) kn (d + 1) (nI u) (mt_g N) md fm := by
  intro d
  induction d with
  | zero =>
    intro u N hG hu h
    have g2 := hG.2.1
    exact br_t (nI_le (by omega) (by omega)) h
  | succ d ih =>
    intro u N hG hu h
    have g2 := hG.2.1
    refine br_f (nI_ge (by omega) (by omega)) ?_
    refine my_all hG ?_
    refine ⟨vp_in_nI (by omega) (by omega), vp_in_nI (by omega) (by omega), nm_r (mt_upE N (by omega) (mt_cvY hG (by omega))) (nm_r (nI_1 _) ?_)⟩
    exact ih (u + 1) _ (mt_Gcv hG u) (by omega) h
theorem i_vc_complement {k : Nat} {u : SX} {v : SY} (I : i_Rel k u v) (hk : k + 4 ≤ 2049) : wpX_complement (fun u' => wpY_complement (fun v' => i_Rel (k + 4) u' v') v) u := by
  obtain ⟨n, a, N, kn, md, fm, hG, hK, rfl, rfl⟩ := I
  refine ⟨n + 1, mx_cmpL n 0 N hG (by omega) ?_⟩
  exact ⟨n + 1, my_cmpL n 0 N hG (by omega) ⟨n, a, mt_cp a n 0 N, 0, md, fm, mt_Gcp n 0 N hG, Or.inl rfl, rfl, rfl⟩⟩
end
section
/-! the reading methods -/
theorem mt_relT {k n a : Nat} {N : Nat → Nat} (hG : mt_G n a N) {md fm : Nat → Int32} (hT : mt_T n a N md fm) : i_Rel k (nI n, nI a, mt_g N) (nI n, 1, mt_g N, md, fm) :=
  ⟨n, a, N, 1, md, fm, hG, Or.inr ⟨rfl, hT⟩, rfl, rfl⟩
theorem i_vc_isModule {k : Nat} {u : SX} {v : SY} (I : i_Rel k u v) (hk : k + 4 ≤ 2049) (v1 : Int32) : wpX_isModule (fun r => wpY_isModule (fun r' v' => r' = r ∧ i_Rel (k + 4) u v') v v1) u v1 := by
  obtain ⟨n, a, N, kn, md, fm, hG, hK, rfl, rfl⟩ := I
  rcases mt_arg hG.2.2.2.1 v1 with hb | ⟨s, h1, h2, rfl⟩
  · exact mx_modB hb (my_isMB hG hK hb fun md fm hT => ⟨rfl, mt_relT hG hT⟩)
  · exact mx_mod hG h1 h2 (fun q => my_isM hG hK h1 h2 fun md fm hT => ⟨fun _ => ⟨rfl, mt_relT hG hT⟩, fun z => absurd q z⟩) (fun q => my_isM hG hK h1 h2 fun md fm hT => ⟨fun z => absurd z q, fun _ => ⟨rfl, mt_relT hG hT⟩⟩)
theorem i_vc_isStrong {k : Nat} {u : SX} {v : SY} (I : i_Rel k u v) (hk : k + 4 ≤ 2049) (v1 : Int32) : wpX_isStrong (fun r => wpY_isStrong (fun r' v' => r' = r ∧ i_Rel (k + 4) u v') v v1) u v1 := by
  obtain ⟨n, a, N, kn, md, fm, hG, hK, rfl, rfl⟩ := I
  rcases mt_arg hG.2.2.2.1 v1 with hb | ⟨s, h1, h2, rfl⟩
  · exact mx_strB hb (my_isSB hG hK hb fun md fm hT => ⟨rfl, mt_relT hG hT⟩)
  · exact mx_str hG h1 h2 (fun q => my_isS hG hK h1 h2 fun md fm hT => ⟨fun _ => ⟨rfl, mt_relT hG hT⟩, fun z => absurd q z⟩) (fun q => my_isS hG hK h1 h2 fun md fm hT => ⟨fun z => absurd z q, fun _ => ⟨rfl, mt_relT hG hT⟩⟩)
theorem i_vc_strong {k : Nat} {u : SX} {v : SY} (I : i_Rel k u v) (hk : k + 4 ≤ 2049) : wpX_strong (fun r => wpY_strong (fun r' v' => r' = r ∧ i_Rel (k + 4) u v') v) u := by
  obtain ⟨n, a, N, kn, md, fm, hG, hK, rfl, rfl⟩ := I
  exact mx_strong hG (my_strong hG hK fun md fm hT => ⟨rfl, mt_relT hG hT⟩)
theorem i_vc_modules {k : Nat} {u : SX} {v : SY} (I : i_Rel k u v) (hk : k + 4 ≤ 2049) : wpX_modules (fun r => wpY_modules (fun r' v' => r' = r ∧ i_Rel (k + 4) u v') v) u := by
  obtain ⟨n, a, N, kn, md, fm, hG, hK, rfl, rfl⟩ := I
  exact mx_modules hG (my_modules hG hK fun md fm hT => ⟨rfl, mt_relT hG hT⟩)
theorem i_vc_kind {k : Nat} {u : SX} {v : SY} (I : i_Rel k u v) (hk : k + 4 ≤ 2049) (v1 : Int32) : wpX_kind (fun r => wpY_kind (fun r' v' => r' = r ∧ i_Rel (k + 4) u v') v v1) u v1 := by
  obtain ⟨n, a, N, kn, md, fm, hG, hK, rfl, rfl⟩ := I
  rcases mt_arg hG.2.2.2.1 v1 with hb | ⟨s, h1, h2, rfl⟩
  · exact mx_kindB hb (my_kindB hG hK hb fun md fm hT => ⟨rfl, mt_relT hG hT⟩)
  · refine mx_kind hG h1 h2 (fun q => my_kind hG hK h1 h2 (fun _ md fm hT => ⟨rfl, mt_relT hG hT⟩) (fun z1 z2 => absurd ⟨z1, z2⟩ q)) (fun q1 q2 => ⟨fun y => ?_, fun y w => ?_, fun y w => ?_⟩)
    · exact my_kind hG hK h1 h2 (fun z => absurd ⟨q1, q2⟩ z) (fun _ _ md fm hT => ⟨fun _ => ⟨rfl, mt_relT hG hT⟩, fun z _ => absurd y z, fun z _ => absurd y z⟩)
    · exact my_kind hG hK h1 h2 (fun z => absurd ⟨q1, q2⟩ z) (fun _ _ md fm hT => ⟨fun z => absurd z y, fun _ _ => ⟨rfl, mt_relT hG hT⟩, fun _ z => absurd w z⟩)
    · exact my_kind hG hK h1 h2 (fun z => absurd ⟨q1, q2⟩ z) (fun _ _ md fm hT => ⟨fun z => absurd z y, fun _ z => absurd z w, fun _ _ => ⟨rfl, mt_relT hG hT⟩⟩)
theorem i_vc_children {k : Nat} {u : SX} {v : SY} (I : i_Rel k u v) (hk : k + 4 ≤ 2049) (v1 : Int32) : wpX_children (fun r => wpY_children (fun r' v' => r' = r ∧ i_Rel (k + 4) u v') v v1) u v1 := by
  obtain ⟨n, a, N, kn, md, fm, hG, hK, rfl, rfl⟩ := I
  rcases mt_arg hG.2.2.2.1 v1 with hb | ⟨s, h1, h2, rfl⟩
  · exact mx_childrenB hb (my_childrenB hG hK hb fun md fm hT => ⟨rfl, mt_relT hG hT⟩)
  · exact mx_children hG h1 h2 (fun q => my_children hG hK h1 h2 (fun _ md fm hT => ⟨rfl, mt_relT hG hT⟩) (fun z1 z2 => absurd ⟨z1, z2⟩ q)) (fun q1 q2 => my_children hG hK h1 h2 (fun z => absurd ⟨q1, q2⟩ z) (fun _ _ md fm hT => ⟨rfl, mt_relT hG hT⟩))
/-! around, strongAround -/
theorem mt_pair {i j : Nat} (hi : i < 8) (hj : j < 8) : ((1 : Int32) <<< (nI i &&& 31)) ||| ((1 : Int32) <<< (nI j &&& 31)) = nI (2 ^ i ||| 2 ^ j) := by
  rw [mt_shl i hi, mt_shl j hj, mt_or]
theorem mt_pairL {n a i j : Nat} (h : a + 1 = 2 ^ n) (hi : i < n) (hj : j < n) : 2 ^ i ||| 2 ^ j ≤ a := by
  have h1 : 2 ^ i < 2 ^ n := Nat.pow_lt_pow_right (by decide) hi
  have h2 : 2 ^ j < 2 ^ n := Nat.pow_lt_pow_right (by decide) hj
  have := Nat.or_lt_two_pow h1 h2
  omega
theorem mt_pairB (i j : Nat) : (2 ^ i ||| 2 ^ j).testBit i = true := by
  rw [Nat.testBit_or, mt_pt]
  simp
def mt_ab (n : Nat) (x y : Int32) : Prop := (x < 0 ∨ nI n ≤ x) ∨ ((∃ i, i < n ∧ x = nI i) ∧ (y < 0 ∨ nI n ≤ y))
theorem mx_arB {n : Nat} (hn : n ≤ 8) {x y fa : Int32} {g : Nat → Int32} (hx : mt_ab n x y) {post : Int32 → Prop} (h : post (-1)) : wpX_around post (nI n, fa, g) x y := by
  unfold wpX_around
  dsimp only
  rcases hx with z | ⟨⟨i, hi, rfl⟩, z⟩
  · exact mx_pt0 z (br_t rfl h)
  · refine mx_pt1 hn hi ?_
    refine br_f (by decide) ?_
    exact mx_pt0 z (br_t rfl h)
theorem mx_saB {n : Nat} (hn : n ≤ 8) {x y fa : Int32} {g : Nat → Int32} (hx : mt_ab n x y) {post : Int32 → Prop} (h : post (-1)) : wpX_strongAround post (nI n, fa, g) x y := by
  unfold wpX_strongAround
  dsimp only
  rcases hx with z | ⟨⟨i, hi, rfl⟩, z⟩
  · exact mx_pt0 z (br_t rfl h)
  · refine mx_pt1 hn hi ?_
    refine br_f (by decide) ?_
    exact mx_pt0 z (br_t rfl h)
theorem my_arB {n : Nat} (hn : n ≤ 8) {x y kn : Int32} {g md fm : Nat → Int32} (hx : mt_ab n x y) {post : Int32 → SY → Prop} (h : post (-1) (nI n, kn, g, md, fm)) : wpY_around post (nI n, kn, g, md, fm) x y := by
  unfold wpY_around
  dsimp only
  rcases hx with z | ⟨⟨i, hi, rfl⟩, z⟩
  · exact my_pt0 z (br_t rfl h)
  · refine my_pt1 hn hi ?_
    refine br_f (by decide) ?_
    exact my_pt0 z (br_t rfl h)
theorem my_saB {n : Nat} (hn : n ≤ 8) {x y kn : Int32} {g md fm : Nat → Int32} (hx : mt_ab n x y) {post : Int32 → SY → Prop} (h : post (-1) (nI n, kn, g, md, fm)) : wpY_strongAround post (nI n, kn, g, md, fm) x y := by
  unfold wpY_strongAround
  dsimp only
  rcases hx with z | ⟨⟨i, hi, rfl⟩, z⟩
  · exact my_pt0 z (br_t rfl h)
  · refine my_pt1 hn hi ?_
    refine br_f (by decide) ?_
    exact my_pt0 z (br_t rfl h)
theorem i_vc_around {k : Nat} {u : SX} {v : SY} (I : i_Rel k u v) (hk : k + 4 ≤ 2049) (v1 : Int32) (v2 : Int32) : wpX_around (fun r => wpY_around (fun r' v' => r' = r ∧ i_Rel (k + 4) u v') v v1 v2) u v1 v2 := by
  obtain ⟨n, a, N, kn, md, fm, hG, hK, rfl, rfl⟩ := I
  obtain ⟨g1, g2, g3, g4, g5⟩ := id hG
  rcases mt_poi n g2 v1 with z | ⟨i, hi, rfl⟩
  · exact mx_arB g2 (Or.inl z) (my_arB g2 (Or.inl z) ⟨rfl, n, a, N, kn, md, fm, hG, hK, rfl, rfl⟩)
  rcases mt_poi n g2 v2 with z | ⟨j, hj, rfl⟩
  · exact mx_arB g2 (Or.inr ⟨⟨i, hi, rfl⟩, z⟩) (my_arB g2 (Or.inr ⟨⟨i, hi, rfl⟩, z⟩) ⟨rfl, n, a, N, kn, md, fm, hG, hK, rfl, rfl⟩)
  have pe := mt_pair (i := i) (j := j) (by omega) (by omega)
  have pl := mt_pairL g3 hi hj
  have pb := mt_pairB i j
  have p1 := mt_pos pb
  obtain ⟨A, a1, a2, a3, a4, a5, a6⟩ := mt_arA (N := N) g3 pl pb
  have pA := mt_sble a4
  unfold wpX_around
  dsimp only
  refine mx_pt1 g2 hi ?_
  refine br_f (by decide) ?_
  refine mx_pt1 g2 hj ?_
  refine br_f (by decide) ?_
  refine nm_r pe ⟨a - (2 ^ i ||| 2 ^ j) + 1, mx_arL hG p1 pl a2 a3 a4 a5 ?_ (a - (2 ^ i ||| 2 ^ j)) (2 ^ i ||| 2 ^ j) (by omega) pA⟩
  unfold wpY_around
  dsimp only
  refine my_pt1 g2 hi ?_
  refine br_f (by decide) ?_
  refine my_pt1 g2 hj ?_
  refine br_f (by decide) ?_
  rw [pe]
  refine my_sm (F := mt_mod n N) (L := 0) (A := A) hG hK (Or.inl ⟨rfl, rfl⟩) (by omega) (by omega) a1 a2 ⟨a3, a4, mt_szP (a4 i pb) (by omega)⟩ (fun s _ q r => a5 s q ⟨r.1, r.2.1⟩) (fun s q1 q2 q3 _ => mt_szM (a6 s q1 q2 q3) n) fun md fm hT => ?_
  exact ⟨rfl, mt_relT hG hT⟩
theorem i_vc_strongAround {k : Nat} {u : SX} {v : SY} (I : i_Rel k u v) (hk : k + 4 ≤ 2049) (v1 : Int32) (v2 : Int32) : wpX_strongAround (fun r => wpY_strongAround (fun r' v' => r' = r ∧ i_Rel (k + 4) u v') v v1 v2) u v1 v2 := by
  obtain ⟨n, a, N, kn, md, fm, hG, hK, rfl, rfl⟩ := I
  obtain ⟨g1, g2, g3, g4, g5⟩ := id hG
  rcases mt_poi n g2 v1 with z | ⟨i, hi, rfl⟩
  · exact mx_saB g2 (Or.inl z) (my_saB g2 (Or.inl z) ⟨rfl, n, a, N, kn, md, fm, hG, hK, rfl, rfl⟩)
  rcases mt_poi n g2 v2 with z | ⟨j, hj, rfl⟩
  · exact mx_saB g2 (Or.inr ⟨⟨i, hi, rfl⟩, z⟩) (my_saB g2 (Or.inr ⟨⟨i, hi, rfl⟩, z⟩) ⟨rfl, n, a, N, kn, md, fm, hG, hK, rfl, rfl⟩)
  have pe := mt_pair (i := i) (j := j) (by omega) (by omega)
  have pl := mt_pairL g3 hi hj
  have pb := mt_pairB i j
  have p1 := mt_pos pb
  obtain ⟨A, a1, a0, a2, a3, a4, a5, a6⟩ := mt_fsA (N := N) g3 pl pl pb
  unfold wpX_strongAround
  dsimp only
  refine mx_pt1 g2 hi ?_
  refine br_f (by decide) ?_
  refine mx_pt1 g2 hj ?_
  refine br_f (by decide) ?_
  refine nm_r pe ?_
  refine mx_fs hG p1 pl a2 a0 a3 a4 a5 ?_
  unfold wpY_strongAround
  dsimp only
  refine my_pt1 g2 hi ?_
  refine br_f (by decide) ?_
  refine my_pt1 g2 hj ?_
  refine br_f (by decide) ?_
  rw [pe]
  refine my_sm (F := mt_str n a N) (L := 0) (A := A) hG hK (Or.inr ⟨rfl, rfl⟩) (by omega) (by omega) a1 a2 ⟨a3, a4, mt_szP (a4 i pb) (by omega)⟩ (fun s _ q r => a5 s (mt_sble r.2.1) q ⟨r.1, r.2.1⟩) (fun s q1 q2 q3 _ => mt_szM (a6 s (mt_sble q3) q1 q2 q3) n) fun md fm hT => ?_
  exact ⟨rfl, mt_relT hG hT⟩
/-! parent -/
theorem my_paB {n a : Nat} {N : Nat → Nat} (hG : mt_G n a N) {kn : Int32} {md fm : Nat → Int32} (hK : mt_K n a N kn md fm) {x : Int32} (hx : mt_bad a x) {post : Int32 → SY → Prop} (h : ∀ md fm, mt_T n a N md fm → post (-2) (nI n, 1, mt_g N, md, fm)) : wpY_parent post (nI n, kn, mt_g N, md, fm) x := by
  unfold wpY_parent
  dsimp only
  exact my_isSB hG hK hx fun md fm hT => br_t rfl (h md fm hT)
theorem my_paN {n a : Nat} {N : Nat → Nat} (hG : mt_G n a N) {kn : Int32} {md fm : Nat → Int32} (hK : mt_K n a N kn md fm) {s : Nat} (h1 : 1 ≤ s) (hs : s ≤ a) (hn : s = a ∨ ¬ mt_str n a N s) {post : Int32 → SY → Prop} (h : ∀ md fm, mt_T n a N md fm → post (-2) (nI n, 1, mt_g N, md, fm)) : wpY_parent post (nI n, kn, mt_g N, md, fm) (nI s) := by
  unfold wpY_parent
  dsimp only
  refine my_isS hG hK h1 hs fun md fm hT => ⟨fun q => ?_, fun q => br_t rfl (h md fm hT)⟩
  dsimp only
  refine br_f (by decide) ?_
  refine my_all hG ?_
  rcases hn with e | e
  · exact br_t (congrArg nI e) (h md fm hT)
  · exact absurd q e
theorem my_paA {n a : Nat} {N : Nat → Nat} (hG : mt_G n a N) {kn : Int32} {md fm : Nat → Int32} (hK : mt_K n a N kn md fm) {s A : Nat} (h1 : 1 ≤ s) (hs : s ≤ a) (ne : s ≠ a) (hm : mt_str n a N s) (a0 : s + 1 ≤ A) (a2 : A ≤ a) (a3 : mt_str n a N A) (a4 : mt_sb s A) (a5 : ∀ t, s + 1 ≤ t → t < A → ¬ (mt_str n a N t ∧ mt_sb s t)) (a6 : ∀ B, s + 1 ≤ B → B ≤ a → mt_str n a N B → mt_sb s B → mt_sb A B) {post : Int32 → SY → Prop} (h : ∀ md fm, mt_T n a N md fm → post (nI A) (nI n, 1, mt_g N, md, fm)) : wpY_parent post (nI n, kn, mt_g N, md, fm) (nI s) := by
  obtain ⟨g1, g2, g3, g4, g5⟩ := id hG
  have sl := mt_szLe s n
  unfold wpY_parent
  dsimp only
  refine my_isS hG hK h1 hs fun md fm hT => ⟨fun q => ?_, fun q => absurd hm q⟩
  dsimp only
  refine br_f (by decide) ?_
  refine my_all hG ?_
  refine br_f (fun e => ne ((nI_eq (by omega) (by omega)).mp e)) ?_
  refine my_sz hG (by omega) ?_
  have up : ∀ t, mt_sb s t → mt_sz s n < mt_sz t n → s + 1 ≤ t := by
    intro t t1 t2
    have l := mt_sble t1
    by_cases e : s = t
    · subst e; omega
    · omega
  refine my_sm (F := mt_str n a N) (A := A) hG (Or.inr ⟨rfl, hT⟩) (Or.inr ⟨rfl, rfl⟩) (by omega) (by omega) (by omega) a2 ⟨a3, a4, mt_szN a4 (by omega) (by omega)⟩ (fun t _ q r => a5 t (up t r.2.1 r.2.2) q ⟨r.1, r.2.1⟩) (fun t q1 q2 q3 q4 => mt_szM (a6 t (up t q3 q4) q1 q2 q3) n) fun md fm hT => ?_
  exact h md fm hT
theorem i_vc_parent {k : Nat} {u : SX} {v : SY} (I : i_Rel k u v) (hk : k + 4 ≤ 2049) (v1 : Int32) : wpX_parent (fun r => wpY_parent (fun r' v' => r' = r ∧ i_Rel (k + 4) u v') v v1) u v1 := by
  obtain ⟨n, a, N, kn, md, fm, hG, hK, rfl, rfl⟩ := I
  obtain ⟨g1, g2, g3, g4, g5⟩ := id hG
  rcases mt_arg g4 v1 with hb | ⟨s, h1, h2, rfl⟩
  · have y := my_paB (post := fun r' v' => r' = -2 ∧ i_Rel (k + 4) (nI n, nI a, mt_g N) v') hG hK hb fun md fm hT => ⟨rfl, mt_relT hG hT⟩
    exact br_c (fun _ => y) (fun _ => mx_strB hb (br_t rfl y))
  · by_cases e : s = a
    · exact br_t (congrArg nI e) (my_paN hG hK h1 h2 (Or.inl e) fun md fm hT => ⟨rfl, mt_relT hG hT⟩)
    · refine br_f (fun z => e ((nI_eq (by omega) (by omega)).mp z)) ?_
      refine mx_str hG h1 h2 (fun q => ?_) (fun q => br_t rfl (my_paN hG hK h1 h2 (Or.inr q) fun md fm hT => ⟨rfl, mt_relT hG hT⟩))
      refine br_f (by decide) ?_
      obtain ⟨w, hw⟩ := mt_one h1
      obtain ⟨A, a1, a0, a2, a3, a4, a5, a6⟩ := mt_fsA (N := N) (f := s + 1) g3 h2 (by omega) hw
      rw [nI_1]
      exact mx_fs hG h1 h2 a2 a0 a3 a4 a5 (my_paA hG hK h1 h2 e q a0 a2 a3 a4 a5 a6 fun md fm hT => ⟨rfl, mt_relT hG hT⟩)
end

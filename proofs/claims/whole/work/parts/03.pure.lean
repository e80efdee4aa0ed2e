/-! the pure picture: modules, crossing, strong, children, sizes, counts -/
def mt_G (n a : Nat) (N : Nat → Nat) : Prop := 1 ≤ n ∧ n ≤ 8 ∧ a + 1 = 2 ^ n ∧ a < 256 ∧ ∀ j, N j ≤ a ∧ (N j).testBit j = false
def mt_mod (n : Nat) (N : Nat → Nat) (s : Nat) : Prop := ∀ u, u < n → s.testBit u = false → N u &&& s = 0 ∨ N u &&& s = s
def mt_crs (x y : Nat) : Prop := (∃ i, x.testBit i = true ∧ y.testBit i = true) ∧ ¬ mt_sb x y ∧ ¬ mt_sb y x
def mt_str (n a : Nat) (N : Nat → Nat) (s : Nat) : Prop := mt_mod n N s ∧ ∀ o, 1 ≤ o → o ≤ a → mt_mod n N o → ¬ mt_crs s o
def mt_btw (n a : Nat) (N : Nat → Nat) (c s o : Nat) : Prop := mt_str n a N o ∧ o ≠ s ∧ o ≠ c ∧ mt_sb c o ∧ mt_sb o s
def mt_chd (n a : Nat) (N : Nat → Nat) (s c : Nat) : Prop := mt_str n a N c ∧ c ≠ s ∧ mt_sb c s ∧ ∀ o, 1 ≤ o → o ≤ a → ¬ mt_btw n a N c s o
def mt_sz (s : Nat) : Nat → Nat
  | 0 => 0
  | k + 1 => mt_sz s k + (if s.testBit k = true then 1 else 0)
noncomputable def mt_cn (P : Nat → Prop) : Nat → Nat
  | 0 => 0
  | j + 1 => mt_cn P j + @ite Nat (P j) (Classical.propDecidable (P j)) 1 0
theorem mt_cnT {P : Nat → Prop} {j : Nat} (h : P j) : mt_cn P (j + 1) = mt_cn P j + 1 := by
  show mt_cn P j + @ite Nat (P j) (Classical.propDecidable (P j)) 1 0 = _
  rw [if_pos h]
theorem mt_cnF {P : Nat → Prop} {j : Nat} (h : ¬ P j) : mt_cn P (j + 1) = mt_cn P j := by
  show mt_cn P j + @ite Nat (P j) (Classical.propDecidable (P j)) 1 0 = _
  rw [if_neg h, Nat.add_zero]
theorem mt_cnLe (P : Nat → Prop) : ∀ j, mt_cn P j ≤ j := by
  intro j
  induction j with
  | zero => exact Nat.le_refl _
  | succ j ih =>
    by_cases h : P j
    · rw [mt_cnT h]; omega
    · rw [mt_cnF h]; omega
theorem mt_cnE {P Q : Nat → Prop} : ∀ j, (∀ c, c < j → (P c ↔ Q c)) → mt_cn P j = mt_cn Q j := by
  intro j
  induction j with
  | zero => intro _; rfl
  | succ j ih =>
    intro h
    have e := ih fun c hc => h c (by omega)
    by_cases hp : P j
    · rw [mt_cnT hp, mt_cnT ((h j (by omega)).mp hp), e]
    · rw [mt_cnF hp, mt_cnF (fun z => hp ((h j (by omega)).mpr z)), e]
theorem mt_cn0 {P : Nat → Prop} : ∀ j, (∀ c, c < j → ¬ P c) → mt_cn P j = 0 := by
  intro j
  induction j with
  | zero => intro _; rfl
  | succ j ih =>
    intro h
    rw [mt_cnF (h j (by omega)), ih fun c hc => h c (by omega)]
theorem mt_cn1 {P Q : Nat → Prop} {x : Nat} (hp : P x) (hq : ¬ Q x) : ∀ j, x < j → (∀ c, c < j → c ≠ x → (P c ↔ Q c)) → mt_cn P j = mt_cn Q j + 1 := by
  intro j
  induction j with
  | zero => intro h; omega
  | succ j ih =>
    intro hx h
    by_cases e : x = j
    · subst e
      rw [mt_cnT hp, mt_cnF hq, mt_cnE x fun c hc => h c (by omega) (by omega)]
    · have i := ih (by omega) fun c hc hne => h c (by omega) hne
      by_cases hj : P j
      · rw [mt_cnT hj, mt_cnT ((h j (by omega) (by omega)).mp hj), i]
      · rw [mt_cnF hj, mt_cnF (fun z => hj ((h j (by omega) (by omega)).mpr z)), i]
/-! sizes -/
theorem mt_szT {s k : Nat} (h : s.testBit k = true) : mt_sz s (k + 1) = mt_sz s k + 1 := by
  show mt_sz s k + _ = _
  rw [if_pos h]
theorem mt_szF {s k : Nat} (h : s.testBit k = false) : mt_sz s (k + 1) = mt_sz s k := by
  show mt_sz s k + _ = _
  rw [if_neg (by rw [h]; decide), Nat.add_zero]
theorem mt_szLe (s : Nat) : ∀ k, mt_sz s k ≤ k := by
  intro k
  induction k with
  | zero => exact Nat.le_refl _
  | succ k ih =>
    cases h : s.testBit k
    · rw [mt_szF h]; omega
    · rw [mt_szT h]; omega
theorem mt_szM {x y : Nat} (h : mt_sb x y) : ∀ k, mt_sz x k ≤ mt_sz y k := by
  intro k
  induction k with
  | zero => exact Nat.le_refl _
  | succ k ih =>
    cases e : x.testBit k
    · rw [mt_szF e]
      cases e2 : y.testBit k
      · rw [mt_szF e2]; exact ih
      · rw [mt_szT e2]; omega
    · rw [mt_szT e, mt_szT (h k e)]; omega
theorem mt_szS {x y w : Nat} (h : mt_sb x y) (hx : x.testBit w = false) (hy : y.testBit w = true) : ∀ k, w < k → mt_sz x k < mt_sz y k := by
  intro k
  induction k with
  | zero => intro h; omega
  | succ k ih =>
    intro hw
    by_cases e : w = k
    · subst e
      rw [mt_szF hx, mt_szT hy]
      have := mt_szM h w
      omega
    · have i := ih (by omega)
      cases e : x.testBit k
      · rw [mt_szF e]
        cases e2 : y.testBit k
        · rw [mt_szF e2]; exact i
        · rw [mt_szT e2]; omega
      · rw [mt_szT e, mt_szT (h k e)]; omega
theorem mt_szN {x y n : Nat} (h : mt_sb x y) (hne : x ≠ y) (hy : y < 2 ^ n) : mt_sz x n < mt_sz y n := by
  have z : ¬ mt_sb y x := fun z => hne (mt_sbaa h z)
  have : ∃ w, y.testBit w = true ∧ x.testBit w = false := by
    refine Classical.byContradiction fun q => z fun i hi => ?_
    cases e : x.testBit i
    · exact absurd ⟨i, hi, e⟩ q
    · rfl
  obtain ⟨w, h1, h2⟩ := this
  exact mt_szS h h2 h1 n (mt_lo hy h1)
theorem mt_szP {x w n : Nat} (hw : x.testBit w = true) (hx : x < 2 ^ n) : 0 < mt_sz x n := by
  have := mt_szN (x := 0) (y := x) (n := n) (fun i hi => by rw [Nat.zero_testBit] at hi; exact absurd hi (by decide)) (fun e => by rw [← e, Nat.zero_testBit] at hw; exact absurd hw (by decide)) hx
  omega
/-! modules -/
theorem mt_ta {n a : Nat} (h : a + 1 = 2 ^ n) (i : Nat) : a.testBit i = decide (i < n) := by
  have e : a = 2 ^ n - 1 := by omega
  rw [e]
  exact Nat.testBit_two_pow_sub_one n i
theorem mt_sa {n a s : Nat} (h : a + 1 = 2 ^ n) (hs : s ≤ a) : mt_sb s a := by
  intro i hi
  rw [mt_ta h]
  exact decide_eq_true (mt_lo (n := n) (by omega) hi)
theorem mt_modA {n : Nat} {N : Nat → Nat} {x y : Nat} (hx : mt_mod n N x) (hy : mt_mod n N y) : mt_mod n N (x &&& y) := by
  intro u hu hb
  rw [Nat.testBit_and] at hb
  cases e : x.testBit u
  · rcases hx u hu e with q | q
    · left; rw [← Nat.and_assoc, q, Nat.zero_and]
    · right; rw [← Nat.and_assoc, q]
  · rw [e] at hb
    rcases hy u hu (by simpa using hb) with q | q
    · left; rw [Nat.and_comm x y, ← Nat.and_assoc, q, Nat.zero_and]
    · right; rw [Nat.and_comm x y, ← Nat.and_assoc, q]
theorem mt_modAll {n a : Nat} {N : Nat → Nat} (h : a + 1 = 2 ^ n) : mt_mod n N a := by
  intro u hu hb
  rw [mt_ta h, decide_eq_true hu] at hb
  exact absurd hb (by decide)
theorem mt_strAll {n a : Nat} {N : Nat → Nat} (h : a + 1 = 2 ^ n) : mt_str n a N a :=
  ⟨mt_modAll h, fun _ _ ho _ hc => hc.2.2 (mt_sa h ho)⟩
theorem mt_strPt {n a : Nat} {N : Nat → Nat} (u : Nat) : mt_str n a N (2 ^ u) := by
  refine ⟨fun w _ _ => ?_, fun o _ _ _ hc => ?_⟩
  · cases e : (N w).testBit u
    · left
      rw [mt_and0]
      intro i hi
      rw [mt_pt]
      apply decide_eq_false
      intro z
      subst z
      rw [e] at hi
      exact absurd hi (by decide)
    · right
      rw [Nat.and_comm, mt_sbA, mt_sbpt]
      exact e
  · obtain ⟨⟨i, h1, h2⟩, h3, _⟩ := hc
    apply h3
    rw [mt_pt] at h1
    simp at h1
    subst h1
    exact (mt_sbpt _ _).mpr h2
theorem mt_nest {n a : Nat} {N : Nat → Nat} {x y w : Nat} (hx : mt_str n a N x) (hy : mt_mod n N y) (h1 : 1 ≤ y) (h2 : y ≤ a) (wx : x.testBit w = true) (wy : y.testBit w = true) : mt_sb x y ∨ mt_sb y x := by
  by_cases p : mt_sb x y
  · exact Or.inl p
  · by_cases q : mt_sb y x
    · exact Or.inr q
    · exact absurd ⟨⟨w, wx, wy⟩, p, q⟩ (hx.2 y h1 h2 hy)
theorem mt_frst {P : Nat → Prop} {a : Nat} (h : P a) : ∃ A, A ≤ a ∧ P A ∧ ∀ j, j < A → ¬ P j := by
  obtain ⟨k, hk, hj⟩ := pk_least P ⟨a, h⟩
  refine ⟨k, ?_, hk, hj⟩
  rcases Nat.lt_or_ge a k with z | z
  · exact absurd h (hj a z)
  · exact z
theorem mt_last {P : Nat → Prop} {b : Nat} (hb : P b) : ∀ s, b < s → ∃ C, b ≤ C ∧ C < s ∧ P C ∧ ∀ j, C < j → j < s → ¬ P j := by
  intro s
  induction s with
  | zero => intro h; omega
  | succ s ih =>
    intro h
    by_cases p : P s
    · exact ⟨s, by omega, by omega, p, fun j h1 h2 => by omega⟩
    · by_cases e : b = s
      · subst e; exact absurd hb p
      · obtain ⟨C, h1, h2, h3, h4⟩ := ih (by omega)
        refine ⟨C, h1, by omega, h3, fun j q1 q2 => ?_⟩
        by_cases e2 : j = s
        · subst e2; exact p
        · exact h4 j q1 (by omega)
theorem mt_one {x : Nat} (h : 1 ≤ x) : ∃ i, x.testBit i = true := mt_nz (by omega)
theorem mt_pos {x i : Nat} (h : x.testBit i = true) : 1 ≤ x := by
  rcases Nat.eq_zero_or_pos x with z | z
  · rw [z, Nat.zero_testBit] at h; exact absurd h (by decide)
  · exact z
/-- the smallest module with the points p -/
theorem mt_arA {n a : Nat} {N : Nat → Nat} {p w : Nat} (h : a + 1 = 2 ^ n) (hp : p ≤ a) (hw : p.testBit w = true) : ∃ A, 1 ≤ A ∧ A ≤ a ∧ mt_mod n N A ∧ mt_sb p A ∧ (∀ s, s < A → ¬ (mt_mod n N s ∧ mt_sb p s)) ∧ (∀ B, B ≤ a → mt_mod n N B → mt_sb p B → mt_sb A B) := by
  obtain ⟨A, h1, h2, h3⟩ := mt_frst (P := fun s => mt_mod n N s ∧ mt_sb p s) (a := a) ⟨mt_modAll h, mt_sa h hp⟩
  refine ⟨A, mt_pos (h2.2 w hw), h1, h2.1, h2.2, h3, fun B _ hb hpb => ?_⟩
  have hm : mt_mod n N (A &&& B) ∧ mt_sb p (A &&& B) := ⟨mt_modA h2.1 hb, fun i hi => by rw [Nat.testBit_and, h2.2 i hi, hpb i hi]; rfl⟩
  have hle : A &&& B ≤ A := Nat.and_le_left
  have e : A &&& B = A := by
    rcases Nat.lt_or_ge (A &&& B) A with z | z
    · exact absurd hm (h3 _ z)
    · omega
  exact (mt_sbA A B).mp e
/-- the smallest strong module with the points p and a number not below f -/
theorem mt_fsA {n a : Nat} {N : Nat → Nat} {p w f : Nat} (h : a + 1 = 2 ^ n) (hp : p ≤ a) (hf : f ≤ a) (hw : p.testBit w = true) : ∃ A, 1 ≤ A ∧ f ≤ A ∧ A ≤ a ∧ mt_str n a N A ∧ mt_sb p A ∧ (∀ s, f ≤ s → s < A → ¬ (mt_str n a N s ∧ mt_sb p s)) ∧ (∀ B, f ≤ B → B ≤ a → mt_str n a N B → mt_sb p B → mt_sb A B) := by
  obtain ⟨A, h1, h2, h3⟩ := mt_frst (P := fun s => f ≤ s ∧ mt_str n a N s ∧ mt_sb p s) (a := a) ⟨hf, mt_strAll h, mt_sa h hp⟩
  refine ⟨A, mt_pos (h2.2.2 w hw), h2.1, h1, h2.2.1, h2.2.2, fun s q1 q2 q3 => h3 s q2 ⟨q1, q3⟩, fun B hfB hB hb hpb => ?_⟩
  rcases mt_nest h2.2.1 hb.1 (mt_pos (hpb w hw)) hB (h2.2.2 w hw) (hpb w hw) with z | z
  · exact z
  · have e : B = A := by
      rcases Nat.lt_or_ge B A with q | q
      · exact absurd ⟨hfB, hb, hpb⟩ (h3 B q)
      · have := mt_sble z; omega
    rw [e]
    exact mt_sbrf A
/-- the child of s with its point u -/
theorem mt_cwA {n a : Nat} {N : Nat → Nat} {s u : Nat} (hs : s ≤ a) (hu : s.testBit u = true) (h1 : s ≠ 2 ^ u) : ∃ C, 1 ≤ C ∧ 2 ^ u ≤ C ∧ C < s ∧ C.testBit u = true ∧ mt_chd n a N s C ∧ (∀ c, C < c → c < s → ¬ (mt_sb (2 ^ u) c ∧ mt_sb c s ∧ mt_str n a N c)) := by
  have hle : 2 ^ u ≤ s := mt_sble ((mt_sbpt u s).mpr hu)
  obtain ⟨C, q1, q2, q3, q4⟩ := mt_last (P := fun c => mt_sb (2 ^ u) c ∧ mt_sb c s ∧ mt_str n a N c) (b := 2 ^ u) ⟨mt_sbrf _, (mt_sbpt u s).mpr hu, mt_strPt u⟩ s (by omega)
  have cu : C.testBit u = true := (mt_sbpt u C).mp q3.1
  refine ⟨C, mt_pos cu, q1, q2, cu, ⟨q3.2.2, by omega, q3.2.1, fun o _ _ hb => ?_⟩, q4⟩
  obtain ⟨b1, b2, b3, b4, b5⟩ := hb
  have l1 := mt_sble b4
  have l2 := mt_sble b5
  exact q4 o (by omega) (by omega) ⟨mt_sbtr q3.1 b4, b5, b1⟩
theorem mt_chU {n a : Nat} {N : Nat → Nat} {s c d w : Nat} (hs : s ≤ a) (hc : mt_chd n a N s c) (hd : mt_chd n a N s d) (wc : c.testBit w = true) (wd : d.testBit w = true) : c = d := by
  have c1 := mt_pos wc
  have d1 := mt_pos wd
  have c2 := mt_sble hc.2.2.1
  have d2 := mt_sble hd.2.2.1
  refine Classical.byContradiction fun ne => ?_
  rcases mt_nest hc.1 hd.1.1 d1 (by omega) wc wd with z | z
  · exact hc.2.2.2 d d1 (by omega) ⟨hd.1, hd.2.1, fun e => ne e.symm, z, hd.2.2.1⟩
  · exact hd.2.2.2 c c1 (by omega) ⟨hc.1, hc.2.1, ne, z, hc.2.2.1⟩

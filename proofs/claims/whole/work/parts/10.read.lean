/-! the reading methods -/
theorem mt_relT {k n a : Nat} {N : Nat → Nat} (hG : mt_G n a N) {md fm : Nat → Int32} (hT : mt_T n a N md fm) : i_Rel k (nI n, nI a, mt_g N) (nI n, 1, mt_g N, md, fm) :=
  ⟨n, a, N, 1, md, fm, hG, Or.inr ⟨rfl, hT⟩, rfl, rfl⟩
theorem i_vc_isModule {k : Nat} {u : SX} {v : SY} (I : i_Rel k u v) (hk : k + 4 ≤ 2049) (v1 : Int32) : wpX_isModule (fun r => wpY_isModule (fun r' v' => r' = r ∧ i_Rel (k + 4) u v') v v1) u v1 := by
  obtain ⟨n, a, N, kn, md, fm, hG, hK, rfl, rfl⟩ := I
  rcases mt_arg hG.2.2.2.1 v1 with hb | ⟨s, h1, h2, rfl⟩
  · exact mx_modB hb (my_isMB hG hK hb fun md fm hT => ⟨rfl, mt_relT hG hT⟩)
  · exact mx_mod hG h1 h2 (fun q => my_isM hG hK h1 h2 fun md fm hT => ⟨fun _ => ⟨rfl, mt_relT hG hT⟩, fun z => absurd q z⟩) (fun q => my_isM hG hK h1 h2 fun md fm hT => ⟨fun z => absurd z q, fun _ => ⟨rfl, mt_relT hG hT⟩⟩)
theorem i_vc_isStrong {k : Nat} {u : SX} {v : SY} (I : i_Rel k u v) (hk : k + 4 ≤ 2049) (v1 : Int32) : wpX_isStrong (fun r => wpY_isStrong (fun r' v' => r' = r ∧ i_Rel (k + 4) u v') v v1) u v1 := by
  obtain ⟨n, a, N, kn, md, fm, hG, hK, rfl, rfl⟩ := I
  rcases mt_arg hG.2.2.2.1 v1 with hb | ⟨s, h1, h2, rfl⟩
  · exact mx_strB hb (my_isSB hG hK hb fun md fm hT => ⟨rfl, mt_relT hG hT⟩)
  · exact mx_str hG h1 h2 (fun q => my_isS hG hK h1 h2 fun md fm hT => ⟨fun _ => ⟨rfl, mt_relT hG hT⟩, fun z => absurd q z⟩) (fun q => my_isS hG hK h1 h2 fun md fm hT => ⟨fun z => absurd z q, fun _ => ⟨rfl, mt_relT hG hT⟩⟩)
theorem i_vc_strong {k : Nat} {u : SX} {v : SY} (I : i_Rel k u v) (hk : k + 4 ≤ 2049) : wpX_strong (fun r => wpY_strong (fun r' v' => r' = r ∧ i_Rel (k + 4) u v') v) u := by
  obtain ⟨n, a, N, kn, md, fm, hG, hK, rfl, rfl⟩ := I
  exact mx_strong hG (my_strong hG hK fun md fm hT => ⟨rfl, mt_relT hG hT⟩)
theorem i_vc_modules {k : Nat} {u : SX} {v : SY} (I : i_Rel k u v) (hk : k + 4 ≤ 2049) : wpX_modules (fun r => wpY_modules (fun r' v' => r' = r ∧ i_Rel (k + 4) u v') v) u := by
  obtain ⟨n, a, N, kn, md, fm, hG, hK, rfl, rfl⟩ := I
  exact mx_modules hG (my_modules hG hK fun md fm hT => ⟨rfl, mt_relT hG hT⟩)
theorem i_vc_kind {k : Nat} {u : SX} {v : SY} (I : i_Rel k u v) (hk : k + 4 ≤ 2049) (v1 : Int32) : wpX_kind (fun r => wpY_kind (fun r' v' => r' = r ∧ i_Rel (k + 4) u v') v v1) u v1 := by
  obtain ⟨n, a, N, kn, md, fm, hG, hK, rfl, rfl⟩ := I
  rcases mt_arg hG.2.2.2.1 v1 with hb | ⟨s, h1, h2, rfl⟩
  · exact mx_kindB hb (my_kindB hG hK hb fun md fm hT => ⟨rfl, mt_relT hG hT⟩)
  · refine mx_kind hG h1 h2 (fun q => my_kind hG hK h1 h2 (fun _ md fm hT => ⟨rfl, mt_relT hG hT⟩) (fun z1 z2 => absurd ⟨z1, z2⟩ q)) (fun q1 q2 => ⟨fun y => ?_, fun y w => ?_, fun y w => ?_⟩)
    · exact my_kind hG hK h1 h2 (fun z => absurd ⟨q1, q2⟩ z) (fun _ _ md fm hT => ⟨fun _ => ⟨rfl, mt_relT hG hT⟩, fun z _ => absurd y z, fun z _ => absurd y z⟩)
    · exact my_kind hG hK h1 h2 (fun z => absurd ⟨q1, q2⟩ z) (fun _ _ md fm hT => ⟨fun z => absurd z y, fun _ _ => ⟨rfl, mt_relT hG hT⟩, fun _ z => absurd w z⟩)
    · exact my_kind hG hK h1 h2 (fun z => absurd ⟨q1, q2⟩ z) (fun _ _ md fm hT => ⟨fun z => absurd z y, fun _ z => absurd z w, fun _ _ => ⟨rfl, mt_relT hG hT⟩⟩)
theorem i_vc_children {k : Nat} {u : SX} {v : SY} (I : i_Rel k u v) (hk : k + 4 ≤ 2049) (v1 : Int32) : wpX_children (fun r => wpY_children (fun r' v' => r' = r ∧ i_Rel (k + 4) u v') v v1) u v1 := by
  obtain ⟨n, a, N, kn, md, fm, hG, hK, rfl, rfl⟩ := I
  rcases mt_arg hG.2.2.2.1 v1 with hb | ⟨s, h1, h2, rfl⟩
  · exact mx_childrenB hb (my_childrenB hG hK hb fun md fm hT => ⟨rfl, mt_relT hG hT⟩)
  · exact mx_children hG h1 h2 (fun q => my_children hG hK h1 h2 (fun _ md fm hT => ⟨rfl, mt_relT hG hT⟩) (fun z1 z2 => absurd ⟨z1, z2⟩ q)) (fun q1 q2 => my_children hG hK h1 h2 (fun z => absurd ⟨q1, q2⟩ z) (fun _ _ md fm hT => ⟨rfl, mt_relT hG hT⟩))
/-! around, strongAround -/
theorem mt_pair {i j : Nat} (hi : i < 8) (hj : j < 8) : ((1 : Int32) <<< (nI i &&& 31)) ||| ((1 : Int32) <<< (nI j &&& 31)) = nI (2 ^ i ||| 2 ^ j) := by
  rw [mt_shl i hi, mt_shl j hj, mt_or]
theorem mt_pairL {n a i j : Nat} (h : a + 1 = 2 ^ n) (hi : i < n) (hj : j < n) : 2 ^ i ||| 2 ^ j ≤ a := by
  have h1 : 2 ^ i < 2 ^ n := Nat.pow_lt_pow_right (by decide) hi
  have h2 : 2 ^ j < 2 ^ n := Nat.pow_lt_pow_right (by decide) hj
  have := Nat.or_lt_two_pow h1 h2
  omega
theorem mt_pairB (i j : Nat) : (2 ^ i ||| 2 ^ j).testBit i = true := by
  rw [Nat.testBit_or, mt_pt]
  simp
def mt_ab (n : Nat) (x y : Int32) : Prop := (x < 0 ∨ nI n ≤ x) ∨ ((∃ i, i < n ∧ x = nI i) ∧ (y < 0 ∨ nI n ≤ y))
theorem mx_arB {n : Nat} (hn : n ≤ 8) {x y fa : Int32} {g : Nat → Int32} (hx : mt_ab n x y) {post : Int32 → Prop} (h : post (-1)) : wpX_around post (nI n, fa, g) x y := by
  unfold wpX_around
  dsimp only
  rcases hx with z | ⟨⟨i, hi, rfl⟩, z⟩
  · exact mx_pt0 z (br_t rfl h)
  · refine mx_pt1 hn hi ?_
    refine br_f (by decide) ?_
    exact mx_pt0 z (br_t rfl h)
theorem mx_saB {n : Nat} (hn : n ≤ 8) {x y fa : Int32} {g : Nat → Int32} (hx : mt_ab n x y) {post : Int32 → Prop} (h : post (-1)) : wpX_strongAround post (nI n, fa, g) x y := by
  unfold wpX_strongAround
  dsimp only
  rcases hx with z | ⟨⟨i, hi, rfl⟩, z⟩
  · exact mx_pt0 z (br_t rfl h)
  · refine mx_pt1 hn hi ?_
    refine br_f (by decide) ?_
    exact mx_pt0 z (br_t rfl h)
theorem my_arB {n : Nat} (hn : n ≤ 8) {x y kn : Int32} {g md fm : Nat → Int32} (hx : mt_ab n x y) {post : Int32 → SY → Prop} (h : post (-1) (nI n, kn, g, md, fm)) : wpY_around post (nI n, kn, g, md, fm) x y := by
  unfold wpY_around
  dsimp only
  rcases hx with z | ⟨⟨i, hi, rfl⟩, z⟩
  · exact my_pt0 z (br_t rfl h)
  · refine my_pt1 hn hi ?_
    refine br_f (by decide) ?_
    exact my_pt0 z (br_t rfl h)
theorem my_saB {n : Nat} (hn : n ≤ 8) {x y kn : Int32} {g md fm : Nat → Int32} (hx : mt_ab n x y) {post : Int32 → SY → Prop} (h : post (-1) (nI n, kn, g, md, fm)) : wpY_strongAround post (nI n, kn, g, md, fm) x y := by
  unfold wpY_strongAround
  dsimp only
  rcases hx with z | ⟨⟨i, hi, rfl⟩, z⟩
  · exact my_pt0 z (br_t rfl h)
  · refine my_pt1 hn hi ?_
    refine br_f (by decide) ?_
    exact my_pt0 z (br_t rfl h)
theorem i_vc_around {k : Nat} {u : SX} {v : SY} (I : i_Rel k u v) (hk : k + 4 ≤ 2049) (v1 : Int32) (v2 : Int32) : wpX_around (fun r => wpY_around (fun r' v' => r' = r ∧ i_Rel (k + 4) u v') v v1 v2) u v1 v2 := by
  obtain ⟨n, a, N, kn, md, fm, hG, hK, rfl, rfl⟩ := I
  obtain ⟨g1, g2, g3, g4, g5⟩ := id hG
  rcases mt_poi n g2 v1 with z | ⟨i, hi, rfl⟩
  · exact mx_arB g2 (Or.inl z) (my_arB g2 (Or.inl z) ⟨rfl, n, a, N, kn, md, fm, hG, hK, rfl, rfl⟩)
  rcases mt_poi n g2 v2 with z | ⟨j, hj, rfl⟩
  · exact mx_arB g2 (Or.inr ⟨⟨i, hi, rfl⟩, z⟩) (my_arB g2 (Or.inr ⟨⟨i, hi, rfl⟩, z⟩) ⟨rfl, n, a, N, kn, md, fm, hG, hK, rfl, rfl⟩)
  have pe := mt_pair (i := i) (j := j) (by omega) (by omega)
  have pl := mt_pairL g3 hi hj
  have pb := mt_pairB i j
  have p1 := mt_pos pb
  obtain ⟨A, a1, a2, a3, a4, a5, a6⟩ := mt_arA (N := N) g3 pl pb
  have pA := mt_sble a4
  unfold wpX_around
  dsimp only
  refine mx_pt1 g2 hi ?_
  refine br_f (by decide) ?_
  refine mx_pt1 g2 hj ?_
  refine br_f (by decide) ?_
  refine nm_r pe ⟨a - (2 ^ i ||| 2 ^ j) + 1, mx_arL hG p1 pl a2 a3 a4 a5 ?_ (a - (2 ^ i ||| 2 ^ j)) (2 ^ i ||| 2 ^ j) (by omega) pA⟩
  unfold wpY_around
  dsimp only
  refine my_pt1 g2 hi ?_
  refine br_f (by decide) ?_
  refine my_pt1 g2 hj ?_
  refine br_f (by decide) ?_
  rw [pe]
  refine my_sm (F := mt_mod n N) (L := 0) (A := A) hG hK (Or.inl ⟨rfl, rfl⟩) (by omega) (by omega) a1 a2 ⟨a3, a4, mt_szP (a4 i pb) (by omega)⟩ (fun s _ q r => a5 s q ⟨r.1, r.2.1⟩) (fun s q1 q2 q3 _ => mt_szM (a6 s q1 q2 q3) n) fun md fm hT => ?_
  exact ⟨rfl, mt_relT hG hT⟩
theorem i_vc_strongAround {k : Nat} {u : SX} {v : SY} (I : i_Rel k u v) (hk : k + 4 ≤ 2049) (v1 : Int32) (v2 : Int32) : wpX_strongAround (fun r => wpY_strongAround (fun r' v' => r' = r ∧ i_Rel (k + 4) u v') v v1 v2) u v1 v2 := by
  obtain ⟨n, a, N, kn, md, fm, hG, hK, rfl, rfl⟩ := I
  obtain ⟨g1, g2, g3, g4, g5⟩ := id hG
  rcases mt_poi n g2 v1 with z | ⟨i, hi, rfl⟩
  · exact mx_saB g2 (Or.inl z) (my_saB g2 (Or.inl z) ⟨rfl, n, a, N, kn, md, fm, hG, hK, rfl, rfl⟩)
  rcases mt_poi n g2 v2 with z | ⟨j, hj, rfl⟩
  · exact mx_saB g2 (Or.inr ⟨⟨i, hi, rfl⟩, z⟩) (my_saB g2 (Or.inr ⟨⟨i, hi, rfl⟩, z⟩) ⟨rfl, n, a, N, kn, md, fm, hG, hK, rfl, rfl⟩)
  have pe := mt_pair (i := i) (j := j) (by omega) (by omega)
  have pl := mt_pairL g3 hi hj
  have pb := mt_pairB i j
  have p1 := mt_pos pb
  obtain ⟨A, a1, a0, a2, a3, a4, a5, a6⟩ := mt_fsA (N := N) g3 pl pl pb
  unfold wpX_strongAround
  dsimp only
  refine mx_pt1 g2 hi ?_
  refine br_f (by decide) ?_
  refine mx_pt1 g2 hj ?_
  refine br_f (by decide) ?_
  refine nm_r pe ?_
  refine mx_fs hG p1 pl a2 a0 a3 a4 a5 ?_
  unfold wpY_strongAround
  dsimp only
  refine my_pt1 g2 hi ?_
  refine br_f (by decide) ?_
  refine my_pt1 g2 hj ?_
  refine br_f (by decide) ?_
  rw [pe]
  refine my_sm (F := mt_str n a N) (L := 0) (A := A) hG hK (Or.inr ⟨rfl, rfl⟩) (by omega) (by omega) a1 a2 ⟨a3, a4, mt_szP (a4 i pb) (by omega)⟩ (fun s _ q r => a5 s (mt_sble r.2.1) q ⟨r.1, r.2.1⟩) (fun s q1 q2 q3 _ => mt_szM (a6 s (mt_sble q3) q1 q2 q3) n) fun md fm hT => ?_
  exact ⟨rfl, mt_relT hG hT⟩
/-! parent -/
theorem my_paB {n a : Nat} {N : Nat → Nat} (hG : mt_G n a N) {kn : Int32} {md fm : Nat → Int32} (hK : mt_K n a N kn md fm) {x : Int32} (hx : mt_bad a x) {post : Int32 → SY → Prop} (h : ∀ md fm, mt_T n a N md fm → post (-2) (nI n, 1, mt_g N, md, fm)) : wpY_parent post (nI n, kn, mt_g N, md, fm) x := by
  unfold wpY_parent
  dsimp only
  exact my_isSB hG hK hx fun md fm hT => br_t rfl (h md fm hT)
theorem my_paN {n a : Nat} {N : Nat → Nat} (hG : mt_G n a N) {kn : Int32} {md fm : Nat → Int32} (hK : mt_K n a N kn md fm) {s : Nat} (h1 : 1 ≤ s) (hs : s ≤ a) (hn : s = a ∨ ¬ mt_str n a N s) {post : Int32 → SY → Prop} (h : ∀ md fm, mt_T n a N md fm → post (-2) (nI n, 1, mt_g N, md, fm)) : wpY_parent post (nI n, kn, mt_g N, md, fm) (nI s) := by
  unfold wpY_parent
  dsimp only
  refine my_isS hG hK h1 hs fun md fm hT => ⟨fun q => ?_, fun q => br_t rfl (h md fm hT)⟩
  dsimp only
  refine br_f (by decide) ?_
  refine my_all hG ?_
  rcases hn with e | e
  · exact br_t (congrArg nI e) (h md fm hT)
  · exact absurd q e
theorem my_paA {n a : Nat} {N : Nat → Nat} (hG : mt_G n a N) {kn : Int32} {md fm : Nat → Int32} (hK : mt_K n a N kn md fm) {s A : Nat} (h1 : 1 ≤ s) (hs : s ≤ a) (ne : s ≠ a) (hm : mt_str n a N s) (a0 : s + 1 ≤ A) (a2 : A ≤ a) (a3 : mt_str n a N A) (a4 : mt_sb s A) (a5 : ∀ t, s + 1 ≤ t → t < A → ¬ (mt_str n a N t ∧ mt_sb s t)) (a6 : ∀ B, s + 1 ≤ B → B ≤ a → mt_str n a N B → mt_sb s B → mt_sb A B) {post : Int32 → SY → Prop} (h : ∀ md fm, mt_T n a N md fm → post (nI A) (nI n, 1, mt_g N, md, fm)) : wpY_parent post (nI n, kn, mt_g N, md, fm) (nI s) := by
  obtain ⟨g1, g2, g3, g4, g5⟩ := id hG
  have sl := mt_szLe s n
  unfold wpY_parent
  dsimp only
  refine my_isS hG hK h1 hs fun md fm hT => ⟨fun q => ?_, fun q => absurd hm q⟩
  dsimp only
  refine br_f (by decide) ?_
  refine my_all hG ?_
  refine br_f (fun e => ne ((nI_eq (by omega) (by omega)).mp e)) ?_
  refine my_sz hG (by omega) ?_
  have up : ∀ t, mt_sb s t → mt_sz s n < mt_sz t n → s + 1 ≤ t := by
    intro t t1 t2
    have l := mt_sble t1
    by_cases e : s = t
    · subst e; omega
    · omega
  refine my_sm (F := mt_str n a N) (A := A) hG (Or.inr ⟨rfl, hT⟩) (Or.inr ⟨rfl, rfl⟩) (by omega) (by omega) (by omega) a2 ⟨a3, a4, mt_szN a4 (by omega) (by omega)⟩ (fun t _ q r => a5 t (up t r.2.1 r.2.2) q ⟨r.1, r.2.1⟩) (fun t q1 q2 q3 q4 => mt_szM (a6 t (up t q3 q4) q1 q2 q3) n) fun md fm hT => ?_
  exact h md fm hT
theorem i_vc_parent {k : Nat} {u : SX} {v : SY} (I : i_Rel k u v) (hk : k + 4 ≤ 2049) (v1 : Int32) : wpX_parent (fun r => wpY_parent (fun r' v' => r' = r ∧ i_Rel (k + 4) u v') v v1) u v1 := by
  obtain ⟨n, a, N, kn, md, fm, hG, hK, rfl, rfl⟩ := I
  obtain ⟨g1, g2, g3, g4, g5⟩ := id hG
  rcases mt_arg g4 v1 with hb | ⟨s, h1, h2, rfl⟩
  · have y := my_paB (post := fun r' v' => r' = -2 ∧ i_Rel (k + 4) (nI n, nI a, mt_g N) v') hG hK hb fun md fm hT => ⟨rfl, mt_relT hG hT⟩
    exact br_c (fun _ => y) (fun _ => mx_strB hb (br_t rfl y))
  · by_cases e : s = a
    · exact br_t (congrArg nI e) (my_paN hG hK h1 h2 (Or.inl e) fun md fm hT => ⟨rfl, mt_relT hG hT⟩)
    · refine br_f (fun z => e ((nI_eq (by omega) (by omega)).mp z)) ?_
      refine mx_str hG h1 h2 (fun q => ?_) (fun q => br_t rfl (my_paN hG hK h1 h2 (Or.inr q) fun md fm hT => ⟨rfl, mt_relT hG hT⟩))
      refine br_f (by decide) ?_
      obtain ⟨w, hw⟩ := mt_one h1
      obtain ⟨A, a1, a0, a2, a3, a4, a5, a6⟩ := mt_fsA (N := N) (f := s + 1) g3 h2 (by omega) hw
      rw [nI_1]
      exact mx_fs hG h1 h2 a2 a0 a3 a4 a5 (my_paA hG hK h1 h2 e q a0 a2 a3 a4 a5 a6 fun md fm hT => ⟨rfl, mt_relT hG hT⟩)

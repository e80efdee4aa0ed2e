/-! the relation, the constructors, join, complement -/
def i_Rel (k : Nat) (u : SX) (v : SY) : Prop := ∃ n a N kn md fm, mt_G n a N ∧ mt_K n a N kn md fm ∧ u = (nI n, nI a, mt_g N) ∧ v = (nI n, kn, mt_g N, md, fm)
theorem i_up {k : Nat} {u : SX} {v : SY} (h : i_Rel k u v) : i_Rel (k + 4) u v := h
theorem mt_z0 : (fun _ => 0 : Nat → Int32) = mt_g (fun _ => 0) := funext fun _ => nI_0.symm
theorem mt_G0 {n : Nat} (h1 : 1 ≤ n) (h8 : n ≤ 8) : mt_G n (2 ^ n - 1) (fun _ => 0) := by
  have hp : 2 ^ n ≤ 2 ^ 8 := Nat.pow_le_pow_right (by decide) h8
  have hq : 0 < 2 ^ n := Nat.two_pow_pos n
  refine ⟨h1, h8, by omega, by omega, fun j => ⟨Nat.zero_le _, Nat.zero_testBit j⟩⟩
theorem mt_rel0 {n : Nat} (h1 : 1 ≤ n) (h8 : n ≤ 8) : i_Rel 1 (nI n, nI (2 ^ n - 1), (fun _ => 0)) (nI n, 0, (fun _ => 0), (fun _ => 0), (fun _ => 0)) :=
  ⟨n, 2 ^ n - 1, fun _ => 0, 0, fun _ => 0, fun _ => 0, mt_G0 h1 h8, Or.inl rfl, by rw [mt_z0], by rw [mt_z0]⟩
theorem mt_8 : nI 8 = 8 := by decide +kernel
theorem mt_1 : nI 1 = 1 := by decide +kernel
theorem mx_in45 {n : Nat} (h8 : n ≤ 8) {g : Nat → Int32} {fa : Int32} {post : SX → Prop} (h : post (nI n, nI (2 ^ n - 1), g)) : wX_init_45 post (nI n) fa g :=
  nm_r (mt_all n (by omega)) h
theorem i_vc0 (k0 : Int32) : wpX_init (fun u => wpY_init (fun v => i_Rel 1 u v) k0) k0 := by
  by_cases h1 : 1 ≤ k0
  · by_cases h8 : k0 ≤ 8
    · have hn : ¬ k0 < 0 := by
        intro z
        exact absurd (Int32.lt_of_le_of_lt h1 z) (by decide)
      obtain ⟨j, hj, rfl⟩ := nI_of2 (n := 8) (M := 8) (by decide) hn h8
      have hj1 : 1 ≤ j := by
        rw [← mt_1, nI_leI (by omega) (by omega)] at h1
        exact h1
      exact br_t h1 (br_t h8 (mx_in45 hj (br_t h1 (br_t h8 (mt_rel0 hj1 hj)))))
    · exact br_t h1 (br_f h8 (mx_in45 (n := 8) (by omega) (br_t h1 (br_f h8 (mt_rel0 (n := 8) (by omega) (by omega))))))
  · exact br_f h1 (mx_in45 (n := 1) (by omega) (br_f h1 (mt_rel0 (n := 1) (by omega) (by omega))))
/-! points -/
theorem mx_pt1 {n j : Nat} (hn : n ≤ 8) (hj : j < n) {fa : Int32} {g : Nat → Int32} {post : Int32 → Prop} (h : post 1) : wpX_isPoint post (nI n, fa, g) (nI j) :=
  br_f (nI_pos (by omega)) (br_f (nI_ge hj (by omega)) h)
theorem mx_pt0 {n : Nat} {x : Int32} (hx : x < 0 ∨ nI n ≤ x) {fa : Int32} {g : Nat → Int32} {post : Int32 → Prop} (h : post 0) : wpX_isPoint post (nI n, fa, g) x := by
  rcases hx with z | z
  · exact br_t z h
  · exact br_c (fun _ => h) (fun _ => br_t z h)
theorem my_pt1 {n j : Nat} (hn : n ≤ 8) (hj : j < n) {kn : Int32} {g md fm : Nat → Int32} {post : Int32 → Prop} (h : post 1) : wpY_isPoint post (nI n, kn, g, md, fm) (nI j) :=
  br_f (nI_pos (by omega)) (br_f (nI_ge hj (by omega)) h)
theorem my_pt0 {n : Nat} {x : Int32} (hx : x < 0 ∨ nI n ≤ x) {kn : Int32} {g md fm : Nat → Int32} {post : Int32 → Prop} (h : post 0) : wpY_isPoint post (nI n, kn, g, md, fm) x := by
  rcases hx with z | z
  · exact br_t z h
  · exact br_c (fun _ => h) (fun _ => br_t z h)
theorem mt_poi (n : Nat) (hn : n ≤ 8) (x : Int32) : (x < 0 ∨ nI n ≤ x) ∨ ∃ j, j < n ∧ x = nI j := by
  rcases pk_ix x (n := n) (by omega) with h | h | h
  · exact Or.inl (Or.inl h)
  · exact Or.inl (Or.inr h)
  · exact Or.inr h
/-! stores -/
def mt_up (N : Nat → Nat) (k x : Nat) : Nat → Nat := fun j => if j = k then x else N j
theorem mt_upE (N : Nat → Nat) {k : Nat} (hk : k < 8) {x : Nat} {y : Int32} (e : y = nI x) : upd (mt_g N) (nI k).toNatClampNeg y = mt_g (mt_up N k x) := by
  rw [nI_clamp (by omega), e]
  funext j
  show (if j = k then nI x else nI (N j)) = nI (if j = k then x else N j)
  by_cases z : j = k
  · rw [if_pos z, if_pos z]
  · rw [if_neg z, if_neg z]
theorem mt_Gup {n a : Nat} {N : Nat → Nat} (hG : mt_G n a N) {k x : Nat} (hx : x ≤ a) (hb : x.testBit k = false) : mt_G n a (mt_up N k x) := by
  obtain ⟨g1, g2, g3, g4, g5⟩ := hG
  refine ⟨g1, g2, g3, g4, fun j => ?_⟩
  unfold mt_up
  by_cases z : j = k
  · rw [if_pos z, z]; exact ⟨hx, hb⟩
  · rw [if_neg z]; exact g5 j
theorem mt_vor (N : Nat → Nat) {i j : Nat} (hi : i < 8) (hj : j < 8) : mt_g N (nI i).toNatClampNeg ||| ((1 : Int32) <<< (nI j &&& 31)) = nI (N i ||| 2 ^ j) := by
  rw [mt_gc N hi, mt_shl j hj, mt_or]
theorem mt_van (N : Nat → Nat) {i j : Nat} (hi : i < 8) (hj : j < 8) (hN : N i < 256) : mt_g N (nI i).toNatClampNeg &&& (((1 : Int32) <<< (nI j &&& 31)) ^^^ (-1)) = nI (mt_df (N i) (2 ^ j)) := by
  rw [mt_gc N hi, mt_shl j hj, mt_not hN]
theorem mt_Gor {n a : Nat} {N : Nat → Nat} (hG : mt_G n a N) {i j : Nat} (hj : j < n) (ne : i ≠ j) : mt_G n a (mt_up N i (N i ||| 2 ^ j)) := by
  obtain ⟨g1, g2, g3, g4, g5⟩ := id hG
  refine mt_Gup hG ?_ ?_
  · have h1 : N i < 2 ^ n := by have := (g5 i).1; omega
    have h2 : 2 ^ j < 2 ^ n := Nat.pow_lt_pow_right (by decide) hj
    have := Nat.or_lt_two_pow h1 h2
    omega
  · rw [Nat.testBit_or, (g5 i).2, mt_pt, decide_eq_false (fun e => ne e.symm)]
    rfl
theorem mt_Gan {n a : Nat} {N : Nat → Nat} (hG : mt_G n a N) {i j : Nat} : mt_G n a (mt_up N i (mt_df (N i) (2 ^ j))) := by
  obtain ⟨g1, g2, g3, g4, g5⟩ := id hG
  have h := (g5 i).1
  refine mt_Gup hG ?_ ?_
  · have := mt_dfle (N i) (2 ^ j); omega
  · rw [mt_tdf (by omega), (g5 i).2]
    rfl
def mt_jo (N : Nat → Nat) (i j : Nat) : Nat → Nat := mt_up (mt_up N i (N i ||| 2 ^ j)) j (mt_up N i (N i ||| 2 ^ j) j ||| 2 ^ i)
def mt_ja (N : Nat → Nat) (i j : Nat) : Nat → Nat := mt_up (mt_up N i (mt_df (N i) (2 ^ j))) j (mt_df (mt_up N i (mt_df (N i) (2 ^ j)) j) (2 ^ i))
theorem mx_join1 {n a : Nat} {N : Nat → Nat} (hG : mt_G n a N) {i j : Nat} (hi : i < n) (hj : j < n) (ne : i ≠ j) {b : Int32} (hb : ¬ b = 0) {post : Int32 → SX → Prop} (h : post 1 (nI n, nI a, mt_g (mt_jo N i j))) : wpX_join post (nI n, nI a, mt_g N) (nI i) (nI j) b := by
  have g2 := hG.2.1
  unfold wpX_join
  dsimp only
  refine mx_pt1 g2 hi ?_
  refine br_f (by decide) ?_
  refine mx_pt1 g2 hj ?_
  refine br_f (by decide) ?_
  refine br_f (fun e => ne ((nI_eq (by omega) (by omega)).mp e)) ?_
  refine br_f hb ?_
  refine ⟨vp_in_nI (by omega) (by omega), vp_in_nI (by omega) (by omega), nm_r (mt_upE N (by omega) (mt_vor N (by omega) (by omega))) ?_⟩
  exact ⟨vp_in_nI (by omega) (by omega), vp_in_nI (by omega) (by omega), nm_r (mt_upE _ (by omega) (mt_vor _ (by omega) (by omega))) h⟩
theorem mx_join0 {n a : Nat} {N : Nat → Nat} (hG : mt_G n a N) {i j : Nat} (hi : i < n) (hj : j < n) (ne : i ≠ j) {post : Int32 → SX → Prop} (h : post 1 (nI n, nI a, mt_g (mt_ja N i j))) : wpX_join post (nI n, nI a, mt_g N) (nI i) (nI j) 0 := by
  have g2 := hG.2.1
  have g4 := hG.2.2.2.1
  have n1 := (hG.2.2.2.2 i).1
  have n2 := ((mt_Gan (i := i) (j := j) hG).2.2.2.2 j).1
  unfold wpX_join
  dsimp only
  refine mx_pt1 g2 hi ?_
  refine br_f (by decide) ?_
  refine mx_pt1 g2 hj ?_
  refine br_f (by decide) ?_
  refine br_f (fun e => ne ((nI_eq (by omega) (by omega)).mp e)) ?_
  refine br_t rfl ?_
  refine ⟨vp_in_nI (by omega) (by omega), vp_in_nI (by omega) (by omega), nm_r (mt_upE N (by omega) (mt_van N (by omega) (by omega) (by omega))) ?_⟩
  exact ⟨vp_in_nI (by omega) (by omega), vp_in_nI (by omega) (by omega), nm_r (mt_upE _ (by omega) (mt_van _ (by omega) (by omega) (by omega))) h⟩
theorem my_join1 {n a : Nat} {N : Nat → Nat} (hG : mt_G n a N) {i j : Nat} (hi : i < n) (hj : j < n) (ne : i ≠ j) {b kn : Int32} {md fm : Nat → Int32} (hb : ¬ b = 0) {post : Int32 → SY → Prop} (h : post 1 (nI n, 0, mt_g (mt_jo N i j), md, fm)) : wpY_join post (nI n, kn, mt_g N, md, fm) (nI i) (nI j) b := by
  have g2 := hG.2.1
  unfold wpY_join
  dsimp only
  refine my_pt1 g2 hi ?_
  refine br_f (by decide) ?_
  refine my_pt1 g2 hj ?_
  refine br_f (by decide) ?_
  refine br_f (fun e => ne ((nI_eq (by omega) (by omega)).mp e)) ?_
  refine br_f hb ?_
  refine ⟨vp_in_nI (by omega) (by omega), vp_in_nI (by omega) (by omega), nm_r (mt_upE N (by omega) (mt_vor N (by omega) (by omega))) (br_f hb ?_)⟩
  exact ⟨vp_in_nI (by omega) (by omega), vp_in_nI (by omega) (by omega), nm_r (mt_upE _ (by omega) (mt_vor _ (by omega) (by omega))) h⟩
theorem my_join0 {n a : Nat} {N : Nat → Nat} (hG : mt_G n a N) {i j : Nat} (hi : i < n) (hj : j < n) (ne : i ≠ j) {kn : Int32} {md fm : Nat → Int32} {post : Int32 → SY → Prop} (h : post 1 (nI n, 0, mt_g (mt_ja N i j), md, fm)) : wpY_join post (nI n, kn, mt_g N, md, fm) (nI i) (nI j) 0 := by
  have g2 := hG.2.1
  have g4 := hG.2.2.2.1
  have n1 := (hG.2.2.2.2 i).1
  have n2 := ((mt_Gan (i := i) (j := j) hG).2.2.2.2 j).1
  unfold wpY_join
  dsimp only
  refine my_pt1 g2 hi ?_
  refine br_f (by decide) ?_
  refine my_pt1 g2 hj ?_
  refine br_f (by decide) ?_
  refine br_f (fun e => ne ((nI_eq (by omega) (by omega)).mp e)) ?_
  refine br_t rfl ?_
  refine ⟨vp_in_nI (by omega) (by omega), vp_in_nI (by omega) (by omega), nm_r (mt_upE N (by omega) (mt_van N (by omega) (by omega) (by omega))) (br_t rfl ?_)⟩
  exact ⟨vp_in_nI (by omega) (by omega), vp_in_nI (by omega) (by omega), nm_r (mt_upE _ (by omega) (mt_van _ (by omega) (by omega) (by omega))) h⟩
def mt_jb (n : Nat) (x y : Int32) : Prop := (x < 0 ∨ nI n ≤ x) ∨ ((∃ i, i < n ∧ x = nI i) ∧ ((y < 0 ∨ nI n ≤ y) ∨ ((∃ i, i < n ∧ y = nI i) ∧ x = y)))
theorem mx_joinB {n : Nat} (hn : n ≤ 8) {x y b fa : Int32} {g : Nat → Int32} (hx : mt_jb n x y) {post : Int32 → SX → Prop} (h : post 0 (nI n, fa, g)) : wpX_join post (nI n, fa, g) x y b := by
  unfold wpX_join
  dsimp only
  rcases hx with z | ⟨⟨i, hi, rfl⟩, z | ⟨⟨j, hj, rfl⟩, e⟩⟩
  · exact mx_pt0 z (br_t rfl h)
  · refine mx_pt1 hn hi ?_
    refine br_f (by decide) ?_
    exact mx_pt0 z (br_t rfl h)
  · refine mx_pt1 hn hi ?_
    refine br_f (by decide) ?_
    refine mx_pt1 hn hj ?_
    refine br_f (by decide) ?_
    exact br_t e h
theorem my_joinB {n : Nat} (hn : n ≤ 8) {x y b kn : Int32} {g md fm : Nat → Int32} (hx : mt_jb n x y) {post : Int32 → SY → Prop} (h : post 0 (nI n, kn, g, md, fm)) : wpY_join post (nI n, kn, g, md, fm) x y b := by
  unfold wpY_join
  dsimp only
  rcases hx with z | ⟨⟨i, hi, rfl⟩, z | ⟨⟨j, hj, rfl⟩, e⟩⟩
  · exact my_pt0 z (br_t rfl h)
  · refine my_pt1 hn hi ?_
    refine br_f (by decide) ?_
    exact my_pt0 z (br_t rfl h)
  · refine my_pt1 hn hi ?_
    refine br_f (by decide) ?_
    refine my_pt1 hn hj ?_
    refine br_f (by decide) ?_
    exact br_t e h
theorem i_vc_join {k : Nat} {u : SX} {v : SY} (I : i_Rel k u v) (hk : k + 4 ≤ 2049) (v1 : Int32) (v2 : Int32) (v3 : Int32) : wpX_join (fun r u' => wpY_join (fun r' v' => r' = r ∧ i_Rel (k + 4) u' v') v v1 v2 (lw_bz v3)) u v1 v2 (lw_bz v3) := by
  obtain ⟨n, a, N, kn, md, fm, hG, hK, rfl, rfl⟩ := I
  have g2 := hG.2.1
  have bad : mt_jb n v1 v2 → wpX_join (fun r u' => wpY_join (fun r' v' => r' = r ∧ i_Rel (k + 4) u' v') (nI n, kn, mt_g N, md, fm) v1 v2 (lw_bz v3)) (nI n, nI a, mt_g N) v1 v2 (lw_bz v3) := fun z =>
    mx_joinB g2 z (my_joinB g2 z ⟨rfl, n, a, N, kn, md, fm, hG, hK, rfl, rfl⟩)
  rcases mt_poi n g2 v1 with z | ⟨i, hi, rfl⟩
  · exact bad (Or.inl z)
  · rcases mt_poi n g2 v2 with z | ⟨j, hj, rfl⟩
    · exact bad (Or.inr ⟨⟨i, hi, rfl⟩, Or.inl z⟩)
    · by_cases e : i = j
      · exact bad (Or.inr ⟨⟨i, hi, rfl⟩, Or.inr ⟨⟨j, hj, rfl⟩, by rw [e]⟩⟩)
      · rcases lw_bz_01 v3 with z | z
        · rw [z]
          exact mx_join0 hG hi hj e (my_join0 hG hi hj e ⟨rfl, n, a, mt_ja N i j, 0, md, fm, mt_Gan (mt_Gan hG), Or.inl rfl, rfl, rfl⟩)
        · have hb : ¬ lw_bz v3 = 0 := by rw [z]; decide
          exact mx_join1 hG hi hj e hb (my_join1 hG hi hj e hb ⟨rfl, n, a, mt_jo N i j, 0, md, fm, mt_Gor (mt_Gor hG hj e) hi (fun q => e q.symm), Or.inl rfl, rfl, rfl⟩)
/-! complement -/
def mt_cv (a : Nat) (N : Nat → Nat) (u : Nat) : Nat := mt_df (mt_df a (N u)) (2 ^ u)
def mt_cp (a : Nat) : Nat → Nat → (Nat → Nat) → (Nat → Nat)
  | 0, _, N => N
  | d + 1, u, N => mt_cp a d (u + 1) (mt_up N u (mt_cv a N u))
theorem mt_Gcv {n a : Nat} {N : Nat → Nat} (hG : mt_G n a N) (u : Nat) : mt_G n a (mt_up N u (mt_cv a N u)) := by
  have g4 := hG.2.2.2.1
  have l1 := mt_dfle a (N u)
  have l2 := mt_dfle (mt_df a (N u)) (2 ^ u)
  refine mt_Gup hG (by unfold mt_cv; omega) ?_
  unfold mt_cv
  rw [mt_tdf (by omega), mt_pt]
  simp
theorem mt_Gcp {n a : Nat} : ∀ d u N, mt_G n a N → mt_G n a (mt_cp a d u N) := by
  intro d
  induction d with
  | zero => intro u N h; exact h
  | succ d ih => intro u N h; exact ih (u + 1) _ (mt_Gcv h u)
theorem mt_cvX {n a : Nat} {N : Nat → Nat} (hG : mt_G n a N) {u : Nat} (hu : u < 8) : mt_g N (nI u).toNatClampNeg ^^^ (nI a &&& (((1 : Int32) <<< (nI u &&& 31)) ^^^ (-1))) = nI (mt_cv a N u) := by
  obtain ⟨g1, g2, g3, g4, g5⟩ := hG
  rw [mt_gc N hu, mt_shl u hu, mt_not g4, nx_xor]
  refine congrArg nI (Nat.eq_of_testBit_eq fun i => ?_)
  have l1 := mt_dfle a (N u)
  unfold mt_cv
  rw [Nat.testBit_xor, mt_tdf g4, mt_tdf (by omega), mt_tdf g4]
  have hs := mt_sa g3 (g5 u).1
  cases e : (N u).testBit i
  · simp
  · rw [hs i e, mt_pt]
    have : u ≠ i := by
      intro z
      subst z
      rw [(g5 u).2] at e
      exact absurd e (by decide)
    rw [decide_eq_false this]
    rfl
theorem mt_cvY {n a : Nat} {N : Nat → Nat} (hG : mt_G n a N) {u : Nat} (hu : u < 8) : (nI a &&& (mt_g N (nI u).toNatClampNeg ^^^ (-1))) &&& (((1 : Int32) <<< (nI u &&& 31)) ^^^ (-1)) = nI (mt_cv a N u) := by
  have g4 := hG.2.2.2.1
  have l1 := mt_dfle a (N u)
  rw [mt_gc N hu, mt_shl u hu, mt_not g4, mt_not (by omega)]
  rfl
theorem mx_cmpL {n a : Nat} {post : SX → Prop} : ∀ d u N, mt_G n a N → u + d = n → post (nI n, nI a, mt_g (mt_cp a d u N)) → wX_complement_2 post (nI n) (nI a) (d + 1) (nI u) (mt_g N) := by
  intro d
  induction d with
  | zero =>
    intro u N hG hu h
    have g2 := hG.2.1
    exact br_t (nI_le (by omega) (by omega)) h
  | succ d ih =>
    intro u N hG hu h
    have g2 := hG.2.1
    refine br_f (nI_ge (by omega) (by omega)) ⟨vp_in_nI (by omega) (by omega), vp_in_nI (by omega) (by omega), nm_r (mt_upE N (by omega) (mt_cvX hG (by omega))) (nm_r (nI_1 _) ?_)⟩
    exact ih (u + 1) _ (mt_Gcv hG u) (by omega) h
theorem my_cmpL {n a : Nat} {kn : Int32} {md fm : Nat → Int32} {post : SY → Prop} : ∀ d u N, mt_G n a N → u + d = n → post (nI n, 0, mt_g (mt_cp a d u N), md, fm) → wY_complement_2 post (nI n) kn (d + 1) (nI u) (mt_g N) md fm := by
  intro d
  induction d with
  | zero =>
    intro u N hG hu h
    have g2 := hG.2.1
    exact br_t (nI_le (by omega) (by omega)) h
  | succ d ih =>
    intro u N hG hu h
    have g2 := hG.2.1
    refine br_f (nI_ge (by omega) (by omega)) ?_
    refine my_all hG ?_
    refine ⟨vp_in_nI (by omega) (by omega), vp_in_nI (by omega) (by omega), nm_r (mt_upE N (by omega) (mt_cvY hG (by omega))) (nm_r (nI_1 _) ?_)⟩
    exact ih (u + 1) _ (mt_Gcv hG u) (by omega) h
theorem i_vc_complement {k : Nat} {u : SX} {v : SY} (I : i_Rel k u v) (hk : k + 4 ≤ 2049) : wpX_complement (fun u' => wpY_complement (fun v' => i_Rel (k + 4) u' v') v) u := by
  obtain ⟨n, a, N, kn, md, fm, hG, hK, rfl, rfl⟩ := I
  refine ⟨n + 1, mx_cmpL n 0 N hG (by omega) ?_⟩
  exact ⟨n + 1, my_cmpL n 0 N hG (by omega) ⟨n, a, mt_cp a n 0 N, 0, md, fm, mt_Gcp n 0 N hG, Or.inl rfl, rfl, rfl⟩⟩

/-! the reference's walks: isModule, isStrong, smallest, counts, isInner -/
theorem my_isM {n a : Nat} {N : Nat → Nat} (hG : mt_G n a N) {kn : Int32} {md fm : Nat → Int32} (hK : mt_K n a N kn md fm) {s : Nat} (h1 : 1 ≤ s) (hs : s ≤ a) {post : Int32 → SY → Prop} (h : ∀ md fm, mt_T n a N md fm → (mt_mod n N s → post 1 (nI n, 1, mt_g N, md, fm)) ∧ (¬ mt_mod n N s → post 0 (nI n, 1, mt_g N, md, fm))) : wpY_isModule post (nI n, kn, mt_g N, md, fm) (nI s) := by
  have g4 := hG.2.2.2.1
  unfold wpY_isModule
  dsimp only
  refine my_look hG hK fun md fm hT => ?_
  dsimp only
  refine my_set hG h1 hs ?_
  refine br_f (by decide) ⟨vp_in_nI (by omega) (by omega), ?_⟩
  exact ek_if (mt_ft (by omega) (hT s h1 hs).1) (fun z => (h md fm hT).2 z) (fun z => (h md fm hT).1 (Classical.byContradiction z))
theorem my_isMB {n a : Nat} {N : Nat → Nat} (hG : mt_G n a N) {kn : Int32} {md fm : Nat → Int32} (hK : mt_K n a N kn md fm) {x : Int32} (hx : mt_bad a x) {post : Int32 → SY → Prop} (h : ∀ md fm, mt_T n a N md fm → post 0 (nI n, 1, mt_g N, md, fm)) : wpY_isModule post (nI n, kn, mt_g N, md, fm) x := by
  unfold wpY_isModule
  dsimp only
  refine my_look hG hK fun md fm hT => ?_
  dsimp only
  refine my_setB hG hx ?_
  exact br_t rfl (h md fm hT)
theorem my_isS {n a : Nat} {N : Nat → Nat} (hG : mt_G n a N) {kn : Int32} {md fm : Nat → Int32} (hK : mt_K n a N kn md fm) {s : Nat} (h1 : 1 ≤ s) (hs : s ≤ a) {post : Int32 → SY → Prop} (h : ∀ md fm, mt_T n a N md fm → (mt_str n a N s → post 1 (nI n, 1, mt_g N, md, fm)) ∧ (¬ mt_str n a N s → post 0 (nI n, 1, mt_g N, md, fm))) : wpY_isStrong post (nI n, kn, mt_g N, md, fm) (nI s) := by
  have g4 := hG.2.2.2.1
  unfold wpY_isStrong
  dsimp only
  refine my_look hG hK fun md fm hT => ?_
  dsimp only
  refine my_set hG h1 hs ?_
  refine br_f (by decide) ⟨vp_in_nI (by omega) (by omega), ?_⟩
  exact ek_if (mt_ft (by omega) (hT s h1 hs).2) (fun z => (h md fm hT).2 z) (fun z => (h md fm hT).1 (Classical.byContradiction z))
theorem my_isSB {n a : Nat} {N : Nat → Nat} (hG : mt_G n a N) {kn : Int32} {md fm : Nat → Int32} (hK : mt_K n a N kn md fm) {x : Int32} (hx : mt_bad a x) {post : Int32 → SY → Prop} (h : ∀ md fm, mt_T n a N md fm → post 0 (nI n, 1, mt_g N, md, fm)) : wpY_isStrong post (nI n, kn, mt_g N, md, fm) x := by
  unfold wpY_isStrong
  dsimp only
  refine my_look hG hK fun md fm hT => ?_
  dsimp only
  refine my_setB hG hx ?_
  exact br_t rfl (h md fm hT)
theorem my_inn {n a : Nat} {N : Nat → Nat} (hG : mt_G n a N) {kn : Int32} {md fm : Nat → Int32} (hK : mt_K n a N kn md fm) {s : Nat} (h1 : 1 ≤ s) (hs : s ≤ a) {post : Int32 → SY → Prop} (h : ∀ md fm, mt_T n a N md fm → (mt_str n a N s → 1 < mt_sz s n → post 1 (nI n, 1, mt_g N, md, fm)) ∧ (¬ (mt_str n a N s ∧ 1 < mt_sz s n) → post 0 (nI n, 1, mt_g N, md, fm))) : wpY_isInner post (nI n, kn, mt_g N, md, fm) (nI s) := by
  have g4 := hG.2.2.2.1
  have g2 := hG.2.1
  have sl := mt_szLe s n
  unfold wpY_isInner
  dsimp only
  refine my_look hG hK fun md fm hT => ?_
  dsimp only
  refine my_set hG h1 hs ?_
  refine br_f (by decide) ⟨vp_in_nI (by omega) (by omega), ?_⟩
  refine ek_if (mt_ft (by omega) (hT s h1 hs).2) (fun z => (h md fm hT).2 fun q => z q.1) (fun z => ?_)
  refine my_sz hG (by omega) ?_
  refine ek_if (nI_leI (b := 1) (by omega) (by omega)) (fun q => (h md fm hT).2 fun r => by omega) (fun q => (h md fm hT).1 (Classical.byContradiction z) (by omega))
theorem my_innB {n a : Nat} {N : Nat → Nat} (hG : mt_G n a N) {kn : Int32} {md fm : Nat → Int32} (hK : mt_K n a N kn md fm) {x : Int32} (hx : mt_bad a x) {post : Int32 → SY → Prop} (h : ∀ md fm, mt_T n a N md fm → post 0 (nI n, 1, mt_g N, md, fm)) : wpY_isInner post (nI n, kn, mt_g N, md, fm) x := by
  unfold wpY_isInner
  dsimp only
  refine my_look hG hK fun md fm hT => ?_
  dsimp only
  refine my_setB hG hx ?_
  exact br_t rfl (h md fm hT)
theorem my_smL {n a : Nat} {N : Nat → Nat} (hG : mt_G n a N) {md fm : Nat → Int32} (hT : mt_T n a N md fm) {F : Nat → Prop} {x2 : Int32} (hF : (x2 = 0 ∧ F = mt_mod n N) ∨ (x2 = 1 ∧ F = mt_str n a N)) {p L A : Nat} (hp : p < 256) (hL : L < 256) (hA1 : 1 ≤ A) (hA : A ≤ a) (hP : F A ∧ mt_sb p A ∧ L < mt_sz A n) (hf : ∀ s, 1 ≤ s → s < A → ¬ (F s ∧ mt_sb p s ∧ L < mt_sz s n)) (hm : ∀ s, s ≤ a → F s → mt_sb p s → L < mt_sz s n → mt_sz A n ≤ mt_sz s n) {post : Int32 → SY → Prop} (h : post (nI A) (nI n, 1, mt_g N, md, fm)) : ∀ d s, s + d = a + 1 → 1 ≤ s → ∀ b, (A < s → b = A) → (s ≤ A → b = 0) → wY_smallest_10 post (nI p) x2 (nI L) (nI n) 1 (mt_g N) md fm (d + 1) (nI b) (nI s) := by
  have g4 := hG.2.2.2.1
  have g2 := hG.2.1
  intro d
  induction d with
  | zero =>
    intro s hs _ b b1 _
    rw [wY_smallest_10]
    refine my_all hG ?_
    have e : b = A := b1 (by omega)
    subst e
    exact br_t (nI_lt (by omega) (by omega)) h
  | succ d ih =>
    intro s hs hs1 b b1 b2
    have sl := mt_szLe s n
    have Al := mt_szLe A n
    have stay : s ≠ A → wY_smallest_10 post (nI p) x2 (nI L) (nI n) 1 (mt_g N) md fm (d + 1) (nI b) (nI s + 1) := by
      intro ne
      rw [nI_1]
      exact ih (s + 1) (by omega) (by omega) b (fun z => b1 (by omega)) (fun z => b2 (by omega))
    have k69 : s ≠ A → wY_smallest_69 post (wY_smallest_10 post (nI p) x2 (nI L) (nI n) 1 (mt_g N) md fm (d + 1)) (nI p) x2 (nI L) (nI b) (nI s) (nI n) 1 (mt_g N) md fm := fun ne => br_t rfl (nm_e (stay ne))
    have k70 : F s → mt_sb p s → L < mt_sz s n → wY_smallest_70 post (wY_smallest_10 post (nI p) x2 (nI L) (nI n) 1 (mt_g N) md fm (d + 1)) (nI p) x2 (nI L) (nI b) (nI s) 1 (nI n) 1 (mt_g N) md fm := by
      intro q1 q2 q3
      have hsA : A ≤ s := by
        rcases Nat.lt_or_ge s A with z | z
        · exact absurd ⟨q1, q2, q3⟩ (hf s hs1 z)
        · exact z
      refine br_f (by decide) ?_
      by_cases e : s = A
      · have e0 : b = 0 := b2 (by omega)
        subst e0
        exact br_t rfl (nm_r (nI_1 _) (ih (s + 1) (by omega) (by omega) s (fun _ => e) (fun z => by omega)))
      · have eA : b = A := b1 (by omega)
        have hq := hm s (by omega) q1 q2 q3
        subst eA
        refine br_f (nI_ne0 (by omega) (by omega)) ?_
        refine my_sz hG (by omega) ?_
        refine my_sz hG (by omega) ?_
        exact br_t (nI_le hq (by omega)) (nm_e (stay e))
    have k46 : F s → wY_smallest_46 post (wY_smallest_10 post (nI p) x2 (nI L) (nI n) 1 (mt_g N) md fm (d + 1)) (nI p) x2 (nI L) (nI b) (nI s) (nI n) 1 (mt_g N) md fm := by
      intro q1
      refine ek_if (mt_idf hp s) (fun hb => ?_) (fun hb => k69 fun e => hb (e ▸ hP.2.1))
      refine my_sz hG (by omega) ?_
      refine ek_if (nI_leI (by omega) (by omega)) (fun z => k69 fun e => ?_) (fun z => k70 q1 hb (by omega))
      subst e
      have := hP.2.2
      omega
    rw [wY_smallest_10]
    refine my_all hG ?_
    refine br_f (nI_nlt (by omega) (by omega)) ?_
    rcases hF with ⟨rfl, rfl⟩ | ⟨rfl, rfl⟩
    · refine br_t rfl ⟨vp_in_nI (by omega) (by omega), ?_⟩
      exact ek_if (mt_ft (by omega) (hT s hs1 (by omega)).1) (fun z => k69 fun e => z (e ▸ hP.1)) (fun z => k46 (Classical.byContradiction z))
    · refine br_f (by decide) ⟨vp_in_nI (by omega) (by omega), ?_⟩
      exact ek_if (mt_ft (by omega) (hT s hs1 (by omega)).2) (fun z => k69 fun e => z (e ▸ hP.1)) (fun z => k46 (Classical.byContradiction z))
theorem my_sm {n a : Nat} {N : Nat → Nat} (hG : mt_G n a N) {kn : Int32} {md fm : Nat → Int32} (hK : mt_K n a N kn md fm) {F : Nat → Prop} {x2 : Int32} (hF : (x2 = 0 ∧ F = mt_mod n N) ∨ (x2 = 1 ∧ F = mt_str n a N)) {p L A : Nat} (hp : p < 256) (hL : L < 256) (hA1 : 1 ≤ A) (hA : A ≤ a) (hP : F A ∧ mt_sb p A ∧ L < mt_sz A n) (hf : ∀ s, 1 ≤ s → s < A → ¬ (F s ∧ mt_sb p s ∧ L < mt_sz s n)) (hm : ∀ s, s ≤ a → F s → mt_sb p s → L < mt_sz s n → mt_sz A n ≤ mt_sz s n) {post : Int32 → SY → Prop} (h : ∀ md fm, mt_T n a N md fm → post (nI A) (nI n, 1, mt_g N, md, fm)) : wpY_smallest post (nI n, kn, mt_g N, md, fm) (nI p) x2 (nI L) := by
  unfold wpY_smallest
  dsimp only
  refine my_look hG hK fun md fm hT => ?_
  dsimp only
  exact ⟨a + 1, my_smL hG hT hF hp hL hA1 hA hP hf hm (h md fm hT) a 1 (by omega) (by omega) 0 (fun z => by omega) (fun _ => rfl)⟩
theorem my_strongL {n a : Nat} {N : Nat → Nat} (hG : mt_G n a N) {md fm : Nat → Int32} (hT : mt_T n a N md fm) {post : Int32 → SY → Prop} (h : post (nI (mt_cn (fun c => 1 ≤ c ∧ mt_str n a N c) (a + 1))) (nI n, 1, mt_g N, md, fm)) : ∀ d s, s + d = a + 1 → 1 ≤ s → wY_strong_8 post (nI n) 1 (mt_g N) md fm (d + 1) (nI (mt_cn (fun c => 1 ≤ c ∧ mt_str n a N c) s)) (nI s) := by
  have g4 := hG.2.2.2.1
  intro d
  induction d with
  | zero =>
    intro s hs _
    have e : s = a + 1 := by omega
    subst e
    rw [wY_strong_8]
    refine my_all hG ?_
    exact br_t (nI_lt (by omega) (by omega)) h
  | succ d ih =>
    intro s hs hs1
    have i := ih (s + 1) (by omega) (by omega)
    rw [wY_strong_8]
    refine my_all hG ?_
    refine br_f (nI_nlt (by omega) (by omega)) ⟨vp_in_nI (by omega) (by omega), ?_⟩
    refine ek_if (mt_ft (by omega) (hT s hs1 (by omega)).2) (fun z => ?_) (fun z => ?_)
    · rw [mt_cnF (fun q => z q.2)] at i
      exact nm_r (nI_1 _) i
    · rw [mt_cnT ⟨hs1, Classical.byContradiction z⟩] at i
      exact nm_r (nI_1 _) (nm_r (nI_1 _) i)
theorem my_strong {n a : Nat} {N : Nat → Nat} (hG : mt_G n a N) {kn : Int32} {md fm : Nat → Int32} (hK : mt_K n a N kn md fm) {post : Int32 → SY → Prop} (h : ∀ md fm, mt_T n a N md fm → post (nI (mt_cn (fun c => 1 ≤ c ∧ mt_str n a N c) (a + 1))) (nI n, 1, mt_g N, md, fm)) : wpY_strong post (nI n, kn, mt_g N, md, fm) := by
  unfold wpY_strong
  dsimp only
  refine my_look hG hK fun md fm hT => ?_
  dsimp only
  have i := my_strongL hG hT (h md fm hT) a 1 (by omega) (by omega)
  rw [mt_cnOne] at i
  exact ⟨a + 1, i⟩
theorem my_modulesL {n a : Nat} {N : Nat → Nat} (hG : mt_G n a N) {md fm : Nat → Int32} (hT : mt_T n a N md fm) {post : Int32 → SY → Prop} (h : post (nI (mt_cn (fun c => 1 ≤ c ∧ mt_mod n N c) (a + 1))) (nI n, 1, mt_g N, md, fm)) : ∀ d s, s + d = a + 1 → 1 ≤ s → wY_modules_8 post (nI n) 1 (mt_g N) md fm (d + 1) (nI (mt_cn (fun c => 1 ≤ c ∧ mt_mod n N c) s)) (nI s) := by
  have g4 := hG.2.2.2.1
  intro d
  induction d with
  | zero =>
    intro s hs _
    have e : s = a + 1 := by omega
    subst e
    rw [wY_modules_8]
    refine my_all hG ?_
    exact br_t (nI_lt (by omega) (by omega)) h
  | succ d ih =>
    intro s hs hs1
    have i := ih (s + 1) (by omega) (by omega)
    rw [wY_modules_8]
    refine my_all hG ?_
    refine br_f (nI_nlt (by omega) (by omega)) ⟨vp_in_nI (by omega) (by omega), ?_⟩
    refine ek_if (mt_ft (by omega) (hT s hs1 (by omega)).1) (fun z => ?_) (fun z => ?_)
    · rw [mt_cnF (fun q => z q.2)] at i
      exact nm_r (nI_1 _) i
    · rw [mt_cnT ⟨hs1, Classical.byContradiction z⟩] at i
      exact nm_r (nI_1 _) (nm_r (nI_1 _) i)
theorem my_modules {n a : Nat} {N : Nat → Nat} (hG : mt_G n a N) {kn : Int32} {md fm : Nat → Int32} (hK : mt_K n a N kn md fm) {post : Int32 → SY → Prop} (h : ∀ md fm, mt_T n a N md fm → post (nI (mt_cn (fun c => 1 ≤ c ∧ mt_mod n N c) (a + 1))) (nI n, 1, mt_g N, md, fm)) : wpY_modules post (nI n, kn, mt_g N, md, fm) := by
  unfold wpY_modules
  dsimp only
  refine my_look hG hK fun md fm hT => ?_
  dsimp only
  have i := my_modulesL hG hT (h md fm hT) a 1 (by omega) (by omega)
  rw [mt_cnOne] at i
  exact ⟨a + 1, i⟩

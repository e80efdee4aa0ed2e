/-! the component's walks: isModule, cross, isStrong, isWithin, searches -/
def mt_g (N : Nat → Nat) : Nat → Int32 := fun j => nI (N j)
theorem mt_gc (N : Nat → Nat) {u : Nat} (hu : u < 8) : mt_g N (nI u).toNatClampNeg = nI (N u) := by
  rw [nI_clamp (by omega)]; rfl
def mt_bad (a : Nat) (x : Int32) : Prop := x < 1 ∨ nI a < x
theorem mt_arg {a : Nat} (ha : a < 256) (x : Int32) : mt_bad a x ∨ ∃ s, 1 ≤ s ∧ s ≤ a ∧ x = nI s := by
  rcases pk_ix x (n := a + 1) (by omega) with h | h | ⟨j, hj, e⟩
  · left; left; exact Int32.lt_trans h (by decide)
  · left; right
    obtain ⟨j, hj, e⟩ := nI_of (x := x) (by
      intro z
      have q : nI (a + 1) < 0 := Int32.lt_of_le_of_lt h z
      exact absurd q (nI_pos (by omega)))
    subst e
    rw [nI_leI (by omega) hj] at h
    rw [nI_ltI (by omega) hj]
    omega
  · by_cases z : j = 0
    · left; left; subst z; subst e; exact (by decide : nI 0 < 1)
    · right; exact ⟨j, by omega, by omega, e⟩
theorem mx_modL {n a : Nat} {N : Nat → Nat} {s : Nat} (hG : mt_G n a N) (hs : s < 256) {post : Int32 → Prop} (h1 : mt_mod n N s → post 1) (h0 : ¬ mt_mod n N s → post 0) : ∀ d u, u + d = n → (∀ w, w < u → s.testBit w = false → N w &&& s = 0 ∨ N w &&& s = s) → wX_isModule_17 post (nI s) (nI n) (nI a) (mt_g N) (d + 1) (nI u) := by
  obtain ⟨g1, g2, g3, g4, g5⟩ := hG
  intro d
  induction d with
  | zero =>
    intro u hu hw
    refine br_t (nI_le (by omega) (by omega)) (h1 fun w hw' => hw w (by omega))
  | succ d ih =>
    intro u hu hw
    have next : (s.testBit u = false → N u &&& s = 0 ∨ N u &&& s = s) → wX_isModule_17 post (nI s) (nI n) (nI a) (mt_g N) (d + 1) (nI u + 1) := by
      intro hc
      rw [nI_1]
      refine ih (u + 1) (by omega) fun w h => ?_
      by_cases e : w = u
      · subst e; exact hc
      · exact hw w (by omega)
    have hN : N u < 256 := by have := (g5 u).1; omega
    refine br_f (nI_ge (by omega) (by omega)) ⟨vp_in_nI (by omega) (by omega), nm_r (e' := nI (N u &&& s)) (by rw [mt_gc N (by omega), nx_and]) ?_⟩
    refine ek_if (mt_ibit hs (by omega)) (fun hb => ?_) (fun hb => ?_)
    · refine br_f (by decide) ?_
      refine ek_if (mt_i0 (mt_al hN)) (fun hz => nm_e (next fun _ => Or.inl hz)) (fun hz => ?_)
      refine ek_if (mt_iE (mt_al hN) hs) (fun he => nm_e (next fun _ => Or.inr he)) (fun he => h0 fun hm => ?_)
      rcases hm u (by omega) hb with q | q
      · exact hz q
      · exact he q
    · exact br_t rfl (nm_e (next fun z => absurd z hb))
theorem mx_mod {n a : Nat} {N : Nat → Nat} {s : Nat} (hG : mt_G n a N) (hs1 : 1 ≤ s) (hs : s ≤ a) {post : Int32 → Prop} (h1 : mt_mod n N s → post 1) (h0 : ¬ mt_mod n N s → post 0) : wpX_isModule post (nI n, nI a, mt_g N) (nI s) := by
  have g4 := hG.2.2.2.1
  exact br_f (nI_nlt (b := 1) (by omega) (by omega)) (br_t (nI_le hs (by omega)) ⟨n + 1, mx_modL hG (by omega) h1 h0 n 0 (by omega) fun w hw => by omega⟩)
theorem mx_modB {n a : Nat} {N : Nat → Nat} {x : Int32} (hx : mt_bad a x) {post : Int32 → Prop} (h0 : post 0) : wpX_isModule post (nI n, nI a, mt_g N) x := by
  by_cases z : x < 1
  · exact br_t z h0
  · rcases hx with q | q
    · exact absurd q z
    · exact br_f z (br_f (Int32.not_le.mpr q) h0)
theorem mx_crs {x y : Nat} (hx : x < 256) (hy : y < 256) {post : Int32 → Prop} (h1 : mt_crs x y → post 1) (h0 : ¬ mt_crs x y → post 0) : wpX_cross post (nI x) (nI y) := by
  refine ek_if (mt_iand0 hx y) (fun z => h0 fun c => (mt_andn0 x y).mpr c.1 z) fun z => ?_
  refine ek_if (mt_idf hx y) (fun z2 => h0 fun c => c.2.1 z2) fun z2 => ?_
  exact ek_if (mt_idf hy x) (fun z3 => h0 fun c => c.2.2 z3) fun z3 => h1 ⟨(mt_andn0 x y).mp z, z2, z3⟩
theorem mx_strL {n a : Nat} {N : Nat → Nat} {s : Nat} (hG : mt_G n a N) (hs : s < 256) (hm : mt_mod n N s) {post : Int32 → Prop} (h1 : mt_str n a N s → post 1) (h0 : ¬ mt_str n a N s → post 0) : ∀ d o, o + d = a + 1 → 1 ≤ o → (∀ w, 1 ≤ w → w < o → mt_mod n N w → ¬ mt_crs s w) → wX_isStrong_12 post (nI s) (nI n) (nI a) (mt_g N) (d + 1) (nI o) := by
  have g4 := hG.2.2.2.1
  intro d
  induction d with
  | zero =>
    intro o ho h hw
    exact br_t (nI_lt (by omega) (by omega)) (h1 ⟨hm, fun w q1 q2 => hw w q1 (by omega)⟩)
  | succ d ih =>
    intro o ho h hw
    have next : (mt_mod n N o → ¬ mt_crs s o) → wX_isStrong_12 post (nI s) (nI n) (nI a) (mt_g N) (d + 1) (nI o + 1) := by
      intro hc
      rw [nI_1]
      refine ih (o + 1) (by omega) (by omega) fun w q h => ?_
      by_cases e : w = o
      · subst e; exact hc
      · exact hw w q (by omega)
    refine br_f (nI_nlt (by omega) (by omega)) ?_
    refine mx_crs hs (by omega) (fun hc => ?_) (fun hc => ?_)
    · refine br_f (by decide) ?_
      refine mx_mod hG h (by omega) (fun ho' => ?_) (fun ho' => ?_)
      · exact br_f (by decide) (h0 fun z => z.2 o h (by omega) ho' hc)
      · exact br_t rfl (nm_e (next fun z => absurd z ho'))
    · exact br_t rfl (nm_e (next fun _ => hc))
theorem mx_str {n a : Nat} {N : Nat → Nat} {s : Nat} (hG : mt_G n a N) (hs1 : 1 ≤ s) (hs : s ≤ a) {post : Int32 → Prop} (h1 : mt_str n a N s → post 1) (h0 : ¬ mt_str n a N s → post 0) : wpX_isStrong post (nI n, nI a, mt_g N) (nI s) := by
  have g4 := hG.2.2.2.1
  unfold wpX_isStrong
  dsimp only
  refine mx_mod hG hs1 hs (fun hm => ?_) (fun hm => ?_)
  · exact br_f (by decide) ⟨a + 1, mx_strL hG (by omega) hm h1 h0 a 1 (by omega) (by omega) fun w q1 q2 => by omega⟩
  · exact br_t rfl (h0 fun z => hm z.1)
theorem mx_strB {n a : Nat} {N : Nat → Nat} {x : Int32} (hx : mt_bad a x) {post : Int32 → Prop} (h0 : post 0) : wpX_isStrong post (nI n, nI a, mt_g N) x := by
  unfold wpX_isStrong
  dsimp only
  exact mx_modB hx (br_t rfl h0)
theorem mx_wi {x y : Nat} (hx : x < 256) {post : Int32 → Prop} (h1 : mt_sb x y → post 1) (h0 : ¬ mt_sb x y → post 0) : wpX_isWithin post (nI x) (nI y) :=
  ek_if (mt_iwi hx y) h1 h0
theorem mx_arL {n a : Nat} {N : Nat → Nat} {p A : Nat} (hG : mt_G n a N) (hp1 : 1 ≤ p) (hp : p ≤ a) (hA : A ≤ a) (hm : mt_mod n N A) (hb : mt_sb p A) (hf : ∀ s, s < A → ¬ (mt_mod n N s ∧ mt_sb p s)) {post : Int32 → Prop} (h1 : post (nI A)) : ∀ d s, s + d = a → s ≤ A → wX_around_29 post (nI p) (nI n) (nI a) (mt_g N) (d + 1) (nI s) := by
  have g4 := hG.2.2.2.1
  intro d
  induction d with
  | zero =>
    intro s hs hsA
    have e : A = a := by omega
    subst e
    exact br_t (nI_le (by omega) (by omega)) h1
  | succ d ih =>
    intro s hs hsA
    have next : ¬ (mt_mod n N s ∧ mt_sb p s) → wX_around_29 post (nI p) (nI n) (nI a) (mt_g N) (d + 1) (nI s + 1) := by
      intro hc
      rw [nI_1]
      refine ih (s + 1) (by omega) ?_
      by_cases e : s = A
      · subst e; exact absurd ⟨hm, hb⟩ hc
      · omega
    refine br_f (nI_ge (by omega) (by omega)) ?_
    refine mx_wi (by omega) (fun hc => ?_) (fun hc => ?_)
    · refine br_f (by decide) ?_
      have l := mt_sble hc
      refine mx_mod hG (by omega) (by omega) (fun ho' => ?_) (fun ho' => ?_)
      · refine br_f (by decide) ?_
        by_cases e : s = A
        · subst e; exact h1
        · exact absurd ⟨ho', hc⟩ (hf s (by omega))
      · exact br_t rfl (nm_e (next fun z => ho' z.1))
    · exact br_t rfl (nm_e (next fun z => hc z.2))
theorem mx_fsL {n a : Nat} {N : Nat → Nat} {p A f : Nat} (hG : mt_G n a N) (hp1 : 1 ≤ p) (hp : p ≤ a) (hA : A ≤ a) (hm : mt_str n a N A) (hb : mt_sb p A) (hf : ∀ s, f ≤ s → s < A → ¬ (mt_str n a N s ∧ mt_sb p s)) {post : Int32 → Prop} (h1 : post (nI A)) : ∀ d s, s + d = a → f ≤ s → s ≤ A → wX_firstStrong_2 post (nI p) (nI n) (nI a) (mt_g N) (d + 1) (nI s) := by
  have g4 := hG.2.2.2.1
  intro d
  induction d with
  | zero =>
    intro s hs _ hsA
    have e : A = a := by omega
    subst e
    exact br_t (nI_le (by omega) (by omega)) h1
  | succ d ih =>
    intro s hs hfs hsA
    have next : ¬ (mt_str n a N s ∧ mt_sb p s) → wX_firstStrong_2 post (nI p) (nI n) (nI a) (mt_g N) (d + 1) (nI s + 1) := by
      intro hc
      rw [nI_1]
      refine ih (s + 1) (by omega) (by omega) ?_
      by_cases e : s = A
      · subst e; exact absurd ⟨hm, hb⟩ hc
      · omega
    refine br_f (nI_ge (by omega) (by omega)) ?_
    refine mx_wi (by omega) (fun hc => ?_) (fun hc => ?_)
    · refine br_f (by decide) ?_
      have l := mt_sble hc
      refine mx_str hG (by omega) (by omega) (fun ho' => ?_) (fun ho' => ?_)
      · refine br_f (by decide) ?_
        by_cases e : s = A
        · subst e; exact h1
        · exact absurd ⟨ho', hc⟩ (hf s hfs (by omega))
      · exact br_t rfl (nm_e (next fun z => ho' z.1))
    · exact br_t rfl (nm_e (next fun z => hc z.2))
theorem mx_fs {n a : Nat} {N : Nat → Nat} {p A f : Nat} (hG : mt_G n a N) (hp1 : 1 ≤ p) (hp : p ≤ a) (hA : A ≤ a) (hfA : f ≤ A) (hm : mt_str n a N A) (hb : mt_sb p A) (hf : ∀ s, f ≤ s → s < A → ¬ (mt_str n a N s ∧ mt_sb p s)) {post : Int32 → Prop} (h1 : post (nI A)) : wpX_firstStrong post (nI n, nI a, mt_g N) (nI p) (nI f) :=
  ⟨a - f + 1, mx_fsL hG hp1 hp hA hm hb hf h1 (a - f) f (by omega) (by omega) hfA⟩
theorem mx_cwL {n a : Nat} {N : Nat → Nat} {s u C : Nat} (hG : mt_G n a N) (hu : u < 8) (hs : s ≤ a) (hC : 2 ^ u ≤ C) (hCs : C < s) (hm : mt_str n a N C) (hbu : mt_sb (2 ^ u) C) (hbs : mt_sb C s) (hf : ∀ c, C < c → c < s → ¬ (mt_sb (2 ^ u) c ∧ mt_sb c s ∧ mt_str n a N c)) {post : Int32 → Prop} (h1 : post (nI C)) : ∀ d j, j = C + d → j < s → wX_childWith_9 post (nI s) (nI (2 ^ u)) (nI n) (nI a) (mt_g N) (d + 1) (nI j) := by
  have g4 := hG.2.2.2.1
  have p8 := mt_pt8 hu
  have p0 : 0 < 2 ^ u := Nat.two_pow_pos u
  intro d
  induction d with
  | zero =>
    intro j hj hjs
    have e : j = C := by omega
    subst e
    by_cases q : j = 2 ^ u
    · exact br_t (nI_le (by omega) (by omega)) (q ▸ h1)
    · refine br_f (nI_ge (by omega) (by omega)) ?_
      refine mx_wi p8 (fun _ => ?_) (fun z => absurd hbu z)
      refine br_f (by decide) ?_
      refine mx_wi (by omega) (fun _ => ?_) (fun z => absurd hbs z)
      refine br_f (by decide) ?_
      refine mx_str hG (by omega) (by omega) (fun _ => ?_) (fun z => absurd hm z)
      exact br_f (by decide) h1
  | succ d ih =>
    intro j hj hjs
    have next : wX_childWith_9 post (nI s) (nI (2 ^ u)) (nI n) (nI a) (mt_g N) (d + 1) (nI j + (-1)) := by
      have e : j = (C + d) + 1 := by omega
      rw [e, pk_m1]
      exact ih (C + d) rfl (by omega)
    refine br_f (nI_ge (by omega) (by omega)) ?_
    refine mx_wi p8 (fun z1 => ?_) (fun _ => br_t rfl (nm_e next))
    refine br_f (by decide) ?_
    refine mx_wi (by omega) (fun z2 => ?_) (fun _ => br_t rfl (nm_e next))
    refine br_f (by decide) ?_
    refine mx_str hG (by omega) (by omega) (fun z3 => absurd ⟨z1, z2, z3⟩ (hf j (by omega) (by omega))) (fun _ => br_t rfl (nm_e next))
theorem mx_cw {n a : Nat} {N : Nat → Nat} {s u C : Nat} (hG : mt_G n a N) (hu : u < 8) (hs : s ≤ a) (hC : 2 ^ u ≤ C) (hCs : C < s) (hm : mt_str n a N C) (hbu : C.testBit u = true) (hbs : mt_sb C s) (hf : ∀ c, C < c → c < s → ¬ (mt_sb (2 ^ u) c ∧ mt_sb c s ∧ mt_str n a N c)) {post : Int32 → Prop} (h1 : post (nI C)) : wpX_childWith post (nI n, nI a, mt_g N) (nI s) (nI u) := by
  refine nm_r (mt_shl u hu) (nm_r (e' := nI (s - 1)) ?_ ⟨s - 1 - C + 1, ?_⟩)
  · show nI s - nI 1 = _
    exact pk_sub (by omega)
  · exact mx_cwL hG hu hs hC hCs hm ((mt_sbpt u C).mpr hbu) hbs hf h1 (s - 1 - C) (s - 1) (by omega) (by omega)

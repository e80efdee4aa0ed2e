/-! the component's walks: counts, hasChildren, kind, children -/
def mt_fl (p : Prop) (x : Int32) : Prop := (p → x = 1) ∧ (¬ p → x = 0)
theorem mt_flE {p q : Prop} {x : Int32} (h : mt_fl p x) (e : q ↔ p) : mt_fl q x := ⟨fun z => h.1 (e.mp z), fun z => h.2 fun y => z (e.mpr y)⟩
theorem mt_fl1 {p : Prop} (h : p) : mt_fl p 1 := ⟨fun _ => rfl, fun z => absurd h z⟩
theorem mt_fl0 {p : Prop} (h : ¬ p) : mt_fl p 0 := ⟨fun z => absurd z h, fun _ => rfl⟩
theorem mt_flz {p : Prop} {x : Int32} (h : mt_fl p x) : x = 0 ↔ ¬ p := by
  constructor
  · intro z q
    rw [h.1 q] at z
    exact absurd z (by decide)
  · exact h.2
theorem mt_cnOne {Q : Nat → Prop} : mt_cn (fun c => 1 ≤ c ∧ Q c) 1 = 0 := by
  rw [mt_cnF (fun z => absurd z.1 (by omega))]
  rfl
theorem mx_strongL {n a : Nat} {N : Nat → Nat} (hG : mt_G n a N) {post : Int32 → Prop} (h1 : post (nI (mt_cn (fun c => 1 ≤ c ∧ mt_str n a N c) (a + 1)))) : ∀ d s, s + d = a + 1 → 1 ≤ s → wX_strong_4 post (nI n) (nI a) (mt_g N) (d + 1) (nI (mt_cn (fun c => 1 ≤ c ∧ mt_str n a N c) s)) (nI s) := by
  have g4 := hG.2.2.2.1
  intro d
  induction d with
  | zero =>
    intro s hs _
    have e : s = a + 1 := by omega
    subst e
    exact br_t (nI_lt (by omega) (by omega)) h1
  | succ d ih =>
    intro s hs hs1
    have i := ih (s + 1) (by omega) (by omega)
    refine br_f (nI_nlt (by omega) (by omega)) ?_
    refine mx_str hG hs1 (by omega) (fun hc => ?_) (fun hc => ?_)
    · rw [mt_cnT ⟨hs1, hc⟩] at i
      exact br_f (by decide) (nm_r (nI_1 _) (nm_r (nI_1 _) i))
    · rw [mt_cnF (fun z => hc z.2)] at i
      exact br_t rfl (nm_r (nI_1 _) i)
theorem mx_strong {n a : Nat} {N : Nat → Nat} (hG : mt_G n a N) {post : Int32 → Prop} (h1 : post (nI (mt_cn (fun c => 1 ≤ c ∧ mt_str n a N c) (a + 1)))) : wpX_strong post (nI n, nI a, mt_g N) := by
  have i := mx_strongL hG h1 a 1 (by omega) (by omega)
  rw [mt_cnOne] at i
  exact ⟨a + 1, i⟩
theorem mx_modulesL {n a : Nat} {N : Nat → Nat} (hG : mt_G n a N) {post : Int32 → Prop} (h1 : post (nI (mt_cn (fun c => 1 ≤ c ∧ mt_mod n N c) (a + 1)))) : ∀ d s, s + d = a + 1 → 1 ≤ s → wX_modules_4 post (nI n) (nI a) (mt_g N) (d + 1) (nI (mt_cn (fun c => 1 ≤ c ∧ mt_mod n N c) s)) (nI s) := by
  have g4 := hG.2.2.2.1
  intro d
  induction d with
  | zero =>
    intro s hs _
    have e : s = a + 1 := by omega
    subst e
    exact br_t (nI_lt (by omega) (by omega)) h1
  | succ d ih =>
    intro s hs hs1
    have i := ih (s + 1) (by omega) (by omega)
    refine br_f (nI_nlt (by omega) (by omega)) ?_
    refine mx_mod hG hs1 (by omega) (fun hc => ?_) (fun hc => ?_)
    · rw [mt_cnT ⟨hs1, hc⟩] at i
      exact br_f (by decide) (nm_r (nI_1 _) (nm_r (nI_1 _) i))
    · rw [mt_cnF (fun z => hc z.2)] at i
      exact br_t rfl (nm_r (nI_1 _) i)
theorem mx_modules {n a : Nat} {N : Nat → Nat} (hG : mt_G n a N) {post : Int32 → Prop} (h1 : post (nI (mt_cn (fun c => 1 ≤ c ∧ mt_mod n N c) (a + 1)))) : wpX_modules post (nI n, nI a, mt_g N) := by
  have i := mx_modulesL hG h1 a 1 (by omega) (by omega)
  rw [mt_cnOne] at i
  exact ⟨a + 1, i⟩
theorem mt_twoN : ∀ n, n < 9 → ∀ s, s < 256 → s < 2 ^ n → 1 ≤ s → (s &&& (s - 1) = 0 ↔ mt_sz s n ≤ 1) := by decide +kernel
theorem mt_two {n s : Nat} (hn : n < 9) (hs : s < 256) (h : s < 2 ^ n) (h1 : 1 ≤ s) : nI s &&& (nI s - 1) = 0 ↔ mt_sz s n ≤ 1 := by
  have e : nI s - 1 = nI (s - 1) := by
    show nI s - nI 1 = _
    exact pk_sub h1
  rw [e, mt_iand0 hs, mt_twoN n hn s hs h h1]
theorem mx_has {n a : Nat} {N : Nat → Nat} {s : Nat} (hG : mt_G n a N) (hs1 : 1 ≤ s) (hs : s ≤ a) {post : Int32 → Prop} (h1 : mt_str n a N s → 1 < mt_sz s n → post 1) (h0 : ¬ (mt_str n a N s ∧ 1 < mt_sz s n) → post 0) : wpX_hasChildren post (nI n, nI a, mt_g N) (nI s) := by
  obtain ⟨g1, g2, g3, g4, g5⟩ := id hG
  refine ek_if (mt_two (n := n) (by omega) (by omega) (by omega) hs1) (fun z => ?_) (fun z => ?_)
  · exact br_t rfl (h0 fun q => by omega)
  · refine br_f (by decide) ?_
    refine mx_str hG hs1 hs (fun q => ?_) (fun q => ?_)
    · exact br_f (by decide) (h1 q (by omega))
    · exact br_t rfl (h0 fun r => q r.1)
theorem mx_hasB {n a : Nat} {N : Nat → Nat} {x : Int32} (hx : mt_bad a x) {post : Int32 → Prop} (h0 : post 0) : wpX_hasChildren post (nI n, nI a, mt_g N) x := by
  refine br_c (fun _ => br_t rfl h0) (fun _ => br_f (by decide) ?_)
  exact mx_strB hx (br_t rfl h0)
/-! kind -/
def mt_nn (n a : Nat) (N : Nat → Nat) (s u : Nat) : Prop := ∀ c w, w < u → mt_chd n a N s c → c.testBit w = true → N w &&& mt_df s c = 0
def mt_aa (n a : Nat) (N : Nat → Nat) (s u : Nat) : Prop := ∀ c w, w < u → mt_chd n a N s c → c.testBit w = true → N w &&& mt_df s c = mt_df s c
theorem mt_nnF {n a : Nat} {N : Nat → Nat} {s u : Nat} (h : s.testBit u = false) : mt_nn n a N s (u + 1) ↔ mt_nn n a N s u := by
  constructor
  · intro q c w hw; exact q c w (by omega)
  · intro q c w hw hc hcw
    by_cases e : w = u
    · subst e; rw [hc.2.2.1 w hcw] at h; exact absurd h (by decide)
    · exact q c w (by omega) hc hcw
theorem mt_aaF {n a : Nat} {N : Nat → Nat} {s u : Nat} (h : s.testBit u = false) : mt_aa n a N s (u + 1) ↔ mt_aa n a N s u := by
  constructor
  · intro q c w hw; exact q c w (by omega)
  · intro q c w hw hc hcw
    by_cases e : w = u
    · subst e; rw [hc.2.2.1 w hcw] at h; exact absurd h (by decide)
    · exact q c w (by omega) hc hcw
theorem mt_nnT {n a : Nat} {N : Nat → Nat} {s u C : Nat} (hs : s ≤ a) (hC : mt_chd n a N s C) (hu : C.testBit u = true) : mt_nn n a N s (u + 1) ↔ (mt_nn n a N s u ∧ N u &&& mt_df s C = 0) := by
  constructor
  · intro q; exact ⟨fun c w hw => q c w (by omega), q C u (by omega) hC hu⟩
  · rintro ⟨q, r⟩ c w hw hc hcw
    by_cases e : w = u
    · subst e; rw [mt_chU hs hc hC hcw hu]; exact r
    · exact q c w (by omega) hc hcw
theorem mt_aaT {n a : Nat} {N : Nat → Nat} {s u C : Nat} (hs : s ≤ a) (hC : mt_chd n a N s C) (hu : C.testBit u = true) : mt_aa n a N s (u + 1) ↔ (mt_aa n a N s u ∧ N u &&& mt_df s C = mt_df s C) := by
  constructor
  · intro q; exact ⟨fun c w hw => q c w (by omega), q C u (by omega) hC hu⟩
  · rintro ⟨q, r⟩ c w hw hc hcw
    by_cases e : w = u
    · subst e; rw [mt_chU hs hc hC hcw hu]; exact r
    · exact q c w (by omega) hc hcw
theorem mx_k75 {post : Int32 → Prop} {J : Int32 → Int32 → Int32 → Prop} {x1 x3 z0 fn fa : Int32} {g : Nat → Int32} {u O M : Nat} {p : Prop} (hO : O < 256) (hM : M < 256) (h3 : mt_fl p x3) (h : ∀ y, mt_fl (p ∧ M = O) y → J z0 y (nI (u + 1))) : wX_kind_75 post J x1 x3 (nI u) (nI O) (nI M) z0 fn fa g := by
  refine ek_if (mt_flz h3) (fun z => nm_r (nI_1 _) (h 0 (mt_fl0 fun q => z q.1))) (fun z => ?_)
  have hp : p := Classical.byContradiction z
  exact ek_if (mt_iE hM hO) (fun e => nm_r (nI_1 _) (h 1 (mt_fl1 ⟨hp, e⟩))) (fun e => nm_r (nI_1 _) (h 0 (mt_fl0 fun q => e q.2)))
theorem mt_ne2 {n s u : Nat} (hs : s < 2 ^ n) (h : 1 < mt_sz s n) (hu : s.testBit u = true) : s ≠ 2 ^ u := by
  intro e
  have hun : u < n := mt_lo hs hu
  subst e
  have : ∀ k, mt_sz (2 ^ u) k ≤ if u < k then 1 else 0 := by
    intro k
    induction k with
    | zero => exact Nat.zero_le _
    | succ k ih =>
      by_cases e : u = k
      · subst e
        rw [mt_szT hu, if_pos (by omega)]
        rw [if_neg (by omega)] at ih
        omega
      · rw [mt_szF (by rw [mt_pt]; exact decide_eq_false e)]
        refine Nat.le_trans ih ?_
        by_cases q : u < k
        · rw [if_pos q, if_pos (by omega)]; exact Nat.le_refl _
        · rw [if_neg q]; exact Nat.zero_le _
  have t := this n
  rw [if_pos hun] at t
  omega
theorem mx_kdL {n a : Nat} {N : Nat → Nat} {s : Nat} (hG : mt_G n a N) (hs1 : 1 ≤ s) (hs : s ≤ a) (hz : 1 < mt_sz s n) {post : Int32 → Prop} (k0 : mt_nn n a N s n → post 0) (k1 : ¬ mt_nn n a N s n → mt_aa n a N s n → post 1) (k2 : ¬ mt_nn n a N s n → ¬ mt_aa n a N s n → post 2) : ∀ d u, u + d = n → ∀ x2 x3, mt_fl (mt_nn n a N s u) x2 → mt_fl (mt_aa n a N s u) x3 → wX_kind_18 post (nI s) (nI n) (nI a) (mt_g N) (d + 1) x2 x3 (nI u) := by
  obtain ⟨g1, g2, g3, g4, g5⟩ := id hG
  intro d
  induction d with
  | zero =>
    intro u hu x2 x3 f2 f3
    have e : u = n := by omega
    subst e
    refine br_t (nI_le (by omega) (by omega)) ?_
    refine ek_if (mt_flz f2) (fun z => ?_) (fun z => k0 (Classical.byContradiction z))
    exact ek_if (mt_flz f3) (fun z2 => k2 z z2) (fun z2 => k1 z (Classical.byContradiction z2))
  | succ d ih =>
    intro u hu x2 x3 f2 f3
    refine br_f (nI_ge (by omega) (by omega)) ?_
    refine ek_if (mt_ibit (by omega) (by omega)) (fun hb => ?_) (fun hb => ?_)
    · exact nm_r (nI_1 _) (ih (u + 1) (by omega) x2 x3 (mt_flE f2 (mt_nnF hb)) (mt_flE f3 (mt_aaF hb)))
    · have hb' : s.testBit u = true := by simpa using hb
      obtain ⟨C, c1, c2, c3, c4, c5, c6⟩ := mt_cwA (n := n) (a := a) (N := N) hs hb' (mt_ne2 (n := n) (by omega) hz hb')
      have hN : N u < 256 := by have := (g5 u).1; omega
      have hO : mt_df s C < 256 := by have := mt_dfle s C; omega
      refine mx_cw hG (by omega) hs c2 c3 c5.1 c4 c5.2.2.1 c6 ?_
      refine nm_r (mt_not (by omega) C) ⟨vp_in_nI (by omega) (by omega), nm_r (e' := nI (N u &&& mt_df s C)) (by rw [mt_gc N (by omega), nx_and]) ?_⟩
      have step : ∀ y2, mt_fl (mt_nn n a N s u ∧ N u &&& mt_df s C = 0) y2 → wX_kind_75 post (wX_kind_18 post (nI s) (nI n) (nI a) (mt_g N) (d + 1)) (nI s) x3 (nI u) (nI (mt_df s C)) (nI (N u &&& mt_df s C)) y2 (nI n) (nI a) (mt_g N) := by
        intro y2 fy
        refine mx_k75 hO (mt_al hN) f3 fun y3 fy3 => ?_
        exact ih (u + 1) (by omega) y2 y3 (mt_flE fy (mt_nnT hs c5 c4)) (mt_flE fy3 (mt_aaT hs c5 c4))
      refine ek_if (mt_flz f2) (fun z => step 0 (mt_fl0 fun q => z q.1)) (fun z => ?_)
      exact ek_if (mt_i0 (mt_al hN)) (fun e => step 1 (mt_fl1 ⟨Classical.byContradiction z, e⟩)) (fun e => step 0 (mt_fl0 fun q => e q.2))
theorem mx_kind {n a : Nat} {N : Nat → Nat} {s : Nat} (hG : mt_G n a N) (hs1 : 1 ≤ s) (hs : s ≤ a) {post : Int32 → Prop} (h0 : ¬ (mt_str n a N s ∧ 1 < mt_sz s n) → post (-2)) (h1 : mt_str n a N s → 1 < mt_sz s n → (mt_nn n a N s n → post 0) ∧ (¬ mt_nn n a N s n → mt_aa n a N s n → post 1) ∧ (¬ mt_nn n a N s n → ¬ mt_aa n a N s n → post 2)) : wpX_kind post (nI n, nI a, mt_g N) (nI s) := by
  unfold wpX_kind
  dsimp only
  refine mx_has hG hs1 hs (fun q1 q2 => ?_) (fun q => br_t rfl (h0 q))
  obtain ⟨k0, k1, k2⟩ := h1 q1 q2
  exact br_f (by decide) ⟨n + 1, mx_kdL hG hs1 hs q2 k0 k1 k2 n 0 (by omega) 1 1 (mt_fl1 fun c w hw => by omega) (mt_fl1 fun c w hw => by omega)⟩
theorem mx_kindB {n a : Nat} {N : Nat → Nat} {x : Int32} (hx : mt_bad a x) {post : Int32 → Prop} (h0 : post (-2)) : wpX_kind post (nI n, nI a, mt_g N) x := by
  unfold wpX_kind
  dsimp only
  exact mx_hasB hx (br_t rfl h0)
/-! children -/
theorem mt_cut {n a : Nat} {N : Nat → Nat} {s l u C : Nat} (hs : s ≤ a) (hs8 : a < 256) (hl : mt_sb l s) (hC : mt_chd n a N s C) (hu : C.testBit u = true) (hlu : l.testBit u = true) (hp : ∀ c, mt_chd n a N s c → mt_sb c l ∨ ∀ i, c.testBit i = true → l.testBit i = false) :
    (∀ c, mt_chd n a N s c → mt_sb c (mt_df l C) ∨ ∀ i, c.testBit i = true → (mt_df l C).testBit i = false) ∧ mt_cn (fun c => 1 ≤ c ∧ mt_chd n a N s c ∧ mt_sb c l) (a + 1) = mt_cn (fun c => 1 ≤ c ∧ mt_chd n a N s c ∧ mt_sb c (mt_df l C)) (a + 1) + 1 := by
  have ll := mt_sble hl
  have l8 : l < 256 := by omega
  have hCl : mt_sb C l := by
    rcases hp C hC with z | z
    · exact z
    · rw [z u hu] at hlu; exact absurd hlu (by decide)
  have key : ∀ c, mt_chd n a N s c → c ≠ C → mt_sb c l → mt_sb c (mt_df l C) := by
    intro c hc ne hcl i hi
    rw [mt_tdf l8, hcl i hi]
    cases e : C.testBit i
    · rfl
    · exact absurd (mt_chU hs hc hC hi e) ne
  have sub : ∀ i, (mt_df l C).testBit i = true → l.testBit i = true ∧ C.testBit i = false := by
    intro i hi
    rw [mt_tdf l8] at hi
    simpa using hi
  refine ⟨fun c hc => ?_, ?_⟩
  · by_cases e : c = C
    · right
      intro i hi
      rw [mt_tdf l8, ← e, hi]
      simp
    · rcases hp c hc with z | z
      · left; exact key c hc e z
      · right
        intro i hi
        rw [mt_tdf l8, z i hi]
        rfl
  · have hCs := mt_sble hC.2.2.1
    refine mt_cn1 (x := C) ⟨mt_pos hu, hC, hCl⟩ (fun z => ?_) (a + 1) (by omega) (fun c _ ne => ?_)
    · have := (sub u (z.2.2 u hu)).2
      rw [hu] at this
      exact absurd this (by decide)
    · constructor
      · rintro ⟨q1, q2, q3⟩; exact ⟨q1, q2, key c q2 ne q3⟩
      · rintro ⟨q1, q2, q3⟩; exact ⟨q1, q2, fun i hi => (sub i (q3 i hi)).1⟩
theorem mx_chL {n a : Nat} {N : Nat → Nat} {s : Nat} (hG : mt_G n a N) (hs1 : 1 ≤ s) (hs : s ≤ a) (hz : 1 < mt_sz s n) {post : Int32 → Prop} (h1 : post (nI (mt_cn (fun c => 1 ≤ c ∧ mt_chd n a N s c) (a + 1)))) : ∀ d u, u + d = n → ∀ k l, k + mt_cn (fun c => 1 ≤ c ∧ mt_chd n a N s c ∧ mt_sb c l) (a + 1) = mt_cn (fun c => 1 ≤ c ∧ mt_chd n a N s c) (a + 1) → mt_sb l s → (∀ c, mt_chd n a N s c → mt_sb c l ∨ ∀ i, c.testBit i = true → l.testBit i = false) → (∀ w, w < u → l.testBit w = false) → wX_children_18 post (nI s) (nI n) (nI a) (mt_g N) (d + 1) (nI k) (nI l) (nI u) := by
  obtain ⟨g1, g2, g3, g4, g5⟩ := id hG
  intro d
  induction d with
  | zero =>
    intro u hu k l hk hl hp hw
    have e : u = n := by omega
    subst e
    have ll := mt_sble hl
    have e0 : l = 0 := by
      rw [mt_z]
      intro i
      cases q : l.testBit i
      · rfl
      · have := hw i (mt_lo (by omega) q); rw [q] at this; exact this
    rw [mt_cn0 (a + 1) (fun c _ z => by
      have := mt_sble z.2.2
      omega), Nat.add_zero] at hk
    exact br_t (nI_le (by omega) (by omega)) (hk ▸ h1)
  | succ d ih =>
    intro u hu k l hk hl hp hw
    have ll := mt_sble hl
    refine br_f (nI_ge (by omega) (by omega)) ?_
    refine ek_if (mt_ibit (by omega) (by omega)) (fun hb => ?_) (fun hb => ?_)
    · refine nm_r (nI_1 _) (ih (u + 1) (by omega) k l hk hl hp fun w h => ?_)
      by_cases e : w = u
      · subst e; exact hb
      · exact hw w (by omega)
    · have hlu : l.testBit u = true := by simpa using hb
      have hb' : s.testBit u = true := hl u hlu
      obtain ⟨C, c1, c2, c3, c4, c5, c6⟩ := mt_cwA (n := n) (a := a) (N := N) hs hb' (mt_ne2 (n := n) (by omega) hz hb')
      obtain ⟨p1, p2⟩ := mt_cut hs g4 hl c5 c4 hlu hp
      have l8 : l < 256 := by omega
      refine mx_cw hG (by omega) hs c2 c3 c5.1 c4 c5.2.2.1 c6 ?_
      refine nm_r (mt_not l8 C) (nm_r (nI_1 _) (nm_r (nI_1 _) ?_))
      refine ih (u + 1) (by omega) (k + 1) (mt_df l C) (by omega) (fun i hi => ?_) p1 (fun w h => ?_)
      · rw [mt_tdf l8] at hi
        simp at hi
        exact hl i hi.1
      · rw [mt_tdf l8]
        by_cases e : w = u
        · subst e; rw [c4]; simp
        · rw [hw w (by omega)]; rfl
theorem mx_children {n a : Nat} {N : Nat → Nat} {s : Nat} (hG : mt_G n a N) (hs1 : 1 ≤ s) (hs : s ≤ a) {post : Int32 → Prop} (h0 : ¬ (mt_str n a N s ∧ 1 < mt_sz s n) → post (-2)) (h1 : mt_str n a N s → 1 < mt_sz s n → post (nI (mt_cn (fun c => 1 ≤ c ∧ mt_chd n a N s c) (a + 1)))) : wpX_children post (nI n, nI a, mt_g N) (nI s) := by
  unfold wpX_children
  dsimp only
  refine mx_has hG hs1 hs (fun q1 q2 => ?_) (fun q => br_t rfl (h0 q))
  refine br_f (by decide) ⟨n + 1, mx_chL hG hs1 hs q2 (h1 q1 q2) n 0 (by omega) 0 s ?_ (mt_sbrf s) (fun c hc => Or.inl hc.2.2.1) (fun w hw => by omega)⟩
  rw [Nat.zero_add]
  exact mt_cnE (a + 1) fun c _ => ⟨fun z => ⟨z.1, z.2.1⟩, fun z => ⟨z.1, z.2, z.2.2.2.1⟩⟩
theorem mx_childrenB {n a : Nat} {N : Nat → Nat} {x : Int32} (hx : mt_bad a x) {post : Int32 → Prop} (h0 : post (-2)) : wpX_children post (nI n, nI a, mt_g N) x := by
  unfold wpX_children
  dsimp only
  exact mx_hasB hx (br_t rfl h0)

/-! the reference's walks: isChild, kind, children -/
theorem my_icL {n a : Nat} {N : Nat → Nat} (hG : mt_G n a N) {g md fm : Nat → Int32} (hT : mt_T n a N md fm) {c s : Nat} (hc : c < 256) (hs : s < 256) {post : Int32 → Prop} (h1 : (∀ o, 1 ≤ o → o ≤ a → ¬ mt_btw n a N c s o) → post 1) (h0 : ¬ (∀ o, 1 ≤ o → o ≤ a → ¬ mt_btw n a N c s o) → post 0) : ∀ d o, o + d = a + 1 → 1 ≤ o → (∀ w, 1 ≤ w → w < o → ¬ mt_btw n a N c s w) → wY_isChild_26 post (nI c) (nI s) (nI n) 1 g md fm (d + 1) (nI o) := by
  have g4 := hG.2.2.2.1
  intro d
  induction d with
  | zero =>
    intro o ho h hw
    rw [wY_isChild_26]
    refine my_all hG ?_
    exact br_t (nI_lt (by omega) (by omega)) (h1 fun w q1 q2 => hw w q1 (by omega))
  | succ d ih =>
    intro o ho h hw
    have k73 : ¬ mt_btw n a N c s o → wY_isChild_73 post (wY_isChild_26 post (nI c) (nI s) (nI n) 1 g md fm (d + 1)) (nI c) (nI s) (nI o) (nI n) 1 g md fm := by
      intro hb
      refine br_t rfl (nm_r (nI_1 _) (ih (o + 1) (by omega) (by omega) fun w q h => ?_))
      by_cases e : w = o
      · subst e; exact hb
      · exact hw w q (by omega)
    rw [wY_isChild_26]
    refine my_all hG ?_
    refine br_f (nI_nlt (by omega) (by omega)) ⟨vp_in_nI (by omega) (by omega), ?_⟩
    refine ek_if (mt_ft (by omega) (hT o h (by omega)).2) (fun z => k73 fun q => z q.1) (fun z => ?_)
    refine ek_if (mt_iE (by omega) hs) (fun e => k73 fun q => q.2.1 e) (fun ne => ?_)
    refine ek_if (mt_iE (by omega) hc) (fun e => k73 fun q => q.2.2.1 e) (fun ne2 => ?_)
    refine ek_if (mt_idf hc o) (fun b1 => ?_) (fun b1 => k73 fun q => b1 q.2.2.2.1)
    refine ek_if (mt_idf (by omega) s) (fun b2 => ?_) (fun b2 => k73 fun q => b2 q.2.2.2.2)
    exact br_f (by decide) (h0 fun q => q o h (by omega) ⟨Classical.byContradiction z, ne, ne2, b1, b2⟩)
theorem my_ic {n a : Nat} {N : Nat → Nat} (hG : mt_G n a N) {g md fm : Nat → Int32} (hT : mt_T n a N md fm) {c s : Nat} (hc1 : 1 ≤ c) (hc : c ≤ a) (hs : s < 256) {post : Int32 → Prop} (h1 : mt_chd n a N s c → post 1) (h0 : ¬ mt_chd n a N s c → post 0) : wpY_isChild post (nI n, 1, g, md, fm) (nI c) (nI s) := by
  have g4 := hG.2.2.2.1
  refine ⟨vp_in_nI (by omega) (by omega), ?_⟩
  refine ek_if (mt_ft (by omega) (hT c hc1 hc).2) (fun z => h0 fun q => z q.1) (fun z => ?_)
  refine ek_if (mt_iE (by omega) hs) (fun e => h0 fun q => q.2.1 e) (fun ne => ?_)
  refine ek_if (mt_idf (by omega) s) (fun b => ?_) (fun b => h0 fun q => b q.2.2.1)
  exact ⟨a + 1, my_icL hG hT (by omega) hs (fun q => h1 ⟨Classical.byContradiction z, ne, b, q⟩) (fun q => h0 fun r => q r.2.2.2) a 1 (by omega) (by omega) fun w q1 q2 => by omega⟩
/-! kind -/
theorem my_k70 {post : Int32 → SY → Prop} {J K : Int32 → Int32 → Int32 → Prop} {x1 x2 x3 x4 fn kn : Int32} {md fm : Nat → Int32} {N : Nat → Nat} {u Z : Nat} {p q : Prop} (hu : u < 8) (hN : N u < 256) (hZ : Z < 256) (h2 : mt_fl p x2) (h3 : mt_fl q x3) (h : ∀ y2 y3, mt_fl (p ∨ ¬ N u &&& Z = 0) y2 → mt_fl (q ∧ N u &&& Z = Z) y3 → K y2 y3 (nI (u + 1))) : wY_kind_70 post J K x1 x2 x3 x4 (nI u) (nI Z) fn kn (mt_g N) md fm := by
  have e : mt_g N (nI u).toNatClampNeg &&& nI Z = nI (N u &&& Z) := by rw [mt_gc N hu, nx_and]
  have i0 : mt_g N (nI u).toNatClampNeg &&& nI Z = 0 ↔ N u &&& Z = 0 := by rw [e, mt_i0 (mt_al hN)]
  have iE : mt_g N (nI u).toNatClampNeg &&& nI Z = nI Z ↔ N u &&& Z = Z := by rw [e, mt_iE (mt_al hN) hZ]
  have k87 : ∀ y2, mt_fl (p ∨ ¬ N u &&& Z = 0) y2 → wY_kind_87 post J K x1 y2 x3 x4 (nI u) (nI Z) fn kn (mt_g N) md fm := by
    intro y2 f2
    refine ⟨vp_in_nI hu (by omega), ?_⟩
    refine ek_if iE (fun z => nm_r (nI_1 _) (h y2 x3 f2 (mt_flE h3 ⟨fun r => r.1, fun r => ⟨r, z⟩⟩))) (fun z => nm_r (nI_1 _) (h y2 0 f2 (mt_fl0 fun r => z r.2)))
  refine ⟨vp_in_nI hu (by omega), ?_⟩
  exact ek_if i0 (fun z => k87 x2 (mt_flE h2 ⟨fun r => r.elim id fun w => absurd z w, Or.inl⟩)) (fun z => k87 1 (mt_fl1 (Or.inr z)))
theorem my_k40 {n a : Nat} {N : Nat → Nat} (hG : mt_G n a N) {md fm : Nat → Int32} {c s : Nat} (hc : c < 256) (hs : s < 256) {post : Int32 → SY → Prop} {J : Int32 → Int32 → Int32 → Prop} {p q : Prop} (h : ∀ x2 x3, mt_fl (p ∨ ∃ w, w < n ∧ c.testBit w = true ∧ ¬ N w &&& mt_df s c = 0) x2 → mt_fl (q ∧ ∀ w, w < n → c.testBit w = true → N w &&& mt_df s c = mt_df s c) x3 → J x2 x3 (nI (c + 1))) : ∀ d u, u + d = n → ∀ x2 x3, mt_fl (p ∨ ∃ w, w < u ∧ c.testBit w = true ∧ ¬ N w &&& mt_df s c = 0) x2 → mt_fl (q ∧ ∀ w, w < u → c.testBit w = true → N w &&& mt_df s c = mt_df s c) x3 → wY_kind_40 post J (nI s) (nI c) (nI n) 1 (mt_g N) md fm (d + 1) x2 x3 (nI u) := by
  obtain ⟨g1, g2, g3, g4, g5⟩ := id hG
  have hO : mt_df s c < 256 := by have := mt_dfle s c; omega
  intro d
  induction d with
  | zero =>
    intro u hu x2 x3 f2 f3
    have e : u = n := by omega
    subst e
    exact br_t (nI_le (by omega) (by omega)) (nm_r (nI_1 _) (h x2 x3 f2 f3))
  | succ d ih =>
    intro u hu x2 x3 f2 f3
    have hN : N u < 256 := by have := (g5 u).1; omega
    refine br_f (nI_ge (by omega) (by omega)) ?_
    refine my_in hc (by omega) (fun hb => ?_) (fun hb => ?_)
    · refine br_f (by decide) ?_
      rw [mt_not hs c]
      refine my_k70 (by omega) hN hO f2 f3 fun y2 y3 e2 e3 => ih (u + 1) (by omega) y2 y3 (mt_flE e2 ?_) (mt_flE e3 ?_)
      · constructor
        · rintro (r | ⟨w, w1, w2, w3⟩)
          · exact Or.inl (Or.inl r)
          · by_cases e : w = u
            · subst e; exact Or.inr w3
            · exact Or.inl (Or.inr ⟨w, by omega, w2, w3⟩)
        · rintro ((r | ⟨w, w1, w2, w3⟩) | r)
          · exact Or.inl r
          · exact Or.inr ⟨w, by omega, w2, w3⟩
          · exact Or.inr ⟨u, by omega, hb, r⟩
      · constructor
        · rintro ⟨r, t⟩; exact ⟨⟨r, fun w hw => t w (by omega)⟩, t u (by omega) hb⟩
        · rintro ⟨⟨r, t⟩, v⟩
          refine ⟨r, fun w hw hcw => ?_⟩
          by_cases e : w = u
          · subst e; exact v
          · exact t w (by omega) hcw
    · refine br_t rfl ?_
      have z0 : N u &&& 0 = 0 := Nat.and_zero _
      refine my_k70 (Z := 0) (by omega) hN (by omega) f2 f3 fun y2 y3 e2 e3 => ih (u + 1) (by omega) y2 y3 (mt_flE e2 ?_) (mt_flE e3 ?_)
      · constructor
        · rintro (r | ⟨w, w1, w2, w3⟩)
          · exact Or.inl (Or.inl r)
          · by_cases e : w = u
            · subst e; rw [hb] at w2; exact absurd w2 (by decide)
            · exact Or.inl (Or.inr ⟨w, by omega, w2, w3⟩)
        · rintro ((r | ⟨w, w1, w2, w3⟩) | r)
          · exact Or.inl r
          · exact Or.inr ⟨w, by omega, w2, w3⟩
          · exact absurd z0 r
      · constructor
        · rintro ⟨r, t⟩; exact ⟨⟨r, fun w hw => t w (by omega)⟩, z0⟩
        · rintro ⟨⟨r, t⟩, v⟩
          refine ⟨r, fun w hw hcw => ?_⟩
          by_cases e : w = u
          · subst e; rw [hb] at hcw; exact absurd hcw (by decide)
          · exact t w (by omega) hcw
def mt_ys (n a : Nat) (N : Nat → Nat) (s c : Nat) : Prop := ∃ e, e < c ∧ mt_chd n a N s e ∧ ∃ w, w < n ∧ e.testBit w = true ∧ ¬ N w &&& mt_df s e = 0
def mt_ye (n a : Nat) (N : Nat → Nat) (s c : Nat) : Prop := ∀ e, e < c → mt_chd n a N s e → ∀ w, w < n → e.testBit w = true → N w &&& mt_df s e = mt_df s e
theorem mt_ysE {n a : Nat} {N : Nat → Nat} {s : Nat} (hs : s ≤ a) : ¬ mt_ys n a N s (a + 1) ↔ mt_nn n a N s n := by
  constructor
  · intro h c w hw hc hcw
    have l := mt_sble hc.2.2.1
    exact Classical.byContradiction fun z => h ⟨c, by omega, hc, w, hw, hcw, z⟩
  · rintro h ⟨c, _, hc, w, hw, hcw, z⟩
    exact z (h c w hw hc hcw)
theorem mt_yeE {n a : Nat} {N : Nat → Nat} {s : Nat} (hs : s ≤ a) : mt_ye n a N s (a + 1) ↔ mt_aa n a N s n := by
  constructor
  · intro h c w hw hc hcw
    have l := mt_sble hc.2.2.1
    exact h c (by omega) hc w hw hcw
  · intro h c _ hc w hw hcw
    exact h c w hw hc hcw
theorem mt_ysF {n a : Nat} {N : Nat → Nat} {s c : Nat} (h : ¬ mt_chd n a N s c) : mt_ys n a N s (c + 1) ↔ mt_ys n a N s c := by
  constructor
  · rintro ⟨e, q1, q2, q3⟩
    by_cases z : e = c
    · subst z; exact absurd q2 h
    · exact ⟨e, by omega, q2, q3⟩
  · rintro ⟨e, q1, q2, q3⟩
    exact ⟨e, by omega, q2, q3⟩
theorem mt_yeF {n a : Nat} {N : Nat → Nat} {s c : Nat} (h : ¬ mt_chd n a N s c) : mt_ye n a N s (c + 1) ↔ mt_ye n a N s c := by
  constructor
  · intro q e he; exact q e (by omega)
  · intro q e he hc
    by_cases z : e = c
    · subst z; exact absurd hc h
    · exact q e (by omega) hc
theorem mt_ysT {n a : Nat} {N : Nat → Nat} {s c : Nat} (h : mt_chd n a N s c) : mt_ys n a N s (c + 1) ↔ (mt_ys n a N s c ∨ ∃ w, w < n ∧ c.testBit w = true ∧ ¬ N w &&& mt_df s c = 0) := by
  constructor
  · rintro ⟨e, q1, q2, q3⟩
    by_cases z : e = c
    · subst z; exact Or.inr q3
    · exact Or.inl ⟨e, by omega, q2, q3⟩
  · rintro (⟨e, q1, q2, q3⟩ | r)
    · exact ⟨e, by omega, q2, q3⟩
    · exact ⟨c, by omega, h, r⟩
theorem mt_yeT {n a : Nat} {N : Nat → Nat} {s c : Nat} (h : mt_chd n a N s c) : mt_ye n a N s (c + 1) ↔ (mt_ye n a N s c ∧ ∀ w, w < n → c.testBit w = true → N w &&& mt_df s c = mt_df s c) := by
  constructor
  · intro q; exact ⟨fun e he => q e (by omega), q c (by omega) h⟩
  · rintro ⟨q, r⟩ e he hc
    by_cases z : e = c
    · subst z; exact r
    · exact q e (by omega) hc
theorem my_k18 {n a : Nat} {N : Nat → Nat} (hG : mt_G n a N) {md fm : Nat → Int32} (hT : mt_T n a N md fm) {s : Nat} (hs : s ≤ a) {post : Int32 → SY → Prop} (k0 : mt_nn n a N s n → post 0 (nI n, 1, mt_g N, md, fm)) (k1 : ¬ mt_nn n a N s n → mt_aa n a N s n → post 1 (nI n, 1, mt_g N, md, fm)) (k2 : ¬ mt_nn n a N s n → ¬ mt_aa n a N s n → post 2 (nI n, 1, mt_g N, md, fm)) : ∀ d c, c + d = a + 1 → 1 ≤ c → ∀ x2 x3, mt_fl (mt_ys n a N s c) x2 → mt_fl (mt_ye n a N s c) x3 → wY_kind_18 post (nI s) (nI n) 1 (mt_g N) md fm (d + 1) x2 x3 (nI c) := by
  have g4 := hG.2.2.2.1
  intro d
  induction d with
  | zero =>
    intro c hc hc1 x2 x3 f2 f3
    have e : c = a + 1 := by omega
    subst e
    rw [wY_kind_18]
    refine my_all hG ?_
    refine br_t (nI_lt (by omega) (by omega)) ?_
    refine ek_if (mt_flz f2) (fun z => k0 ((mt_ysE hs).mp z)) (fun z => ?_)
    have z' : ¬ mt_nn n a N s n := fun q => z ((mt_ysE hs).mpr q)
    exact ek_if (mt_flz f3) (fun y => k2 z' fun q => y ((mt_yeE hs).mpr q)) (fun y => k1 z' ((mt_yeE hs).mp (Classical.byContradiction y)))
  | succ d ih =>
    intro c hc hc1 x2 x3 f2 f3
    rw [wY_kind_18]
    refine my_all hG ?_
    refine br_f (nI_nlt (by omega) (by omega)) ?_
    refine my_ic hG hT hc1 (by omega) (by omega) (fun q => ?_) (fun q => ?_)
    · refine br_f (by decide) ⟨n + 1, ?_⟩
      refine my_k40 hG (p := mt_ys n a N s c) (q := mt_ye n a N s c) (by omega) (by omega) (fun y2 y3 e2 e3 => ih (c + 1) (by omega) (by omega) y2 y3 (mt_flE e2 (mt_ysT q)) (mt_flE e3 (mt_yeT q))) n 0 (by omega) x2 x3 (mt_flE f2 ?_) (mt_flE f3 ?_)
      · constructor
        · rintro (r | ⟨w, w1, _⟩)
          · exact r
          · omega
        · exact Or.inl
      · exact ⟨fun r => r.1, fun r => ⟨r, fun w hw => by omega⟩⟩
    · exact br_t rfl (nm_r (nI_1 _) (ih (c + 1) (by omega) (by omega) x2 x3 (mt_flE f2 (mt_ysF q)) (mt_flE f3 (mt_yeF q))))
theorem my_kind {n a : Nat} {N : Nat → Nat} (hG : mt_G n a N) {kn : Int32} {md fm : Nat → Int32} (hK : mt_K n a N kn md fm) {s : Nat} (h1 : 1 ≤ s) (hs : s ≤ a) {post : Int32 → SY → Prop} (h0 : ¬ (mt_str n a N s ∧ 1 < mt_sz s n) → ∀ md fm, mt_T n a N md fm → post (-2) (nI n, 1, mt_g N, md, fm)) (h : mt_str n a N s → 1 < mt_sz s n → ∀ md fm, mt_T n a N md fm → (mt_nn n a N s n → post 0 (nI n, 1, mt_g N, md, fm)) ∧ (¬ mt_nn n a N s n → mt_aa n a N s n → post 1 (nI n, 1, mt_g N, md, fm)) ∧ (¬ mt_nn n a N s n → ¬ mt_aa n a N s n → post 2 (nI n, 1, mt_g N, md, fm))) : wpY_kind post (nI n, kn, mt_g N, md, fm) (nI s) := by
  unfold wpY_kind
  dsimp only
  refine my_inn hG hK h1 hs fun md fm hT => ⟨fun q1 q2 => ?_, fun q => ?_⟩
  · dsimp only
    obtain ⟨k0, k1, k2⟩ := h q1 q2 md fm hT
    refine br_f (by decide) ⟨a + 1, my_k18 hG hT hs k0 k1 k2 a 1 (by omega) (by omega) 0 1 (mt_fl0 ?_) (mt_fl1 ?_)⟩
    · rintro ⟨e, e1, _, w, _, e2, _⟩
      have := mt_pos e2
      omega
    · intro e e1 _ w _ e2
      have := mt_pos e2
      omega
  · exact br_t rfl (h0 q md fm hT)
theorem my_kindB {n a : Nat} {N : Nat → Nat} (hG : mt_G n a N) {kn : Int32} {md fm : Nat → Int32} (hK : mt_K n a N kn md fm) {x : Int32} (hx : mt_bad a x) {post : Int32 → SY → Prop} (h0 : ∀ md fm, mt_T n a N md fm → post (-2) (nI n, 1, mt_g N, md, fm)) : wpY_kind post (nI n, kn, mt_g N, md, fm) x := by
  unfold wpY_kind
  dsimp only
  exact my_innB hG hK hx fun md fm hT => br_t rfl (h0 md fm hT)
/-! children -/
theorem my_chL {n a : Nat} {N : Nat → Nat} (hG : mt_G n a N) {md fm : Nat → Int32} (hT : mt_T n a N md fm) {s : Nat} (hs : s ≤ a) {post : Int32 → SY → Prop} (h : post (nI (mt_cn (fun c => 1 ≤ c ∧ mt_chd n a N s c) (a + 1))) (nI n, 1, mt_g N, md, fm)) : ∀ d c, c + d = a + 1 → 1 ≤ c → wY_children_15 post (nI s) (nI n) 1 (mt_g N) md fm (d + 1) (nI (mt_cn (fun c => 1 ≤ c ∧ mt_chd n a N s c) c)) (nI c) := by
  have g4 := hG.2.2.2.1
  intro d
  induction d with
  | zero =>
    intro c hc _
    have e : c = a + 1 := by omega
    subst e
    rw [wY_children_15]
    refine my_all hG ?_
    exact br_t (nI_lt (by omega) (by omega)) h
  | succ d ih =>
    intro c hc hc1
    have i := ih (c + 1) (by omega) (by omega)
    rw [wY_children_15]
    refine my_all hG ?_
    refine br_f (nI_nlt (by omega) (by omega)) ?_
    refine my_ic hG hT hc1 (by omega) (by omega) (fun q => ?_) (fun q => ?_)
    · rw [mt_cnT ⟨hc1, q⟩] at i
      exact br_f (by decide) (nm_r (nI_1 _) (nm_r (nI_1 _) i))
    · rw [mt_cnF (fun z => q z.2)] at i
      exact br_t rfl (nm_r (nI_1 _) i)
theorem my_children {n a : Nat} {N : Nat → Nat} (hG : mt_G n a N) {kn : Int32} {md fm : Nat → Int32} (hK : mt_K n a N kn md fm) {s : Nat} (h1 : 1 ≤ s) (hs : s ≤ a) {post : Int32 → SY → Prop} (h0 : ¬ (mt_str n a N s ∧ 1 < mt_sz s n) → ∀ md fm, mt_T n a N md fm → post (-2) (nI n, 1, mt_g N, md, fm)) (h : mt_str n a N s → 1 < mt_sz s n → ∀ md fm, mt_T n a N md fm → post (nI (mt_cn (fun c => 1 ≤ c ∧ mt_chd n a N s c) (a + 1))) (nI n, 1, mt_g N, md, fm)) : wpY_children post (nI n, kn, mt_g N, md, fm) (nI s) := by
  unfold wpY_children
  dsimp only
  refine my_inn hG hK h1 hs fun md fm hT => ⟨fun q1 q2 => ?_, fun q => ?_⟩
  · dsimp only
    have i := my_chL hG hT hs (h q1 q2 md fm hT) a 1 (by omega) (by omega)
    rw [mt_cnOne] at i
    exact br_f (by decide) ⟨a + 1, i⟩
  · exact br_t rfl (h0 q md fm hT)
theorem my_childrenB {n a : Nat} {N : Nat → Nat} (hG : mt_G n a N) {kn : Int32} {md fm : Nat → Int32} (hK : mt_K n a N kn md fm) {x : Int32} (hx : mt_bad a x) {post : Int32 → SY → Prop} (h0 : ∀ md fm, mt_T n a N md fm → post (-2) (nI n, 1, mt_g N, md, fm)) : wpY_children post (nI n, kn, mt_g N, md, fm) x := by
  unfold wpY_children
  dsimp only
  exact my_innB hG hK hx fun md fm hT => br_t rfl (h0 md fm hT)

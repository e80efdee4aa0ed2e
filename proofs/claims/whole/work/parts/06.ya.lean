/-! the reference's walks: all, in, lookSame, cross, crossesNone, look, isSet, sizeOf -/
theorem my_all {n a : Nat} {N : Nat → Nat} (hG : mt_G n a N) {kn : Int32} {g md fm : Nat → Int32} {post : Int32 → Prop} (h : post (nI a)) : wpY_all post (nI n, kn, g, md, fm) := by
  obtain ⟨g1, g2, g3, g4, g5⟩ := hG
  have e : ((1 : Int32) <<< (nI n &&& 31)) - 1 = nI a := by
    rw [mt_all n (by omega)]
    exact congrArg nI (by omega)
  show post (((1 : Int32) <<< (nI n &&& 31)) - 1)
  rw [e]
  exact h
theorem my_in {x u : Nat} (hx : x < 256) (hu : u < 8) {fn kn : Int32} {g md fm : Nat → Int32} {post : Int32 → Prop} (h1 : x.testBit u = true → post 1) (h0 : x.testBit u = false → post 0) : wpY_in post (fn, kn, g, md, fm) (nI x) (nI u) :=
  ek_if (mt_iin hx hu) h1 fun z => h0 (by simpa using z)
theorem my_lsL {n a : Nat} {N : Nat → Nat} {s : Nat} (hG : mt_G n a N) (hs : s < 256) {kn : Int32} {md fm : Nat → Int32} {post : Int32 → Prop} (h1 : mt_mod n N s → post 1) (h0 : ¬ mt_mod n N s → post 0) : ∀ d u, u + d = n → (∀ w, w < u → s.testBit w = false → N w &&& s = 0 ∨ N w &&& s = s) → wY_lookSame_2 post (nI s) (nI n) kn (mt_g N) md fm (d + 1) (nI u) := by
  obtain ⟨g1, g2, g3, g4, g5⟩ := hG
  intro d
  induction d with
  | zero =>
    intro u hu hw
    refine br_t (nI_le (by omega) (by omega)) (h1 fun w hw' => hw w (by omega))
  | succ d ih =>
    intro u hu hw
    have next : (s.testBit u = false → N u &&& s = 0 ∨ N u &&& s = s) → wY_lookSame_2 post (nI s) (nI n) kn (mt_g N) md fm (d + 1) (nI u + 1) := by
      intro hc
      rw [nI_1]
      refine ih (u + 1) (by omega) fun w h => ?_
      by_cases e : w = u
      · subst e; exact hc
      · exact hw w (by omega)
    have hN : N u < 256 := by have := (g5 u).1; omega
    refine br_f (nI_ge (by omega) (by omega)) ⟨vp_in_nI (by omega) (by omega), nm_r (e' := nI (N u &&& s)) (by rw [mt_gc N (by omega), nx_and]) ?_⟩
    refine my_in hs (by omega) (fun hb => ?_) (fun hb => ?_)
    · exact br_f (by decide) (nm_e (next fun z => by rw [hb] at z; exact absurd z (by decide)))
    · refine br_t rfl ?_
      refine ek_if (mt_i0 (mt_al hN)) (fun hz => nm_e (next fun _ => Or.inl hz)) (fun hz => ?_)
      refine ek_if (mt_iE (mt_al hN) hs) (fun he => nm_e (next fun _ => Or.inr he)) (fun he => h0 fun hm => ?_)
      rcases hm u (by omega) hb with q | q
      · exact hz q
      · exact he q
theorem my_ls {n a : Nat} {N : Nat → Nat} {s : Nat} (hG : mt_G n a N) (hs : s < 256) {kn : Int32} {md fm : Nat → Int32} {post : Int32 → Prop} (h1 : mt_mod n N s → post 1) (h0 : ¬ mt_mod n N s → post 0) : wpY_lookSame post (nI n, kn, mt_g N, md, fm) (nI s) :=
  ⟨n + 1, my_lsL hG hs h1 h0 n 0 (by omega) fun w hw => by omega⟩
theorem my_crs {x y : Nat} (hx : x < 256) (hy : y < 256) {fn kn : Int32} {g md fm : Nat → Int32} {post : Int32 → Prop} (h1 : mt_crs x y → post 1) (h0 : ¬ mt_crs x y → post 0) : wpY_cross post (fn, kn, g, md, fm) (nI x) (nI y) := by
  refine ek_if (mt_iand0 hx y) (fun z => h0 fun c => (mt_andn0 x y).mpr c.1 z) fun z => ?_
  refine ek_if (mt_idf hx y) (fun z2 => h0 fun c => c.2.1 z2) fun z2 => ?_
  exact ek_if (mt_idf hy x) (fun z3 => h0 fun c => c.2.2 z3) fun z3 => h1 ⟨(mt_andn0 x y).mp z, z2, z3⟩
theorem mt_ft {p : Prop} {f : Nat → Int32} {s : Nat} (hs : s < 256) (h : mt_fl p (f s)) : f (nI s).toNatClampNeg = 0 ↔ ¬ p := by
  rw [nI_clamp (by omega)]
  exact mt_flz h
theorem my_cnL {n a : Nat} {N : Nat → Nat} {s : Nat} (hG : mt_G n a N) (hs : s < 256) {kn : Int32} {g md fm : Nat → Int32} (hT : ∀ w, 1 ≤ w → w ≤ a → mt_fl (mt_mod n N w) (md w)) {post : Int32 → Prop} (h1 : (∀ o, 1 ≤ o → o ≤ a → mt_mod n N o → ¬ mt_crs s o) → post 1) (h0 : ¬ (∀ o, 1 ≤ o → o ≤ a → mt_mod n N o → ¬ mt_crs s o) → post 0) : ∀ d o, o + d = a + 1 → 1 ≤ o → (∀ w, 1 ≤ w → w < o → mt_mod n N w → ¬ mt_crs s w) → wY_crossesNone_2 post (nI s) (nI n) kn g md fm (d + 1) (nI o) := by
  have g4 := hG.2.2.2.1
  intro d
  induction d with
  | zero =>
    intro o ho h hw
    rw [wY_crossesNone_2]
    refine my_all hG ?_
    exact br_t (nI_lt (by omega) (by omega)) (h1 fun w q1 q2 => hw w q1 (by omega))
  | succ d ih =>
    intro o ho h hw
    have next : (mt_mod n N o → ¬ mt_crs s o) → wY_crossesNone_2 post (nI s) (nI n) kn g md fm (d + 1) (nI o + 1) := by
      intro hc
      rw [nI_1]
      refine ih (o + 1) (by omega) (by omega) fun w q h => ?_
      by_cases e : w = o
      · subst e; exact hc
      · exact hw w q (by omega)
    rw [wY_crossesNone_2]
    refine my_all hG ?_
    refine br_f (nI_nlt (by omega) (by omega)) ⟨vp_in_nI (by omega) (by omega), ?_⟩
    refine ek_if (mt_ft (by omega) (hT o h (by omega))) (fun z => nm_e (next fun q => absurd q z)) (fun z => ?_)
    refine my_crs hs (by omega) (fun hc => ?_) (fun hc => ?_)
    · exact br_f (by decide) (h0 fun q => q o h (by omega) (Classical.byContradiction z) hc)
    · exact br_t rfl (nm_e (next fun _ => hc))
theorem my_cn {n a : Nat} {N : Nat → Nat} {s : Nat} (hG : mt_G n a N) (hs : s < 256) (hm : mt_mod n N s) {kn : Int32} {g md fm : Nat → Int32} (hT : ∀ w, 1 ≤ w → w ≤ a → mt_fl (mt_mod n N w) (md w)) {post : Int32 → Prop} (h1 : mt_str n a N s → post 1) (h0 : ¬ mt_str n a N s → post 0) : wpY_crossesNone post (nI n, kn, g, md, fm) (nI s) :=
  ⟨a + 1, my_cnL hG hs hT (fun z => h1 ⟨hm, z⟩) (fun z => h0 fun q => z q.2) a 1 (by omega) (by omega) fun w q1 q2 => by omega⟩
def mt_T (n a : Nat) (N : Nat → Nat) (md fm : Nat → Int32) : Prop := ∀ s, 1 ≤ s → s ≤ a → mt_fl (mt_mod n N s) (md s) ∧ mt_fl (mt_str n a N s) (fm s)
def mt_K (n a : Nat) (N : Nat → Nat) (kn : Int32) (md fm : Nat → Int32) : Prop := kn = 0 ∨ (kn = 1 ∧ mt_T n a N md fm)
theorem mt_nb1 : vp_nar .boolean 1 = 1 := rfl
theorem mt_nb0 : vp_nar .boolean 0 = 0 := rfl
/-- one more right row in a table -/
theorem mt_put {P : Nat → Prop} {f : Nat → Int32} {s : Nat} {x y : Int32} (hs : s < 256) (h : ∀ w, 1 ≤ w → w < s → mt_fl (P w) (f w)) (hx : mt_fl (P s) x) (e : y = x) : ∀ w, 1 ≤ w → w < s + 1 → mt_fl (P w) (upd f (nI s).toNatClampNeg y w) := by
  intro w q1 q2
  rw [nI_clamp (by omega)]
  by_cases z : w = s
  · subst z; rw [pk_us, e]; exact hx
  · rw [pk_un z]; exact h w q1 (by omega)
theorem my_lk37 {n a : Nat} {N : Nat → Nat} (hG : mt_G n a N) {kn : Int32} {md : Nat → Int32} (hT : ∀ w, 1 ≤ w → w ≤ a → mt_fl (mt_mod n N w) (md w)) {post : SY → Prop} (h : ∀ fm, mt_T n a N md fm → post (nI n, 1, mt_g N, md, fm)) : ∀ d s, s + d = a + 1 → 1 ≤ s → ∀ fm, (∀ w, 1 ≤ w → w < s → mt_fl (mt_str n a N w) (fm w)) → wY_look_37 post (nI n) kn (d + 1) (nI s) (mt_g N) md fm := by
  have g4 := hG.2.2.2.1
  intro d
  induction d with
  | zero =>
    intro s hs h1 fm hf
    rw [wY_look_37]
    refine my_all hG ?_
    exact br_t (nI_lt (by omega) (by omega)) (h fm fun w q1 q2 => ⟨hT w q1 q2, hf w q1 (by omega)⟩)
  | succ d ih =>
    intro s hs h1 fm hf
    rw [wY_look_37]
    refine my_all hG ?_
    refine br_f (nI_nlt (by omega) (by omega)) ⟨vp_in_nI (by omega) (by omega), ?_⟩
    refine ek_if (mt_ft (by omega) (hT s h1 (by omega))) (fun z => ?_) (fun z => ?_)
    · exact ⟨vp_in_nI (by omega) (by omega), nm_e (nm_r (nI_1 _) (ih (s + 1) (by omega) (by omega) _ (mt_put (by omega) hf (mt_fl0 fun q => z q.1) mt_nb0)))⟩
    · refine my_cn hG (by omega) (Classical.byContradiction z) hT (fun q => ?_) (fun q => ?_)
      · exact br_f (by decide) ⟨vp_in_nI (by omega) (by omega), nm_e (nm_r (nI_1 _) (ih (s + 1) (by omega) (by omega) _ (mt_put (by omega) hf (mt_fl1 q) mt_nb1)))⟩
      · exact br_t rfl ⟨vp_in_nI (by omega) (by omega), nm_e (nm_r (nI_1 _) (ih (s + 1) (by omega) (by omega) _ (mt_put (by omega) hf (mt_fl0 q) mt_nb0)))⟩
theorem my_lk10 {n a : Nat} {N : Nat → Nat} (hG : mt_G n a N) {kn : Int32} {fm : Nat → Int32} {post : SY → Prop} (h : ∀ md fm, mt_T n a N md fm → post (nI n, 1, mt_g N, md, fm)) : ∀ d s, s + d = a + 1 → 1 ≤ s → ∀ md, (∀ w, 1 ≤ w → w < s → mt_fl (mt_mod n N w) (md w)) → wY_look_10 post (nI n) kn (d + 1) (nI s) (mt_g N) md fm := by
  have g4 := hG.2.2.2.1
  intro d
  induction d with
  | zero =>
    intro s hs h1 md hf
    rw [wY_look_10]
    refine my_all hG ?_
    exact br_t (nI_lt (by omega) (by omega)) ⟨a + 1, my_lk37 hG (fun w q1 q2 => hf w q1 (by omega)) (h md) a 1 (by omega) (by omega) fm (fun w q1 q2 => by omega)⟩
  | succ d ih =>
    intro s hs h1 md hf
    rw [wY_look_10]
    refine my_all hG ?_
    refine br_f (nI_nlt (by omega) (by omega)) ?_
    refine my_ls hG (by omega) (fun q => ?_) (fun q => ?_)
    · exact ⟨vp_in_nI (by omega) (by omega), nm_e (nm_r (nI_1 _) (ih (s + 1) (by omega) (by omega) _ (mt_put (by omega) hf (mt_fl1 q) mt_nb1)))⟩
    · exact ⟨vp_in_nI (by omega) (by omega), nm_e (nm_r (nI_1 _) (ih (s + 1) (by omega) (by omega) _ (mt_put (by omega) hf (mt_fl0 q) mt_nb0)))⟩
theorem my_look {n a : Nat} {N : Nat → Nat} (hG : mt_G n a N) {kn : Int32} {md fm : Nat → Int32} (hK : mt_K n a N kn md fm) {post : SY → Prop} (h : ∀ md fm, mt_T n a N md fm → post (nI n, 1, mt_g N, md, fm)) : wpY_look post (nI n, kn, mt_g N, md, fm) := by
  rcases hK with e | ⟨e, hT⟩
  · exact br_t e ⟨a + 1, my_lk10 hG h a 1 (by omega) (by omega) md (fun w q1 q2 => by omega)⟩
  · subst e
    exact br_f (by decide) (h md fm hT)
theorem my_set {n a : Nat} {N : Nat → Nat} (hG : mt_G n a N) {s : Nat} (h1 : 1 ≤ s) (hs : s ≤ a) {kn : Int32} {g md fm : Nat → Int32} {post : Int32 → Prop} (h : post 1) : wpY_isSet post (nI n, kn, g, md, fm) (nI s) := by
  have g4 := hG.2.2.2.1
  exact br_f (nI_ge (a := 0) h1 (by omega)) (my_all hG (br_f (nI_nlt (by omega) (by omega)) h))
theorem mt_le0 {x : Int32} (h : x < 1) : x ≤ 0 := by
  rw [Int32.lt_iff_toInt_lt] at h
  rw [Int32.le_iff_toInt_le]
  have e1 : (1 : Int32).toInt = 1 := by decide
  have e0 : (0 : Int32).toInt = 0 := by decide
  omega
theorem my_setB {n a : Nat} {N : Nat → Nat} (hG : mt_G n a N) {x : Int32} (hx : mt_bad a x) {kn : Int32} {g md fm : Nat → Int32} {post : Int32 → Prop} (h : post 0) : wpY_isSet post (nI n, kn, g, md, fm) x := by
  rcases hx with z | z
  · exact br_t (mt_le0 z) h
  · exact br_c (fun _ => h) (fun _ => my_all hG (br_t z h))
theorem my_szL {n a : Nat} {N : Nat → Nat} (hG : mt_G n a N) {s : Nat} (hs : s < 256) {kn : Int32} {g md fm : Nat → Int32} {post : Int32 → Prop} (h : post (nI (mt_sz s n))) : ∀ d u, u + d = n → wY_sizeOf_4 post (nI s) (nI n) kn g md fm (d + 1) (nI (mt_sz s u)) (nI u) := by
  obtain ⟨g1, g2, g3, g4, g5⟩ := id hG
  intro d
  induction d with
  | zero =>
    intro u hu
    have e : u = n := by omega
    subst e
    exact br_t (nI_le (by omega) (by omega)) h
  | succ d ih =>
    intro u hu
    have i := ih (u + 1) (by omega)
    refine br_f (nI_ge (by omega) (by omega)) ?_
    refine my_in hs (by omega) (fun hb => ?_) (fun hb => ?_)
    · rw [mt_szT hb] at i
      exact br_f (by decide) (nm_r (nI_1 _) (nm_r (nI_1 _) i))
    · rw [mt_szF hb] at i
      exact br_t rfl (nm_r (nI_1 _) i)
theorem my_sz {n a : Nat} {N : Nat → Nat} (hG : mt_G n a N) {s : Nat} (hs : s < 256) {kn : Int32} {g md fm : Nat → Int32} {post : Int32 → Prop} (h : post (nI (mt_sz s n))) : wpY_sizeOf post (nI n, kn, g, md, fm) (nI s) :=
  ⟨n + 1, my_szL hG hs h n 0 (by omega)⟩

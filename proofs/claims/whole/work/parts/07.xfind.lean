/-! gatherClass, findClasses, the constructor -/
theorem gc_xg32 {v l r : Nat} (hv : v < 1024) (hl : l < 1024) (hr : r < 1000) {post : SX → Prop} {J : Int32 → (Nat → Int32) → (Nat → Int32) → (Nat → Int32) → (Nat → Int32) → (Nat → Int32) → (Nat → Int32) → Prop} {p c g m k : Int32} {a1 a2 a3 a4 a5 a6 : Nat → Int32} (ht : a3 v = -1 → J (nI (r + 1)) a1 a2 (upd a3 v (nI l)) (upd a4 l (a4 l + 1)) a5 a6) (hf : ¬ a3 v = -1 → J (nI (r + 1)) a1 a2 a3 a4 a5 a6) : wX_gatherClass_32 post J (nI l) (nI r) (nI v) p c g m k a1 a2 a3 a4 a5 a6 := by
  unfold wX_gatherClass_32
  rw [nI_clamp (by omega : v < 2 ^ 31), nI_clamp (by omega : l < 2 ^ 31)]
  have i1 : vp_in (nI v) 1024 := vp_in_nI hv (by omega)
  have i2 : vp_in (nI l) 1024 := vp_in_nI hl (by omega)
  exact ⟨i1, br_c (fun z => ⟨i1, nm_e ⟨i2, i2, nm_e (nm_r (nI_1 r) (ht z))⟩⟩) (fun z => nm_r (nI_1 r) (hf z))⟩
/-- leaders found below a bound -/
def gc_LO3 (n b : Nat) (a : Nat → Int32) : Prop := ∀ h, h < gc_G n → a h = if gc_L n h < b then nI (gc_L n h) else -1
theorem gc_n1 {x : Nat} (hx : x < 1024) : ¬ nI x = -1 := by
  intro z
  have a := congrArg Int32.toInt z
  rw [nI_toInt (by omega), show (-1 : Int32).toInt = -1 from rfl] at a
  omega
theorem gc_xgat {n l : Nat} (h1 : 1 ≤ n) (h5 : n ≤ 5) (hl : l < gc_G n) (hL : gc_L n l = l) {post : SX → Prop} {p q k : Int32} {a1 a2 a3 a4 a5 a6 : Nat → Int32} (hd : gc_XT n (gc_R n) a2) (h3 : gc_LO3 n l a3) (h4 : a4 l = 0) (h50 : a5 l = 0)
    (h : ∀ b3 b4 b5 : Nat → Int32, gc_LO3 n (l + 1) b3 → b4 l = nI (gc_sc (gc_st (gc_ix n l) (gc_R n)) 1024) → (∀ x, x ≠ l → b4 x = a4 x) → b5 l = nI (gc_kc (gc_ix n l) l (gc_R n)) → (∀ x, x ≠ l → b5 x = a5 x) → post (p, nI (gc_C n), q, nI (gc_R n), k, a1, a2, b3, b4, b5, a6)) : wpX_gatherClass post (p, nI (gc_C n), q, nI (gc_R n), k, a1, a2, a3, a4, a5, a6) (nI l) := by
  have hR := gc_sz n h5
  refine pk_loop (σ := (Nat → Int32) × (Nat → Int32) × (Nat → Int32)) (fun f r s => wX_gatherClass_2 post (nI l) p (nI (gc_C n)) q (nI (gc_R n)) k f (nI r) a1 a2 s.1 s.2.1 s.2.2 a6) (fun r s => (∀ h, h < gc_G n → s.1 h = if gc_L n h < l ∨ (gc_st (gc_ix n l) r).testBit h = true then nI (gc_L n h) else -1) ∧ s.2.1 l = nI (gc_sc (gc_st (gc_ix n l) r) 1024) ∧ (∀ x, x ≠ l → s.2.1 x = a4 x) ∧ s.2.2 l = nI (gc_kc (gc_ix n l) l r) ∧ (∀ x, x ≠ l → s.2.2 x = a5 x)) (gc_R n) 0 (a3, a4, a5) (by omega) ⟨fun h hh => ?_, ?_, fun _ _ => rfl, h50, fun _ _ => rfl⟩ ?_ ?_
  · have z : ¬ (gc_st (gc_ix n l) 0).testBit h = true := fun z => absurd ((Nat.zero_testBit h).symm.trans z) (by decide)
    show a3 h = _
    rw [h3 h hh]
    by_cases c : gc_L n h < l
    · rw [if_pos c, if_pos (Or.inl c)]
    · rw [if_neg c, if_neg (fun y => y.elim c z)]
  · show a4 l = nI (gc_sc 0 1024)
    rw [gc_sc_0]
    exact h4
  · rintro f ⟨b3, b4, b5⟩ ⟨i1, i2, i3, i4, i5⟩
    refine br_t (nI_le (Nat.le_refl _) (by omega)) (h b3 b4 b5 (fun h hh => ?_) i2 i3 i4 i5)
    have i1 : b3 h = _ := i1 h hh
    rw [i1]
    by_cases c : gc_L n h < l + 1
    · rw [if_pos c]
      by_cases c' : gc_L n h < l
      · rw [if_pos (Or.inl c')]
      · have e : gc_L n h = l := by omega
        obtain ⟨r, hr, y⟩ := gc_hit h1 h5 hh
        rw [e] at y
        rw [if_pos (Or.inr ((gc_st_b _ _ _).mpr ⟨r, hr, y⟩))]
    · rw [if_neg c, if_neg]
      rintro (y | y)
      · omega
      · obtain ⟨r, hr, y⟩ := (gc_st_b _ _ _).mp y
        have := gc_Lx h1 h5 hl hL hr
        rw [y] at this
        omega
  · rintro f r ⟨b3, b4, b5⟩ hr ⟨i1, i2, i3, i4, i5⟩ K
    have i1 : ∀ h, h < gc_G n → b3 h = if gc_L n h < l ∨ (gc_st (gc_ix n l) r).testBit h = true then nI (gc_L n h) else -1 := i1
    have i2 : b4 l = nI (gc_sc (gc_st (gc_ix n l) r) 1024) := i2
    have i3 : ∀ x, x ≠ l → b4 x = a4 x := i3
    have i4 : b5 l = nI (gc_kc (gc_ix n l) l r) := i4
    have i5 : ∀ x, x ≠ l → b5 x = a5 x := i5
    have hv := gc_ix_lt (g := l) h1 h5 hr
    have hLv := gc_Lx h1 h5 hl hL hr
    have hi2 := i1 _ hv
    refine br_f (nI_ge hr (by omega)) (gc_xren h1 h5 (by omega) hr hd ?_)
    -- the rest, for either content of keepers
    have fin : ∀ c5 : Nat → Int32, c5 l = nI (gc_kc (gc_ix n l) l (r + 1)) → (∀ x, x ≠ l → c5 x = a5 x) → wX_gatherClass_32 post (wX_gatherClass_2 post (nI l) p (nI (gc_C n)) q (nI (gc_R n)) k f) (nI l) (nI r) (nI (gc_ix n l r)) p (nI (gc_C n)) q (nI (gc_R n)) k a1 a2 b3 b4 c5 a6 := by
      intro c5 hc5 hc5'
      cases t : (gc_st (gc_ix n l) r).testBit (gc_ix n l r) with
      | true =>
        rw [if_pos (Or.inr t)] at hi2
        refine gc_xg32 (by omega) (by omega) (by omega) (fun z => absurd (hi2.symm.trans z) (gc_n1 (by omega))) (fun _ => K (b3, b4, c5) ⟨?_, ?_, i3, hc5, hc5'⟩)
        · rw [gc_st_s, gc_sc_in t]; exact i1
        · rw [gc_st_s, gc_sc_in t]; exact i2
      | false =>
        rw [if_neg (fun y => y.elim (by omega) (fun y => by rw [t] at y; exact absurd y (by decide)))] at hi2
        refine gc_xg32 (by omega) (by omega) (by omega) (fun _ => K (_, _, c5) ⟨?_, ?_, ?_, hc5, hc5'⟩) (fun z => absurd hi2 z)
        · intro h hh
          show upd _ _ _ h = _
          rw [gc_st_s, gc_orb]
          by_cases c : h = gc_ix n l r
          · rw [c, pk_us, decide_eq_true rfl, Bool.or_true, if_pos (Or.inr rfl), hLv]
          · rw [pk_un c, decide_eq_false (fun y => c y.symm), Bool.or_false]
            exact i1 h hh
        · show upd _ _ _ l = _
          rw [pk_us, i2, nI_1, gc_st_s, gc_sc_new t _ (by omega)]
        · intro x hx
          show upd _ _ _ x = _
          rw [pk_un hx]
          exact i3 x hx
    refine pk_eq (gc_ix n l r) l (fun e => ⟨vp_in_nI (by omega) (by omega), vp_in_nI (by omega) (by omega), nm_e ?_⟩) (fun e => ?_) rfl rfl (by omega) (by omega)
    · rw [nI_clamp (by omega : l < 2 ^ 31)]
      refine fin _ ?_ (fun x hx => ?_)
      · show upd b5 l (b5 l + 1) l = _
        rw [pk_us, i4, nI_1, gc_kc_s, gc_beqT e]; rfl
      · show upd b5 l (b5 l + 1) x = _
        rw [pk_un hx]; exact i5 x hx
    · refine fin b5 ?_ i5
      rw [i4, gc_kc_s, gc_beqF e]; rfl
/-- the class's state for n points -/
def gc_X (n : Nat) (u : SX) : Prop := ∃ a1 a2 a3 a4 a5 a6 : Nat → Int32, u = (nI n, nI (gc_C n), nI (gc_G n), nI (gc_R n), nI (gc_ct n (gc_G n)), a1, a2, a3, a4, a5, a6) ∧ gc_XT n (gc_R n) a2 ∧ (∀ h, h < gc_G n → a3 h = nI (gc_L n h)) ∧ (∀ h, h < gc_G n → gc_L n h = h → a4 h = nI (gc_sc (gc_st (gc_ix n h) (gc_R n)) 1024) ∧ a5 h = nI (gc_kc (gc_ix n h) h (gc_R n))) ∧ (∀ h, h < gc_G n → gc_L n h = h → a6 (gc_ct n h) = nI h)
theorem gc_xfind2 {n : Nat} (h1 : 1 ≤ n) (h5 : n ≤ 5) {post : SX → Prop} {a1 a2 a3 : Nat → Int32} (hd : gc_XT n (gc_R n) a2) (h3 : ∀ h, h < gc_G n → a3 h = -1) (h : ∀ u, gc_X n u → post u) : ∃ f, wX_findClasses_25 post f (nI 0) (nI n) (nI (gc_C n)) (nI (gc_G n)) (nI (gc_R n)) 0 a1 a2 a3 (fun _ => 0) (fun _ => 0) (fun _ => 0) := by
  have hR := gc_sz n h5
  refine pk_loop (σ := Int32 × (Nat → Int32) × (Nat → Int32) × (Nat → Int32) × (Nat → Int32)) (fun f g s => wX_findClasses_25 post f (nI g) (nI n) (nI (gc_C n)) (nI (gc_G n)) (nI (gc_R n)) s.1 a1 a2 s.2.1 s.2.2.1 s.2.2.2.1 s.2.2.2.2) (fun g s => s.1 = nI (gc_ct n g) ∧ gc_LO3 n g s.2.1 ∧ (∀ h, h < g → gc_L n h = h → s.2.2.1 h = nI (gc_sc (gc_st (gc_ix n h) (gc_R n)) 1024) ∧ s.2.2.2.1 h = nI (gc_kc (gc_ix n h) h (gc_R n))) ∧ (∀ h, g ≤ h → s.2.2.1 h = 0 ∧ s.2.2.2.1 h = 0) ∧ (∀ h, h < g → gc_L n h = h → s.2.2.2.2 (gc_ct n h) = nI h)) (gc_G n) 0 (0, a3, (fun _ => 0), (fun _ => 0), (fun _ => 0)) (by omega) ⟨rfl, fun h hh => by rw [if_neg (Nat.not_lt_zero _)]; exact h3 h hh, fun h hh => by omega, fun _ _ => ⟨rfl, rfl⟩, fun h hh => by omega⟩ ?_ ?_
  · rintro f ⟨k, b3, b4, b5, b6⟩ ⟨i1, i2, i3, _, i5⟩
    have i1 : k = nI (gc_ct n (gc_G n)) := i1
    subst i1
    refine br_t (nI_le (Nat.le_refl _) (by omega)) (h _ ⟨a1, a2, b3, b4, b5, b6, rfl, hd, fun x hx => ?_, i3, i5⟩)
    have y : b3 x = _ := i2 x hx
    rw [y, if_pos (Nat.lt_of_le_of_lt (gc_Pn h1 h5 hx).1 hx)]
  · rintro f g ⟨k, b3, b4, b5, b6⟩ hg ⟨i1, i2, i3, i4, i5⟩ K
    have i1 : k = nI (gc_ct n g) := i1
    subst i1
    have i2 : gc_LO3 n g b3 := i2
    have i3 : ∀ h, h < g → gc_L n h = h → b4 h = nI (gc_sc (gc_st (gc_ix n h) (gc_R n)) 1024) ∧ b5 h = nI (gc_kc (gc_ix n h) h (gc_R n)) := i3
    have i4 : ∀ h, g ≤ h → b4 h = 0 ∧ b5 h = 0 := i4
    have i5 : ∀ h, h < g → gc_L n h = h → b6 (gc_ct n h) = nI h := i5
    have hP := gc_Pn h1 h5 hg
    have hct := gc_ct_le n g
    have cl : (nI g).toNatClampNeg = g := nI_clamp (by omega)
    refine br_f (nI_ge hg (by omega)) ⟨vp_in_nI (by omega) (by omega), ?_⟩
    rw [cl]
    have hb := i2 g hg
    by_cases c : gc_L n g = g
    · rw [if_neg (by omega)] at hb
      refine br_t hb ⟨vp_in_nI (by omega) (by omega), nm_e (nm_r (nI_1 (gc_ct n g)) ?_)⟩
      refine gc_xgat h1 h5 hg c hd i2 (i4 g (Nat.le_refl g)).1 (i4 g (Nat.le_refl g)).2 (fun c3 c4 c5 j3 j4 j4' j5 j5' => ?_)
      dsimp only
      refine nm_r (nI_1 g) (K (_, c3, c4, c5, _) ⟨?_, j3, fun x hx hxL => ?_, fun x hx => ?_, fun x hx hxL => ?_⟩)
      · show nI (gc_ct n g + 1) = _
        rw [gc_ct_t c]
      · show c4 x = _ ∧ c5 x = _
        by_cases e : x = g
        · rw [e]; exact ⟨j4, j5⟩
        · rw [j4' x e, j5' x e]
          exact i3 x (by omega) hxL
      · show c4 x = _ ∧ c5 x = _
        rw [j4' x (by omega), j5' x (by omega)]
        exact i4 x (by omega)
      · show upd _ _ _ _ = _
        rw [nI_clamp (by omega)]
        by_cases e : x = g
        · rw [e, pk_us]
        · rw [pk_un (fun y => e (gc_ct_i hxL c y))]
          exact i5 x (by omega) hxL
    · rw [if_pos (by have := hP.1; omega)] at hb
      refine br_f (by show ¬ b3 g = -1; rw [hb]; exact gc_n1 (by have := hP.1; omega)) (nm_r (nI_1 g) (K (_, b3, b4, b5, b6) ⟨?_, fun x hx => ?_, fun x hx hxL => ?_, fun x hx => i4 x (by omega), fun x hx hxL => ?_⟩))
      · show _ = nI (gc_ct n (g + 1))
        rw [gc_ct_f c]
      · show b3 x = _
        rw [i2 x hx]
        have := (gc_Pn h1 h5 hx).2.1
        by_cases d : gc_L n x < g
        · rw [if_pos d, if_pos (by omega)]
        · rw [if_neg d, if_neg]
          intro y
          have e : gc_L n x = g := by omega
          rw [e] at this
          exact c this
      · exact i3 x (by have : x ≠ g := fun y => c (by rw [← y]; exact hxL); omega) hxL
      · exact i5 x (by have : x ≠ g := fun y => c (by rw [← y]; exact hxL); omega) hxL
theorem gc_xfind {n : Nat} (h1 : 1 ≤ n) (h5 : n ≤ 5) {post : SX → Prop} {a1 a2 a3 : Nat → Int32} (hd : gc_XT n (gc_R n) a2) (h : ∀ u, gc_X n u → post u) : wpX_findClasses post (nI n, nI (gc_C n), nI (gc_G n), nI (gc_R n), 0, a1, a2, a3, (fun _ => 0), (fun _ => 0), (fun _ => 0)) := by
  have hR := gc_sz n h5
  refine pk_loop (σ := Nat → Int32) (fun f g s => wX_findClasses_2 post (nI n) (nI (gc_C n)) (nI (gc_G n)) (nI (gc_R n)) 0 f (nI g) a1 a2 s (fun _ => 0) (fun _ => 0) (fun _ => 0)) (fun g s => ∀ h, h < g → s h = -1) (gc_G n) 0 a3 (by omega) (fun h hh => by omega) ?_ ?_
  · intro f s hs
    exact br_t (nI_le (Nat.le_refl _) (by omega)) (gc_xfind2 h1 h5 hd hs h)
  · intro f g s hg hs K
    refine br_f (nI_ge hg (by omega)) ⟨vp_in_nI (by omega) (by omega), nm_e (nm_r (nI_1 g) (K _ (fun x hx => ?_)))⟩
    rw [nI_clamp (by omega)]
    by_cases e : x = g
    · rw [e, pk_us]
    · rw [pk_un e]; exact hs x (by omega)
theorem gc_xini {n : Nat} (h1 : 1 ≤ n) (h5 : n ≤ 5) {post : SX → Prop} (h : ∀ u, gc_X n u → post u) : wX_init_81 post (nI n) 0 0 0 0 0 (fun _ => 0) (fun _ => 0) (fun _ => 0) (fun _ => 0) (fun _ => 0) (fun _ => 0) := by
  have hR := gc_sz n h5
  refine ⟨by decide, nm_r (gc_tri n (by omega)) (nm_r (gc_n2p (k := gc_C n) (by omega)) ?_)⟩
  refine gc_xfac h5 h1 ?_
  refine gc_xtr h1 h5 (fun b d hd => ?_)
  dsimp only
  refine gc_xfind h1 h5 hd (fun u hu => ?_)
  obtain ⟨b1, b2, b3, b4, b5, b6, rfl, rest⟩ := hu
  exact h _ ⟨b1, b2, b3, b4, b5, b6, rfl, rest⟩

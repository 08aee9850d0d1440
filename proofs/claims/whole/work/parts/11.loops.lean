/-! the methods that go over all leaders -/
theorem gc_xedges {n g : Nat} (h5 : n ≤ 5) (hg : g < gc_G n) {post : Int32 → Prop} {p q m k : Int32} {a1 a2 a3 a4 a5 a6 : Nat → Int32} (h : post (nI (gc_ec g 10))) : wpX_edgeCount post (p, nI (gc_C n), q, m, k, a1, a2, a3, a4, a5, a6) (nI g) := by
  have hR := gc_sz n h5
  have e : gc_ec g 10 = gc_ec g (gc_C n) := by
    have := gc_ec_hi (a := gc_C n) hg (10 - gc_C n)
    rw [show gc_C n + (10 - gc_C n) = 10 by omega] at this
    exact this
  rw [e] at h
  refine pk_loop (σ := Int32) (fun f c s => wX_edgeCount_4 post (nI g) p (nI (gc_C n)) q m k a1 a2 a3 a4 a5 a6 f s (nI c)) (fun c s => s = nI (gc_ec g c)) (gc_C n) 0 0 (by omega) rfl ?_ ?_
  · rintro f s rfl
    exact br_t (nI_le (Nat.le_refl _) (by omega)) h
  · rintro f c s hc rfl K
    refine br_f (nI_ge hc (by omega)) (gc_xedge (by omega) (by omega) (fun t => ?_) (fun t => ?_))
    · exact br_f (by decide) (nm_r (nI_1 _) (nm_r (nI_1 c) (K _ (by rw [gc_ec_t t]))))
    · exact br_t rfl (nm_r (nI_1 c) (K _ (by rw [gc_ec_f t])))
/-- where the class's loop over its leaders stands -/
def gc_W (n : Nat) (q : Nat → Bool) (k : Nat) (s : Int32) : Prop := ∃ g, g ≤ gc_G n ∧ gc_ct n g = k ∧ s = nI (gc_cq n q g)
theorem gc_W0 (n : Nat) (q : Nat → Bool) : gc_W n q 0 0 := ⟨0, Nat.zero_le _, rfl, rfl⟩
theorem gc_We {n : Nat} {q : Nat → Bool} {s : Int32} (h : gc_W n q (gc_ct n (gc_G n)) s) : s = nI (gc_cq n q (gc_G n)) := by
  obtain ⟨g, _, e, rfl⟩ := h
  rw [gc_cq_e q e]
theorem gc_Wx {n k : Nat} {q : Nat → Bool} {s : Int32} (hk : k < gc_ct n (gc_G n)) (h : gc_W n q k s) : ∃ g, g < gc_G n ∧ gc_L n g = g ∧ gc_ct n g = k ∧ s = nI (gc_cq n q g) ∧ (q g = true → gc_W n q (k + 1) (nI (gc_cq n q g + 1))) ∧ (q g = false → gc_W n q (k + 1) s) := by
  obtain ⟨g', _, e', rfl⟩ := h
  obtain ⟨g, hg, hL, e⟩ := gc_ct_x hk
  have es : gc_cq n q g' = gc_cq n q g := gc_cq_e q (e'.trans e.symm)
  refine ⟨g, hg, hL, e, by rw [es], fun t => ⟨g + 1, hg, by rw [gc_ct_t hL, e], by rw [gc_cq_t hL t]⟩, fun t => ⟨g + 1, hg, by rw [gc_ct_t hL, e], by rw [gc_cq_f t, es]⟩⟩
/-! classes -/
theorem gc_yclasses {n : Nat} (h5 : n ≤ 5) {post : Int32 → SY → Prop} {fr kn : Int32} {b1 b2 b3 b4 : Nat → Int32} (hl : ∀ g, g < gc_G n → b3 g = nI (gc_L n g)) (hlt : ∀ g, g < gc_G n → gc_L n g < 1024) (h : post (nI (gc_ct n (gc_G n))) (nI n, fr, kn, b1, b2, b3, b4)) : ∃ f, wY_classes_8 post (nI n) fr kn b1 b2 b3 b4 f 0 0 := by
  have hR := gc_sz n h5
  refine pk_loop (σ := Int32) (fun f g s => wY_classes_8 post (nI n) fr kn b1 b2 b3 b4 f s (nI g)) (fun g s => s = nI (gc_ct n g)) (gc_G n) 0 0 (by omega) rfl ?_ ?_
  · rintro f s rfl
    unfold wY_classes_8
    refine gc_ygra h5 ?_
    exact br_t (nI_le (Nat.le_refl _) (by omega)) h
  · rintro f g s hg rfl K
    have := hlt g hg
    unfold wY_classes_8
    refine gc_ygra h5 ?_
    refine br_f (nI_ge hg (by omega)) ⟨vp_in_nI (by omega) (by omega), ?_⟩
    rw [nI_clamp (by omega), hl g hg]
    refine pk_eq (gc_L n g) g (fun e => ?_) (fun e => ?_) rfl rfl (by omega) (by omega)
    · exact nm_r (nI_1 _) (nm_r (nI_1 g) (K _ (by rw [gc_ct_t e])))
    · exact nm_r (nI_1 g) (K _ (by rw [gc_ct_f e]))
theorem gc_Llt {n : Nat} (h1 : 1 ≤ n) (h5 : n ≤ 5) : ∀ g, g < gc_G n → gc_L n g < 1024 := fun g hg => by
  have := (gc_Pn h1 h5 hg).1
  have := (gc_sz n h5).2.1
  omega
theorem i_vc_classes {k : Nat} {u : SX} {v : SY} (I : i_Rel k u v) (hk : k + 3 ≤ 1537) : wpX_classes (fun r => wpY_classes (fun r' v' => r' = r ∧ i_Rel (k + 3) u v') v) u := by
  obtain ⟨n, h1, h5, hX, ⟨kn, b1, b2, b3, b4, rfl, hb, hkn⟩⟩ := I
  have hX' := hX
  obtain ⟨a1, a2, a3, a4, a5, a6, rfl, hd, h3, h45, h6⟩ := hX
  unfold wpX_classes wpY_classes
  dsimp only
  refine gc_yfind h1 h5 hb hkn (fun kn' d hd' => ?_)
  dsimp only
  exact gc_yclasses h5 hd' (gc_Llt h1 h5) ⟨rfl, n, h1, h5, hX', ⟨kn', b1, b2, d, b4, rfl, hb, Or.inr hd'⟩⟩
/-! classesWith -/
theorem gc_xcw {n : Nat} (h5 : n ≤ 5) {post : Int32 → Prop} {x p q m : Int32} {a1 a2 a3 a4 a5 a6 : Nat → Int32} (h6 : ∀ g, g < gc_G n → gc_L n g = g → a6 (gc_ct n g) = nI g) (h : post (nI (gc_cq n (fun g => decide (nI (gc_ec g 10) = x)) (gc_G n)))) : ∃ f, wX_classesWith_4 post x p (nI (gc_C n)) q m (nI (gc_ct n (gc_G n))) a1 a2 a3 a4 a5 a6 f 0 0 := by
  have hR := gc_sz n h5
  have hc := gc_ct_le n (gc_G n)
  refine pk_loop (σ := Int32) (fun f k s => wX_classesWith_4 post x p (nI (gc_C n)) q m (nI (gc_ct n (gc_G n))) a1 a2 a3 a4 a5 a6 f s (nI k)) (gc_W n (fun g => decide (nI (gc_ec g 10) = x))) (gc_ct n (gc_G n)) 0 0 (by omega) (gc_W0 _ _) ?_ ?_
  · intro f s hs
    rw [← gc_We hs] at h
    exact br_t (nI_le (Nat.le_refl _) (by omega)) h
  · intro f k s hk hs K
    obtain ⟨g, hg, hL, e, es, w1, w0⟩ := gc_Wx hk hs
    refine br_f (nI_ge hk (by omega)) ⟨vp_in_nI (by omega) (by omega), ?_⟩
    rw [nI_clamp (by omega), ← e, h6 g hg hL, e]
    refine gc_xedges h5 hg (br_c (fun z => ?_) (fun z => ?_))
    · refine nm_r (by rw [es, nI_1]) (nm_r (nI_1 k) (K _ (w1 (decide_eq_true z))))
    · refine nm_r (nI_1 k) (K _ (w0 (decide_eq_false z)))
theorem gc_ycw {n : Nat} (h5 : n ≤ 5) {post : Int32 → SY → Prop} {x fr kn : Int32} {b1 b2 b3 b4 : Nat → Int32} (hl : ∀ g, g < gc_G n → b3 g = nI (gc_L n g)) (hlt : ∀ g, g < gc_G n → gc_L n g < 1024) (h : post (nI (gc_cq n (fun g => decide (nI (gc_ec g 10) = x)) (gc_G n))) (nI n, fr, kn, b1, b2, b3, b4)) : ∃ f, wY_classesWith_8 post x (nI n) fr kn b1 b2 b3 b4 f 0 0 := by
  have hR := gc_sz n h5
  refine pk_loop (σ := Int32) (fun f g s => wY_classesWith_8 post x (nI n) fr kn b1 b2 b3 b4 f s (nI g)) (fun g s => s = nI (gc_cq n (fun g => decide (nI (gc_ec g 10) = x)) g)) (gc_G n) 0 0 (by omega) rfl ?_ ?_
  · rintro f s rfl
    unfold wY_classesWith_8
    refine gc_ygra h5 ?_
    exact br_t (nI_le (Nat.le_refl _) (by omega)) h
  · rintro f g s hg rfl K
    have := hlt g hg
    unfold wY_classesWith_8
    refine gc_ygra h5 ?_
    refine br_f (nI_ge hg (by omega)) ⟨vp_in_nI (by omega) (by omega), ?_⟩
    rw [nI_clamp (by omega), hl g hg]
    refine pk_eq (gc_L n g) g (fun e => ?_) (fun e => ?_) rfl rfl (by omega) (by omega)
    · refine gc_yedges (by omega) (br_c (fun z => ?_) (fun z => ?_))
      · exact nm_r (nI_1 _) (nm_r (nI_1 g) (K _ (by rw [gc_cq_t e (decide_eq_true z)])))
      · exact nm_r (nI_1 g) (K _ (by rw [gc_cq_f (decide_eq_false z)]))
    · exact nm_r (nI_1 g) (K _ (by rw [gc_cq_n e]))
theorem i_vc_classesWith {k : Nat} {u : SX} {v : SY} (I : i_Rel k u v) (hk : k + 3 ≤ 1537) (v1 : Int32) : wpX_classesWith (fun r => wpY_classesWith (fun r' v' => r' = r ∧ i_Rel (k + 3) u v') v v1) u v1 := by
  obtain ⟨n, h1, h5, hX, ⟨kn, b1, b2, b3, b4, rfl, hb, hkn⟩⟩ := I
  have hX' := hX
  obtain ⟨a1, a2, a3, a4, a5, a6, rfl, hd, h3, h45, h6⟩ := hX
  unfold wpX_classesWith wpY_classesWith
  dsimp only
  refine gc_xcw h5 h6 ?_
  refine gc_yfind h1 h5 hb hkn (fun kn' d hd' => ?_)
  dsimp only
  exact gc_ycw h5 hd' (gc_Llt h1 h5) ⟨rfl, n, h1, h5, hX', ⟨kn', b1, b2, d, b4, rfl, hb, Or.inr hd'⟩⟩
/-! selfOpposite -/
theorem gc_opp {n g : Nat} (hg : g < gc_G n) (h : gc_G n ≤ 1024) : nI (gc_G n) - 1 - nI g = nI (gc_G n - 1 - g) := by
  rw [show nI (gc_G n) - 1 = nI (gc_G n - 1) from pk_sub (b := 1) (by omega), pk_sub (by omega)]
theorem gc_xso {n : Nat} (h5 : n ≤ 5) {post : Int32 → Prop} {p c m : Int32} {a1 a2 a3 a4 a5 a6 : Nat → Int32} (h3 : ∀ g, g < gc_G n → a3 g = nI (gc_L n g)) (hlt : ∀ g, g < gc_G n → gc_L n g < 1024) (h6 : ∀ g, g < gc_G n → gc_L n g = g → a6 (gc_ct n g) = nI g) (h : post (nI (gc_cq n (fun g => decide (gc_L n (gc_G n - 1 - g) = g)) (gc_G n)))) : ∃ f, wX_selfOpposite_4 post p c (nI (gc_G n)) m (nI (gc_ct n (gc_G n))) a1 a2 a3 a4 a5 a6 f 0 0 := by
  have hR := gc_sz n h5
  have hc := gc_ct_le n (gc_G n)
  refine pk_loop (σ := Int32) (fun f k s => wX_selfOpposite_4 post p c (nI (gc_G n)) m (nI (gc_ct n (gc_G n))) a1 a2 a3 a4 a5 a6 f s (nI k)) (gc_W n (fun g => decide (gc_L n (gc_G n - 1 - g) = g))) (gc_ct n (gc_G n)) 0 0 (by omega) (gc_W0 _ _) ?_ ?_
  · intro f s hs
    rw [← gc_We hs] at h
    exact br_t (nI_le (Nat.le_refl _) (by omega)) h
  · intro f k s hk hs K
    obtain ⟨g, hg, hL, e, es, w1, w0⟩ := gc_Wx hk hs
    have hlt' := hlt (gc_G n - 1 - g) (by omega)
    have i1 : vp_in (nI k) 1024 := vp_in_nI (by omega) (by omega)
    refine br_f (nI_ge hk (by omega)) ⟨i1, ?_⟩
    rw [nI_clamp (by omega), ← e, h6 g hg hL, e]
    refine nm_r (gc_opp hg hR.2.1) ⟨vp_in_nI (by omega) (by omega), i1, ?_⟩
    rw [nI_clamp (by omega), h3 _ (by omega)]
    refine pk_eq (gc_L n (gc_G n - 1 - g)) g (fun z => ?_) (fun z => ?_) rfl rfl (by omega) (by omega)
    · exact nm_r (by rw [es, nI_1]) (nm_r (nI_1 k) (K _ (w1 (decide_eq_true z))))
    · exact nm_r (nI_1 k) (K _ (w0 (decide_eq_false z)))
theorem gc_yso {n : Nat} (h5 : n ≤ 5) {post : Int32 → SY → Prop} {fr kn : Int32} {b1 b2 b3 b4 : Nat → Int32} (hl : ∀ g, g < gc_G n → b3 g = nI (gc_L n g)) (hlt : ∀ g, g < gc_G n → gc_L n g < 1024) (h : post (nI (gc_cq n (fun g => decide (gc_L n (gc_G n - 1 - g) = g)) (gc_G n))) (nI n, fr, kn, b1, b2, b3, b4)) : ∃ f, wY_selfOpposite_8 post (nI n) fr kn b1 b2 b3 b4 f 0 0 := by
  have hR := gc_sz n h5
  refine pk_loop (σ := Int32) (fun f g s => wY_selfOpposite_8 post (nI n) fr kn b1 b2 b3 b4 f s (nI g)) (fun g s => s = nI (gc_cq n (fun g => decide (gc_L n (gc_G n - 1 - g) = g)) g)) (gc_G n) 0 0 (by omega) rfl ?_ ?_
  · rintro f s rfl
    unfold wY_selfOpposite_8
    refine gc_ygra h5 ?_
    exact br_t (nI_le (Nat.le_refl _) (by omega)) h
  · rintro f g s hg rfl K
    have := hlt g hg
    have hlt' := hlt (gc_G n - 1 - g) (by omega)
    unfold wY_selfOpposite_8
    refine gc_ygra h5 ?_
    refine br_f (nI_ge hg (by omega)) ⟨vp_in_nI (by omega) (by omega), ?_⟩
    rw [nI_clamp (by omega), hl g hg]
    refine pk_eq (gc_L n g) g (fun e => ?_) (fun e => ?_) rfl rfl (by omega) (by omega)
    · refine gc_ygra h5 ?_
      rw [gc_opp hg hR.2.1, nI_clamp (by omega), hl _ (by omega)]
      refine ⟨vp_in_nI (by omega) (by omega), ?_⟩
      refine pk_eq (gc_L n (gc_G n - 1 - g)) g (fun z => ?_) (fun z => ?_) rfl rfl (by omega) (by omega)
      · exact nm_r (nI_1 _) (nm_r (nI_1 g) (K _ (by rw [gc_cq_t e (decide_eq_true z)])))
      · exact nm_r (nI_1 g) (K _ (by rw [gc_cq_f (decide_eq_false z)]))
    · exact nm_r (nI_1 g) (K _ (by rw [gc_cq_n e]))
theorem i_vc_selfOpposite {k : Nat} {u : SX} {v : SY} (I : i_Rel k u v) (hk : k + 3 ≤ 1537) : wpX_selfOpposite (fun r => wpY_selfOpposite (fun r' v' => r' = r ∧ i_Rel (k + 3) u v') v) u := by
  obtain ⟨n, h1, h5, hX, ⟨kn, b1, b2, b3, b4, rfl, hb, hkn⟩⟩ := I
  have hX' := hX
  obtain ⟨a1, a2, a3, a4, a5, a6, rfl, hd, h3, h45, h6⟩ := hX
  unfold wpX_selfOpposite wpY_selfOpposite
  dsimp only
  refine gc_xso h5 h3 (gc_Llt h1 h5) h6 ?_
  refine gc_yfind h1 h5 hb hkn (fun kn' d hd' => ?_)
  dsimp only
  exact gc_yso h5 hd' (gc_Llt h1 h5) ⟨rfl, n, h1, h5, hX', ⟨kn', b1, b2, d, b4, rfl, hb, Or.inr hd'⟩⟩

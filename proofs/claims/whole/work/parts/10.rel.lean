/-! the relation, the constructors, the methods without a leaders' loop -/
def i_Rel (_ : Nat) (u : SX) (v : SY) : Prop := ∃ n, 1 ≤ n ∧ n ≤ 5 ∧ gc_X n u ∧ gc_Y n v
theorem i_up {k : Nat} {u : SX} {v : SY} (h : i_Rel k u v) : i_Rel (k + 3) u v := h
theorem i_vc0 (k0 : Int32) : wpX_init (fun u => wpY_init (fun v => i_Rel 1 u v) k0) k0 := by
  by_cases c1 : 1 ≤ k0
  · by_cases c2 : k0 ≤ 5
    · obtain ⟨n, hn, rfl⟩ := nI_of (x := k0) (Int32.not_lt.mpr (Int32.le_trans (by decide) c1))
      have h1 : 1 ≤ n := (nI_leI (a := 1) (by omega) hn).mp c1
      have h5 : n ≤ 5 := (nI_leI (b := 5) hn (by omega)).mp c2
      exact br_t c1 (br_t c2 (gc_xini h1 h5 (fun u hu => br_t c1 (br_t c2 (gc_yini h1 h5 (fun v hv => ⟨n, h1, h5, hu, hv⟩))))))
    · exact br_t c1 (br_f c2 (gc_xini (n := 5) (by omega) (by omega) (fun u hu => br_t c1 (br_f c2 (gc_yini (n := 5) (by omega) (by omega) (fun v hv => ⟨5, by omega, by omega, hu, hv⟩))))))
  · exact br_f c1 (gc_xini (n := 1) (by omega) (by omega) (fun u hu => br_f c1 (gc_yini (n := 1) (by omega) (by omega) (fun v hv => ⟨1, by omega, by omega, hu, hv⟩))))
theorem gc_bad {x : Int32} {n : Nat} (hn : n < 2 ^ 31) : (x < 0 ∨ nI n ≤ x) ∨ ∃ j : Nat, j < n ∧ x = nI j := by
  rcases pk_ix x hn with h | h | h
  · exact Or.inl (Or.inl h)
  · exact Or.inl (Or.inr h)
  · exact Or.inr h
theorem i_vc_points {k : Nat} {u : SX} {v : SY} (I : i_Rel k u v) (hk : k + 3 ≤ 1537) : wpX_points (fun r => wpY_points (fun r' => r' = r ∧ i_Rel (k + 3) u v) v) u := by
  have I' := i_up I
  obtain ⟨n, h1, h5, ⟨a1, a2, a3, a4, a5, a6, rfl, hd, h3, h45, h6⟩, ⟨kn, b1, b2, b3, b4, rfl, hb, hkn⟩⟩ := I
  exact ⟨rfl, I'⟩
theorem i_vc_leader {k : Nat} {u : SX} {v : SY} (I : i_Rel k u v) (hk : k + 3 ≤ 1537) (v1 : Int32) : wpX_leader (fun r => wpY_leader (fun r' => r' = r ∧ i_Rel (k + 3) u v) v v1) u v1 := by
  have I' := i_up I
  obtain ⟨n, h1, h5, ⟨a1, a2, a3, a4, a5, a6, rfl, hd, h3, h45, h6⟩, ⟨kn, b1, b2, b3, b4, rfl, hb, hkn⟩⟩ := I
  have hR := gc_sz n h5
  unfold wpX_leader wpY_leader
  dsimp only
  rcases gc_bad (x := v1) (n := gc_G n) (by omega) with hx | ⟨g, hg, rfl⟩
  · refine gc_xisF hx ?_
    refine br_t rfl ?_
    refine gc_yisF h5 hx ?_
    exact br_t rfl ⟨rfl, I'⟩
  · refine gc_xisT h5 hg ?_
    refine br_f (by decide) ⟨vp_in_nI (by omega) (by omega), ?_⟩
    rw [nI_clamp (by omega), h3 g hg]
    refine gc_yisT h5 hg ?_
    refine br_f (by decide) ?_
    refine gc_yleast h1 h5 hg hb ?_
    exact ⟨rfl, I'⟩
theorem i_vc_symmetries {k : Nat} {u : SX} {v : SY} (I : i_Rel k u v) (hk : k + 3 ≤ 1537) (v1 : Int32) : wpX_symmetries (fun r => wpY_symmetries (fun r' => r' = r ∧ i_Rel (k + 3) u v) v v1) u v1 := by
  have I' := i_up I
  obtain ⟨n, h1, h5, ⟨a1, a2, a3, a4, a5, a6, rfl, hd, h3, h45, h6⟩, ⟨kn, b1, b2, b3, b4, rfl, hb, hkn⟩⟩ := I
  have hR := gc_sz n h5
  unfold wpX_symmetries wpY_symmetries
  dsimp only
  rcases gc_bad (x := v1) (n := gc_G n) (by omega) with hx | ⟨g, hg, rfl⟩
  · refine gc_xisF hx ?_
    refine br_t rfl ?_
    refine gc_yisF h5 hx ?_
    exact br_t rfl ⟨rfl, I'⟩
  · have hP := gc_Pn h1 h5 hg
    have hl : gc_L n g < gc_G n := Nat.lt_of_le_of_lt hP.1 hg
    refine gc_xisT h5 hg ?_
    refine br_f (by decide) ⟨vp_in_nI (by omega) (by omega), ?_⟩
    rw [nI_clamp (by omega), h3 g hg, nI_clamp (by omega), (h45 _ hl hP.2.1).2, (gc_k5' h1 h5 hl hP.2.1).1, ← hP.2.2.2.1]
    refine ⟨vp_in_nI (by omega) (by omega), ?_⟩
    refine gc_yisT h5 hg ?_
    refine br_f (by decide) ?_
    exact gc_ysym h1 h5 hg hb ⟨rfl, I'⟩
theorem i_vc_alike {k : Nat} {u : SX} {v : SY} (I : i_Rel k u v) (hk : k + 3 ≤ 1537) (v1 : Int32) : wpX_alike (fun r => wpY_alike (fun r' v' => r' = r ∧ i_Rel (k + 3) u v') v v1) u v1 := by
  have I' := i_up I
  obtain ⟨n, h1, h5, hX, ⟨kn, b1, b2, b3, b4, rfl, hb, hkn⟩⟩ := I
  have hX' := hX
  obtain ⟨a1, a2, a3, a4, a5, a6, rfl, hd, h3, h45, h6⟩ := hX
  have hR := gc_sz n h5
  unfold wpX_alike wpY_alike
  dsimp only
  rcases gc_bad (x := v1) (n := gc_G n) (by omega) with hx | ⟨g, hg, rfl⟩
  · refine gc_xisF hx ?_
    refine br_t rfl ?_
    refine gc_yisF h5 hx ?_
    exact br_t rfl ⟨rfl, I'⟩
  · have hP := gc_Pn h1 h5 hg
    have hl : gc_L n g < gc_G n := Nat.lt_of_le_of_lt hP.1 hg
    refine gc_xisT h5 hg ?_
    refine br_f (by decide) ⟨vp_in_nI (by omega) (by omega), ?_⟩
    rw [nI_clamp (by omega), h3 g hg, nI_clamp (by omega), (h45 _ hl hP.2.1).1, gc_stx h1 h5, ← hP.2.2.2.2.1]
    refine ⟨vp_in_nI (by omega) (by omega), ?_⟩
    refine gc_yisT h5 hg ?_
    refine br_f (by decide) ?_
    refine gc_yforg (fun d hM => ?_)
    dsimp only
    exact gc_yalike h1 h5 hg hb hM (fun d' => ⟨rfl, n, h1, h5, hX', ⟨kn, b1, b2, b3, d', rfl, hb, hkn⟩⟩)
/-! contains -/
def gc_Q (g v : Nat) : Prop := (nI v &&& (nI g ^^^ (-1))) = 0
theorem gc_xcont {n g p : Nat} (h1 : 1 ≤ n) (h5 : n ≤ 5) (hp : p < gc_G n) {post : Int32 → Prop} {x q m : Int32} {a1 a2 a3 a4 a5 a6 : Nat → Int32} (hd : gc_XT n (gc_R n) a2) (ht : (∃ r, r < gc_R n ∧ gc_Q g (gc_ix n p r)) → post 1) (hf : (¬ ∃ r, r < gc_R n ∧ gc_Q g (gc_ix n p r)) → post 0) : ∃ f, wX_contains_20 post (nI g) (nI p) x (nI (gc_C n)) q (nI (gc_R n)) m a1 a2 a3 a4 a5 a6 f 0 := by
  have hR := gc_sz n h5
  refine pk_loop (σ := Unit) (fun f r _ => wX_contains_20 post (nI g) (nI p) x (nI (gc_C n)) q (nI (gc_R n)) m a1 a2 a3 a4 a5 a6 f (nI r)) (fun r _ => ∀ r', r' < r → ¬ gc_Q g (gc_ix n p r')) (gc_R n) 0 () (by omega) (fun r' hr' => by omega) ?_ ?_
  · intro f _ hI
    exact br_t (nI_le (Nat.le_refl _) (by omega)) (hf (fun ⟨r, hr, z⟩ => hI r hr z))
  · intro f r _ hr hI K
    refine br_f (nI_ge hr (by omega)) (gc_xren h1 h5 (by omega) hr hd (br_c (fun z => ht ⟨r, hr, z⟩) (fun z => nm_r (nI_1 r) (K () (fun r' hr' => ?_)))))
    by_cases e : r' = r
    · rw [e]; exact z
    · exact hI r' (by omega)
theorem gc_ycont {n g p : Nat} (h1 : 1 ≤ n) (h5 : n ≤ 5) (hp : p < gc_G n) {post : Int32 → Prop} {kn : Int32} {b1 b2 b3 b4 : Nat → Int32} (hb : gc_YS n n (gc_R n) b1) (ht : (∃ r, r < gc_R n ∧ gc_Q g (gc_iy n p r)) → post 1) (hf : (¬ ∃ r, r < gc_R n ∧ gc_Q g (gc_iy n p r)) → post 0) : ∃ f, wY_contains_20 post (nI g) (nI p) (nI n) (nI (gc_R n)) kn b1 b2 b3 b4 f 0 := by
  have hR := gc_sz n h5
  refine pk_loop (σ := Unit) (fun f r _ => wY_contains_20 post (nI g) (nI p) (nI n) (nI (gc_R n)) kn b1 b2 b3 b4 f (nI r)) (fun r _ => ∀ r', r' < r → ¬ gc_Q g (gc_iy n p r')) (gc_R n) 0 () (by omega) (fun r' hr' => by omega) ?_ ?_
  · intro f _ hI
    exact br_t (nI_le (Nat.le_refl _) (by omega)) (hf (fun ⟨r, hr, z⟩ => hI r hr z))
  · intro f r _ hr hI K
    refine br_f (nI_ge hr (by omega)) (gc_yren h1 h5 (by omega) hr hb (br_c (fun z => ht ⟨r, hr, z⟩) (fun z => nm_r (nI_1 r) (K () (fun r' hr' => ?_)))))
    by_cases e : r' = r
    · rw [e]; exact z
    · exact hI r' (by omega)
theorem i_vc_contains {k : Nat} {u : SX} {v : SY} (I : i_Rel k u v) (hk : k + 3 ≤ 1537) (v1 : Int32) (v2 : Int32) : wpX_contains (fun r => wpY_contains (fun r' => r' = r ∧ i_Rel (k + 3) u v) v v1 v2) u v1 v2 := by
  have I' := i_up I
  obtain ⟨n, h1, h5, ⟨a1, a2, a3, a4, a5, a6, rfl, hd, h3, h45, h6⟩, ⟨kn, b1, b2, b3, b4, rfl, hb, hkn⟩⟩ := I
  have hR := gc_sz n h5
  unfold wpX_contains wpY_contains
  dsimp only
  rcases gc_bad (x := v1) (n := gc_G n) (by omega) with hx | ⟨g, hg, rfl⟩
  · refine gc_xisF hx ?_
    refine br_t rfl ?_
    refine gc_yisF h5 hx ?_
    exact br_t rfl ⟨rfl, I'⟩
  · refine gc_xisT h5 hg ?_
    refine br_f (by decide) ?_
    rcases gc_bad (x := v2) (n := gc_G n) (by omega) with hx | ⟨p, hp, rfl⟩
    · refine gc_xisF hx ?_
      refine br_t rfl ?_
      refine gc_yisT h5 hg ?_
      refine br_f (by decide) ?_
      refine gc_yisF h5 hx ?_
      exact br_t rfl ⟨rfl, I'⟩
    · refine gc_xisT h5 hp ?_
      refine br_f (by decide) ?_
      have iff : (∃ r, r < gc_R n ∧ gc_Q g (gc_ix n p r)) ↔ (∃ r, r < gc_R n ∧ gc_Q g (gc_iy n p r)) := by
        constructor
        · rintro ⟨r, hr, z⟩
          obtain ⟨s, hs, e⟩ := gc_sx h1 h5 hr
          exact ⟨s, hs, by rw [← e p]; exact z⟩
        · rintro ⟨r, hr, z⟩
          obtain ⟨s, hs, e⟩ := gc_sy h1 h5 hr
          exact ⟨s, hs, by rw [← e p]; exact z⟩
      refine gc_xcont h1 h5 hp hd (fun z => ?_) (fun z => ?_)
      · refine gc_yisT h5 hg ?_
        refine br_f (by decide) ?_
        refine gc_yisT h5 hp ?_
        refine br_f (by decide) ?_
        exact gc_ycont h1 h5 hp hb (fun _ => ⟨rfl, I'⟩) (fun y => absurd (iff.mp z) y)
      · refine gc_yisT h5 hg ?_
        refine br_f (by decide) ?_
        refine gc_yisT h5 hp ?_
        refine br_f (by decide) ?_
        exact gc_ycont h1 h5 hp hb (fun y => absurd (iff.mpr y) z) (fun _ => ⟨rfl, I'⟩)

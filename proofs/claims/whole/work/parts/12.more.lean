/-! entry, extensions, connected -/
theorem gc_yentT {n k h : Nat} (h5 : n ≤ 5) (hh : h < gc_G n) (hL : gc_L n h = h) (hk : gc_ct n h = k) {post : Int32 → SY → Prop} {fr kn : Int32} {b1 b2 b3 b4 : Nat → Int32} (hl : ∀ g, g < gc_G n → b3 g = nI (gc_L n g)) (hlt : ∀ g, g < gc_G n → gc_L n g < 1024) (hp : post (nI h) (nI n, fr, kn, b1, b2, b3, b4)) : ∃ f, wY_entry_8 post (nI k) (nI n) fr kn b1 b2 b3 b4 f 0 0 := by
  have hR := gc_sz n h5
  have hc := gc_ct_le n h
  have hkG : k < gc_ct n (gc_G n) := by
    have := gc_ct_m (n := n) (show h + 1 ≤ gc_G n from hh)
    rw [gc_ct_t hL] at this
    omega
  refine pk_loop (σ := Int32) (fun f g s => wY_entry_8 post (nI k) (nI n) fr kn b1 b2 b3 b4 f s (nI g)) (fun g s => s = nI (gc_ct n g) ∧ gc_ct n g ≤ k) (gc_G n) 0 0 (by omega) ⟨rfl, Nat.zero_le _⟩ ?_ ?_
  · rintro f s ⟨_, hs⟩
    omega
  · rintro f g s hg ⟨rfl, hs⟩ K
    have := hlt g hg
    have hcg := gc_ct_le n g
    unfold wY_entry_8
    refine gc_ygra h5 ?_
    refine br_f (nI_ge hg (by omega)) ⟨vp_in_nI (by omega) (by omega), ?_⟩
    rw [nI_clamp (by omega), hl g hg]
    refine pk_eq (gc_L n g) g (fun e => ?_) (fun e => ?_) rfl rfl (by omega) (by omega)
    · refine pk_eq (gc_ct n g) k (fun z => ?_) (fun z => ?_) rfl rfl (by omega) (by omega)
      · rw [gc_ct_i e hL (z.trans hk.symm)]
        exact hp
      · exact nm_r (nI_1 _) (nm_r (nI_1 g) (K _ ⟨by rw [gc_ct_t e], by rw [gc_ct_t e]; omega⟩))
    · exact nm_r (nI_1 g) (K _ ⟨by rw [gc_ct_f e], by rw [gc_ct_f e]; exact hs⟩)
theorem gc_yentF {n : Nat} {x : Int32} (h5 : n ≤ 5) (hx : ∀ j, j < gc_ct n (gc_G n) → ¬ nI j = x) {post : Int32 → SY → Prop} {fr kn : Int32} {b1 b2 b3 b4 : Nat → Int32} (hl : ∀ g, g < gc_G n → b3 g = nI (gc_L n g)) (hlt : ∀ g, g < gc_G n → gc_L n g < 1024) (hp : post (-1) (nI n, fr, kn, b1, b2, b3, b4)) : ∃ f, wY_entry_8 post x (nI n) fr kn b1 b2 b3 b4 f 0 0 := by
  have hR := gc_sz n h5
  refine pk_loop (σ := Int32) (fun f g s => wY_entry_8 post x (nI n) fr kn b1 b2 b3 b4 f s (nI g)) (fun g s => s = nI (gc_ct n g)) (gc_G n) 0 0 (by omega) rfl ?_ ?_
  · rintro f s rfl
    unfold wY_entry_8
    refine gc_ygra h5 ?_
    exact br_t (nI_le (Nat.le_refl _) (by omega)) hp
  · rintro f g s hg rfl K
    have := hlt g hg
    unfold wY_entry_8
    refine gc_ygra h5 ?_
    refine br_f (nI_ge hg (by omega)) ⟨vp_in_nI (by omega) (by omega), ?_⟩
    rw [nI_clamp (by omega), hl g hg]
    refine pk_eq (gc_L n g) g (fun e => ?_) (fun e => ?_) rfl rfl (by omega) (by omega)
    · refine br_f (hx _ ?_) (nm_r (nI_1 _) (nm_r (nI_1 g) (K _ (by rw [gc_ct_t e]))))
      have := gc_ct_m (n := n) (show g + 1 ≤ gc_G n from hg)
      rw [gc_ct_t e] at this
      omega
    · exact nm_r (nI_1 g) (K _ (by rw [gc_ct_f e]))
theorem i_vc_entry {k : Nat} {u : SX} {v : SY} (I : i_Rel k u v) (hk : k + 3 ≤ 1537) (v1 : Int32) : wpX_entry (fun r => wpY_entry (fun r' v' => r' = r ∧ i_Rel (k + 3) u v') v v1) u v1 := by
  obtain ⟨n, h1, h5, hX, ⟨kn, b1, b2, b3, b4, rfl, hb, hkn⟩⟩ := I
  have hX' := hX
  obtain ⟨a1, a2, a3, a4, a5, a6, rfl, hd, h3, h45, h6⟩ := hX
  have hR := gc_sz n h5
  have hc := gc_ct_le n (gc_G n)
  unfold wpX_entry wpY_entry
  dsimp only
  by_cases c0 : v1 < 0
  · refine br_t c0 ?_
    refine gc_yfind h1 h5 hb hkn (fun kn' d hd' => ?_)
    dsimp only
    exact gc_yentF h5 (fun j hj e => by rw [← e] at c0; exact nI_pos (by omega) c0) hd' (gc_Llt h1 h5) ⟨rfl, n, h1, h5, hX', ⟨kn', b1, b2, d, b4, rfl, hb, Or.inr hd'⟩⟩
  · refine br_f c0 ?_
    by_cases c1 : nI (gc_ct n (gc_G n)) ≤ v1
    · refine br_t c1 ?_
      refine gc_yfind h1 h5 hb hkn (fun kn' d hd' => ?_)
      dsimp only
      exact gc_yentF h5 (fun j hj e => by rw [← e] at c1; exact nI_ge hj (by omega) c1) hd' (gc_Llt h1 h5) ⟨rfl, n, h1, h5, hX', ⟨kn', b1, b2, d, b4, rfl, hb, Or.inr hd'⟩⟩
    · obtain ⟨j, hj, rfl⟩ := nI_of c0
      have hjc : j < gc_ct n (gc_G n) := by
        rw [nI_leI (by omega) hj] at c1
        omega
      obtain ⟨h, hh, hL, e⟩ := gc_ct_x hjc
      refine br_f c1 ⟨vp_in_nI (by omega) (by omega), ?_⟩
      rw [nI_clamp hj, ← e, h6 h hh hL]
      refine gc_yfind h1 h5 hb hkn (fun kn' d hd' => ?_)
      dsimp only
      exact gc_yentT h5 hh hL rfl hd' (gc_Llt h1 h5) ⟨rfl, n, h1, h5, hX', ⟨kn', b1, b2, d, b4, rfl, hb, Or.inr hd'⟩⟩
/-! extensions -/
theorem gc_or1 {g c : Nat} (hc : c < 31) : nI g ||| ((1 : Int32) <<< (nI c &&& 31)) = nI (g ||| 2 ^ c) := by rw [gc_n2p hc, gc_nor]
theorem gc_xnew {n g c : Nat} (h5 : n ≤ 5) (hg : g < gc_G n) (hc : c < gc_C n) {post : Int32 → Prop} {p q m s k : Int32} {a1 a2 a3 a4 a5 a6 : Nat → Int32} (h3 : ∀ g, g < gc_G n → a3 g = nI (gc_L n g)) (hlt : ∀ g, g < gc_G n → gc_L n g < 1024) (ht : (gc_es n g c).testBit (gc_L n (g ||| 2 ^ c)) = true → post 0) (hf : (gc_es n g c).testBit (gc_L n (g ||| 2 ^ c)) = false → post 1) : wpX_isNewExtension post (p, q, m, s, k, a1, a2, a3, a4, a5, a6) (nI g) (nI c) := by
  have hR := gc_sz n h5
  have ho : ∀ d, d < gc_C n → g ||| 2 ^ d < gc_G n := fun d hd => gc_orG hg hd
  have hoc := ho c hc
  have hlc := hlt _ hoc
  unfold wpX_isNewExtension
  dsimp only
  rw [gc_or1 (by omega), nI_clamp (by omega), h3 _ hoc]
  refine ⟨vp_in_nI (by omega) (by omega), nm_e ?_⟩
  refine pk_loop (σ := Unit) (fun f d _ => wX_isNewExtension_14 post (nI g) (nI c) (nI (gc_L n (g ||| 2 ^ c))) p q m s k a1 a2 a3 a4 a5 a6 f (nI d)) (fun d _ => (gc_es n g d).testBit (gc_L n (g ||| 2 ^ c)) = false) c 0 () (by omega) (Nat.zero_testBit _) ?_ ?_
  · intro f _ hI
    exact br_t (nI_le (Nat.le_refl _) (by omega)) (hf hI)
  · intro f d _ hd hI K
    have hod := ho d (by omega)
    have hld := hlt _ hod
    refine br_f (nI_ge hd (by omega)) (gc_xedge (by omega) (by omega) (fun t => ?_) (fun t => ?_))
    · exact br_f (by decide) (nm_r (nI_1 d) (K () (by rw [gc_es_t t]; exact hI)))
    · refine br_t rfl ?_
      rw [gc_or1 (by omega), nI_clamp (by omega), h3 _ hod]
      refine ⟨vp_in_nI (by omega) (by omega), pk_eq (gc_L n (g ||| 2 ^ d)) (gc_L n (g ||| 2 ^ c)) (fun e => ?_) (fun e => ?_) rfl rfl (by omega) (by omega)⟩
      · exact ht ((gc_es_b _ _ _ _).mpr ⟨d, hd, t, e⟩)
      · exact nm_r (nI_1 d) (K () (by rw [gc_es_f t, gc_orb, hI, decide_eq_false e]; rfl))
theorem gc_xext {n g : Nat} (h5 : n ≤ 5) (hg : g < gc_G n) {post : Int32 → Prop} {p m s k : Int32} {a1 a2 a3 a4 a5 a6 : Nat → Int32} (h3 : ∀ g, g < gc_G n → a3 g = nI (gc_L n g)) (hlt : ∀ g, g < gc_G n → gc_L n g < 1024) (h : post (nI (gc_sc (gc_es n g (gc_C n)) 1024))) : ∃ f, wX_extensions_14 post (nI g) p (nI (gc_C n)) m s k a1 a2 a3 a4 a5 a6 f 0 0 := by
  have hR := gc_sz n h5
  refine pk_loop (σ := Int32) (fun f c x => wX_extensions_14 post (nI g) p (nI (gc_C n)) m s k a1 a2 a3 a4 a5 a6 f x (nI c)) (fun c x => x = nI (gc_sc (gc_es n g c) 1024)) (gc_C n) 0 0 (by omega) (by show _ = nI (gc_sc 0 1024); rw [gc_sc_0]; rfl) ?_ ?_
  · rintro f x rfl
    exact br_t (nI_le (Nat.le_refl _) (by omega)) h
  · rintro f c x hc rfl K
    have hlc := hlt _ (gc_orG hg hc)
    refine br_f (nI_ge hc (by omega)) (gc_xedge (by omega) (by omega) (fun t => ?_) (fun t => ?_))
    · exact br_f (by decide) (nm_r (nI_1 c) (K _ (by rw [gc_es_t t])))
    · refine br_t rfl ?_
      refine gc_xnew h5 hg hc h3 hlt (fun z => ?_) (fun z => ?_)
      · exact br_t rfl (nm_r (nI_1 c) (K _ (by rw [gc_es_f t, gc_sc_in z])))
      · exact br_f (by decide) (nm_r (nI_1 _) (nm_r (nI_1 c) (K _ (by rw [gc_es_f t, gc_sc_new z _ hlc]))))
theorem gc_yext {n g : Nat} (h5 : n ≤ 5) (hg : g < gc_G n) {post : Int32 → SY → Prop} {fr kn : Int32} {b1 b2 b3 b4 : Nat → Int32} (hl : ∀ g, g < gc_G n → b3 g = nI (gc_L n g)) (hlt : ∀ g, g < gc_G n → gc_L n g < 1024) (hM : gc_M 0 b4) (h : ∀ d : Nat → Int32, post (nI (gc_sc (gc_es n g (gc_C n)) 1024)) (nI n, fr, kn, b1, b2, b3, d)) : ∃ f, wY_extensions_20 post (nI g) (nI n) fr kn f 0 b1 b2 b3 b4 := by
  have hR := gc_sz n h5
  refine pk_loop (σ := Nat → Int32) (fun f c d => wY_extensions_20 post (nI g) (nI n) fr kn f (nI c) b1 b2 b3 d) (fun c d => gc_M (gc_es n g c) d) (gc_C n) 0 b4 (by omega) hM ?_ ?_
  · intro f d hd
    unfold wY_extensions_20
    refine gc_ycou h5 ?_
    refine br_t (nI_le (Nat.le_refl _) (by omega)) ?_
    exact gc_ycount hd (h d)
  · intro f c d hc hd K
    have hoc := gc_orG hg hc
    have hlc := hlt _ hoc
    unfold wY_extensions_20
    refine gc_ycou h5 ?_
    refine br_f (nI_ge hc (by omega)) ?_
    cases t : g.testBit c with
    | false =>
      refine br_t ((gc_bit0 (by omega) (by omega)).mpr t) ?_
      rw [gc_or1 (by omega), nI_clamp (by omega), hl _ hoc, gc_mask hlc, nI_clamp (by omega), gc_nar1]
      exact ⟨vp_in_nI (by omega) (by omega), vp_in_nI (by omega) (by omega), nm_e (nm_r (nI_1 c) (K _ (by rw [gc_es_f t]; exact gc_M_s hd)))⟩
    | true =>
      refine br_f (fun z => by rw [(gc_bit0 (by omega) (by omega)).mp z] at t; exact absurd t (by decide)) (nm_r (nI_1 c) (K _ (by rw [gc_es_t t]; exact hd)))
theorem i_vc_extensions {k : Nat} {u : SX} {v : SY} (I : i_Rel k u v) (hk : k + 3 ≤ 1537) (v1 : Int32) : wpX_extensions (fun r => wpY_extensions (fun r' v' => r' = r ∧ i_Rel (k + 3) u v') v v1) u v1 := by
  have I' := i_up I
  obtain ⟨n, h1, h5, hX, ⟨kn, b1, b2, b3, b4, rfl, hb, hkn⟩⟩ := I
  have hX' := hX
  obtain ⟨a1, a2, a3, a4, a5, a6, rfl, hd, h3, h45, h6⟩ := hX
  have hR := gc_sz n h5
  unfold wpX_extensions wpY_extensions
  dsimp only
  rcases gc_bad (x := v1) (n := gc_G n) (by omega) with hx | ⟨g, hg, rfl⟩
  · refine gc_xisF hx ?_
    refine br_t rfl ?_
    refine gc_yisF h5 hx ?_
    exact br_t rfl ⟨rfl, I'⟩
  · refine gc_xisT h5 hg ?_
    refine br_f (by decide) ?_
    refine gc_xext h5 hg h3 (gc_Llt h1 h5) ?_
    refine gc_yisT h5 hg ?_
    refine br_f (by decide) ?_
    refine gc_yfind h1 h5 hb hkn (fun kn' d hd' => ?_)
    dsimp only
    refine gc_yforg (fun e hM => ?_)
    dsimp only
    exact gc_yext h5 hg hd' (gc_Llt h1 h5) hM (fun e' => ⟨rfl, n, h1, h5, hX', ⟨kn', b1, b2, d, e', rfl, hb, Or.inr hd'⟩⟩)
/-! connected -/
theorem gc_wi_s (g j s i : Nat) : gc_wi g j s (i + 1) = bif (g.testBit (gc_cn i j) && !(Nat.beq (gc_wi g j s i &&& (2 ^ i ||| 2 ^ j)) 0)) then gc_wi g j s i ||| (2 ^ i ||| 2 ^ j) else gc_wi g j s i := rfl
theorem gc_wo_s (g s j : Nat) : gc_wo g s (j + 1) = gc_wi g (j + 1) (gc_wo g s j) (j + 1) := rfl
theorem gc_wr_s (n g k : Nat) : gc_wr n g (k + 1) = gc_wo g (gc_wr n g k) (n - 1) := rfl
theorem gc_vi_s (n g s k : Nat) : gc_vi n g s (k + 1) = bif (!(Nat.beq (k / n) (k % n)) && ((gc_vi n g s k).testBit (k / n) && g.testBit (gc_cn (k / n) (k % n)))) then gc_vi n g s k ||| 2 ^ (k % n) else gc_vi n g s k := rfl
theorem gc_vr_s (n g k : Nat) : gc_vr n g (k + 1) = gc_vi n g (gc_vr n g k) (n * n) := rfl
theorem gc_p32 {i : Nat} (h : i < 5) : 2 ^ i < 2 ^ 5 := Nat.pow_lt_pow_right (by omega) h
theorem gc_wi_lt {g j s : Nat} (hj : j < 5) (hs : s < 2 ^ 5) : ∀ i, i ≤ j → gc_wi g j s i < 2 ^ 5 := by
  intro i
  induction i with
  | zero => intro _; exact hs
  | succ i ih =>
    intro hi
    rw [gc_wi_s]
    cases (g.testBit (gc_cn i j) && !(Nat.beq (gc_wi g j s i &&& (2 ^ i ||| 2 ^ j)) 0)) with
    | false => exact ih (by omega)
    | true => exact Nat.or_lt_two_pow (ih (by omega)) (Nat.or_lt_two_pow (gc_p32 (by omega)) (gc_p32 hj))
theorem gc_wo_lt {g s : Nat} (hs : s < 2 ^ 5) : ∀ j, j < 5 → gc_wo g s j < 2 ^ 5 := by
  intro j
  induction j with
  | zero => intro _; exact hs
  | succ j ih => intro hj; rw [gc_wo_s]; exact gc_wi_lt hj (ih (by omega)) _ (Nat.le_refl _)
theorem gc_wr_lt {n g : Nat} (h5 : n ≤ 5) : ∀ k, gc_wr n g k < 2 ^ 5 := by
  intro k
  induction k with
  | zero => show 1 < 2 ^ 5; decide
  | succ k ih => rw [gc_wr_s]; exact gc_wo_lt ih _ (by omega)
theorem gc_vi_lt {n g s : Nat} (h1 : 1 ≤ n) (h5 : n ≤ 5) (hs : s < 2 ^ 5) : ∀ k, gc_vi n g s k < 2 ^ 5 := by
  intro k
  induction k with
  | zero => exact hs
  | succ k ih =>
    rw [gc_vi_s]
    cases (!(Nat.beq (k / n) (k % n)) && ((gc_vi n g s k).testBit (k / n) && g.testBit (gc_cn (k / n) (k % n)))) with
    | false => exact ih
    | true => exact Nat.or_lt_two_pow ih (gc_p32 (by have := Nat.mod_lt k h1; omega))
theorem gc_vr_lt {n g : Nat} (h1 : 1 ≤ n) (h5 : n ≤ 5) : ∀ k, gc_vr n g k < 2 ^ 5 := by
  intro k
  induction k with
  | zero => show 1 < 2 ^ 5; decide
  | succ k ih => rw [gc_vr_s]; exact gc_vi_lt h1 h5 ih _
theorem gc_xwid {n g s : Nat} (h1 : 1 ≤ n) (h5 : n ≤ 5) (hg : g < 1024) (hs : s < 2 ^ 5) {post : Int32 → Prop} {p q m k : Int32} {a1 a2 a3 a4 a5 a6 : Nat → Int32} (h : post (nI (gc_wo g s (n - 1)))) : wpX_widened post (nI n, p, q, m, k, a1, a2, a3, a4, a5, a6) (nI g) (nI s) := by
  refine pk_loop (σ := Int32) (fun f j x => wX_widened_5 post (nI g) (nI n) p q m k a1 a2 a3 a4 a5 a6 f x (nI j)) (fun j x => 1 ≤ j ∧ x = nI (gc_wo g s (j - 1))) n 1 (nI s) h1 ⟨by omega, rfl⟩ ?_ ?_
  · rintro f x ⟨_, rfl⟩
    exact br_t (nI_le (Nat.le_refl _) (by omega)) h
  · rintro f j x hj ⟨hj1, hx⟩ K
    obtain ⟨i0, rfl⟩ : ∃ i, j = i + 1 := ⟨j - 1, by omega⟩
    rw [Nat.add_sub_cancel] at hx
    have hw := gc_wo_lt (g := g) hs i0 (by omega)
    refine br_f (nI_ge hj (by omega)) ?_
    refine pk_loop (σ := Int32) (fun f' i x => wX_widened_17 post (wX_widened_5 post (nI g) (nI n) p q m k a1 a2 a3 a4 a5 a6 f) (nI g) (nI (i0 + 1)) (nI n) p q m k a1 a2 a3 a4 a5 a6 f' x (nI i)) (fun i x => x = nI (gc_wi g (i0 + 1) (gc_wo g s i0) i)) (i0 + 1) 0 x (by omega) hx ?_ ?_
    · rintro f' x' hx'
      exact br_t (nI_le (Nat.le_refl _) (by omega)) (nm_r (nI_1 _) (K x' ⟨by omega, by rw [Nat.add_sub_cancel, gc_wo_s]; exact hx'⟩))
    · rintro f' i x' hi rfl K'
      have hc := gc_cnlt i (by omega) (i0 + 1) (by omega)
      have ha : gc_wi g (i0 + 1) (gc_wo g s i0) i &&& (2 ^ i ||| 2 ^ (i0 + 1)) < 2 ^ 5 := Nat.and_lt_two_pow _ (Nat.or_lt_two_pow (gc_p32 (by omega)) (gc_p32 (by omega)))
      have ee : ((1 : Int32) <<< (nI i &&& 31)) ||| ((1 : Int32) <<< (nI (i0 + 1) &&& 31)) = nI (2 ^ i ||| 2 ^ (i0 + 1)) := by rw [gc_n2p (by omega), gc_n2p (by omega), gc_nor]
      refine br_f (nI_ge hi (by omega)) (nm_r ee ?_)
      refine gc_xcn (by omega) (by omega) ?_
      refine gc_xedge (by omega) (by omega) (fun t => ?_) (fun t => ?_)
      · refine br_f (by decide) ?_
        rw [nx_and]
        refine pk_eq (gc_wi g (i0 + 1) (gc_wo g s i0) i &&& (2 ^ i ||| 2 ^ (i0 + 1))) 0 (fun e => ?_) (fun e => ?_) rfl rfl (by omega) (by omega)
        · refine nm_r (nI_1 i) (K' _ ?_)
          rw [gc_wi_s, t, gc_beqT e]; rfl
        · refine nm_r (gc_nor _ _) (nm_r (nI_1 i) (K' _ ?_))
          rw [gc_wi_s, t, gc_beqF e]; rfl
      · refine br_t rfl (nm_r (nI_1 i) (K' _ ?_))
        rw [gc_wi_s, t]; rfl
theorem gc_full {n : Nat} (h5 : n ≤ 5) : ((1 : Int32) <<< (nI n &&& 31)) - 1 = nI (2 ^ n - 1) := by
  rw [gc_n2p (by omega)]
  exact pk_sub (b := 1) (Nat.two_pow_pos n)
theorem gc_fullt {n : Nat} (h5 : n ≤ 5) : 2 ^ n - 1 < 2 ^ 31 := by
  have : 2 ^ n ≤ 2 ^ 5 := Nat.pow_le_pow_right (by omega) h5
  omega
theorem gc_xcon {n g : Nat} (h1 : 1 ≤ n) (h5 : n ≤ 5) (hg : g < 1024) {post : Int32 → Prop} {p q m k : Int32} {a1 a2 a3 a4 a5 a6 : Nat → Int32} (ht : Nat.beq (gc_wr n g (n - 1)) (2 ^ n - 1) = true → post 1) (hf : Nat.beq (gc_wr n g (n - 1)) (2 ^ n - 1) = false → post 0) : wpX_isConnected post (nI n, p, q, m, k, a1, a2, a3, a4, a5, a6) (nI g) := by
  refine pk_loop (σ := Int32) (fun f r x => wX_isConnected_4 post (nI g) (nI n) p q m k a1 a2 a3 a4 a5 a6 f x (nI r)) (fun r x => 1 ≤ r ∧ x = nI (gc_wr n g (r - 1))) n 1 1 h1 ⟨by omega, rfl⟩ ?_ ?_
  · rintro f x ⟨_, rfl⟩
    have hw := gc_wr_lt (g := g) h5 (n - 1)
    exact br_t (nI_le (Nat.le_refl _) (by omega)) (pk_eq (gc_wr n g (n - 1)) (2 ^ n - 1) (fun e => ht (gc_beqT e)) (fun e => hf (gc_beqF e)) rfl (gc_full h5) (by omega) (gc_fullt h5))
  · rintro f r x hr ⟨hr1, rfl⟩ K
    obtain ⟨i0, rfl⟩ : ∃ i, r = i + 1 := ⟨r - 1, by omega⟩
    rw [Nat.add_sub_cancel]
    refine br_f (nI_ge hr (by omega)) (gc_xwid h1 h5 hg (gc_wr_lt h5 i0) ?_)
    exact nm_r (nI_1 _) (K _ ⟨by omega, by rw [Nat.add_sub_cancel, gc_wr_s]⟩)
theorem gc_ycon {n g : Nat} (h1 : 1 ≤ n) (h5 : n ≤ 5) (hg : g < 1024) {post : Int32 → Prop} {fr kn : Int32} {b1 b2 b3 b4 : Nat → Int32} (ht : Nat.beq (gc_vr n g n) (2 ^ n - 1) = true → post 1) (hf : Nat.beq (gc_vr n g n) (2 ^ n - 1) = false → post 0) : wpY_isConnected post (nI n, fr, kn, b1, b2, b3, b4) (nI g) := by
  refine pk_loop (σ := Int32) (fun f r x => wY_isConnected_4 post (nI g) (nI n) fr kn b1 b2 b3 b4 f x (nI r)) (fun r x => x = nI (gc_vr n g r)) n 0 1 (by omega) rfl ?_ ?_
  · rintro f x rfl
    have hw := gc_vr_lt (g := g) h1 h5 n
    exact br_t (nI_le (Nat.le_refl _) (by omega)) (pk_eq (gc_vr n g n) (2 ^ n - 1) (fun e => ht (gc_beqT e)) (fun e => hf (gc_beqF e)) rfl (gc_full h5) (by omega) (gc_fullt h5))
  · rintro f r x hr hx K
    have hw := gc_vr_lt (g := g) h1 h5 r
    have hnn : n * n ≤ 5 * 5 := Nat.mul_le_mul h5 h5
    refine br_f (nI_ge hr (by omega)) ?_
    refine pk_loop (σ := Int32) (fun f' i x => wY_isConnected_15 post (wY_isConnected_4 post (nI g) (nI n) fr kn b1 b2 b3 b4 f) (nI g) (nI r) (nI n) fr kn b1 b2 b3 b4 f' x (nI i)) (fun i x => x = nI (gc_vi n g (gc_vr n g r) i)) (n * n) 0 x (by omega) hx ?_ ?_
    · rintro f' x' hx'
      exact br_t (by rw [pk_mul]; exact nI_le (Nat.le_refl _) (by omega)) (nm_r (nI_1 r) (K x' (by rw [gc_vr_s]; exact hx')))
    · rintro f' i x' hi rfl K'
      have hv := gc_vi_lt (g := g) h1 h5 hw i
      have hd : i / n < n := Nat.div_lt_of_lt_mul hi
      have hm : i % n < n := Nat.mod_lt _ h1
      have hc := gc_cnlt (i / n) (by omega) (i % n) (by omega)
      have n0 : ¬ nI n = 0 := nI_ne0 h1 (by omega)
      refine br_f (by rw [pk_mul]; exact nI_ge hi (by omega)) ⟨n0, nm_r (pk_div (by omega) (by omega) (by omega)) ⟨n0, nm_r (pk_rem (by omega) (by omega) (by omega)) ?_⟩⟩
      refine pk_eq (i / n) (i % n) (fun e => ?_) (fun e => ?_) rfl rfl (by omega) (by omega)
      · refine nm_r (nI_1 i) (K' _ ?_)
        rw [gc_vi_s, gc_beqT e]; rfl
      · refine br_c (fun z => ?_) (fun z => ?_)
        · have t := (gc_bit1 (by omega) (by omega)).mp z
          refine gc_ycn (by omega) (by omega) ?_
          refine br_c (fun y => ?_) (fun y => ?_)
          · have t2 := (gc_bit1 (by omega) (by omega)).mp y
            refine nm_r (gc_or1 (by omega)) (nm_r (nI_1 i) (K' _ ?_))
            rw [gc_vi_s, gc_beqF e, t, t2]; rfl
          · have t2 : g.testBit (gc_cn (i / n) (i % n)) = false := gc_bf (fun w => y ((gc_bit1 (by omega) (by omega)).mpr w))
            refine nm_r (nI_1 i) (K' _ ?_)
            rw [gc_vi_s, gc_beqF e, t, t2]; rfl
        · have t : (gc_vi n g (gc_vr n g r) i).testBit (i / n) = false := gc_bf (fun w => z ((gc_bit1 (by omega) (by omega)).mpr w))
          refine nm_r (nI_1 i) (K' _ ?_)
          rw [gc_vi_s, gc_beqF e, t]; rfl
theorem gc_xcc {n : Nat} (h1 : 1 ≤ n) (h5 : n ≤ 5) {post : Int32 → Prop} {c q m : Int32} {a1 a2 a3 a4 a5 a6 : Nat → Int32} (h6 : ∀ g, g < gc_G n → gc_L n g = g → a6 (gc_ct n g) = nI g) (h : post (nI (gc_cq n (fun g => Nat.beq (gc_vr n g n) (2 ^ n - 1)) (gc_G n)))) : ∃ f, wX_connected_4 post (nI n) c q m (nI (gc_ct n (gc_G n))) a1 a2 a3 a4 a5 a6 f 0 0 := by
  have hR := gc_sz n h5
  have hc := gc_ct_le n (gc_G n)
  refine pk_loop (σ := Int32) (fun f k s => wX_connected_4 post (nI n) c q m (nI (gc_ct n (gc_G n))) a1 a2 a3 a4 a5 a6 f s (nI k)) (gc_W n (fun g => Nat.beq (gc_vr n g n) (2 ^ n - 1))) (gc_ct n (gc_G n)) 0 0 (by omega) (gc_W0 _ _) ?_ ?_
  · intro f s hs
    rw [← gc_We hs] at h
    exact br_t (nI_le (Nat.le_refl _) (by omega)) h
  · intro f k s hk hs K
    obtain ⟨g, hg, hL, e, es, w1, w0⟩ := gc_Wx hk hs
    have hq := (gc_k5' h1 h5 hg hL).2
    refine br_f (nI_ge hk (by omega)) ⟨vp_in_nI (by omega) (by omega), ?_⟩
    rw [nI_clamp (by omega), ← e, h6 g hg hL, e]
    refine gc_xcon h1 h5 (by omega) (fun z => ?_) (fun z => ?_)
    · rw [hq] at z
      exact br_f (by decide) (nm_r (by rw [es, nI_1]) (nm_r (nI_1 k) (K _ (w1 z))))
    · rw [hq] at z
      exact br_t rfl (nm_r (nI_1 k) (K _ (w0 z)))
theorem gc_ycc {n : Nat} (h1 : 1 ≤ n) (h5 : n ≤ 5) {post : Int32 → SY → Prop} {fr kn : Int32} {b1 b2 b3 b4 : Nat → Int32} (hl : ∀ g, g < gc_G n → b3 g = nI (gc_L n g)) (hlt : ∀ g, g < gc_G n → gc_L n g < 1024) (h : post (nI (gc_cq n (fun g => Nat.beq (gc_vr n g n) (2 ^ n - 1)) (gc_G n))) (nI n, fr, kn, b1, b2, b3, b4)) : ∃ f, wY_connected_8 post (nI n) fr kn b1 b2 b3 b4 f 0 0 := by
  have hR := gc_sz n h5
  refine pk_loop (σ := Int32) (fun f g s => wY_connected_8 post (nI n) fr kn b1 b2 b3 b4 f s (nI g)) (fun g s => s = nI (gc_cq n (fun g => Nat.beq (gc_vr n g n) (2 ^ n - 1)) g)) (gc_G n) 0 0 (by omega) rfl ?_ ?_
  · rintro f s rfl
    unfold wY_connected_8
    refine gc_ygra h5 ?_
    exact br_t (nI_le (Nat.le_refl _) (by omega)) h
  · rintro f g s hg rfl K
    have := hlt g hg
    unfold wY_connected_8
    refine gc_ygra h5 ?_
    refine br_f (nI_ge hg (by omega)) ⟨vp_in_nI (by omega) (by omega), ?_⟩
    rw [nI_clamp (by omega), hl g hg]
    refine pk_eq (gc_L n g) g (fun e => ?_) (fun e => ?_) rfl rfl (by omega) (by omega)
    · refine gc_ycon h1 h5 (by omega) (fun z => ?_) (fun z => ?_)
      · exact br_f (by decide) (nm_r (nI_1 _) (nm_r (nI_1 g) (K _ (by rw [gc_cq_t e z]))))
      · exact br_t rfl (nm_r (nI_1 g) (K _ (by rw [gc_cq_f (q := fun g => Nat.beq (gc_vr n g n) (2 ^ n - 1)) z])))
    · exact nm_r (nI_1 g) (K _ (by rw [gc_cq_n e]))

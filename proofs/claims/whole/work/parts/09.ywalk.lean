/-! the reference's own methods, each with a general post -/
theorem gc_ycou {n : Nat} (h5 : n ≤ 5) {post : Int32 → Prop} {fr kn : Int32} {b1 b2 b3 b4 : Nat → Int32} (h : post (nI (gc_C n))) : wpY_couples post (nI n, fr, kn, b1, b2, b3, b4) := by
  have h' : post ((nI n * (nI n - 1)) / 2) := by rw [gc_tri n (by omega)]; exact h
  exact ⟨by decide, h'⟩
theorem gc_ygra {n : Nat} (h5 : n ≤ 5) {post : Int32 → Prop} {fr kn : Int32} {b1 b2 b3 b4 : Nat → Int32} (h : post (nI (gc_G n))) : wpY_graphs post (nI n, fr, kn, b1, b2, b3, b4) := by
  have hR := gc_sz n h5
  have h' : post ((1 : Int32) <<< (nI (gc_C n) &&& 31)) := by rw [gc_n2p (by omega)]; exact h
  exact gc_ycou (post := fun r => post ((1 : Int32) <<< (r &&& 31))) (fr := fr) (kn := kn) (b1 := b1) (b2 := b2) (b3 := b3) (b4 := b4) h5 h'
theorem gc_yisT {n g : Nat} (h5 : n ≤ 5) (hg : g < gc_G n) {post : Int32 → Prop} {fr kn : Int32} {b1 b2 b3 b4 : Nat → Int32} (h : post 1) : wpY_isGraph post (nI n, fr, kn, b1, b2, b3, b4) (nI g) := by
  have hR := gc_sz n h5
  exact br_f (nI_pos (by omega)) (gc_ygra h5 (br_f (nI_ge hg (by omega)) h))
theorem gc_yisF {n : Nat} {x : Int32} (h5 : n ≤ 5) (hx : x < 0 ∨ nI (gc_G n) ≤ x) {post : Int32 → Prop} {fr kn : Int32} {b1 b2 b3 b4 : Nat → Int32} (h : post 0) : wpY_isGraph post (nI n, fr, kn, b1, b2, b3, b4) x := by
  by_cases c : x < 0
  · exact br_t c h
  · exact br_f c (gc_ygra h5 (br_t (hx.resolve_left c) h))
theorem gc_xisT {n g : Nat} (h5 : n ≤ 5) (hg : g < gc_G n) {post : Int32 → Prop} {p q m k : Int32} {a1 a2 a3 a4 a5 a6 : Nat → Int32} (h : post 1) : wpX_isGraph post (p, q, nI (gc_G n), m, k, a1, a2, a3, a4, a5, a6) (nI g) := by
  have hR := gc_sz n h5
  exact br_f (nI_pos (by omega)) (br_f (nI_ge hg (by omega)) h)
theorem gc_xisF {n : Nat} {x : Int32} (hx : x < 0 ∨ nI (gc_G n) ≤ x) {post : Int32 → Prop} {p q m k : Int32} {a1 a2 a3 a4 a5 a6 : Nat → Int32} (h : post 0) : wpX_isGraph post (p, q, nI (gc_G n), m, k, a1, a2, a3, a4, a5, a6) x := by
  by_cases c : x < 0
  · exact br_t c h
  · exact br_f c (br_t (hx.resolve_left c) h)
theorem gc_ycn {a b : Nat} (ha : a < 5) (hb : b < 5) {post : Int32 → Prop} {fn fr kn : Int32} {b1 b2 b3 b4 : Nat → Int32} (h : post (nI (gc_cn a b))) : wpY_couple post (fn, fr, kn, b1, b2, b3, b4) (nI a) (nI b) := by
  by_cases l : b ≤ a
  · have e : (nI a * (nI a - 1)) / 2 + nI b = nI (gc_cn a b) := by rw [gc_tri a (by omega), nI_add, gc_cn, if_pos l]
    have h' : post ((nI a * (nI a - 1)) / 2 + nI b) := by rw [e]; exact h
    exact br_t (nI_le l (by omega)) (br_t (nI_le l (by omega)) ⟨by decide, h'⟩)
  · have e : (nI b * (nI b - 1)) / 2 + nI a = nI (gc_cn a b) := by rw [gc_tri b (by omega), nI_add, gc_cn, if_neg l]
    have h' : post ((nI b * (nI b - 1)) / 2 + nI a) := by rw [e]; exact h
    exact br_f (nI_ge (by omega) (by omega)) (br_f (nI_ge (by omega) (by omega)) ⟨by decide, h'⟩)
theorem gc_yren {n g r : Nat} (h1 : 1 ≤ n) (h5 : n ≤ 5) (hg : g < 1024) (hr : r < gc_R n) {post : Int32 → Prop} {fr kn : Int32} {b1 b2 b3 b4 : Nat → Int32} (hb : gc_YS n n (gc_R n) b1) (h : post (nI (gc_iy n g r))) : wpY_rename post (nI n, fr, kn, b1, b2, b3, b4) (nI g) (nI r) := by
  have hR := gc_sz n h5
  refine pk_loop (σ := Int32) (fun f j s => wY_rename_5 post (nI g) (nI r) (nI n) fr kn b1 b2 b3 b4 f s (nI j)) (fun j s => s = nI (gc_im (gc_yc n r) g (j * (j - 1) / 2))) n 1 0 h1 rfl ?_ ?_
  · rintro f s rfl
    exact br_t (nI_le (Nat.le_refl _) (by omega)) h
  · rintro f j s hj hs K
    refine br_f (nI_ge hj (by omega)) ?_
    have hC := gc_triC h5 hj
    refine pk_loop (σ := Int32) (fun f' i s => wY_rename_17 post (wY_rename_5 post (nI g) (nI r) (nI n) fr kn b1 b2 b3 b4 f) (nI g) (nI r) (nI j) (nI n) fr kn b1 b2 b3 b4 f' s (nI i)) (fun i s => s = nI (gc_im (gc_yc n r) g (j * (j - 1) / 2 + i))) j 0 s (by omega) hs ?_ ?_
    · rintro f' s' hs'
      exact br_t (nI_le (Nat.le_refl _) (by omega)) (nm_r (nI_1 j) (K s' (by rw [gc_triS]; exact hs')))
    · rintro f' i s' hi rfl K'
      have ij := gc_ij j (by omega) i hi
      have c1 : b1 (5 * r + i) = nI (gc_yt n n r i) := hb r hr i (by omega)
      have c2 : b1 (5 * r + j) = nI (gc_yt n n r j) := hb r hr j hj
      have y1 := (gc_k2' h1 h5 hr (by omega : i < n)).2
      have y2 := (gc_k2' h1 h5 hr hj).2
      have hx := ((gc_k1' h1 h5 hr).2.2 (j * (j - 1) / 2 + i) (by omega)).2.1
      have ey : gc_yc n r (j * (j - 1) / 2 + i) = gc_cn (gc_yt n n r i) (gc_yt n n r j) := by rw [gc_yc, ij.1, ij.2.1]
      refine br_f (nI_ge hi (by omega)) ?_
      rw [gc_5m, gc_5m, nI_clamp (by omega), nI_clamp (by omega), c1, c2]
      refine ⟨vp_in_nI (by omega) (by omega), vp_in_nI (by omega) (by omega), gc_ycn (by omega) (by omega) (gc_ycn (by omega) (by omega) ?_)⟩
      rw [ij.2.2, ← ey]
      refine br_c (fun z => ?_) (fun z => ?_)
      · have t := (gc_bit1 (by omega) (by omega)).mp z
        refine nm_e (nm_r (nI_1 i) (K' _ ?_))
        rw [gc_n2p (by omega), gc_nor, ← Nat.add_assoc, gc_im_t t]
      · have t : g.testBit (j * (j - 1) / 2 + i) = false := gc_bf (fun e => z ((gc_bit1 (by omega) (by omega)).mpr e))
        refine nm_r (nI_1 i) (K' _ ?_)
        rw [← Nat.add_assoc, gc_im_f t]
theorem gc_mn_le (f : Nat → Nat) (b : Nat) : ∀ k, gc_mn f b k ≤ b := by
  intro k
  induction k with
  | zero => exact Nat.le_refl _
  | succ k ih =>
    rw [gc_mn_s]
    cases e : Nat.ble (gc_mn f b k) (f k) with
    | true => exact ih
    | false =>
      have : ¬ gc_mn f b k ≤ f k := fun z => by rw [Nat.ble_eq_true_of_le z] at e; exact absurd e (by decide)
      show f k ≤ b
      omega
theorem gc_yleast {n g : Nat} (h1 : 1 ≤ n) (h5 : n ≤ 5) (hg : g < gc_G n) {post : Int32 → Prop} {kn : Int32} {b1 b2 b3 b4 : Nat → Int32} (hb : gc_YS n n (gc_R n) b1) (h : post (nI (gc_L n g))) : wpY_least post (nI n, nI (gc_R n), kn, b1, b2, b3, b4) (nI g) := by
  have hR := gc_sz n h5
  rw [← (gc_Pn h1 h5 hg).2.2.1] at h
  refine pk_loop (σ := Int32) (fun f r s => wY_least_4 post (nI g) (nI n) (nI (gc_R n)) kn b1 b2 b3 b4 f s (nI r)) (fun r s => s = nI (gc_mn (gc_iy n g) g r)) (gc_R n) 0 (nI g) (by omega) rfl ?_ ?_
  · rintro f s rfl
    exact br_t (nI_le (Nat.le_refl _) (by omega)) h
  · rintro f r s hr rfl K
    have l := gc_mn_le (gc_iy n g) g r
    have l2 := gc_iy_lt (g := g) h1 h5 hr
    refine br_f (nI_ge hr (by omega)) (gc_yren h1 h5 (by omega) hr hb (pk_le (gc_mn (gc_iy n g) g r) (gc_iy n g r) (fun z => ?_) (fun z => ?_) rfl rfl (by omega) (by omega)))
    · refine nm_r (nI_1 r) (K _ ?_)
      rw [gc_mn_s, Nat.ble_eq_true_of_le z]; rfl
    · refine nm_r (nI_1 r) (K _ ?_)
      rw [gc_mn_s, (gc_bf (fun y => by have := Nat.le_of_ble_eq_true y; omega) : Nat.ble (gc_mn (gc_iy n g) g r) (gc_iy n g r) = false)]; rfl
theorem gc_yfind {n : Nat} (h1 : 1 ≤ n) (h5 : n ≤ 5) {post : SY → Prop} {kn : Int32} {b1 b2 b3 b4 : Nat → Int32} (hb : gc_YS n n (gc_R n) b1) (hk : kn = 0 ∨ ∀ g, g < gc_G n → b3 g = nI (gc_L n g)) (h : ∀ (kn' : Int32) (d : Nat → Int32), (∀ g, g < gc_G n → d g = nI (gc_L n g)) → post (nI n, nI (gc_R n), kn', b1, b2, d, b4)) : wpY_findAll post (nI n, nI (gc_R n), kn, b1, b2, b3, b4) := by
  have hR := gc_sz n h5
  refine br_c (fun z => ?_) (fun z => h kn b3 (hk.resolve_left z))
  refine pk_loop (σ := Nat → Int32) (fun f g d => wY_findAll_10 post (nI n) (nI (gc_R n)) kn f (nI g) b1 b2 d b4) (fun g d => ∀ x, x < g → d x = nI (gc_L n x)) (gc_G n) 0 b3 (by omega) (fun x hx => by omega) ?_ ?_
  · intro f d hd
    unfold wY_findAll_10
    refine gc_ygra h5 ?_
    exact br_t (nI_le (Nat.le_refl _) (by omega)) (h 1 d hd)
  · intro f g d hg hd K
    unfold wY_findAll_10
    refine gc_ygra h5 ?_
    refine br_f (nI_ge hg (by omega)) ?_
    refine gc_yleast h1 h5 hg hb ?_
    refine ⟨vp_in_nI (by omega) (by omega), nm_e (nm_r (nI_1 g) (K _ (fun x hx => ?_)))⟩
    rw [nI_clamp (by omega)]
    by_cases e : x = g
    · rw [e, pk_us]
    · rw [pk_un e]; exact hd x (by omega)
theorem gc_kc_le (f : Nat → Nat) (b : Nat) : ∀ k, gc_kc f b k ≤ k := by
  intro k
  induction k with
  | zero => exact Nat.le_refl _
  | succ k ih =>
    rw [gc_kc_s]
    cases Nat.beq (f k) b with
    | true => show gc_kc f b k + 1 ≤ k + 1; omega
    | false => show gc_kc f b k ≤ k + 1; omega
theorem gc_ysym {n g : Nat} (h1 : 1 ≤ n) (h5 : n ≤ 5) (hg : g < gc_G n) {post : Int32 → Prop} {kn : Int32} {b1 b2 b3 b4 : Nat → Int32} (hb : gc_YS n n (gc_R n) b1) (h : post (nI (gc_kc (gc_iy n g) g (gc_R n)))) : ∃ f, wY_symmetries_14 post (nI g) (nI n) (nI (gc_R n)) kn b1 b2 b3 b4 f 0 0 := by
  have hR := gc_sz n h5
  refine pk_loop (σ := Int32) (fun f r s => wY_symmetries_14 post (nI g) (nI n) (nI (gc_R n)) kn b1 b2 b3 b4 f s (nI r)) (fun r s => s = nI (gc_kc (gc_iy n g) g r)) (gc_R n) 0 0 (by omega) rfl ?_ ?_
  · rintro f s rfl
    exact br_t (nI_le (Nat.le_refl _) (by omega)) h
  · rintro f r s hr rfl K
    have l2 := gc_iy_lt (g := g) h1 h5 hr
    refine br_f (nI_ge hr (by omega)) (gc_yren h1 h5 (by omega) hr hb (pk_eq (gc_iy n g r) g (fun z => ?_) (fun z => ?_) rfl rfl (by omega) (by omega)))
    · refine nm_r (nI_1 _) (nm_r (nI_1 r) (K _ ?_))
      rw [gc_kc_s, gc_beqT z]; rfl
    · refine nm_r (nI_1 r) (K _ ?_)
      rw [gc_kc_s, gc_beqF z]; rfl
/-- the marks: those of a set below 1024 -/
def gc_M (S : Nat) (a : Nat → Int32) : Prop := ∀ h, h < 1024 → a h = bif S.testBit h then 1 else 0
theorem gc_M_s {S v : Nat} {a : Nat → Int32} (h : gc_M S a) : gc_M (S ||| 2 ^ v) (upd a v 1) := by
  intro x hx
  rw [gc_orb]
  by_cases e : x = v
  · rw [e, pk_us, decide_eq_true rfl, Bool.or_true]; rfl
  · rw [pk_un e, decide_eq_false (fun y => e y.symm), Bool.or_false]
    exact h x hx
theorem gc_yforg {post : SY → Prop} {fn fr kn : Int32} {b1 b2 b3 b4 : Nat → Int32} (h : ∀ d : Nat → Int32, gc_M 0 d → post (fn, fr, kn, b1, b2, b3, d)) : wpY_forget post (fn, fr, kn, b1, b2, b3, b4) := by
  refine pk_loop (σ := Nat → Int32) (fun f i d => wY_forget_2 post fn fr kn f (nI i) b1 b2 b3 d) (fun i d => ∀ x, x < i → d x = 0) 1024 0 b4 (by omega) (fun x hx => by omega) ?_ ?_
  · intro f d hd
    exact br_t (nI_le (a := 1024) (b := 1024) (by omega) (by omega)) (h d (fun x hx => by rw [Nat.zero_testBit]; exact hd x hx))
  · intro f i d hi hd K
    have cl : (nI i).toNatClampNeg = i := nI_clamp (by omega)
    refine br_f (nI_ge (b := 1024) hi (by omega)) ⟨vp_in_nI (by omega) (by omega), nm_e (nm_r (nI_1 i) (K _ (fun x hx => ?_)))⟩
    rw [cl, gc_nar0]
    by_cases e : x = i
    · rw [e, pk_us]
    · rw [pk_un e]; exact hd x (by omega)
theorem gc_ycount {S : Nat} {post : Int32 → Prop} {fn fr kn : Int32} {b1 b2 b3 b4 : Nat → Int32} (hM : gc_M S b4) (h : post (nI (gc_sc S 1024))) : wpY_countSeen post (fn, fr, kn, b1, b2, b3, b4) := by
  refine pk_loop (σ := Int32) (fun f i s => wY_countSeen_4 post fn fr kn b1 b2 b3 b4 f s (nI i)) (fun i s => s = nI (gc_sc S i)) 1024 0 0 (by omega) rfl ?_ ?_
  · rintro f s rfl
    exact br_t (nI_le (a := 1024) (b := 1024) (by omega) (by omega)) h
  · rintro f i s hi rfl K
    have cl : (nI i).toNatClampNeg = i := nI_clamp (by omega)
    refine br_f (nI_ge (b := 1024) hi (by omega)) ⟨vp_in_nI (by omega) (by omega), ?_⟩
    have hm := hM i hi
    rw [cl, hm]
    cases t : S.testBit i with
    | true => exact br_f (by decide) (nm_r (nI_1 _) (nm_r (nI_1 i) (K _ (by rw [gc_sc_t t]))))
    | false => exact br_t rfl (nm_r (nI_1 i) (K _ (by rw [gc_sc_f t])))
theorem gc_mask {v : Nat} (hv : v < 1024) : nI v &&& 1023 = nI v := by
  rw [pk_andN (by omega) 10 (by decide), Nat.mod_eq_of_lt (by omega)]
theorem gc_yalike {n g : Nat} (h1 : 1 ≤ n) (h5 : n ≤ 5) (hg : g < gc_G n) {post : Int32 → SY → Prop} {kn : Int32} {b1 b2 b3 b4 : Nat → Int32} (hb : gc_YS n n (gc_R n) b1) (hM : gc_M 0 b4) (h : ∀ d : Nat → Int32, post (nI (gc_sc (gc_st (gc_iy n g) (gc_R n)) 1024)) (nI n, nI (gc_R n), kn, b1, b2, b3, d)) : ∃ f, wY_alike_16 post (nI g) (nI n) (nI (gc_R n)) kn f 0 b1 b2 b3 b4 := by
  have hR := gc_sz n h5
  refine pk_loop (σ := Nat → Int32) (fun f r d => wY_alike_16 post (nI g) (nI n) (nI (gc_R n)) kn f (nI r) b1 b2 b3 d) (fun r d => gc_M (gc_st (gc_iy n g) r) d) (gc_R n) 0 b4 (by omega) hM ?_ ?_
  · intro f d hd
    exact br_t (nI_le (Nat.le_refl _) (by omega)) (gc_ycount hd (h d))
  · intro f r d hr hd K
    have l2 := gc_iy_lt (g := g) h1 h5 hr
    refine br_f (nI_ge hr (by omega)) (gc_yren h1 h5 (by omega) hr hb ?_)
    rw [gc_mask (by omega), nI_clamp (by omega), gc_nar1]
    exact ⟨vp_in_nI (by omega) (by omega), nm_e (nm_r (nI_1 r) (K _ (gc_M_s hd)))⟩
theorem gc_yedges {g : Nat} (hg : g < 1024) {post : Int32 → Prop} {fn fr kn : Int32} {b1 b2 b3 b4 : Nat → Int32} (h : post (nI (gc_ec g 10))) : wpY_edgesOf post (fn, fr, kn, b1, b2, b3, b4) (nI g) := by
  refine pk_loop (σ := Int32) (fun f c s => wY_edgesOf_4 post (nI g) fn fr kn b1 b2 b3 b4 f s (nI c)) (fun c s => s = nI (gc_ec g c)) 10 0 0 (by omega) rfl ?_ ?_
  · rintro f s rfl
    exact br_t (nI_le (a := 10) (b := 10) (by omega) (by omega)) h
  · rintro f c s hc rfl K
    refine br_f (nI_ge (b := 10) hc (by omega)) ?_
    rw [gc_nbit (by omega) (by omega), nI_add]
    refine nm_e (nm_r (nI_1 c) (K _ ?_))
    have tb := Nat.testBit_eq_decide_div_mod_eq (x := g) (i := c)
    cases t : g.testBit c with
    | true =>
      rw [t] at tb
      rw [gc_ec_t t, of_decide_eq_true tb.symm]
    | false =>
      rw [t] at tb
      have := of_decide_eq_false tb.symm
      rw [gc_ec_f t, (by omega : g / 2 ^ c % 2 = 0)]
      rfl

/-! the reference's constructor -/
theorem gc_yt_lt (n s r u : Nat) : gc_yt n s r u < 8 := Nat.lt_of_le_of_lt (Nat.and_le_right (n := Nat.shiftRight (gc_YT n s) (Nat.add (Nat.mul 15 r) (Nat.mul 3 u))) (m := 7)) (by decide)
def gc_YS (n s R : Nat) (d : Nat → Int32) : Prop := ∀ r, r < R → ∀ u, u < s → d (5 * r + u) = nI (gc_yt n s r u)
theorem gc_fr_s (n s rv u : Nat) : gc_fr n s rv (u + 1) = (not (Nat.beq (gc_yt n s (rv / n) u) (rv % n)) && gc_fr n s rv u) := rfl
theorem gc_mo_s (n s rv : Nat) : gc_mo n s (rv + 1) = bif gc_fr n s rv s then gc_mo n s rv + 1 else gc_mo n s rv := rfl
theorem gc_mo_le (n s : Nat) : ∀ rv, gc_mo n s rv ≤ rv := by
  intro rv
  induction rv with
  | zero => exact Nat.le_refl _
  | succ rv ih =>
    rw [gc_mo_s]
    cases gc_fr n s rv s with
    | false => show gc_mo n s rv ≤ rv + 1; omega
    | true => show gc_mo n s rv + 1 ≤ rv + 1; omega
theorem gc_5m (k u : Nat) : 5 * nI k + nI u = nI (5 * k + u) := by rw [show (5 : Int32) * nI k = nI (5 * k) from pk_mul 5 k, nI_add]
/-- the copy back -/
theorem gc_ycopy {post : SY → Prop} {fn fr kn : Int32} {b1 b2 b3 b4 : Nat → Int32} (h : ∀ d : Nat → Int32, (∀ x, x < 600 → d x = b2 x) → post (fn, fr, kn, d, b2, b3, b4)) : ∃ f, wY_lengthen_142 post fn fr kn f 0 b1 b2 b3 b4 := by
  refine pk_loop (σ := Nat → Int32) (fun f i d => wY_lengthen_142 post fn fr kn f (nI i) d b2 b3 b4) (fun i d => ∀ x, x < i → d x = b2 x) 600 0 b1 (by omega) (fun x hx => by omega) ?_ ?_
  · intro f d hd
    exact br_t (nI_le (a := 600) (b := 600) (by omega) (by omega)) (h d hd)
  · intro f i d hi hd K
    have cl : (nI i).toNatClampNeg = i := nI_clamp (by omega)
    refine br_f (nI_ge (b := 600) hi (by omega)) ⟨vp_in_nI (by omega) (by omega), vp_in_nI (by omega) (by omega), nm_e (nm_r (nI_1 i) (K _ (fun x hx => ?_)))⟩
    rw [cl]
    by_cases e : x = i
    · rw [e, pk_us]
    · rw [pk_un e]; exact hd x (by omega)
/-- a free one is written -/
theorem gc_ywrite {n s rv : Nat} (h1 : 1 ≤ n) (h5 : n ≤ 5) (hs : s < n) (hrv : rv < gc_fl n s * n) (hf : gc_fr n s rv s = true) {post : SY → Prop} {J : Int32 → Int32 → (Nat → Int32) → (Nat → Int32) → (Nat → Int32) → (Nat → Int32) → Prop} {fr kn : Int32} {b1 b2 b3 b4 : Nat → Int32} (hb : gc_YS n s (gc_fl n s) b1) (hl : gc_YS n (s + 1) (gc_mo n s rv) b2)
    (h : ∀ d : Nat → Int32, gc_YS n (s + 1) (gc_mo n s rv + 1) d → J (nI (gc_mo n s rv + 1)) (nI (rv + 1)) b1 d b3 b4) : ∃ f, wY_lengthen_75 post J (nI s) (nI (gc_mo n s rv)) (nI rv) (nI (rv / n)) (nI n) fr kn f 0 b1 b2 b3 b4 := by
  obtain ⟨hfl, _, k3⟩ := gc_k3' h1 h5 hs
  obtain ⟨hm, e1, e2⟩ := k3 rv hrv hf
  have hdiv : rv / n < gc_fl n s := Nat.div_lt_of_lt_mul (by rw [Nat.mul_comm]; exact hrv)
  have hfn : gc_fl n s * n ≤ 120 * 5 := Nat.mul_le_mul hfl h5
  refine pk_loop (σ := Nat → Int32) (fun f i d => wY_lengthen_75 post J (nI s) (nI (gc_mo n s rv)) (nI rv) (nI (rv / n)) (nI n) fr kn f (nI i) b1 d b3 b4) (fun i d => gc_YS n (s + 1) (gc_mo n s rv) d ∧ ∀ u, u < i → d (5 * gc_mo n s rv + u) = nI (gc_yt n (s + 1) (gc_mo n s rv) u)) s 0 b2 (by omega) ⟨hl, fun u hu => by omega⟩ ?_ ?_
  · rintro f d ⟨hd, hd'⟩
    refine br_t (nI_le (Nat.le_refl _) (by omega)) ⟨nI_ne0 (by omega) (by omega), ?_⟩
    have er : nI rv - nI rv / nI n * nI n = nI (rv % n) := pk_rem (by omega) (by omega) (by omega)
    rw [gc_5m, nI_clamp (by omega), er]
    refine ⟨vp_in_nI (by omega) (by omega), nm_e (nm_r (nI_1 _) (nm_r (nI_1 rv) (h _ (fun r hr u hu => ?_))))⟩
    by_cases c : r = gc_mo n s rv
    · by_cases c' : u = s
      · rw [c, c', pk_us, e1]
      · rw [c, pk_un (by omega)]
        exact hd' u (by omega)
    · rw [pk_un (by omega)]
      exact hd r (by omega) u hu
  · rintro f i d hi ⟨hd, hd'⟩ K
    have eb : b1 (5 * (rv / n) + i) = nI (gc_yt n s (rv / n) i) := hb _ hdiv i hi
    refine br_f (nI_ge hi (by omega)) ?_
    rw [gc_5m, gc_5m, nI_clamp (by omega), nI_clamp (by omega), eb]
    refine ⟨vp_in_nI (by omega) (by omega), vp_in_nI (by omega) (by omega), nm_e (nm_r (nI_1 i) (K _ ⟨fun r hr u hu => ?_, fun u hu => ?_⟩))⟩
    · rw [pk_un (by omega)]
      exact hd r hr u hu
    · by_cases c : u = i
      · rw [c, pk_us, e2 i hi]
      · rw [pk_un (by omega)]
        exact hd' u (by omega)
/-- one candidate -/
theorem gc_ycand {n s rv : Nat} (h1 : 1 ≤ n) (h5 : n ≤ 5) (hs : s < n) (hrv : rv < gc_fl n s * n) {post : SY → Prop} {J : Int32 → Int32 → (Nat → Int32) → (Nat → Int32) → (Nat → Int32) → (Nat → Int32) → Prop} {fr kn : Int32} {b1 b2 b3 b4 : Nat → Int32} (hb : gc_YS n s (gc_fl n s) b1) (hl : gc_YS n (s + 1) (gc_mo n s rv) b2)
    (h : ∀ d : Nat → Int32, gc_YS n (s + 1) (gc_mo n s (rv + 1)) d → J (nI (gc_mo n s (rv + 1))) (nI (rv + 1)) b1 d b3 b4) : ∃ f, wY_lengthen_31 post J (nI s) (nI (gc_mo n s rv)) (nI rv) (nI (rv / n)) (nI n) fr kn b1 b2 b3 b4 f 1 0 := by
  have hfl := (gc_k3' h1 h5 hs).1
  have hfn : gc_fl n s * n ≤ 120 * 5 := Nat.mul_le_mul hfl h5
  have hdiv : rv / n < gc_fl n s := Nat.div_lt_of_lt_mul (by rw [Nat.mul_comm]; exact hrv)
  refine pk_loop (σ := Int32) (fun f i x => wY_lengthen_31 post J (nI s) (nI (gc_mo n s rv)) (nI rv) (nI (rv / n)) (nI n) fr kn b1 b2 b3 b4 f x (nI i)) (fun i x => x = bif gc_fr n s rv i then 1 else 0) s 0 1 (by omega) rfl ?_ ?_
  · rintro f x hx
    refine br_t (nI_le (Nat.le_refl _) (by omega)) ?_
    cases c : gc_fr n s rv s with
    | false =>
      rw [c] at hx
      have hx : x = 0 := hx
      refine br_t hx (nm_r (nI_1 rv) ?_)
      have e : gc_mo n s (rv + 1) = gc_mo n s rv := by rw [gc_mo_s, c]; rfl
      have := h b2 (by rw [e]; exact hl)
      rw [e] at this
      exact this
    | true =>
      rw [c] at hx
      have hx : x = 1 := hx
      have e : gc_mo n s (rv + 1) = gc_mo n s rv + 1 := by rw [gc_mo_s, c]; rfl
      rw [e] at h
      exact br_f (by rw [hx]; decide) (gc_ywrite h1 h5 hs hrv c hb hl h)
  · rintro f i x hi hx K
    have eb : b1 (5 * (rv / n) + i) = nI (gc_yt n s (rv / n) i) := hb _ hdiv i hi
    have er : nI rv - nI rv / nI n * nI n = nI (rv % n) := pk_rem (by omega) (by omega) (by omega)
    have hy := gc_yt_lt n s (rv / n) i
    have hrm : rv % n < n := Nat.mod_lt _ (by omega)
    refine br_f (nI_ge hi (by omega)) ?_
    rw [gc_5m, nI_clamp (by omega), eb, er]
    refine ⟨vp_in_nI (by omega) (by omega), nI_ne0 (by omega) (by omega), pk_eq (gc_yt n s (rv / n) i) (rv % n) (fun e => ?_) (fun e => ?_) rfl rfl (by omega) (by omega)⟩
    · refine nm_r (nI_1 i) (K _ ?_)
      rw [gc_fr_s, gc_beqT e]; rfl
    · refine nm_r (nI_1 i) (K _ ?_)
      rw [gc_fr_s, gc_beqF e]; exact hx
theorem gc_ylen {n s : Nat} (h1 : 1 ≤ n) (h5 : n ≤ 5) (hs : s < n) {post : SY → Prop} {kn : Int32} {b1 b2 b3 b4 : Nat → Int32} (hb : gc_YS n s (gc_fl n s) b1) (h : ∀ d d' : Nat → Int32, gc_YS n (s + 1) (gc_fl n (s + 1)) d → post (nI n, nI (gc_fl n (s + 1)), kn, d, d', b3, b4)) : wpY_lengthen post (nI n, nI (gc_fl n s), kn, b1, b2, b3, b4) (nI s) := by
  obtain ⟨hfl, hmo, k3⟩ := gc_k3' h1 h5 hs
  have hfn : gc_fl n s * n ≤ 120 * 5 := Nat.mul_le_mul hfl h5
  refine pk_loop (σ := Int32 × (Nat → Int32)) (fun f rv s' => wY_lengthen_4 post (nI s) (nI n) (nI (gc_fl n s)) kn f s'.1 (nI rv) b1 s'.2 b3 b4) (fun rv s' => s'.1 = nI (gc_mo n s rv) ∧ gc_YS n (s + 1) (gc_mo n s rv) s'.2) (gc_fl n s * n) 0 (0, b2) (by omega) ⟨rfl, fun r hr => absurd hr (Nat.not_lt_zero r)⟩ ?_ ?_
  · rintro f ⟨x, d⟩ ⟨hx, hd⟩
    have hx : x = nI (gc_mo n s (gc_fl n s * n)) := hx
    have hd2 : gc_YS n (s + 1) (gc_mo n s (gc_fl n s * n)) d := hd
    rw [hmo] at hx hd2
    subst hx
    refine br_t (by rw [pk_mul]; exact nI_le (Nat.le_refl _) (by omega)) (gc_ycopy (fun d' hd' => h d' d (fun r hr u hu => ?_)))
    have h120 : gc_fl n (s + 1) ≤ 120 := by
      by_cases c : s + 1 = n
      · rw [c, (gc_sz n h5).2.2.2.2.2.1]; exact (gc_sz n h5).2.2.2.1
      · exact (gc_k3' h1 h5 (by omega : s + 1 < n)).1
    rw [hd' _ (by omega)]
    exact hd2 r hr u hu
  · rintro f rv ⟨x, d⟩ hrv ⟨hx, hd⟩ K
    have hx : x = nI (gc_mo n s rv) := hx
    subst hx
    refine br_f (by rw [pk_mul]; exact nI_ge hrv (by omega)) ⟨nI_ne0 (by omega) (by omega), nm_r (pk_div (by omega) (by omega) (by omega)) ?_⟩
    exact gc_ycand h1 h5 hs hrv hb hd (fun d' hd' => K (_, d') ⟨rfl, hd'⟩)
/-- the reference's state for n points -/
def gc_Y (n : Nat) (v : SY) : Prop := ∃ (kn : Int32) (b1 b2 b3 b4 : Nat → Int32), v = (nI n, nI (gc_R n), kn, b1, b2, b3, b4) ∧ gc_YS n n (gc_R n) b1 ∧ (kn = 0 ∨ ∀ g, g < gc_G n → b3 g = nI (gc_L n g))
theorem gc_yini {n : Nat} (h1 : 1 ≤ n) (h5 : n ≤ 5) {post : SY → Prop} (h : ∀ v, gc_Y n v → post v) : ∃ f, wY_init_75 post f 0 (nI n) 1 0 (fun _ => 0) (fun _ => 0) (fun _ => 0) (fun _ => 0) := by
  have hR := gc_sz n h5
  refine pk_loop (σ := Int32 × (Nat → Int32) × (Nat → Int32)) (fun f s s' => wY_init_75 post f (nI s) (nI n) s'.1 0 s'.2.1 s'.2.2 (fun _ => 0) (fun _ => 0)) (fun s s' => s'.1 = nI (gc_fl n s) ∧ gc_YS n s (gc_fl n s) s'.2.1) n 0 (1, (fun _ => 0), (fun _ => 0)) (by omega) ⟨by rw [hR.2.2.2.2.2.2]; rfl, fun r hr u hu => by omega⟩ ?_ ?_
  · rintro f ⟨x, d, d'⟩ ⟨hx, hd⟩
    have hx : x = nI (gc_fl n n) := hx
    have hd2 : gc_YS n n (gc_fl n n) d := hd
    rw [hR.2.2.2.2.2.1] at hx hd2
    subst hx
    exact br_t (nI_le (Nat.le_refl _) (by omega)) (h _ ⟨0, d, d', _, _, rfl, hd2, Or.inl rfl⟩)
  · rintro f s ⟨x, d, d'⟩ hs ⟨hx, hd⟩ K
    have hx : x = nI (gc_fl n s) := hx
    subst hx
    refine br_f (nI_ge hs (by omega)) (gc_ylen h1 h5 hs hd (fun e e' he => ?_))
    dsimp only
    exact nm_r (nI_1 s) (K (_, e, e') ⟨rfl, he⟩)

/-! what the kernel reckoned, as facts -/
theorem gc_beq {a b : Nat} (h : Nat.beq a b = true) : a = b := Nat.eq_of_beq_eq_true h
theorem gc_blt {a b : Nat} (h : Nat.blt a b = true) : a < b := Nat.le_of_ble_eq_true h
theorem gc_beqT {a b : Nat} (h : a = b) : Nat.beq a b = true := by rw [h]; exact Nat.beq_refl b
theorem gc_beqF {a b : Nat} (h : ¬ a = b) : Nat.beq a b = false := by
  cases e : Nat.beq a b with
  | false => rfl
  | true => exact absurd (gc_beq e) h
theorem gc_5 {n : Nat} (h1 : 1 ≤ n) (h5 : n ≤ 5) : ∃ m, m < 5 ∧ n = m + 1 := ⟨n - 1, by omega, by omega⟩
theorem gc_sz : ∀ n, n ≤ 5 → gc_C n ≤ 10 ∧ gc_G n ≤ 1024 ∧ 1 ≤ gc_R n ∧ gc_R n ≤ 120 ∧ 1 ≤ gc_G n ∧ gc_fl n n = gc_R n ∧ gc_fl n 0 = 1 := by decide +kernel
theorem gc_k1' {n r : Nat} (h1 : 1 ≤ n) (h5 : n ≤ 5) (hr : r < gc_R n) : gc_sg n r < gc_R n ∧ gc_ta n r < gc_R n ∧ ∀ c, c < gc_C n → gc_xc n r c < gc_C n ∧ gc_yc n r c < gc_C n ∧ gc_xc n r c = gc_yc n (gc_sg n r) c ∧ gc_yc n r c = gc_xc n (gc_ta n r) c := by
  obtain ⟨m, hm, rfl⟩ := gc_5 h1 h5
  have h := gc_all_at (gc_all_at gc_k1 m hm) r hr
  simp only [Bool.and_eq_true] at h
  refine ⟨gc_blt h.1, gc_blt h.2.1, fun c hc => ?_⟩
  have h' := gc_all_at h.2.2 c hc
  simp only [Bool.and_eq_true] at h'
  exact ⟨gc_blt h'.1.1, gc_blt h'.1.2, gc_beq h'.2.1, gc_beq h'.2.2⟩
theorem gc_k2' {n r u : Nat} (h1 : 1 ≤ n) (h5 : n ≤ 5) (hr : r < gc_R n) (hu : u < n) : gc_nm r n u < n ∧ gc_yt n n r u < n := by
  obtain ⟨m, hm, rfl⟩ := gc_5 h1 h5
  have h := gc_all_at (gc_all_at (gc_all_at gc_k2 m hm) r hr) u hu
  simp only [Bool.and_eq_true] at h
  exact ⟨gc_blt h.1, gc_blt h.2⟩
theorem gc_k3' {n s : Nat} (h1 : 1 ≤ n) (h5 : n ≤ 5) (hs : s < n) : gc_fl n s ≤ 120 ∧ gc_mo n s (gc_fl n s * n) = gc_fl n (s + 1) ∧ ∀ rv, rv < gc_fl n s * n → gc_fr n s rv s = true → gc_mo n s rv < 120 ∧ gc_yt n (s + 1) (gc_mo n s rv) s = rv % n ∧ ∀ u, u < s → gc_yt n (s + 1) (gc_mo n s rv) u = gc_yt n s (rv / n) u := by
  obtain ⟨m, hm, rfl⟩ := gc_5 h1 h5
  have h := gc_all_at (gc_all_at gc_k3 m hm) s hs
  simp only [Bool.and_eq_true] at h
  refine ⟨Nat.le_of_ble_eq_true h.1.1, gc_beq h.1.2, fun rv hrv hf => ?_⟩
  have h' := gc_all_at h.2 rv hrv
  simp only [hf, cond_true, Bool.and_eq_true] at h'
  exact ⟨gc_blt h'.1.1, gc_beq h'.1.2, fun u hu => gc_beq (gc_all_at h'.2 u hu)⟩
theorem gc_k5' {n g : Nat} (h1 : 1 ≤ n) (h5 : n ≤ 5) (hg : g < gc_G n) (hL : gc_L n g = g) : gc_kc (gc_ix n g) g (gc_R n) = gc_kc (gc_iy n g) g (gc_R n) ∧ Nat.beq (gc_wr n g (n - 1)) (2 ^ n - 1) = Nat.beq (gc_vr n g n) (2 ^ n - 1) := by
  obtain ⟨m, hm, rfl⟩ := gc_5 h1 h5
  have h := gc_all_at (gc_all_at gc_k5 m hm) g hg
  simp only [gc_beqT hL, cond_true, Bool.and_eq_true] at h
  refine ⟨gc_beq h.1, ?_⟩
  rw [Nat.add_sub_cancel]
  have h2 := h.2
  revert h2
  generalize Nat.beq (gc_wr (m + 1) g m) (2 ^ (m + 1) - 1) = x
  generalize Nat.beq (gc_vr (m + 1) g (m + 1)) (2 ^ (m + 1) - 1) = y
  cases x <;> cases y <;> decide
/-! images -/
theorem gc_im_0 (f : Nat → Nat) (g : Nat) : gc_im f g 0 = 0 := rfl
theorem gc_im_s (f : Nat → Nat) (g c : Nat) : gc_im f g (c + 1) = bif Nat.testBit g c then gc_im f g c ||| 2 ^ f c else gc_im f g c := rfl
theorem gc_im_t {f : Nat → Nat} {g c : Nat} (h : g.testBit c = true) : gc_im f g (c + 1) = gc_im f g c ||| 2 ^ f c := by rw [gc_im_s, h]; rfl
theorem gc_im_f {f : Nat → Nat} {g c : Nat} (h : g.testBit c = false) : gc_im f g (c + 1) = gc_im f g c := by rw [gc_im_s, h]; rfl
theorem gc_im_c {f f' : Nat → Nat} {g : Nat} : ∀ {k : Nat}, (∀ c, c < k → f c = f' c) → gc_im f g k = gc_im f' g k := by
  intro k
  induction k with
  | zero => intro _; rfl
  | succ k ih => intro h; rw [gc_im_s, gc_im_s, ih (fun c hc => h c (by omega)), h k (by omega)]
theorem gc_im_lt {f : Nat → Nat} {g m : Nat} : ∀ {k : Nat}, (∀ c, c < k → f c < m) → gc_im f g k < 2 ^ m := by
  intro k
  induction k with
  | zero => intro _; exact Nat.two_pow_pos m
  | succ k ih =>
    intro h
    rw [gc_im_s]
    cases g.testBit k with
    | false => exact ih (fun c hc => h c (by omega))
    | true => exact Nat.or_lt_two_pow (ih (fun c hc => h c (by omega))) (Nat.pow_lt_pow_right (by omega) (h k (by omega)))
theorem gc_im_split (f : Nat → Nat) (g a : Nat) : ∀ b : Nat, gc_im f g (a + b) = gc_im f g a ||| gc_im (fun c => f (a + c)) (g >>> a) b := by
  intro b
  induction b with
  | zero => rw [gc_im_0, Nat.or_zero, Nat.add_zero]
  | succ b ih =>
    rw [← Nat.add_assoc, gc_im_s, gc_im_s, Nat.testBit_shiftRight, ih]
    cases g.testBit (a + b) with
    | false => rfl
    | true => simp only [cond_true, Nat.or_assoc]
theorem gc_im_mod (f : Nat → Nat) (g a : Nat) : ∀ k : Nat, k ≤ a → gc_im f (g % 2 ^ a) k = gc_im f g k := by
  intro k
  induction k with
  | zero => intro _; rfl
  | succ k ih =>
    intro h
    rw [gc_im_s, gc_im_s, ih (by omega), Nat.testBit_mod_two_pow, decide_eq_true (by omega : k < a), Bool.true_and]
theorem gc_f5e {g r : Nat} (hg : g < 1024) (hr : r < 120) : gc_f5 g r = gc_iy 5 g r := by
  have a := gc_all_at (gc_all_at gc_k6 r hr) (g % 32) (by omega)
  have b := gc_all_at (gc_all_at gc_k6 r hr) (g / 32) (by omega)
  simp only [Bool.and_eq_true] at a b
  have e : gc_iy 5 g r = gc_im (gc_yc 5 r) g (5 + 5) := rfl
  rw [e, gc_im_split, ← gc_im_mod _ g 5 5 (by omega), Nat.shiftRight_eq_div_pow]
  show _ = gc_im (gc_yc 5 r) (g % 32) 5 ||| gc_im (fun c => gc_yc 5 r (5 + c)) (g / 32) 5
  rw [gc_beq a.1, gc_beq b.2]
  rfl
theorem gc_mn_s (f : Nat → Nat) (b k : Nat) : gc_mn f b (k + 1) = bif Nat.ble (gc_mn f b k) (f k) then gc_mn f b k else f k := rfl
theorem gc_kc_s (f : Nat → Nat) (b k : Nat) : gc_kc f b (k + 1) = bif Nat.beq (f k) b then gc_kc f b k + 1 else gc_kc f b k := rfl
theorem gc_st_s (f : Nat → Nat) (k : Nat) : gc_st f (k + 1) = gc_st f k ||| 2 ^ f k := rfl
theorem gc_mn_c {f f' : Nat → Nat} {b : Nat} : ∀ {k : Nat}, (∀ r, r < k → f r = f' r) → gc_mn f b k = gc_mn f' b k := by
  intro k
  induction k with
  | zero => intro _; rfl
  | succ k ih => intro h; rw [gc_mn_s, gc_mn_s, ih (fun c hc => h c (by omega)), h k (by omega)]
theorem gc_kc_c {f f' : Nat → Nat} {b : Nat} : ∀ {k : Nat}, (∀ r, r < k → f r = f' r) → gc_kc f b k = gc_kc f' b k := by
  intro k
  induction k with
  | zero => intro _; rfl
  | succ k ih => intro h; rw [gc_kc_s, gc_kc_s, ih (fun c hc => h c (by omega)), h k (by omega)]
theorem gc_st_c {f f' : Nat → Nat} : ∀ {k : Nat}, (∀ r, r < k → f r = f' r) → gc_st f k = gc_st f' k := by
  intro k
  induction k with
  | zero => intro _; rfl
  | succ k ih => intro h; rw [gc_st_s, gc_st_s, ih (fun c hc => h c (by omega)), h k (by omega)]
theorem gc_st_b (f : Nat → Nat) (h : Nat) : ∀ k : Nat, (gc_st f k).testBit h = true ↔ ∃ r, r < k ∧ f r = h := by
  intro k
  induction k with
  | zero => exact ⟨fun z => absurd ((Nat.zero_testBit h).symm.trans z) (by decide), fun ⟨r, hr, _⟩ => by omega⟩
  | succ k ih =>
    rw [gc_st_s, Nat.testBit_or, Nat.testBit_two_pow, Bool.or_eq_true, ih, decide_eq_true_eq]
    constructor
    · rintro (⟨r, hr, e⟩ | e)
      · exact ⟨r, by omega, e⟩
      · exact ⟨k, by omega, e⟩
    · rintro ⟨r, hr, e⟩
      by_cases c : r = k
      · exact Or.inr (by rw [← c]; exact e)
      · exact Or.inl ⟨r, by omega, e⟩
theorem gc_st_e {f f' : Nat → Nat} {k k' : Nat} (a : ∀ r, r < k → ∃ s, s < k' ∧ f' s = f r) (b : ∀ s, s < k' → ∃ r, r < k ∧ f r = f' s) : gc_st f k = gc_st f' k' := by
  apply Nat.eq_of_testBit_eq
  intro h
  rw [Bool.eq_iff_iff, gc_st_b, gc_st_b]
  constructor
  · rintro ⟨r, hr, e⟩
    obtain ⟨s, hs, e'⟩ := a r hr
    exact ⟨s, hs, e'.trans e⟩
  · rintro ⟨r, hr, e⟩
    obtain ⟨s, hs, e'⟩ := b r hr
    exact ⟨s, hs, e'.trans e⟩
/-- what a check at g says -/
def gc_P (n : Nat) (f : Nat → Nat → Nat) (g : Nat) : Prop := gc_L n g ≤ g ∧ gc_L n (gc_L n g) = gc_L n g ∧ gc_mn (f g) g (gc_R n) = gc_L n g ∧ gc_kc (f g) g (gc_R n) = gc_kc (f (gc_L n g)) (gc_L n g) (gc_R n) ∧ gc_st (f g) (gc_R n) = gc_st (f (gc_L n g)) (gc_R n) ∧ (gc_st (f g) (gc_R n)).testBit g = true ∧ (gc_L n g = g → ∀ r, r < gc_R n → gc_L n (f g r) = g)
theorem gc_ckP {n g : Nat} {f : Nat → Nat → Nat} (h : gc_ck n (gc_R n) f g = true) : gc_P n f g := by
  unfold gc_ck at h
  simp only [Bool.and_eq_true] at h
  obtain ⟨a1, a2, a3, a4, a5, a6, a7⟩ := h
  refine ⟨Nat.le_of_ble_eq_true a1, gc_beq a2, gc_beq a3, gc_beq a4, gc_beq a5, a6, fun e r hr => ?_⟩
  rw [gc_beqT e] at a7
  exact gc_beq (gc_all_at a7 r hr)
theorem gc_PT {n g : Nat} {f f' : Nat → Nat → Nat} (hf : ∀ g' r, g' ≤ g → r < gc_R n → f g' r = f' g' r) (h : gc_P n f g) : gc_P n f' g := by
  obtain ⟨a1, a2, a3, a4, a5, a6, a7⟩ := h
  have e1 : ∀ r, r < gc_R n → f g r = f' g r := fun r hr => hf g r (Nat.le_refl _) hr
  have e2 : ∀ r, r < gc_R n → f (gc_L n g) r = f' (gc_L n g) r := fun r hr => hf _ r a1 hr
  exact ⟨a1, a2, (gc_mn_c e1).symm.trans a3, (gc_kc_c e1).symm.trans (a4.trans (gc_kc_c e2)), (gc_st_c e1).symm.trans (a5.trans (gc_st_c e2)), (gc_st_c e1) ▸ a6, fun e r hr => (e1 r hr) ▸ a7 e r hr⟩
theorem gc_k7 {g : Nat} (hg : g < 1024) : gc_P 5 gc_f5 g := by
  apply gc_ckP
  show gc_ck 5 120 gc_f5 g = true
  rcases (by omega : g < 256 ∨ (256 ≤ g ∧ g < 512) ∨ (512 ≤ g ∧ g < 768) ∨ (768 ≤ g ∧ g < 1024)) with h | h | h | h
  · have := gc_all_at gc_k7a g (by omega)
    rw [show Nat.add 0 g = g from Nat.zero_add g] at this
    exact this
  · have := gc_all_at gc_k7b (g - 256) (by omega)
    rw [show Nat.add 256 (g - 256) = g from (by show 256 + (g - 256) = g; omega)] at this
    exact this
  · have := gc_all_at gc_k7c (g - 512) (by omega)
    rw [show Nat.add 512 (g - 512) = g from (by show 512 + (g - 512) = g; omega)] at this
    exact this
  · have := gc_all_at gc_k7d (g - 768) (by omega)
    rw [show Nat.add 768 (g - 768) = g from (by show 768 + (g - 768) = g; omega)] at this
    exact this
theorem gc_R5 : gc_R 5 = 120 := rfl
theorem gc_G5 : gc_G 5 = 1024 := rfl
theorem gc_Pn {n g : Nat} (h1 : 1 ≤ n) (h5 : n ≤ 5) (hg : g < gc_G n) : gc_P n (gc_iy n) g := by
  by_cases e : n = 5
  · subst e
    rw [gc_G5] at hg
    exact gc_PT (fun g' r hg' hr => gc_f5e (by omega) (by rw [gc_R5] at hr; exact hr)) (gc_k7 hg)
  · obtain ⟨m, hm, rfl⟩ := gc_5 h1 h5
    exact gc_ckP (gc_all_at (gc_all_at gc_k4 m (by omega)) g hg)
theorem gc_sx {n r : Nat} (h1 : 1 ≤ n) (h5 : n ≤ 5) (hr : r < gc_R n) : ∃ s, s < gc_R n ∧ ∀ g, gc_ix n g r = gc_iy n g s :=
  ⟨gc_sg n r, (gc_k1' h1 h5 hr).1, fun _ => gc_im_c (fun c hc => ((gc_k1' h1 h5 hr).2.2 c hc).2.2.1)⟩
theorem gc_sy {n r : Nat} (h1 : 1 ≤ n) (h5 : n ≤ 5) (hr : r < gc_R n) : ∃ s, s < gc_R n ∧ ∀ g, gc_iy n g r = gc_ix n g s :=
  ⟨gc_ta n r, (gc_k1' h1 h5 hr).2.1, fun _ => gc_im_c (fun c hc => ((gc_k1' h1 h5 hr).2.2 c hc).2.2.2)⟩
theorem gc_ix_lt {n r g : Nat} (h1 : 1 ≤ n) (h5 : n ≤ 5) (hr : r < gc_R n) : gc_ix n g r < gc_G n := gc_im_lt (fun c hc => ((gc_k1' h1 h5 hr).2.2 c hc).1)
theorem gc_iy_lt {n r g : Nat} (h1 : 1 ≤ n) (h5 : n ≤ 5) (hr : r < gc_R n) : gc_iy n g r < gc_G n := gc_im_lt (fun c hc => ((gc_k1' h1 h5 hr).2.2 c hc).2.1)
theorem gc_Lx {n g r : Nat} (h1 : 1 ≤ n) (h5 : n ≤ 5) (hg : g < gc_G n) (hL : gc_L n g = g) (hr : r < gc_R n) : gc_L n (gc_ix n g r) = g := by
  obtain ⟨s, hs, e⟩ := gc_sx h1 h5 hr
  rw [e g]
  exact (gc_Pn h1 h5 hg).2.2.2.2.2.2 hL s hs
theorem gc_stx {n g : Nat} (h1 : 1 ≤ n) (h5 : n ≤ 5) : gc_st (gc_ix n g) (gc_R n) = gc_st (gc_iy n g) (gc_R n) :=
  gc_st_e (fun r hr => (let ⟨s, hs, e⟩ := gc_sx h1 h5 hr; ⟨s, hs, (e g).symm⟩)) (fun r hr => (let ⟨s, hs, e⟩ := gc_sy h1 h5 hr; ⟨s, hs, (e g).symm⟩))
theorem gc_hit {n g : Nat} (h1 : 1 ≤ n) (h5 : n ≤ 5) (hg : g < gc_G n) : ∃ r, r < gc_R n ∧ gc_ix n (gc_L n g) r = g := by
  have h := gc_Pn h1 h5 hg
  have a := h.2.2.2.2.2.1
  rw [h.2.2.2.2.1, ← gc_stx h1 h5] at a
  exact (gc_st_b _ _ _).mp a

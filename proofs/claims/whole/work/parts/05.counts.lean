/-! counts over leaders, over sets; bits of ints -/
def gc_cq (n : Nat) (q : Nat → Bool) : Nat → Nat
  | 0 => 0
  | g + 1 => if gc_L n g = g ∧ q g = true then gc_cq n q g + 1 else gc_cq n q g
def gc_ct (n : Nat) : Nat → Nat
  | 0 => 0
  | g + 1 => if gc_L n g = g then gc_ct n g + 1 else gc_ct n g
theorem gc_ct_t {n g : Nat} (h : gc_L n g = g) : gc_ct n (g + 1) = gc_ct n g + 1 := by rw [gc_ct, if_pos h]
theorem gc_ct_f {n g : Nat} (h : ¬ gc_L n g = g) : gc_ct n (g + 1) = gc_ct n g := by rw [gc_ct, if_neg h]
theorem gc_cq_t {n g : Nat} {q : Nat → Bool} (h : gc_L n g = g) (hq : q g = true) : gc_cq n q (g + 1) = gc_cq n q g + 1 := by rw [gc_cq, if_pos ⟨h, hq⟩]
theorem gc_cq_f {n g : Nat} {q : Nat → Bool} (hq : q g = false) : gc_cq n q (g + 1) = gc_cq n q g := by
  rw [gc_cq, if_neg (fun z => by rw [hq] at z; exact absurd z.2 (by decide))]
theorem gc_cq_n {n g : Nat} {q : Nat → Bool} (h : ¬ gc_L n g = g) : gc_cq n q (g + 1) = gc_cq n q g := by rw [gc_cq, if_neg (fun z => h z.1)]
theorem gc_ct_le (n : Nat) : ∀ g, gc_ct n g ≤ g := by
  intro g
  induction g with
  | zero => exact Nat.le_refl _
  | succ g ih => rw [gc_ct]; split <;> omega
theorem gc_cq_le (n : Nat) (q : Nat → Bool) : ∀ g, gc_cq n q g ≤ g := by
  intro g
  induction g with
  | zero => exact Nat.le_refl _
  | succ g ih => rw [gc_cq]; split <;> omega
theorem gc_cq_m (n : Nat) (q : Nat → Bool) (g : Nat) : ∀ d, gc_ct n g ≤ gc_ct n (g + d) ∧ gc_cq n q g ≤ gc_cq n q (g + d) ∧ gc_cq n q (g + d) + gc_ct n g ≤ gc_cq n q g + gc_ct n (g + d) := by
  intro d
  induction d with
  | zero => exact ⟨Nat.le_refl _, Nat.le_refl _, Nat.le_refl _⟩
  | succ d ih =>
    rw [← Nat.add_assoc]
    by_cases h : gc_L n (g + d) = g + d
    · rw [gc_ct_t h]
      cases e : q (g + d) with
      | false => rw [gc_cq_f e]; omega
      | true => rw [gc_cq_t h e]; omega
    · rw [gc_ct_f h, gc_cq_n h]; exact ih
theorem gc_ct_m {n g h : Nat} (e : g ≤ h) : gc_ct n g ≤ gc_ct n h := by
  obtain ⟨d, rfl⟩ := Nat.le.dest e
  exact (gc_cq_m n (fun _ => true) g d).1
theorem gc_cq_e {n g h : Nat} (q : Nat → Bool) (e : gc_ct n g = gc_ct n h) : gc_cq n q g = gc_cq n q h := by
  rcases Nat.le_total g h with l | l
  · obtain ⟨d, rfl⟩ := Nat.le.dest l
    have := gc_cq_m n q g d
    omega
  · obtain ⟨d, rfl⟩ := Nat.le.dest l
    have := gc_cq_m n q h d
    omega
theorem gc_ct_x {n k : Nat} : ∀ {g : Nat}, k < gc_ct n g → ∃ h, h < g ∧ gc_L n h = h ∧ gc_ct n h = k := by
  intro g
  induction g with
  | zero => intro h; exact absurd h (Nat.not_lt_zero _)
  | succ g ih =>
    intro h
    by_cases e : gc_L n g = g
    · rw [gc_ct_t e] at h
      by_cases c : k = gc_ct n g
      · exact ⟨g, by omega, e, c.symm⟩
      · obtain ⟨x, hx, y⟩ := ih (by omega)
        exact ⟨x, by omega, y⟩
    · rw [gc_ct_f e] at h
      obtain ⟨x, hx, y⟩ := ih h
      exact ⟨x, by omega, y⟩
theorem gc_ct_i {n g h : Nat} (hg : gc_L n g = g) (hh : gc_L n h = h) (e : gc_ct n g = gc_ct n h) : g = h := by
  rcases Nat.lt_trichotomy g h with l | l | l
  · have a := gc_ct_m (n := n) (show g + 1 ≤ h from l)
    rw [gc_ct_t hg] at a
    omega
  · exact l
  · have a := gc_ct_m (n := n) (show h + 1 ≤ g from l)
    rw [gc_ct_t hh] at a
    omega
/-! sets as numbers: how many below k -/
def gc_sc (s : Nat) : Nat → Nat
  | 0 => 0
  | k + 1 => bif s.testBit k then gc_sc s k + 1 else gc_sc s k
theorem gc_sc_t {s k : Nat} (h : s.testBit k = true) : gc_sc s (k + 1) = gc_sc s k + 1 := by rw [gc_sc, h]; rfl
theorem gc_sc_f {s k : Nat} (h : s.testBit k = false) : gc_sc s (k + 1) = gc_sc s k := by rw [gc_sc, h]; rfl
theorem gc_sc_le (s : Nat) : ∀ k, gc_sc s k ≤ k := by
  intro k
  induction k with
  | zero => exact Nat.le_refl _
  | succ k ih =>
    cases e : s.testBit k with
    | false => rw [gc_sc_f e]; omega
    | true => rw [gc_sc_t e]; omega
theorem gc_sc_0 : ∀ k, gc_sc 0 k = 0 := by
  intro k
  induction k with
  | zero => rfl
  | succ k ih => rw [gc_sc_f (Nat.zero_testBit k), ih]
theorem gc_orb (s v j : Nat) : (s ||| 2 ^ v).testBit j = (s.testBit j || decide (v = j)) := by rw [Nat.testBit_or, Nat.testBit_two_pow]
theorem gc_sc_lo (s v : Nat) : ∀ k, k ≤ v → gc_sc (s ||| 2 ^ v) k = gc_sc s k := by
  intro k
  induction k with
  | zero => intro _; rfl
  | succ k ih =>
    intro h
    rw [gc_sc, gc_sc, gc_orb, decide_eq_false (by omega : ¬ v = k), Bool.or_false, ih (by omega)]
theorem gc_sc_in {s v : Nat} (hv : s.testBit v = true) : s ||| 2 ^ v = s := by
  apply Nat.eq_of_testBit_eq
  intro j
  rw [gc_orb]
  by_cases e : v = j
  · rw [← e, hv]; rfl
  · rw [decide_eq_false e, Bool.or_false]
theorem gc_sc_new {s v : Nat} (hv : s.testBit v = false) : ∀ k, v < k → gc_sc (s ||| 2 ^ v) k = gc_sc s k + 1 := by
  intro k
  induction k with
  | zero => intro h; omega
  | succ k ih =>
    intro h
    by_cases e : v = k
    · subst e
      rw [gc_sc_t (by rw [gc_orb, decide_eq_true rfl, Bool.or_true]), gc_sc_f hv, gc_sc_lo s v v (Nat.le_refl _)]
    · rw [gc_sc, gc_sc, gc_orb, decide_eq_false e, Bool.or_false, ih (by omega)]
      cases s.testBit k <;> rfl
/-! the sets of extensions -/
noncomputable def gc_es (n g c : Nat) : Nat := Nat.rec (motive := fun _ => Nat) 0 (fun c ih => bif g.testBit c then ih else ih ||| 2 ^ gc_L n (g ||| 2 ^ c)) c
theorem gc_es_t {n g c : Nat} (h : g.testBit c = true) : gc_es n g (c + 1) = gc_es n g c := by
  show (bif g.testBit c then gc_es n g c else gc_es n g c ||| 2 ^ gc_L n (g ||| 2 ^ c)) = _
  rw [h]; rfl
theorem gc_es_f {n g c : Nat} (h : g.testBit c = false) : gc_es n g (c + 1) = gc_es n g c ||| 2 ^ gc_L n (g ||| 2 ^ c) := by
  show (bif g.testBit c then gc_es n g c else gc_es n g c ||| 2 ^ gc_L n (g ||| 2 ^ c)) = _
  rw [h]; rfl
theorem gc_es_b (n g h : Nat) : ∀ c, (gc_es n g c).testBit h = true ↔ ∃ d, d < c ∧ g.testBit d = false ∧ gc_L n (g ||| 2 ^ d) = h := by
  intro c
  induction c with
  | zero => exact ⟨fun z => absurd ((Nat.zero_testBit h).symm.trans z) (by decide), fun ⟨r, hr, _⟩ => by omega⟩
  | succ c ih =>
    cases e : g.testBit c with
    | true =>
      rw [gc_es_t e, ih]
      constructor
      · rintro ⟨d, hd, x, y⟩
        exact ⟨d, by omega, x, y⟩
      · rintro ⟨d, hd, x, y⟩
        by_cases k : d = c
        · rw [k, e] at x; exact absurd x (by decide)
        · exact ⟨d, by omega, x, y⟩
    | false =>
      rw [gc_es_f e, gc_orb, Bool.or_eq_true, ih, decide_eq_true_eq]
      constructor
      · rintro (⟨d, hd, x, y⟩ | y)
        · exact ⟨d, by omega, x, y⟩
        · exact ⟨c, by omega, e, y⟩
      · rintro ⟨d, hd, x, y⟩
        by_cases k : d = c
        · exact Or.inr (by rw [← k]; exact y)
        · exact Or.inl ⟨d, by omega, x, y⟩
theorem gc_orG {n g c : Nat} (hg : g < gc_G n) (hc : c < gc_C n) : g ||| 2 ^ c < gc_G n := Nat.or_lt_two_pow hg (Nat.pow_lt_pow_right (by omega) hc)
/-! edges -/
def gc_ec (g : Nat) : Nat → Nat
  | 0 => 0
  | c + 1 => bif g.testBit c then gc_ec g c + 1 else gc_ec g c
theorem gc_ec_t {g c : Nat} (h : g.testBit c = true) : gc_ec g (c + 1) = gc_ec g c + 1 := by rw [gc_ec, h]; rfl
theorem gc_ec_f {g c : Nat} (h : g.testBit c = false) : gc_ec g (c + 1) = gc_ec g c := by rw [gc_ec, h]; rfl
theorem gc_ec_le (g : Nat) : ∀ k, gc_ec g k ≤ k := by
  intro k
  induction k with
  | zero => exact Nat.le_refl _
  | succ k ih =>
    cases e : g.testBit k with
    | false => rw [gc_ec_f e]; omega
    | true => rw [gc_ec_t e]; omega
theorem gc_hiF {g a c : Nat} (hg : g < 2 ^ a) (h : a ≤ c) : g.testBit c = false := Nat.testBit_lt_two_pow (Nat.lt_of_lt_of_le hg (Nat.pow_le_pow_right (by omega) h))
theorem gc_ec_hi {g a : Nat} (hg : g < 2 ^ a) : ∀ d, gc_ec g (a + d) = gc_ec g a := by
  intro d
  induction d with
  | zero => rfl
  | succ d ih => rw [← Nat.add_assoc, gc_ec_f (gc_hiF hg (by omega)), ih]
/-! ints -/
theorem gc_nor (a b : Nat) : nI a ||| nI b = nI (a ||| b) := by
  apply Int32.toBitVec_inj.1
  show BitVec.ofNat 32 a ||| BitVec.ofNat 32 b = BitVec.ofNat 32 (a ||| b)
  apply BitVec.eq_of_getLsbD_eq
  intro i hi
  simp [hi]
theorem gc_n2p {k : Nat} (h : k < 31) : (1 : Int32) <<< (nI k &&& 31) = nI (2 ^ k) := by
  have e := pk_shlN (n := 1) (nI k &&& 31) k (s_l k (by omega)) (by rw [Nat.one_mul]; exact Nat.pow_lt_pow_right (by omega) (by omega))
  rw [Nat.one_mul] at e
  exact e
theorem gc_nbit {a k : Nat} (ha : a < 2 ^ 31) (hk : k < 32) : (nI a >>> (nI k &&& 31)) &&& 1 = nI (a / 2 ^ k % 2) := by
  have h2 : a / 2 ^ k ≤ a := Nat.div_le_self _ _
  rw [pk_shrN ha _ k (s_l k hk), pk_andN (by omega) 1 (by decide)]
theorem gc_bit1 {a k : Nat} (ha : a < 2 ^ 31) (hk : k < 32) : (nI a >>> (nI k &&& 31)) &&& 1 = 1 ↔ a.testBit k = true := by
  rw [gc_nbit ha hk, show (1 : Int32) = nI 1 from rfl, nI_eq (by omega) (by omega), Nat.testBit_eq_decide_div_mod_eq, decide_eq_true_eq]
theorem gc_bit0 {a k : Nat} (ha : a < 2 ^ 31) (hk : k < 32) : (nI a >>> (nI k &&& 31)) &&& 1 = 0 ↔ a.testBit k = false := by
  rw [gc_nbit ha hk, ← nI_0, nI_eq (by omega) (by omega), Nat.testBit_eq_decide_div_mod_eq, decide_eq_false_iff_not]
  omega
theorem gc_tri : ∀ h, h < 6 → (nI h * (nI h - 1)) / 2 = nI (h * (h - 1) / 2) := by decide +kernel
theorem gc_ij : ∀ j, j < 5 → ∀ i, i < j → gc_I (j * (j - 1) / 2 + i) = i ∧ gc_J (j * (j - 1) / 2 + i) = j ∧ gc_cn i j = j * (j - 1) / 2 + i := by decide +kernel
theorem gc_cnlt : ∀ a, a < 5 → ∀ b, b < 5 → gc_cn a b < 15 := by decide +kernel
theorem gc_triC {n j : Nat} (h5 : n ≤ 5) (hj : j < n) : j * (j - 1) / 2 + j ≤ gc_C n := by
  rcases (by omega : n = 0 ∨ n = 1 ∨ n = 2 ∨ n = 3 ∨ n = 4 ∨ n = 5) with rfl | rfl | rfl | rfl | rfl | rfl <;> revert j <;> decide +kernel
theorem gc_triS (j : Nat) : (j + 1) * (j + 1 - 1) / 2 = j * (j - 1) / 2 + j := by
  cases j with
  | zero => rfl
  | succ j =>
    rw [Nat.add_sub_cancel, Nat.add_sub_cancel]
    have : (j + 1 + 1) * (j + 1) = (j + 1) * j + (j + 1) * 2 := by rw [← Nat.mul_add, Nat.mul_comm]
    rw [this, Nat.add_mul_div_right _ _ (by omega)]
theorem gc_nar0 : vp_nar .boolean 0 = 0 := by rfl
theorem gc_nar1 : vp_nar .boolean 1 = 1 := by rfl

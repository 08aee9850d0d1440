/-! the class's own methods, each with a general post -/
theorem gc_rs_s (r p : Nat) : gc_rs r (p + 1) = gc_rs r p / (p + 1) := rfl
theorem gc_rs_le (r : Nat) : ∀ p, gc_rs r p ≤ r := by
  intro p
  induction p with
  | zero => exact Nat.le_refl _
  | succ p ih => rw [gc_rs_s]; exact Nat.le_trans (Nat.div_le_self _ _) ih
theorem gc_nm_s (r p i : Nat) : gc_nm r (p + 1) i = if i = gc_rs r p % (p + 1) then p else if i = p then gc_nm r p (gc_rs r p % (p + 1)) else gc_nm r p i := rfl
theorem gc_R_s (n : Nat) : gc_R (n + 1) = gc_R n * (n + 1) := rfl
theorem gc_xfac {n : Nat} (h5 : n ≤ 5) (h1 : 1 ≤ n) {post : Int32 → Prop} (h : post (nI (gc_R n))) : wpX_factorial post (nI n) := by
  refine pk_loop (fun f i s => wX_factorial_4 post (nI n) f s (nI i)) (fun i s => 1 ≤ i ∧ s = nI (gc_R (i - 1))) (n + 1) 2 1 (by omega) ⟨by omega, rfl⟩ ?_ ?_
  · rintro f s ⟨-, hs⟩
    rw [Nat.add_sub_cancel] at hs
    subst hs
    exact br_t (nI_lt (by omega) (by omega)) h
  · rintro f i s hi ⟨hi1, hs⟩ k
    subst hs
    refine br_f (nI_nlt (by omega) (by omega)) (nm_e (nm_r (nI_1 i) (k _ ⟨by omega, ?_⟩)))
    obtain ⟨j, rfl⟩ : ∃ j, i = j + 1 := ⟨i - 1, by omega⟩
    rw [pk_mul, Nat.add_sub_cancel, Nat.add_sub_cancel, gc_R_s]
theorem gc_xcn {a b : Nat} (ha : a < 5) (hb : b < 5) {post : Int32 → Prop} (h : post (nI (gc_cn a b))) : wpX_coupleNumber post (nI a) (nI b) := by
  by_cases l : b ≤ a
  · have e : (nI a * (nI a - 1)) / 2 + nI b = nI (gc_cn a b) := by rw [gc_tri a (by omega), nI_add, gc_cn, if_pos l]
    have h' : post ((nI a * (nI a - 1)) / 2 + nI b) := by rw [e]; exact h
    exact br_t (nI_le l (by omega)) (br_t (nI_le l (by omega)) ⟨by decide, h'⟩)
  · have e : (nI b * (nI b - 1)) / 2 + nI a = nI (gc_cn a b) := by rw [gc_tri b (by omega), nI_add, gc_cn, if_neg l]
    have h' : post ((nI b * (nI b - 1)) / 2 + nI a) := by rw [e]; exact h
    exact br_f (nI_ge (by omega) (by omega)) (br_f (nI_ge (by omega) (by omega)) ⟨by decide, h'⟩)
theorem gc_bf {x : Bool} (h : ¬ x = true) : x = false := by cases x with
  | false => rfl
  | true => exact absurd rfl h
theorem gc_xedge {g c : Nat} (hg : g < 2 ^ 31) (hc : c < 32) {post : Int32 → Prop} (ht : g.testBit c = true → post 1) (hf : g.testBit c = false → post 0) : wpX_hasEdge post (nI g) (nI c) :=
  br_c (fun z => ht ((gc_bit1 hg hc).mp z)) (fun z => hf (gc_bf (fun e => z ((gc_bit1 hg hc).mpr e))))
theorem gc_xspell {n r : Nat} (h5 : n ≤ 5) (hr : r < 1000) {post : SX → Prop} {c g m k : Int32} {a1 a2 a3 a4 a5 a6 : Nat → Int32} (h : ∀ b : Nat → Int32, (∀ i, i < n → b i = nI (gc_nm r n i)) → post (nI n, c, g, m, k, b, a2, a3, a4, a5, a6)) : wpX_spellRenaming post (nI n, c, g, m, k, a1, a2, a3, a4, a5, a6) (nI r) := by
  refine pk_loop (σ := Int32 × (Nat → Int32)) (fun f i s => wX_spellRenaming_4 post (nI n) c g m k f s.1 (nI i) s.2 a2 a3 a4 a5 a6) (fun i s => s.1 = nI (gc_rs r i) ∧ ∀ j, j < i → s.2 j = nI (gc_nm r i j)) n 0 (nI r, a1) (by omega) ⟨rfl, fun j hj => by omega⟩ ?_ ?_
  · rintro f ⟨x, b⟩ ⟨_, hb⟩
    exact br_t (nI_le (Nat.le_refl n) (by omega)) (h b hb)
  · rintro f i ⟨x, b⟩ hi ⟨hx, hb⟩ K
    have hx : x = nI (gc_rs r i) := hx
    subst hx
    have hb : ∀ j, j < i → b j = nI (gc_nm r i j) := hb
    have hrs := gc_rs_le r i
    have e0 : ¬ nI i + 1 = 0 := by rw [nI_1]; exact nI_ne0 (by omega) (by omega)
    have hp : gc_rs r i % (i + 1) < i + 1 := Nat.mod_lt _ (by omega)
    have e1 : nI (gc_rs r i) - nI (gc_rs r i) / (nI i + 1) * (nI i + 1) = nI (gc_rs r i % (i + 1)) := by rw [nI_1]; exact pk_rem (by omega) (by omega) (by omega)
    have e2 : nI (gc_rs r i) / (nI i + 1) = nI (gc_rs r (i + 1)) := by rw [nI_1, gc_rs_s]; exact pk_div (by omega) (by omega) (by omega)
    have v1 : vp_in (nI (gc_rs r i % (i + 1))) 5 := vp_in_nI (by omega) (by omega)
    refine br_f (nI_ge hi (by omega)) ⟨e0, nm_r e1 ⟨e0, nm_r e2 ⟨v1, vp_in_nI (by omega) (by omega), nm_e ⟨v1, nm_e (nm_r (nI_1 i) (K (_, _) ⟨rfl, ?_⟩))⟩⟩⟩⟩
    intro j hj
    show upd _ _ _ j = _
    rw [nI_clamp (by omega), nI_clamp (by omega), gc_nm_s]
    by_cases c1 : j = gc_rs r i % (i + 1)
    · rw [if_pos c1, c1, pk_us]
    · rw [if_neg c1, pk_un c1]
      by_cases c2 : j = i
      · rw [if_pos c2, c2, pk_us]
        exact hb _ (by omega)
      · rw [if_neg c2, pk_un c2]
        exact hb _ (by omega)
/-- the table of couples, up to R renamings -/
def gc_XT (n R : Nat) (d : Nat → Int32) : Prop := ∀ r, r < R → ∀ c, c < gc_C n → d (r * 10 + c) = nI (gc_xc n r c)
theorem gc_xtc {n r : Nat} (h1 : 1 ≤ n) (h5 : n ≤ 5) (hr : r < gc_R n) {post : SX → Prop} {c g m k : Int32} {a1 a2 a3 a4 a5 a6 : Nat → Int32} (hb : ∀ i, i < n → a1 i = nI (gc_nm r n i)) (h : ∀ d : Nat → Int32, (∀ c, c < gc_C n → d (r * 10 + c) = nI (gc_xc n r c)) → (∀ x, x < r * 10 → d x = a2 x) → post (nI n, c, g, m, k, a1, d, a3, a4, a5, a6)) : wpX_tableCouples post (nI n, c, g, m, k, a1, a2, a3, a4, a5, a6) (nI (r * 10)) := by
  have hR := gc_sz n h5
  refine pk_loop (σ := Nat → Int32) (fun f j d => wX_tableCouples_2 post (nI (r * 10)) (nI n) c g m k f (nI j) a1 d a3 a4 a5 a6) (fun j d => (∀ c, c < j * (j - 1) / 2 → d (r * 10 + c) = nI (gc_xc n r c)) ∧ ∀ x, x < r * 10 → d x = a2 x) n 1 a2 h1 ⟨fun c hc => absurd hc (Nat.not_lt_zero c), fun _ _ => rfl⟩ ?_ ?_
  · rintro f d ⟨hd, hd'⟩
    exact br_t (nI_le (Nat.le_refl n) (by omega)) (h d hd hd')
  · rintro f j d hj ⟨hd, hd'⟩ K
    refine br_f (nI_ge hj (by omega)) ?_
    have hC := gc_triC h5 hj
    refine pk_loop (σ := Nat → Int32) (fun f' i d => wX_tableCouples_12 post (wX_tableCouples_2 post (nI (r * 10)) (nI n) c g m k f) (nI (r * 10)) (nI j) (nI n) c g m k f' (nI i) a1 d a3 a4 a5 a6) (fun i d => (∀ c, c < j * (j - 1) / 2 + i → d (r * 10 + c) = nI (gc_xc n r c)) ∧ ∀ x, x < r * 10 → d x = a2 x) j 0 d (by omega) ⟨hd, hd'⟩ ?_ ?_
    · rintro f' d ⟨hd, hd'⟩
      exact br_t (nI_le (Nat.le_refl j) (by omega)) (nm_r (nI_1 j) (K d ⟨fun c hc => hd c (by rw [gc_triS] at hc; exact hc), hd'⟩))
    · rintro f' i d hi ⟨hd, hd'⟩ K'
      refine br_f (nI_ge hi (by omega)) (gc_xcn (by omega) (by omega) ⟨vp_in_nI (by omega) (by omega), vp_in_nI (by omega) (by omega), ?_⟩)
      have b1 : a1 (nI i).toNatClampNeg = nI (gc_nm r n i) := by rw [nI_clamp (by omega)]; exact hb i (by omega)
      have b2 : a1 (nI j).toNatClampNeg = nI (gc_nm r n j) := by rw [nI_clamp (by omega)]; exact hb j hj
      have n1 := (gc_k2' h1 h5 hr (by omega : i < n)).1
      have n2 := (gc_k2' h1 h5 hr hj).1
      have ij := gc_ij j (by omega) i hi
      rw [b1, b2]
      have e : nI (r * 10) + nI (gc_cn i j) = nI (r * 10 + (j * (j - 1) / 2 + i)) := by rw [nI_add, ij.2.2]
      refine gc_xcn (by omega) (by omega) ⟨by rw [e]; exact vp_in_nI (by omega) (by omega), nm_e (nm_r (nI_1 i) (K' _ ?_))⟩
      rw [e, nI_clamp (by omega)]
      refine ⟨fun c hc => ?_, fun x hx => ?_⟩
      · by_cases q : c = j * (j - 1) / 2 + i
        · rw [q, pk_us, gc_xc, ij.1, ij.2.1]
        · rw [pk_un (by omega)]
          exact hd c (by omega)
      · rw [pk_un (by omega)]
        exact hd' x hx
theorem gc_xtr {n : Nat} (h1 : 1 ≤ n) (h5 : n ≤ 5) {post : SX → Prop} {c g k : Int32} {a1 a2 a3 a4 a5 a6 : Nat → Int32} (h : ∀ b d : Nat → Int32, gc_XT n (gc_R n) d → post (nI n, c, g, nI (gc_R n), k, b, d, a3, a4, a5, a6)) : wpX_tableRenamings post (nI n, c, g, nI (gc_R n), k, a1, a2, a3, a4, a5, a6) := by
  have hR := gc_sz n h5
  refine pk_loop (σ := (Nat → Int32) × (Nat → Int32)) (fun f r s => wX_tableRenamings_2 post f (nI r) (nI n) c g (nI (gc_R n)) k s.1 s.2 a3 a4 a5 a6) (fun r s => gc_XT n r s.2) (gc_R n) 0 (a1, a2) (by omega) (fun r hr => by omega) ?_ ?_
  · rintro f ⟨b, d⟩ hI
    exact br_t (nI_le (Nat.le_refl _) (by omega)) (h b d hI)
  · rintro f r ⟨b, d⟩ hr hI K
    refine br_f (nI_ge hr (by omega)) (gc_xspell h5 (by omega) (fun b' hb' => ?_))
    dsimp only
    have e10 : nI r * 10 = nI (r * 10) := pk_mul r 10
    rw [e10]
    refine gc_xtc h1 h5 hr hb' (fun d' hd hd' => ?_)
    dsimp only
    refine nm_r (nI_1 r) (K (b', d') ?_)
    intro r' hr' c' hc'
    by_cases q : r' = r
    · rw [q]; exact hd c' hc'
    · show d' _ = _
      rw [hd' _ (by omega)]
      exact hI r' (by omega) c' hc'
theorem gc_xren {n g r : Nat} (h1 : 1 ≤ n) (h5 : n ≤ 5) (hg : g < 1024) (hr : r < gc_R n) {post : Int32 → Prop} {p q m k : Int32} {a1 a2 a3 a4 a5 a6 : Nat → Int32} (hd : gc_XT n (gc_R n) a2) (h : post (nI (gc_ix n g r))) : wpX_renamed post (p, nI (gc_C n), q, m, k, a1, a2, a3, a4, a5, a6) (nI g) (nI r) := by
  have hR := gc_sz n h5
  refine pk_loop (σ := Int32) (fun f c s => wX_renamed_5 post (nI g) (nI r) p (nI (gc_C n)) q m k a1 a2 a3 a4 a5 a6 f s (nI c)) (fun c s => s = nI (gc_im (gc_xc n r) g c)) (gc_C n) 0 0 (by omega) rfl ?_ ?_
  · rintro f s rfl
    exact br_t (nI_le (Nat.le_refl _) (by omega)) h
  · rintro f c s hc rfl K
    refine br_f (nI_ge hc (by omega)) (gc_xedge (by omega) (by omega) (fun t => ?_) (fun t => ?_))
    · have e : nI r * 10 + nI c = nI (r * 10 + c) := by rw [show nI r * 10 = nI (r * 10) from pk_mul r 10, nI_add]
      have ed : a2 (nI r * 10 + nI c).toNatClampNeg = nI (gc_xc n r c) := by rw [e, nI_clamp (by omega)]; exact hd r hr c hc
      have hx := ((gc_k1' h1 h5 hr).2.2 c hc).1
      refine br_f (by decide) ⟨by rw [e]; exact vp_in_nI (by omega) (by omega), nm_e (nm_r (nI_1 c) (K _ ?_))⟩
      rw [ed, gc_n2p (by omega), gc_nor, gc_im_t t]
    · exact br_t rfl (nm_r (nI_1 c) (K _ (by rw [gc_im_f t])))

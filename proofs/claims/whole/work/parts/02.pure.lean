/-! the catalogue over naturals, and what the kernel reckons of it -/
noncomputable def gc_all (p : Nat → Bool) (k : Nat) : Bool := Nat.rec (motive := fun _ => Bool) true (fun k ih => and (p k) ih) k
theorem gc_all_s (p : Nat → Bool) (k : Nat) : gc_all p (k + 1) = (p k && gc_all p k) := rfl
theorem gc_all_at {p : Nat → Bool} : ∀ {k : Nat}, gc_all p k = true → ∀ i, i < k → p i = true := by
  intro k
  induction k with
  | zero => intro _ i hi; omega
  | succ k ih =>
    intro h i hi
    rw [gc_all_s, Bool.and_eq_true] at h
    by_cases e : i = k
    · rw [e]; exact h.1
    · exact ih h.2 i (by omega)
theorem gc_all_of {p : Nat → Bool} : ∀ {k : Nat}, (∀ i, i < k → p i = true) → gc_all p k = true := by
  intro k
  induction k with
  | zero => intro _; rfl
  | succ k ih =>
    intro h
    rw [gc_all_s, h k (by omega), ih (fun i hi => h i (by omega))]
    rfl
def gc_C (n : Nat) : Nat := n * (n - 1) / 2
def gc_G (n : Nat) : Nat := 2 ^ gc_C n
noncomputable def gc_R (n : Nat) : Nat := Nat.rec (motive := fun _ => Nat) 1 (fun n ih => ih * (n + 1)) n
def gc_cn (a b : Nat) : Nat := if b ≤ a then a * (a - 1) / 2 + b else b * (b - 1) / 2 + a
def gc_J (c : Nat) : Nat := Nat.land (Nat.shiftRight 0x4444333221 (Nat.mul 4 c)) 15
def gc_I (c : Nat) : Nat := Nat.land (Nat.shiftRight 0x3210210100 (Nat.mul 4 c)) 15
noncomputable def gc_rs (r p : Nat) : Nat := Nat.rec (motive := fun _ => Nat) r (fun p ih => ih / (p + 1)) p
noncomputable def gc_nm (r p : Nat) : Nat → Nat := Nat.rec (motive := fun _ => Nat → Nat) (fun _ => 0) (fun p ih i => if i = gc_rs r p % (p + 1) then p else if i = p then ih (gc_rs r p % (p + 1)) else ih i) p
noncomputable def gc_xc (n r c : Nat) : Nat := gc_cn (gc_nm r n (gc_I c)) (gc_nm r n (gc_J c))
def gc_yt (n s r u : Nat) : Nat := Nat.land (Nat.shiftRight (gc_YT n s) (Nat.add (Nat.mul 15 r) (Nat.mul 3 u))) 7
def gc_yc (n r c : Nat) : Nat := gc_cn (gc_yt n n r (gc_I c)) (gc_yt n n r (gc_J c))
def gc_L (n g : Nat) : Nat := Nat.land (Nat.shiftRight (gc_LT n) (Nat.mul 10 g)) 1023
def gc_sg (n r : Nat) : Nat := Nat.land (Nat.shiftRight (gc_SG n) (Nat.mul 7 r)) 127
def gc_ta (n r : Nat) : Nat := Nat.land (Nat.shiftRight (gc_TA n) (Nat.mul 7 r)) 127
noncomputable def gc_im (f : Nat → Nat) (g c : Nat) : Nat := Nat.rec (motive := fun _ => Nat) 0 (fun c ih => bif Nat.testBit g c then Nat.lor ih (Nat.pow 2 (f c)) else ih) c
noncomputable def gc_ix (n g r : Nat) : Nat := gc_im (gc_xc n r) g (gc_C n)
noncomputable def gc_iy (n g r : Nat) : Nat := gc_im (gc_yc n r) g (gc_C n)
noncomputable def gc_mn (f : Nat → Nat) (b k : Nat) : Nat := Nat.rec (motive := fun _ => Nat) b (fun r ih => bif Nat.ble ih (f r) then ih else f r) k
noncomputable def gc_kc (f : Nat → Nat) (g k : Nat) : Nat := Nat.rec (motive := fun _ => Nat) 0 (fun r ih => bif Nat.beq (f r) g then Nat.add ih 1 else ih) k
noncomputable def gc_st (f : Nat → Nat) (k : Nat) : Nat := Nat.rec (motive := fun _ => Nat) 0 (fun r ih => Nat.lor ih (Nat.pow 2 (f r))) k
noncomputable def gc_ck (n R : Nat) (f : Nat → Nat → Nat) (g : Nat) : Bool :=
  and (Nat.ble (gc_L n g) g) (and (Nat.beq (gc_L n (gc_L n g)) (gc_L n g)) (and (Nat.beq (gc_mn (f g) g R) (gc_L n g)) (and (Nat.beq (gc_kc (f g) g R) (gc_kc (f (gc_L n g)) (gc_L n g) R)) (and (Nat.beq (gc_st (f g) R) (gc_st (f (gc_L n g)) R)) (and (Nat.testBit (gc_st (f g) R) g) (bif Nat.beq (gc_L n g) g then gc_all (fun r => Nat.beq (gc_L n (f g r)) g) R else true))))))
def gc_f5 (g r : Nat) : Nat := Nat.lor (Nat.land (Nat.shiftRight gc_LO (Nat.add (Nat.mul 320 r) (Nat.mul 10 (Nat.mod g 32)))) 1023) (Nat.land (Nat.shiftRight gc_HI (Nat.add (Nat.mul 320 r) (Nat.mul 10 (Nat.div g 32)))) 1023)
/-! lengthen -/
noncomputable def gc_fl (n s : Nat) : Nat := Nat.rec (motive := fun _ => Nat) 1 (fun s ih => ih * (n - s)) s
noncomputable def gc_fr (n s rv : Nat) : Nat → Bool := gc_all (fun u => not (Nat.beq (gc_yt n s (rv / n) u) (rv % n)))
noncomputable def gc_mo (n s rv : Nat) : Nat := Nat.rec (motive := fun _ => Nat) 0 (fun rv ih => bif gc_fr n s rv s then Nat.add ih 1 else ih) rv
/-! connected -/
noncomputable def gc_wi (g j : Nat) (s i : Nat) : Nat := Nat.rec (motive := fun _ => Nat) s (fun i ih => bif and (Nat.testBit g (gc_cn i j)) (not (Nat.beq (Nat.land ih (Nat.lor (Nat.pow 2 i) (Nat.pow 2 j))) 0)) then Nat.lor ih (Nat.lor (Nat.pow 2 i) (Nat.pow 2 j)) else ih) i
noncomputable def gc_wo (g s j : Nat) : Nat := Nat.rec (motive := fun _ => Nat) s (fun j ih => gc_wi g (j + 1) ih (j + 1)) j
noncomputable def gc_wr (n g k : Nat) : Nat := Nat.rec (motive := fun _ => Nat) 1 (fun _ ih => gc_wo g ih (n - 1)) k
noncomputable def gc_vi (n g s k : Nat) : Nat := Nat.rec (motive := fun _ => Nat) s (fun k ih => bif and (not (Nat.beq (k / n) (k % n))) (and (Nat.testBit ih (k / n)) (Nat.testBit g (gc_cn (k / n) (k % n)))) then Nat.lor ih (Nat.pow 2 (k % n)) else ih) k
noncomputable def gc_vr (n g k : Nat) : Nat := Nat.rec (motive := fun _ => Nat) 1 (fun _ ih => gc_vi n g ih (n * n)) k
/-! the kernel's part -/
theorem gc_k1 : gc_all (fun m => gc_all (fun r => and (Nat.blt (gc_sg (m + 1) r) (gc_R (m + 1))) (and (Nat.blt (gc_ta (m + 1) r) (gc_R (m + 1))) (gc_all (fun c => and (and (Nat.blt (gc_xc (m + 1) r c) (gc_C (m + 1))) (Nat.blt (gc_yc (m + 1) r c) (gc_C (m + 1)))) (and (Nat.beq (gc_xc (m + 1) r c) (gc_yc (m + 1) (gc_sg (m + 1) r) c)) (Nat.beq (gc_yc (m + 1) r c) (gc_xc (m + 1) (gc_ta (m + 1) r) c)))) (gc_C (m + 1))))) (gc_R (m + 1))) 5 = true := by decide +kernel
theorem gc_k2 : gc_all (fun m => gc_all (fun r => gc_all (fun u => and (Nat.blt (gc_nm r (m + 1) u) (m + 1)) (Nat.blt (gc_yt (m + 1) (m + 1) r u) (m + 1))) (m + 1)) (gc_R (m + 1))) 5 = true := by decide +kernel
theorem gc_k3 : gc_all (fun m => gc_all (fun s => and (and (Nat.ble (gc_fl (m + 1) s) 120) (Nat.beq (gc_mo (m + 1) s (gc_fl (m + 1) s * (m + 1))) (gc_fl (m + 1) (s + 1)))) (gc_all (fun rv => (bif gc_fr (m + 1) s rv s then and (and (Nat.blt (gc_mo (m + 1) s rv) 120) (Nat.beq (gc_yt (m + 1) (s + 1) (gc_mo (m + 1) s rv) s) (rv % (m + 1)))) (gc_all (fun u => Nat.beq (gc_yt (m + 1) (s + 1) (gc_mo (m + 1) s rv) u) (gc_yt (m + 1) s (rv / (m + 1)) u)) s) else true)) (gc_fl (m + 1) s * (m + 1)))) (m + 1)) 5 = true := by decide +kernel
theorem gc_k4 : gc_all (fun m => gc_all (fun g => gc_ck (m + 1) (gc_R (m + 1)) (gc_iy (m + 1)) g) (gc_G (m + 1))) 4 = true := by decide +kernel
theorem gc_k5 : gc_all (fun m => gc_all (fun g => bif Nat.beq (gc_L (m + 1) g) g then and (Nat.beq (gc_kc (gc_ix (m + 1) g) g (gc_R (m + 1))) (gc_kc (gc_iy (m + 1) g) g (gc_R (m + 1)))) (not (xor (Nat.beq (gc_wr (m + 1) g m) (2 ^ (m + 1) - 1)) (Nat.beq (gc_vr (m + 1) g (m + 1)) (2 ^ (m + 1) - 1)))) else true) (gc_G (m + 1))) 5 = true := by decide +kernel
theorem gc_k6 : gc_all (fun r => gc_all (fun x => and (Nat.beq (gc_im (gc_yc 5 r) x 5) (Nat.land (Nat.shiftRight gc_LO (Nat.add (Nat.mul 320 r) (Nat.mul 10 x))) 1023)) (Nat.beq (gc_im (fun c => gc_yc 5 r (5 + c)) x 5) (Nat.land (Nat.shiftRight gc_HI (Nat.add (Nat.mul 320 r) (Nat.mul 10 x))) 1023))) 32) 120 = true := by decide +kernel
theorem gc_k7a : gc_all (fun k => gc_ck 5 120 gc_f5 (Nat.add 0 k)) 256 = true := by decide +kernel
theorem gc_k7b : gc_all (fun k => gc_ck 5 120 gc_f5 (Nat.add 256 k)) 256 = true := by decide +kernel
theorem gc_k7c : gc_all (fun k => gc_ck 5 120 gc_f5 (Nat.add 512 k)) 256 = true := by decide +kernel
theorem gc_k7d : gc_all (fun k => gc_ck 5 120 gc_f5 (Nat.add 768 k)) 256 = true := by decide +kernel

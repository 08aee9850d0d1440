theorem i_vc_connected {k : Nat} {u : SX} {v : SY} (I : i_Rel k u v) (hk : k + 3 ≤ 1537) : wpX_connected (fun r => wpY_connected (fun r' v' => r' = r ∧ i_Rel (k + 3) u v') v) u := by
  obtain ⟨n, h1, h5, hX, ⟨kn, b1, b2, b3, b4, rfl, hb, hkn⟩⟩ := I
  have hX' := hX
  obtain ⟨a1, a2, a3, a4, a5, a6, rfl, hd, h3, h45, h6⟩ := hX
  unfold wpX_connected wpY_connected
  dsimp only
  refine gc_xcc h1 h5 h6 ?_
  refine gc_yfind h1 h5 hb hkn (fun kn' d hd' => ?_)
  dsimp only
  exact gc_ycc h1 h5 hd' (gc_Llt h1 h5) ⟨rfl, n, h1, h5, hX', ⟨kn', b1, b2, d, b4, rfl, hb, Or.inr hd'⟩⟩

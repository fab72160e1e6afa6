theorem i_vc_run {k : Nat} {u : SX} {v : SY} (I : i_Rel k u v) (hk : k + 2 ≤ 1024) (v1 : Int32) : wpX_run (fun r u' => wpY_run (fun r' v' => r' = r ∧ i_Rel (k + 2) u' v') v v1) u v1 := by
  obtain ⟨T, n, oc, rs, rv, rf, op, bh, aT, aF, aB, sA, nt, ye, no, ou, co, pl, rfl, rfl, hR⟩ := I
  have ho := hR.1
  have htk := hR.2.1
  have e := hR.2.2.2.1
  have hz := dR_oc ho
  unfold wpX_run wpY_run
  refine br_c (fun z => ?_) (fun z => ?_)
  · rw [e, hz] at z
    obtain ⟨hX, hM⟩ := hR.2.2.2.2 z
    have h0 : dt_v n 0 := Or.inl (by
      rcases Nat.eq_zero_or_pos n with y | y
      · subst y; cases z
      · exact y)
    obtain ⟨r, rs', rv', rf', h1, h2⟩ := dl_run (dec := v1) (oc := oc) (op := op) (bh := bh) (sA := sA) ho z htk hX 100 0 (by omega) 0 0 0 0 0 (Nat.le_refl 0) h0
    refine ⟨101, h1 _ ?_⟩
    refine dy_prepare ho (fun _ nt' ye' no' ou' pl' hW => ?_) (fun h => absurd z h)
    exact br_f (by decide) ⟨101, h2 _ _ _ _ _ _ hW _ ⟨rfl, i_mk hR⟩⟩
  · rw [e, hz] at z
    exact dy_prepare ho (fun h => absurd h z) (fun _ pl => br_t rfl ⟨rfl, i_mk hR⟩)

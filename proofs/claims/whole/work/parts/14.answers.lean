/-! the answers of the queries -/
theorem i_vc_visited {k : Nat} {u : SX} {v : SY} (I : i_Rel k u v) (hk : k + 2 ≤ 1024) : wpX_visited (fun r => wpY_visited (fun r' v' => r' = r ∧ i_Rel (k + 2) u v') v) u := by
  obtain ⟨T, n, oc, rs, rv, rf, op, bh, aT, aF, aB, sA, nt, ye, no, ou, co, pl, rfl, rfl, hR⟩ := I
  have ho := hR.1
  have htk := hR.2.1
  have e := hR.2.2.2.1
  have hn := ho.1
  have hz := dR_oc ho
  unfold wpX_visited wpY_visited
  refine br_c (fun z => ?_) (fun z => ?_)
  · rw [e, hz] at z
    obtain ⟨hX, hM⟩ := hR.2.2.2.2 z
    refine ⟨n + 1, dx_vi hn ?_ n 0 (by omega)⟩
    refine dy_explore ho htk (fun _ nt ye no ou co' pl hM' => ?_) (fun h => absurd z h)
    refine br_f (by decide) ⟨n + 1, dy_vi hn ⟨?_, i_mk hR⟩ n 0 (by omega)⟩
    exact dr_congr n (fun k hk => by unfold dq_v; rw [dm_uniq hM hM' k (by omega)])
  · rw [e, hz] at z
    exact dy_explore ho htk (fun h => absurd h z) (fun _ pl => br_t rfl ⟨rfl, i_mk hR⟩)
theorem i_vc_surely {k : Nat} {u : SX} {v : SY} (I : i_Rel k u v) (hk : k + 2 ≤ 1024) (v1 : Int32) : wpX_surely (fun r => wpY_surely (fun r' v' => r' = r ∧ i_Rel (k + 2) u v') v v1) u v1 := by
  obtain ⟨T, n, oc, rs, rv, rf, op, bh, aT, aF, aB, sA, nt, ye, no, ou, co, pl, rfl, rfl, hR⟩ := I
  have ho := hR.1
  have htk := hR.2.1
  have e := hR.2.2.2.1
  have hn := ho.1
  have hz := dR_oc ho
  unfold wpX_surely wpY_surely
  refine br_c (fun z => ?_) (fun z => ?_)
  · rw [e, hz] at z
    obtain ⟨hX, hM⟩ := hR.2.2.2.2 z
    refine br_c (fun z1 => ?_) (fun z1 => ?_)
    · refine dy_explore ho htk (fun _ nt ye no ou co' pl hM' => ?_) (fun h => absurd z h)
      exact br_f (by decide) (br_t z1 ⟨rfl, i_mk hR⟩)
    · obtain ⟨j, hj, rfl⟩ := nI_of z1
      refine pk_lt j n (fun z2 => ⟨pk_in j 23 (by omega), ?_⟩) (fun z2 => ?_)
      · rw [nI_clamp hj]
        refine dx_all ?_
        refine dy_explore ho htk (fun _ nt ye no ou co' pl hM' => ?_) (fun h => absurd z h)
        refine br_f (by decide) (br_f z1 (br_f (nI_ge z2 (by omega)) ?_))
        refine dy_over (al := true) (by omega) ⟨?_, i_mk hR⟩
        rw [dm_uniq hM hM' j (by omega)]
      · refine dy_explore ho htk (fun _ nt ye no ou co' pl hM' => ?_) (fun h => absurd z h)
        exact br_f (by decide) (br_f z1 (br_t (nI_le z2 hj) ⟨rfl, i_mk hR⟩))
  · rw [e, hz] at z
    exact dy_explore ho htk (fun h => absurd h z) (fun _ pl => br_t rfl ⟨rfl, i_mk hR⟩)
theorem i_vc_perhaps {k : Nat} {u : SX} {v : SY} (I : i_Rel k u v) (hk : k + 2 ≤ 1024) (v1 : Int32) : wpX_perhaps (fun r => wpY_perhaps (fun r' v' => r' = r ∧ i_Rel (k + 2) u v') v v1) u v1 := by
  obtain ⟨T, n, oc, rs, rv, rf, op, bh, aT, aF, aB, sA, nt, ye, no, ou, co, pl, rfl, rfl, hR⟩ := I
  have ho := hR.1
  have htk := hR.2.1
  have e := hR.2.2.2.1
  have hn := ho.1
  have hz := dR_oc ho
  unfold wpX_perhaps wpY_perhaps
  refine br_c (fun z => ?_) (fun z => ?_)
  · rw [e, hz] at z
    obtain ⟨hX, hM⟩ := hR.2.2.2.2 z
    refine br_c (fun z1 => ?_) (fun z1 => ?_)
    · refine dy_explore ho htk (fun _ nt ye no ou co' pl hM' => ?_) (fun h => absurd z h)
      exact br_f (by decide) (br_t z1 ⟨rfl, i_mk hR⟩)
    · obtain ⟨j, hj, rfl⟩ := nI_of z1
      refine pk_lt j n (fun z2 => ⟨pk_in j 23 (by omega), ?_⟩) (fun z2 => ?_)
      · rw [nI_clamp hj]
        refine dx_some ?_
        refine dy_explore ho htk (fun _ nt ye no ou co' pl hM' => ?_) (fun h => absurd z h)
        refine br_f (by decide) (br_f z1 (br_f (nI_ge z2 (by omega)) ?_))
        refine dy_over (al := false) (by omega) ⟨?_, i_mk hR⟩
        rw [dm_uniq hM hM' j (by omega)]
      · refine dy_explore ho htk (fun _ nt ye no ou co' pl hM' => ?_) (fun h => absurd z h)
        exact br_f (by decide) (br_f z1 (br_t (nI_le z2 hj) ⟨rfl, i_mk hR⟩))
  · rw [e, hz] at z
    exact dy_explore ho htk (fun h => absurd h z) (fun _ pl => br_t rfl ⟨rfl, i_mk hR⟩)
theorem i_vc_ends {k : Nat} {u : SX} {v : SY} (I : i_Rel k u v) (hk : k + 2 ≤ 1024) : wpX_ends (fun r => wpY_ends (fun r' v' => r' = r ∧ i_Rel (k + 2) u v') v) u := by
  obtain ⟨T, n, oc, rs, rv, rf, op, bh, aT, aF, aB, sA, nt, ye, no, ou, co, pl, rfl, rfl, hR⟩ := I
  have ho := hR.1
  have htk := hR.2.1
  have e := hR.2.2.2.1
  have hn := ho.1
  have hz := dR_oc ho
  unfold wpX_ends wpY_ends
  refine br_c (fun z => ?_) (fun z => ?_)
  · rw [e, hz] at z
    obtain ⟨hX, hM⟩ := hR.2.2.2.2 z
    refine br_c (fun z1 => ?_) (fun z1 => ?_)
    · refine dy_explore ho htk (fun _ nt ye no ou co' pl hM' => ?_) (fun h => absurd z h)
      rw [dm_uniq hM hM' 22 (by decide)] at z1
      exact br_f (by decide) (br_t z1 ⟨rfl, i_mk hR⟩)
    · refine dy_explore ho htk (fun _ nt ye no ou co' pl hM' => ?_) (fun h => absurd z h)
      rw [dm_uniq hM hM' 22 (by decide)] at z1
      exact br_f (by decide) (br_f z1 ⟨rfl, i_mk hR⟩)
  · rw [e, hz] at z
    exact dy_explore ho htk (fun h => absurd h z) (fun _ pl => br_t rfl ⟨rfl, i_mk hR⟩)
theorem i_vc_surelyAtEnd {k : Nat} {u : SX} {v : SY} (I : i_Rel k u v) (hk : k + 2 ≤ 1024) : wpX_surelyAtEnd (fun r => wpY_surelyAtEnd (fun r' v' => r' = r ∧ i_Rel (k + 2) u v') v) u := by
  obtain ⟨T, n, oc, rs, rv, rf, op, bh, aT, aF, aB, sA, nt, ye, no, ou, co, pl, rfl, rfl, hR⟩ := I
  have ho := hR.1
  have htk := hR.2.1
  have e := hR.2.2.2.1
  have hn := ho.1
  have hz := dR_oc ho
  unfold wpX_surelyAtEnd wpY_surelyAtEnd
  refine br_c (fun z => ?_) (fun z => ?_)
  · rw [e, hz] at z
    obtain ⟨hX, hM⟩ := hR.2.2.2.2 z
    refine dx_all ?_
    refine dy_explore ho htk (fun _ nt ye no ou co' pl hM' => ?_) (fun h => absurd z h)
    refine br_f (by decide) ?_
    refine dy_over (k := 22) (al := true) (by decide) ⟨?_, i_mk hR⟩
    rw [dm_uniq hM hM' 22 (by decide)]
  · rw [e, hz] at z
    exact dy_explore ho htk (fun h => absurd h z) (fun _ pl => br_t rfl ⟨rfl, i_mk hR⟩)
theorem i_vc_perhapsAtEnd {k : Nat} {u : SX} {v : SY} (I : i_Rel k u v) (hk : k + 2 ≤ 1024) : wpX_perhapsAtEnd (fun r => wpY_perhapsAtEnd (fun r' v' => r' = r ∧ i_Rel (k + 2) u v') v) u := by
  obtain ⟨T, n, oc, rs, rv, rf, op, bh, aT, aF, aB, sA, nt, ye, no, ou, co, pl, rfl, rfl, hR⟩ := I
  have ho := hR.1
  have htk := hR.2.1
  have e := hR.2.2.2.1
  have hn := ho.1
  have hz := dR_oc ho
  unfold wpX_perhapsAtEnd wpY_perhapsAtEnd
  refine br_c (fun z => ?_) (fun z => ?_)
  · rw [e, hz] at z
    obtain ⟨hX, hM⟩ := hR.2.2.2.2 z
    refine dx_some ?_
    refine dy_explore ho htk (fun _ nt ye no ou co' pl hM' => ?_) (fun h => absurd z h)
    refine br_f (by decide) ?_
    refine dy_over (k := 22) (al := false) (by decide) ⟨?_, i_mk hR⟩
    rw [dm_uniq hM hM' 22 (by decide)]
  · rw [e, hz] at z
    exact dy_explore ho htk (fun h => absurd h z) (fun _ pl => br_t rfl ⟨rfl, i_mk hR⟩)
theorem i_vc_badUses {k : Nat} {u : SX} {v : SY} (I : i_Rel k u v) (hk : k + 2 ≤ 1024) : wpX_badUses (fun r => wpY_badUses (fun r' v' => r' = r ∧ i_Rel (k + 2) u v') v) u := by
  obtain ⟨T, n, oc, rs, rv, rf, op, bh, aT, aF, aB, sA, nt, ye, no, ou, co, pl, rfl, rfl, hR⟩ := I
  have ho := hR.1
  have htk := hR.2.1
  have e := hR.2.2.2.1
  have hn := ho.1
  have hz := dR_oc ho
  unfold wpX_badUses wpY_badUses
  refine br_c (fun z => ?_) (fun z => ?_)
  · rw [e, hz] at z
    obtain ⟨hX, hM⟩ := hR.2.2.2.2 z
    refine ⟨n + 1, dx_bu hn ho.2.1 ?_ n 0 (by omega)⟩
    refine dy_explore ho htk (fun _ nt ye no ou co' pl hM' => ?_) (fun h => absurd z h)
    refine ⟨16 * n + 1, dy_bu hn ho.2.1 ⟨?_, i_mk hR⟩ (16 * n) 0 (by omega)⟩
    rw [dq_be hn]
    exact dr_congr n (fun k hk => by unfold dq_b; rw [dm_uniq hM hM' k (by omega)])
  · rw [e, hz] at z
    exact dy_explore ho htk (fun h => absurd h z) (fun _ pl => ⟨1, dy_bu0 ⟨rfl, i_mk hR⟩⟩)
theorem i_vc_secondSets {k : Nat} {u : SX} {v : SY} (I : i_Rel k u v) (hk : k + 2 ≤ 1024) : wpX_secondSets (fun r => wpY_secondSets (fun r' v' => r' = r ∧ i_Rel (k + 2) u v') v) u := by
  obtain ⟨T, n, oc, rs, rv, rf, op, bh, aT, aF, aB, sA, nt, ye, no, ou, co, pl, rfl, rfl, hR⟩ := I
  have ho := hR.1
  have htk := hR.2.1
  have e := hR.2.2.2.1
  have hn := ho.1
  have hz := dR_oc ho
  unfold wpX_secondSets wpY_secondSets
  refine br_c (fun z => ?_) (fun z => ?_)
  · rw [e, hz] at z
    obtain ⟨hX, hM⟩ := hR.2.2.2.2 z
    refine ⟨n + 1, dx_ss hn ho.2.1 ?_ n 0 (by omega)⟩
    refine dy_explore ho htk (fun _ nt ye no ou co' pl hM' => ?_) (fun h => absurd z h)
    refine ⟨16 * n + 1, dy_ss hn ho.2.1 ⟨?_, i_mk hR⟩ (16 * n) 0 (by omega)⟩
    rw [dq_se hn]
    exact dr_congr n (fun k hk => by unfold dq_s; rw [dm_uniq hM hM' k (by omega)])
  · rw [e, hz] at z
    exact dy_explore ho htk (fun h => absurd h z) (fun _ pl => ⟨1, dy_ss0 ⟨rfl, i_mk hR⟩⟩)

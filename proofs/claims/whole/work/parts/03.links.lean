def dt_w (L : Nat → Nat × Nat × Nat) (p : Nat) (v : Nat × Nat × Nat) : Nat → Nat × Nat × Nat := fun j => if j = p then v else L j
theorem dt_wS {L : Nat → Nat × Nat × Nat} {p : Nat} {v : Nat × Nat × Nat} : dt_w L p v p = v := if_pos rfl
theorem dt_wN {L : Nat → Nat × Nat × Nat} {p j : Nat} {v : Nat × Nat × Nat} (h : j ≠ p) : dt_w L p v j = L j := if_neg h
def dt_ls (T : Nat → Nat) (n : Nat) (L : Nat → Nat × Nat × Nat) (k : Nat) : Nat → Nat × Nat × Nat :=
  if T k = 4 then (dt_w (dt_w L (k + 1) ((dt_q T n 1 (k + 1)), (dt_q T n 1 (k + 1)), (L k).2.2)) (dt_q T n 1 (k + 1)) ((L k).1, (L k).1, (L k).2.2)) else
  if T k = 5 then (dt_w (dt_w (dt_w L (k + 1) ((dt_q T n 1 (k + 1)), (dt_q T n 2 (k + 1)), 22)) (dt_q T n 1 (k + 1)) ((L k).1, (L k).1, (L k).2.2)) (dt_q T n 2 (k + 1)) ((L k).1, (L k).1, (L k).2.2)) else
  if T k = 6 then (dt_w (dt_w L (k + 1) ((dt_q T n 1 (k + 1)), (L k).1, 22)) (dt_q T n 1 (k + 1)) (k, k, (L k).1)) else
  if T k = 19 then (dt_w L (k + 1) ((L k).2.1, (L k).1, 22)) else
  if T k = 20 then (dt_w (dt_w L (k + 1) ((dt_q T n 1 (k + 1)), (L k).2.1, 22)) (dt_q T n 1 (k + 1)) ((L k).1, (L k).2.1, 22)) else
  if T k = 21 then (dt_w (dt_w L (k + 1) ((L k).1, (dt_q T n 1 (k + 1)), 22)) (dt_q T n 1 (k + 1)) ((L k).1, (L k).2.1, 22)) else
  if T k = 22 then (dt_w (dt_w (dt_w L (k + 1) ((dt_q T n 1 (k + 1)), (dt_q T n 2 (k + 1)), 22)) (dt_q T n 1 (k + 1)) ((L k).1, (L k).2.1, 22)) (dt_q T n 2 (k + 1)) ((L k).1, (L k).2.1, 22)) else
  L
theorem dt_ls4 {T : Nat → Nat} {n : Nat} {L : Nat → Nat × Nat × Nat} {k : Nat} (h : T k = 4) : dt_ls T n L k = (dt_w (dt_w L (k + 1) ((dt_q T n 1 (k + 1)), (dt_q T n 1 (k + 1)), (L k).2.2)) (dt_q T n 1 (k + 1)) ((L k).1, (L k).1, (L k).2.2)) := by simp [dt_ls, h]
theorem dt_ls5 {T : Nat → Nat} {n : Nat} {L : Nat → Nat × Nat × Nat} {k : Nat} (h : T k = 5) : dt_ls T n L k = (dt_w (dt_w (dt_w L (k + 1) ((dt_q T n 1 (k + 1)), (dt_q T n 2 (k + 1)), 22)) (dt_q T n 1 (k + 1)) ((L k).1, (L k).1, (L k).2.2)) (dt_q T n 2 (k + 1)) ((L k).1, (L k).1, (L k).2.2)) := by simp [dt_ls, h]
theorem dt_ls6 {T : Nat → Nat} {n : Nat} {L : Nat → Nat × Nat × Nat} {k : Nat} (h : T k = 6) : dt_ls T n L k = (dt_w (dt_w L (k + 1) ((dt_q T n 1 (k + 1)), (L k).1, 22)) (dt_q T n 1 (k + 1)) (k, k, (L k).1)) := by simp [dt_ls, h]
theorem dt_ls19 {T : Nat → Nat} {n : Nat} {L : Nat → Nat × Nat × Nat} {k : Nat} (h : T k = 19) : dt_ls T n L k = (dt_w L (k + 1) ((L k).2.1, (L k).1, 22)) := by simp [dt_ls, h]
theorem dt_ls20 {T : Nat → Nat} {n : Nat} {L : Nat → Nat × Nat × Nat} {k : Nat} (h : T k = 20) : dt_ls T n L k = (dt_w (dt_w L (k + 1) ((dt_q T n 1 (k + 1)), (L k).2.1, 22)) (dt_q T n 1 (k + 1)) ((L k).1, (L k).2.1, 22)) := by simp [dt_ls, h]
theorem dt_ls21 {T : Nat → Nat} {n : Nat} {L : Nat → Nat × Nat × Nat} {k : Nat} (h : T k = 21) : dt_ls T n L k = (dt_w (dt_w L (k + 1) ((L k).1, (dt_q T n 1 (k + 1)), 22)) (dt_q T n 1 (k + 1)) ((L k).1, (L k).2.1, 22)) := by simp [dt_ls, h]
theorem dt_ls22 {T : Nat → Nat} {n : Nat} {L : Nat → Nat × Nat × Nat} {k : Nat} (h : T k = 22) : dt_ls T n L k = (dt_w (dt_w (dt_w L (k + 1) ((dt_q T n 1 (k + 1)), (dt_q T n 2 (k + 1)), 22)) (dt_q T n 1 (k + 1)) ((L k).1, (L k).2.1, 22)) (dt_q T n 2 (k + 1)) ((L k).1, (L k).2.1, 22)) := by simp [dt_ls, h]
theorem dt_ls0 {T : Nat → Nat} {n : Nat} {L : Nat → Nat × Nat × Nat} {k : Nat} (h : dt_ar (T k) = 0) : dt_ls T n L k = L := by
  have h2 : T k ≠ 4 ∧ T k ≠ 5 ∧ T k ≠ 6 ∧ T k ≠ 19 ∧ T k ≠ 20 ∧ T k ≠ 21 ∧ T k ≠ 22 := by
    refine ⟨?_, ?_, ?_, ?_, ?_, ?_, ?_⟩ <;> (intro z; rw [z] at h; exact absurd h (by decide))
  simp [dt_ls, h2]
def dt_lk (T : Nat → Nat) (n : Nat) : Nat → Nat → Nat × Nat × Nat
  | 0 => fun _ => (22, 22, 22)
  | k + 1 => dt_ls T n (dt_lk T n k) k
theorem dt_tc : ∀ t, t < 32 → t = 4 ∨ t = 5 ∨ t = 6 ∨ t = 19 ∨ t = 20 ∨ t = 21 ∨ t = 22 ∨ dt_ar t = 0 := by decide +kernel
theorem dt_c1 {T : Nat → Nat} {n k : Nat} (ho : dt_ok T n) (hc : dt_st T n = []) (hk : k < n) (h : 0 < dt_ar (T k)) : k + 1 < n ∧ (dt_kd (T k))[0]? = some (dt_c (T (k + 1))) := by
  have := dt_ch ho hc hk h
  rw [dt_q0] at this
  exact this.2
theorem dt_wr0 {T : Nat → Nat} {n k j : Nat} (h : dt_ar (T k) = 0) (w : dt_wr T n (k + 1) j) : dt_wr T n k j := by
  rcases w with w | ⟨i, hi, _⟩
  · exact w
  · omega
theorem dt_wr1 {T : Nat → Nat} {n k j : Nat} (h : dt_ar (T k) = 1) (w : dt_wr T n (k + 1) j) : dt_wr T n k j ∨ j = k + 1 := by
  rcases w with w | ⟨i, hi, e⟩
  · exact Or.inl w
  · obtain rfl : i = 0 := by omega
    rw [dt_q0] at e
    exact Or.inr e
theorem dt_wr2 {T : Nat → Nat} {n k j : Nat} (h : dt_ar (T k) = 2) (w : dt_wr T n (k + 1) j) : (dt_wr T n k j ∨ j = k + 1) ∨ j = dt_q T n 1 (k + 1) := by
  rcases w with w | ⟨i, hi, e⟩
  · exact Or.inl (Or.inl w)
  · have : i = 0 ∨ i = 1 := by omega
    rcases this with rfl | rfl
    · rw [dt_q0] at e
      exact Or.inl (Or.inr e)
    · exact Or.inr e
theorem dt_wr3 {T : Nat → Nat} {n k j : Nat} (h : dt_ar (T k) = 3) (w : dt_wr T n (k + 1) j) : ((dt_wr T n k j ∨ j = k + 1) ∨ j = dt_q T n 1 (k + 1)) ∨ j = dt_q T n 2 (k + 1) := by
  rcases w with w | ⟨i, hi, e⟩
  · exact Or.inl (Or.inl (Or.inl w))
  · have : i = 0 ∨ i = 1 ∨ i = 2 := by omega
    rcases this with rfl | rfl | rfl
    · rw [dt_q0] at e
      exact Or.inl (Or.inl (Or.inr e))
    · exact Or.inl (Or.inr e)
    · exact Or.inr e
/-! the links' values: places of tokens, or the end; at a statement both roads are one -/
def dt_v (n x : Nat) : Prop := x < n ∨ x = 22
def dt_kv (T : Nat → Nat) (n j : Nat) (v : Nat × Nat × Nat) : Prop := dt_v n v.1 ∧ dt_v n v.2.1 ∧ dt_v n v.2.2 ∧ (dt_c (T j) = false → v.1 = v.2.1)
theorem dt_kw {T : Nat → Nat} {n : Nat} {D : Nat → Prop} {L : Nat → Nat × Nat × Nat} {p : Nat} {v : Nat × Nat × Nat} (h : ∀ j, D j → dt_kv T n j (L j)) (hv : dt_kv T n p v) : ∀ j, (D j ∨ j = p) → dt_kv T n j (dt_w L p v j) := by
  intro j hj
  by_cases e : j = p
  · subst e; rw [dt_wS]; exact hv
  · rw [dt_wN e]
    rcases hj with hj | hj
    · exact h j hj
    · exact absurd hj e
theorem dt_lko {T : Nat → Nat} {n : Nat} (ho : dt_ok T n) (hc : dt_st T n = []) : ∀ k, k ≤ n → ∀ j, dt_wr T n k j → dt_kv T n j (dt_lk T n k j) := by
  intro k
  induction k with
  | zero => intro _ j _; exact ⟨Or.inr rfl, Or.inr rfl, Or.inr rfl, fun _ => rfl⟩
  | succ k ih =>
    intro hk j hj
    have ih' := ih (by omega)
    have hk' : k < n := by omega
    obtain ⟨v1, v2, v3, v4⟩ := ih' k (dt_wrk ho hk')
    have vk : dt_v n k := Or.inl hk'
    have v22 : dt_v n 22 := Or.inr rfl
    show dt_kv T n j (dt_ls T n (dt_lk T n k) k j)
    rcases dt_tc (T k) (ho.2.1 k) with h | h | h | h | h | h | h | h
    · have ar : dt_ar (T k) = 2 := by rw [h]; rfl
      have ek : dt_kd (T k) = [false, false] := by rw [h]; rfl
      obtain ⟨c0, k0⟩ := dt_c1 ho hc hk' (by omega)
      obtain ⟨_, c1, k1⟩ := dt_ch ho hc (i := 1) hk' (by omega)
      have w1 : dt_v n (dt_q T n 1 (k + 1)) := Or.inl c1
      rw [dt_ls4 h]
      exact (dt_kw (dt_kw ih' (p := (k + 1)) (v := (dt_q T n 1 (k + 1), dt_q T n 1 (k + 1), (dt_lk T n k k).2.2)) ⟨w1, w1, v3, fun _ => rfl⟩) (p := (dt_q T n 1 (k + 1))) (v := ((dt_lk T n k k).1, (dt_lk T n k k).1, (dt_lk T n k k).2.2)) ⟨v1, v1, v3, fun _ => rfl⟩) j (dt_wr2 ar hj)
    · have ar : dt_ar (T k) = 3 := by rw [h]; rfl
      have ek : dt_kd (T k) = [true, false, false] := by rw [h]; rfl
      obtain ⟨c0, k0⟩ := dt_c1 ho hc hk' (by omega)
      obtain ⟨_, c1, k1⟩ := dt_ch ho hc (i := 1) hk' (by omega)
      have w1 : dt_v n (dt_q T n 1 (k + 1)) := Or.inl c1
      obtain ⟨_, c2, k2⟩ := dt_ch ho hc (i := 2) hk' (by omega)
      have w2 : dt_v n (dt_q T n 2 (k + 1)) := Or.inl c2
      rw [dt_ls5 h]
      exact (dt_kw (dt_kw (dt_kw ih' (p := (k + 1)) (v := (dt_q T n 1 (k + 1), dt_q T n 2 (k + 1), 22)) ⟨w1, w2, v22, fun z => (by rw [ek] at k0; rw [z] at k0; cases k0)⟩) (p := (dt_q T n 1 (k + 1))) (v := ((dt_lk T n k k).1, (dt_lk T n k k).1, (dt_lk T n k k).2.2)) ⟨v1, v1, v3, fun _ => rfl⟩) (p := (dt_q T n 2 (k + 1))) (v := ((dt_lk T n k k).1, (dt_lk T n k k).1, (dt_lk T n k k).2.2)) ⟨v1, v1, v3, fun _ => rfl⟩) j (dt_wr3 ar hj)
    · have ar : dt_ar (T k) = 2 := by rw [h]; rfl
      have ek : dt_kd (T k) = [true, false] := by rw [h]; rfl
      obtain ⟨c0, k0⟩ := dt_c1 ho hc hk' (by omega)
      obtain ⟨_, c1, k1⟩ := dt_ch ho hc (i := 1) hk' (by omega)
      have w1 : dt_v n (dt_q T n 1 (k + 1)) := Or.inl c1
      rw [dt_ls6 h]
      exact (dt_kw (dt_kw ih' (p := (k + 1)) (v := (dt_q T n 1 (k + 1), (dt_lk T n k k).1, 22)) ⟨w1, v1, v22, fun z => (by rw [ek] at k0; rw [z] at k0; cases k0)⟩) (p := (dt_q T n 1 (k + 1))) (v := (k, k, (dt_lk T n k k).1)) ⟨vk, vk, v1, fun _ => rfl⟩) j (dt_wr2 ar hj)
    · have ar : dt_ar (T k) = 1 := by rw [h]; rfl
      have ek : dt_kd (T k) = [true] := by rw [h]; rfl
      obtain ⟨c0, k0⟩ := dt_c1 ho hc hk' (by omega)
      rw [dt_ls19 h]
      exact (dt_kw ih' (p := (k + 1)) (v := ((dt_lk T n k k).2.1, (dt_lk T n k k).1, 22)) ⟨v2, v1, v22, fun z => (by rw [ek] at k0; rw [z] at k0; cases k0)⟩) j (dt_wr1 ar hj)
    · have ar : dt_ar (T k) = 2 := by rw [h]; rfl
      have ek : dt_kd (T k) = [true, true] := by rw [h]; rfl
      obtain ⟨c0, k0⟩ := dt_c1 ho hc hk' (by omega)
      obtain ⟨_, c1, k1⟩ := dt_ch ho hc (i := 1) hk' (by omega)
      have w1 : dt_v n (dt_q T n 1 (k + 1)) := Or.inl c1
      rw [dt_ls20 h]
      exact (dt_kw (dt_kw ih' (p := (k + 1)) (v := (dt_q T n 1 (k + 1), (dt_lk T n k k).2.1, 22)) ⟨w1, v2, v22, fun z => (by rw [ek] at k0; rw [z] at k0; cases k0)⟩) (p := (dt_q T n 1 (k + 1))) (v := ((dt_lk T n k k).1, (dt_lk T n k k).2.1, 22)) ⟨v1, v2, v22, fun z => (by rw [ek] at k1; rw [z] at k1; cases k1)⟩) j (dt_wr2 ar hj)
    · have ar : dt_ar (T k) = 2 := by rw [h]; rfl
      have ek : dt_kd (T k) = [true, true] := by rw [h]; rfl
      obtain ⟨c0, k0⟩ := dt_c1 ho hc hk' (by omega)
      obtain ⟨_, c1, k1⟩ := dt_ch ho hc (i := 1) hk' (by omega)
      have w1 : dt_v n (dt_q T n 1 (k + 1)) := Or.inl c1
      rw [dt_ls21 h]
      exact (dt_kw (dt_kw ih' (p := (k + 1)) (v := ((dt_lk T n k k).1, dt_q T n 1 (k + 1), 22)) ⟨v1, w1, v22, fun z => (by rw [ek] at k0; rw [z] at k0; cases k0)⟩) (p := (dt_q T n 1 (k + 1))) (v := ((dt_lk T n k k).1, (dt_lk T n k k).2.1, 22)) ⟨v1, v2, v22, fun z => (by rw [ek] at k1; rw [z] at k1; cases k1)⟩) j (dt_wr2 ar hj)
    · have ar : dt_ar (T k) = 3 := by rw [h]; rfl
      have ek : dt_kd (T k) = [true, true, true] := by rw [h]; rfl
      obtain ⟨c0, k0⟩ := dt_c1 ho hc hk' (by omega)
      obtain ⟨_, c1, k1⟩ := dt_ch ho hc (i := 1) hk' (by omega)
      have w1 : dt_v n (dt_q T n 1 (k + 1)) := Or.inl c1
      obtain ⟨_, c2, k2⟩ := dt_ch ho hc (i := 2) hk' (by omega)
      have w2 : dt_v n (dt_q T n 2 (k + 1)) := Or.inl c2
      rw [dt_ls22 h]
      exact (dt_kw (dt_kw (dt_kw ih' (p := (k + 1)) (v := (dt_q T n 1 (k + 1), dt_q T n 2 (k + 1), 22)) ⟨w1, w2, v22, fun z => (by rw [ek] at k0; rw [z] at k0; cases k0)⟩) (p := (dt_q T n 1 (k + 1))) (v := ((dt_lk T n k k).1, (dt_lk T n k k).2.1, 22)) ⟨v1, v2, v22, fun z => (by rw [ek] at k1; rw [z] at k1; cases k1)⟩) (p := (dt_q T n 2 (k + 1))) (v := ((dt_lk T n k k).1, (dt_lk T n k k).2.1, 22)) ⟨v1, v2, v22, fun z => (by rw [ek] at k2; rw [z] at k2; cases k2)⟩) j (dt_wr3 ar hj)
    · rw [dt_ls0 h]
      exact ih' j (dt_wr0 h hj)
def dt_L (T : Nat → Nat) (n : Nat) : Nat → Nat × Nat × Nat := dt_lk T n n
theorem dt_Lok {T : Nat → Nat} {n : Nat} (ho : dt_ok T n) (hc : dt_st T n = []) {j : Nat} (hj : j < n) : dt_kv T n j (dt_L T n j) := dt_lko ho hc n (Nat.le_refl n) j (dt_wrn ho hj)
def dt_nx (T : Nat → Nat) (L : Nat → Nat × Nat × Nat) (k : Nat) (o : Bool) : Nat :=
  if 0 < dt_ar (T k) then k + 1 else if T k = 1 then (L k).2.2 else if T k = 16 then (L k).1 else if T k = 17 then (L k).2.1 else if o = true then (L k).1 else (L k).2.1
theorem dt_nxv {T : Nat → Nat} {n : Nat} (ho : dt_ok T n) (hc : dt_st T n = []) {k : Nat} (hk : k < n) (o : Bool) : dt_v n (dt_nx T (dt_L T n) k o) := by
  obtain ⟨v1, v2, v3, _⟩ := dt_Lok ho hc hk
  unfold dt_nx
  split
  · rename_i h
    exact Or.inl (dt_c1 ho hc hk h).1
  · split
    · exact v3
    · split
      · exact v1
      · split
        · exact v2
        · split
          · exact v1
          · exact v2
theorem dt_v23 {n x : Nat} (hn : n ≤ 22) (h : dt_v n x) : x < 23 := by
  rcases h with h | h <;> omega

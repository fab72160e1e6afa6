def dt_kd (t : Nat) : List Bool :=
  if t = 4 then [false, false] else if t = 5 then [true, false, false] else if t = 6 then [true, false]
  else if t = 19 then [true] else if t = 20 then [true, true] else if t = 21 then [true, true]
  else if t = 22 then [true, true, true] else []
def dt_ar (t : Nat) : Nat := (dt_kd t).length
def dt_c (t : Nat) : Bool := decide (16 ≤ t)
def dt_st (T : Nat → Nat) : Nat → List Bool
  | 0 => [false]
  | j + 1 => dt_kd (T j) ++ (dt_st T j).tail
def dt_ok (T : Nat → Nat) (n : Nat) : Prop := n ≤ 22 ∧ (∀ k, T k < 32) ∧ (∀ j, j < n → ∃ r, dt_st T j = dt_c (T j) :: r)
theorem dt_ar_le : ∀ t, t < 32 → dt_ar t ≤ 3 := by decide +kernel
theorem dt_st_congr {T T' : Nat → Nat} : ∀ j, (∀ i, i < j → T i = T' i) → dt_st T j = dt_st T' j := by
  intro j
  induction j with
  | zero => intro _; rfl
  | succ j ih =>
    intro h
    show dt_kd (T j) ++ (dt_st T j).tail = dt_kd (T' j) ++ (dt_st T' j).tail
    rw [h j (by omega), ih (fun i hi => h i (by omega))]
theorem dt_st_len {T : Nat → Nat} (hT : ∀ k, T k < 32) : ∀ j, (dt_st T j).length ≤ 1 + 2 * j := by
  intro j
  induction j with
  | zero => exact Nat.le_refl _
  | succ j ih =>
    show (dt_kd (T j) ++ (dt_st T j).tail).length ≤ _
    have h1 : (dt_kd (T j)).length ≤ 3 := dt_ar_le (T j) (hT j)
    rw [List.length_append, List.length_tail]
    by_cases h0 : (dt_st T j).length = 0
    · omega
    · omega
/-! the scan -/
def dt_sc (T : Nat → Nat) : Nat → Nat → Nat → Nat
  | 0, _, p => p
  | _ + 1, 0, p => p
  | f + 1, o + 1, p => dt_sc T f (o + dt_ar (T p)) (p + 1)
def dt_q (T : Nat → Nat) (n o p : Nat) : Nat := dt_sc T (n - p) o p
theorem dt_q0 (T : Nat → Nat) (n p : Nat) : dt_q T n 0 p = p := by
  unfold dt_q
  cases n - p <;> rfl
theorem dt_qe {T : Nat → Nat} {n p : Nat} (o : Nat) (h : n ≤ p) : dt_q T n o p = p := by
  unfold dt_q
  rw [show n - p = 0 by omega]
  cases o <;> rfl
theorem dt_qs {T : Nat → Nat} {n p : Nat} (o : Nat) (h : p < n) : dt_q T n (o + 1) p = dt_q T n (o + dt_ar (T p)) (p + 1) := by
  unfold dt_q
  rw [show n - p = (n - (p + 1)) + 1 by omega]
  rfl
theorem dt_qadd' {T : Nat → Nat} {n : Nat} : ∀ d p a b, p + d = n → dt_q T n (a + b) p = dt_q T n b (dt_q T n a p) := by
  intro d
  induction d with
  | zero =>
    intro p a b h
    rw [dt_qe _ (by omega), dt_qe a (by omega), dt_qe _ (by omega)]
  | succ d ih =>
    intro p a b h
    cases a with
    | zero => rw [dt_q0, Nat.zero_add]
    | succ a =>
      rw [dt_qs a (by omega), show a + 1 + b = (a + b) + 1 by omega, dt_qs _ (by omega), show a + b + dt_ar (T p) = a + dt_ar (T p) + b by omega]
      exact ih (p + 1) _ b (by omega)
theorem dt_qadd (T : Nat → Nat) (n p a b : Nat) : dt_q T n (a + b) p = dt_q T n b (dt_q T n a p) := by
  by_cases h : p ≤ n
  · exact dt_qadd' (n - p) p a b (by omega)
  · rw [dt_qe _ (by omega), dt_qe a (by omega), dt_qe _ (by omega)]
theorem dt_qge' {T : Nat → Nat} {n : Nat} : ∀ d p o, p + d = n → p ≤ dt_q T n o p := by
  intro d
  induction d with
  | zero => intro p o h; rw [dt_qe o (by omega)]; exact Nat.le_refl _
  | succ d ih =>
    intro p o h
    cases o with
    | zero => rw [dt_q0]; exact Nat.le_refl _
    | succ o =>
      rw [dt_qs o (by omega)]
      exact Nat.le_trans (Nat.le_succ p) (ih (p + 1) _ (by omega))
theorem dt_qge (T : Nat → Nat) (n p o : Nat) : p ≤ dt_q T n o p := by
  by_cases h : p ≤ n
  · exact dt_qge' (n - p) p o (by omega)
  · rw [dt_qe o (by omega)]; exact Nat.le_refl _
theorem dt_qst {T : Nat → Nat} {n : Nat} (hc : dt_st T n = []) : ∀ d p o, p + d = n → o ≤ (dt_st T p).length → dt_q T n o p ≤ n ∧ dt_st T (dt_q T n o p) = (dt_st T p).drop o := by
  intro d
  induction d with
  | zero =>
    intro p o h ho
    obtain rfl : p = n := by omega
    rw [hc] at ho
    obtain rfl : o = 0 := by simpa using ho
    rw [dt_q0]
    exact ⟨Nat.le_refl _, rfl⟩
  | succ d ih =>
    intro p o h ho
    cases o with
    | zero => rw [dt_q0]; exact ⟨by omega, rfl⟩
    | succ o =>
      rw [dt_qs o (by omega)]
      have e : dt_st T (p + 1) = dt_kd (T p) ++ (dt_st T p).tail := rfl
      have hl : (dt_st T (p + 1)).length = dt_ar (T p) + ((dt_st T p).length - 1) := by
        rw [e, List.length_append, List.length_tail]; rfl
      obtain ⟨h1, h2⟩ := ih (p + 1) (o + dt_ar (T p)) (by omega) (by omega)
      refine ⟨h1, ?_⟩
      rw [h2, e]
      have e2 : ∀ (l r : List Bool), (l ++ r).drop (o + l.length) = r.drop o := by
        intro l r
        rw [Nat.add_comm, ← List.drop_drop, List.drop_left]
      rw [show o + dt_ar (T p) = o + (dt_kd (T p)).length from rfl, e2]
      cases dt_st T p <;> simp
theorem dt_qst' {T : Nat → Nat} {n p o : Nat} (hc : dt_st T n = []) (hp : p ≤ n) (ho : o ≤ (dt_st T p).length) : dt_q T n o p ≤ n ∧ dt_st T (dt_q T n o p) = (dt_st T p).drop o :=
  dt_qst hc (n - p) p o (by omega) ho
/-! the children -/
theorem dt_ch {T : Nat → Nat} {n : Nat} (ho : dt_ok T n) (hc : dt_st T n = []) {k i : Nat} (hk : k < n) (hi : i < dt_ar (T k)) : k < dt_q T n i (k + 1) ∧ dt_q T n i (k + 1) < n ∧ (dt_kd (T k))[i]? = some (dt_c (T (dt_q T n i (k + 1)))) := by
  have e : dt_st T (k + 1) = dt_kd (T k) ++ (dt_st T k).tail := rfl
  have hi' : i < (dt_kd (T k)).length := hi
  obtain ⟨h1, h2⟩ := dt_qst' (p := k + 1) (o := i) hc (by omega) (by rw [e, List.length_append]; omega)
  have h3 := dt_qge T n (k + 1) i
  have h4 : (dt_st T (dt_q T n i (k + 1)))[0]? = (dt_kd (T k))[i]? := by
    rw [h2, e, List.getElem?_drop, Nat.add_zero, List.getElem?_append_left hi']
  have h5 : (dt_kd (T k))[i]? = some ((dt_kd (T k))[i]) := List.getElem?_eq_getElem hi'
  have h6 : dt_q T n i (k + 1) ≠ n := by
    intro z
    rw [z, hc, h5] at h4
    cases h4
  have h7 : dt_q T n i (k + 1) < n := by omega
  obtain ⟨r, hr⟩ := ho.2.2 _ h7
  rw [hr] at h4
  exact ⟨by omega, h7, h4.symm⟩
/-! which places have been written when the links of the first k tokens are laid -/
def dt_wr (T : Nat → Nat) (n : Nat) : Nat → Nat → Prop
  | 0, j => j = 0
  | k + 1, j => dt_wr T n k j ∨ ∃ i, i < dt_ar (T k) ∧ j = dt_q T n i (k + 1)
theorem dt_wrp {T : Nat → Nat} {n : Nat} : ∀ k, k ≤ n → ∀ i, i < (dt_st T k).length → dt_wr T n k (dt_q T n i k) := by
  intro k
  induction k with
  | zero =>
    intro _ i hi
    obtain rfl : i = 0 := by
      have : (dt_st T 0).length = 1 := rfl
      omega
    exact dt_q0 T n 0
  | succ k ih =>
    intro hk i hi
    have hl : (dt_st T (k + 1)).length = dt_ar (T k) + ((dt_st T k).length - 1) := by
      show (dt_kd (T k) ++ (dt_st T k).tail).length = _
      rw [List.length_append, List.length_tail]; rfl
    by_cases h : i < dt_ar (T k)
    · exact Or.inr ⟨i, h, rfl⟩
    · refine Or.inl ?_
      have e1 : dt_q T n i (k + 1) = dt_q T n (1 + (i - dt_ar (T k))) k := by
        have ei : i = dt_ar (T k) + (i - dt_ar (T k)) := by omega
        have es : dt_q T n 1 k = dt_q T n (dt_ar (T k)) (k + 1) := by
          have := dt_qs (T := T) (n := n) (p := k) 0 (by omega)
          rw [Nat.zero_add, Nat.zero_add] at this
          exact this
        rw [dt_qadd, es, ← dt_qadd, ← ei]
      rw [e1]
      exact ih (by omega) _ (by omega)
theorem dt_wrk {T : Nat → Nat} {n k : Nat} (ho : dt_ok T n) (hk : k < n) : dt_wr T n k k := by
  have h := dt_wrp (T := T) (n := n) k (by omega) 0 (by obtain ⟨r, hr⟩ := ho.2.2 k hk; rw [hr]; exact Nat.succ_pos _)
  rw [dt_q0] at h
  exact h
theorem dt_wrm {T : Nat → Nat} {n k j : Nat} (h : dt_wr T n k j) : ∀ d, dt_wr T n (k + d) j := by
  intro d
  induction d with
  | zero => exact h
  | succ d ih => exact Or.inl ih
theorem dt_wrn {T : Nat → Nat} {n k : Nat} (ho : dt_ok T n) (hk : k < n) : dt_wr T n n k := by
  have h := dt_wrm (dt_wrk ho hk) (n - k)
  rw [show k + (n - k) = n by omega] at h
  exact h

section
theorem pk_us {f : Nat → Int32} {k : Nat} {x : Int32} : upd f k x k = x := if_pos rfl
theorem pk_un {f : Nat → Int32} {k j : Nat} {x : Int32} (h : j ≠ k) : upd f k x j = f j := if_neg h
theorem pk_sub {a b : Nat} (h : b ≤ a) : nI a - nI b = nI (a - b) := by
  obtain ⟨c, rfl⟩ : ∃ c, a = c + b := ⟨a - b, by omega⟩
  rw [← nI_add, Int32.add_sub_cancel, Nat.add_sub_cancel]
theorem pk_m1 (n : Nat) : nI (n + 1) + (-1) = nI n := by
  rw [← nI_1, Int32.add_assoc, show (1 : Int32) + (-1) = 0 from rfl, Int32.add_zero]
theorem pk_mul (a b : Nat) : nI a * nI b = nI (a * b) := (Int32.ofNat_mul a b).symm
theorem pk_div {a d : Nat} (ha : a < 2 ^ 31) (h0 : 0 < d) (hd : d < 2 ^ 31) : nI a / nI d = nI (a / d) := by
  apply Int32.toInt_inj.mp
  rw [lg_idiv_nonneg (by rw [nI_toInt ha]; omega) (by rw [nI_toInt hd]; omega), nI_toInt ha, nI_toInt hd, nI_toInt (Nat.lt_of_le_of_lt (Nat.div_le_self a d) ha)]
  first | rfl | exact (Int.natCast_ediv _ _).symm
theorem pk_rem {a d : Nat} (ha : a < 2 ^ 31) (h0 : 0 < d) (hd : d < 2 ^ 31) : nI a - nI a / nI d * nI d = nI (a % d) := by
  rw [pk_div ha h0 hd, pk_mul, pk_sub (Nat.div_mul_le_self a d)]
  exact congrArg nI (by have := Nat.div_add_mod' a d; omega)
theorem pk_le {x y : Int32} {A B : Prop} (a b : Nat) (f : a ≤ b → A) (g : b < a → B) (hx : x = nI a := by rfl) (hy : y = nI b := by rfl) (ha : a < 2 ^ 31 := by omega) (hb : b < 2 ^ 31 := by omega) : (x ≤ y → A) ∧ (¬ x ≤ y → B) := by
  subst hx hy
  rw [nI_leI ha hb]
  exact ⟨f, fun z => g (by omega)⟩
theorem pk_lt {x y : Int32} {A B : Prop} (a b : Nat) (f : a < b → A) (g : b ≤ a → B) (hx : x = nI a := by rfl) (hy : y = nI b := by rfl) (ha : a < 2 ^ 31 := by omega) (hb : b < 2 ^ 31 := by omega) : (x < y → A) ∧ (¬ x < y → B) := by
  subst hx hy
  rw [nI_ltI ha hb]
  exact ⟨f, fun z => g (by omega)⟩
theorem pk_eq {x y : Int32} {A B : Prop} (a b : Nat) (f : a = b → A) (g : a ≠ b → B) (hx : x = nI a := by rfl) (hy : y = nI b := by rfl) (ha : a < 2 ^ 31 := by omega) (hb : b < 2 ^ 31 := by omega) : (x = y → A) ∧ (¬ x = y → B) := by
  subst hx hy
  rw [nI_eq ha hb]
  exact ⟨f, g⟩
theorem pk_in {x : Int32} (n N : Nat) (h : n < N) (hx : x = nI n := by rfl) (hN : N < 2 ^ 31 := by omega) : vp_in x N := by
  subst hx
  exact vp_in_nI h hN
theorem pk_cl {x : Int32} (n : Nat) (hx : x = nI n := by rfl) (h : n < 2 ^ 31 := by omega) : x.toNatClampNeg = n := by
  subst hx
  exact nI_clamp h
theorem pk_tn {n : Nat} (h : n < 2 ^ 32) : (nI n).toBitVec.toNat = n := Nat.mod_eq_of_lt h
theorem sb_at {P : Int32 → Prop} {x y : Int32} (e : x = y) (h : P y) : P x := e ▸ h
def bt (x : Int32) (i : Nat) : Bool := x.toBitVec.getLsbD i
theorem b_ext {x y : Int32} (h : ∀ i, i < 32 → bt x i = bt y i) : x = y := Int32.toBitVec_inj.mp (BitVec.eq_of_getLsbD_eq (fun i hi => h i hi))
theorem b_or (x y : Int32) (i : Nat) : bt (x ||| y) i = (bt x i || bt y i) := by unfold bt; rw [Int32.toBitVec_or, BitVec.getLsbD_or]
theorem b_and (x y : Int32) (i : Nat) : bt (x &&& y) i = (bt x i && bt y i) := by unfold bt; rw [Int32.toBitVec_and, BitVec.getLsbD_and]
theorem b_xor (x y : Int32) (i : Nat) : bt (x ^^^ y) i = (bt x i ^^ bt y i) := by unfold bt; rw [Int32.toBitVec_xor, BitVec.getLsbD_xor]
theorem b_big {x : Int32} {i : Nat} (h : 32 ≤ i) : bt x i = false := BitVec.getLsbD_of_ge _ _ h
theorem b_m1 : ∀ i, i < 32 → bt (-1) i = true := by decide +kernel
theorem b_0 (i : Nat) : bt 0 i = false := BitVec.getLsbD_zero
theorem s_l : ∀ n, n < 32 → ((nI n &&& 31).toBitVec.smod 32).toNat = n := by decide +kernel
theorem s_u : ∀ n, n < 32 → (((nI n).toUInt32 &&& Int32.toUInt32 31).toBitVec % 32).toNat = n := by decide +kernel
theorem b_shl (n : Nat) (hn : n < 32) (x : Int32) {i : Nat} (hi : i < 32) : bt (x <<< (nI n &&& 31)) i = (decide (n ≤ i) && bt x (i - n)) := by
  unfold bt
  rw [Int32.toBitVec_shiftLeft]
  show (x.toBitVec <<< ((nI n &&& 31).toBitVec.smod 32).toNat).getLsbD i = _
  rw [s_l n hn, BitVec.getLsbD_shiftLeft]
  rcases Nat.lt_or_ge i n with h | h
  · simp [h, Nat.not_le.mpr h]
  · simp [hi, h, Nat.not_lt.mpr h]
theorem b_ushr (n : Nat) (hn : n < 32) (x : Int32) (i : Nat) : bt ((x.toUInt32 >>> ((nI n).toUInt32 &&& Int32.toUInt32 31)).toInt32) i = bt x (n + i) := by
  show (x.toUInt32 >>> ((nI n).toUInt32 &&& Int32.toUInt32 31)).toBitVec.getLsbD i = x.toUInt32.toBitVec.getLsbD (n + i)
  rw [UInt32.toBitVec_shiftRight]
  show (x.toUInt32.toBitVec >>> (((nI n).toUInt32 &&& Int32.toUInt32 31).toBitVec % 32).toNat).getLsbD i = _
  rw [s_u n hn, BitVec.getLsbD_ushiftRight]
theorem b_sshr (n : Nat) (hn : n < 32) (x : Int32) {i : Nat} (hi : i < 32) : bt (x >>> (nI n &&& 31)) i = if n + i < 32 then bt x (n + i) else bt x 31 := by
  unfold bt
  rw [Int32.toBitVec_shiftRight]
  show (x.toBitVec.sshiftRight ((nI n &&& 31).toBitVec.smod 32).toNat).getLsbD i = _
  rw [s_l n hn, BitVec.getLsbD_sshiftRight, BitVec.msb_eq_getLsbD_last]
  simp [hi]
theorem nx_and (a b : Nat) : nI a &&& nI b = nI (a &&& b) := by
  apply Int32.toBitVec_inj.1
  show BitVec.ofNat 32 a &&& BitVec.ofNat 32 b = BitVec.ofNat 32 (a &&& b)
  apply BitVec.eq_of_getLsbD_eq
  intro i hi
  simp [hi]
end
section
def dt_kd (t : Nat) : List Bool :=
  if t = 4 then [false, false] else if t = 5 then [true, false, false] else if t = 6 then [true, false]
  else if t = 19 then [true] else if t = 20 then [true, true] else if t = 21 then [true, true]
  else if t = 22 then [true, true, true] else []
def dt_ar (t : Nat) : Nat := (dt_kd t).length
def dt_c (t : Nat) : Bool := decide (16 ≤ t)
def dt_st (T : Nat → Nat) : Nat → List Bool
  | 0 => [false]
  | j + 1 => dt_kd (T j) ++ (dt_st T j).tail
def dt_ok (T : Nat → Nat) (n : Nat) : Prop := n ≤ 22 ∧ (∀ k, T k < 32) ∧ (∀ j, j < n → ∃ r, dt_st T j = dt_c (T j) :: r)
theorem dt_ar_le : ∀ t, t < 32 → dt_ar t ≤ 3 := by decide +kernel
theorem dt_st_congr {T T' : Nat → Nat} : ∀ j, (∀ i, i < j → T i = T' i) → dt_st T j = dt_st T' j := by
  intro j
  induction j with
  | zero => intro _; rfl
  | succ j ih =>
    intro h
    show dt_kd (T j) ++ (dt_st T j).tail = dt_kd (T' j) ++ (dt_st T' j).tail
    rw [h j (by omega), ih (fun i hi => h i (by omega))]
theorem dt_st_len {T : Nat → Nat} (hT : ∀ k, T k < 32) : ∀ j, (dt_st T j).length ≤ 1 + 2 * j := by
  intro j
  induction j with
  | zero => exact Nat.le_refl _
  | succ j ih =>
    show (dt_kd (T j) ++ (dt_st T j).tail).length ≤ _
    have h1 : (dt_kd (T j)).length ≤ 3 := dt_ar_le (T j) (hT j)
    rw [List.length_append, List.length_tail]
    by_cases h0 : (dt_st T j).length = 0
    · omega
    · omega
/-! the scan -/
def dt_sc (T : Nat → Nat) : Nat → Nat → Nat → Nat
  | 0, _, p => p
  | _ + 1, 0, p => p
  | f + 1, o + 1, p => dt_sc T f (o + dt_ar (T p)) (p + 1)
def dt_q (T : Nat → Nat) (n o p : Nat) : Nat := dt_sc T (n - p) o p
theorem dt_q0 (T : Nat → Nat) (n p : Nat) : dt_q T n 0 p = p := by
  unfold dt_q
  cases n - p <;> rfl
theorem dt_qe {T : Nat → Nat} {n p : Nat} (o : Nat) (h : n ≤ p) : dt_q T n o p = p := by
  unfold dt_q
  rw [show n - p = 0 by omega]
  cases o <;> rfl
theorem dt_qs {T : Nat → Nat} {n p : Nat} (o : Nat) (h : p < n) : dt_q T n (o + 1) p = dt_q T n (o + dt_ar (T p)) (p + 1) := by
  unfold dt_q
  rw [show n - p = (n - (p + 1)) + 1 by omega]
  rfl
theorem dt_qadd' {T : Nat → Nat} {n : Nat} : ∀ d p a b, p + d = n → dt_q T n (a + b) p = dt_q T n b (dt_q T n a p) := by
  intro d
  induction d with
  | zero =>
    intro p a b h
    rw [dt_qe _ (by omega), dt_qe a (by omega), dt_qe _ (by omega)]
  | succ d ih =>
    intro p a b h
    cases a with
    | zero => rw [dt_q0, Nat.zero_add]
    | succ a =>
      rw [dt_qs a (by omega), show a + 1 + b = (a + b) + 1 by omega, dt_qs _ (by omega), show a + b + dt_ar (T p) = a + dt_ar (T p) + b by omega]
      exact ih (p + 1) _ b (by omega)
theorem dt_qadd (T : Nat → Nat) (n p a b : Nat) : dt_q T n (a + b) p = dt_q T n b (dt_q T n a p) := by
  by_cases h : p ≤ n
  · exact dt_qadd' (n - p) p a b (by omega)
  · rw [dt_qe _ (by omega), dt_qe a (by omega), dt_qe _ (by omega)]
theorem dt_qge' {T : Nat → Nat} {n : Nat} : ∀ d p o, p + d = n → p ≤ dt_q T n o p := by
  intro d
  induction d with
  | zero => intro p o h; rw [dt_qe o (by omega)]; exact Nat.le_refl _
  | succ d ih =>
    intro p o h
    cases o with
    | zero => rw [dt_q0]; exact Nat.le_refl _
    | succ o =>
      rw [dt_qs o (by omega)]
      exact Nat.le_trans (Nat.le_succ p) (ih (p + 1) _ (by omega))
theorem dt_qge (T : Nat → Nat) (n p o : Nat) : p ≤ dt_q T n o p := by
  by_cases h : p ≤ n
  · exact dt_qge' (n - p) p o (by omega)
  · rw [dt_qe o (by omega)]; exact Nat.le_refl _
theorem dt_qst {T : Nat → Nat} {n : Nat} (hc : dt_st T n = []) : ∀ d p o, p + d = n → o ≤ (dt_st T p).length → dt_q T n o p ≤ n ∧ dt_st T (dt_q T n o p) = (dt_st T p).drop o := by
  intro d
  induction d with
  | zero =>
    intro p o h ho
    obtain rfl : p = n := by omega
    rw [hc] at ho
    obtain rfl : o = 0 := by simpa using ho
    rw [dt_q0]
    exact ⟨Nat.le_refl _, rfl⟩
  | succ d ih =>
    intro p o h ho
    cases o with
    | zero => rw [dt_q0]; exact ⟨by omega, rfl⟩
    | succ o =>
      rw [dt_qs o (by omega)]
      have e : dt_st T (p + 1) = dt_kd (T p) ++ (dt_st T p).tail := rfl
      have hl : (dt_st T (p + 1)).length = dt_ar (T p) + ((dt_st T p).length - 1) := by
        rw [e, List.length_append, List.length_tail]; rfl
      obtain ⟨h1, h2⟩ := ih (p + 1) (o + dt_ar (T p)) (by omega) (by omega)
      refine ⟨h1, ?_⟩
      rw [h2, e]
      have e2 : ∀ (l r : List Bool), (l ++ r).drop (o + l.length) = r.drop o := by
        intro l r
        rw [Nat.add_comm, ← List.drop_drop, List.drop_left]
      rw [show o + dt_ar (T p) = o + (dt_kd (T p)).length from rfl, e2]
      cases dt_st T p <;> simp
theorem dt_qst' {T : Nat → Nat} {n p o : Nat} (hc : dt_st T n = []) (hp : p ≤ n) (ho : o ≤ (dt_st T p).length) : dt_q T n o p ≤ n ∧ dt_st T (dt_q T n o p) = (dt_st T p).drop o :=
  dt_qst hc (n - p) p o (by omega) ho
/-! the children -/
theorem dt_ch {T : Nat → Nat} {n : Nat} (ho : dt_ok T n) (hc : dt_st T n = []) {k i : Nat} (hk : k < n) (hi : i < dt_ar (T k)) : k < dt_q T n i (k + 1) ∧ dt_q T n i (k + 1) < n ∧ (dt_kd (T k))[i]? = some (dt_c (T (dt_q T n i (k + 1)))) := by
  have e : dt_st T (k + 1) = dt_kd (T k) ++ (dt_st T k).tail := rfl
  have hi' : i < (dt_kd (T k)).length := hi
  obtain ⟨h1, h2⟩ := dt_qst' (p := k + 1) (o := i) hc (by omega) (by rw [e, List.length_append]; omega)
  have h3 := dt_qge T n (k + 1) i
  have h4 : (dt_st T (dt_q T n i (k + 1)))[0]? = (dt_kd (T k))[i]? := by
    rw [h2, e, List.getElem?_drop, Nat.add_zero, List.getElem?_append_left hi']
  have h5 : (dt_kd (T k))[i]? = some ((dt_kd (T k))[i]) := List.getElem?_eq_getElem hi'
  have h6 : dt_q T n i (k + 1) ≠ n := by
    intro z
    rw [z, hc, h5] at h4
    cases h4
  have h7 : dt_q T n i (k + 1) < n := by omega
  obtain ⟨r, hr⟩ := ho.2.2 _ h7
  rw [hr] at h4
  exact ⟨by omega, h7, h4.symm⟩
/-! which places have been written when the links of the first k tokens are laid -/
def dt_wr (T : Nat → Nat) (n : Nat) : Nat → Nat → Prop
  | 0, j => j = 0
  | k + 1, j => dt_wr T n k j ∨ ∃ i, i < dt_ar (T k) ∧ j = dt_q T n i (k + 1)
theorem dt_wrp {T : Nat → Nat} {n : Nat} : ∀ k, k ≤ n → ∀ i, i < (dt_st T k).length → dt_wr T n k (dt_q T n i k) := by
  intro k
  induction k with
  | zero =>
    intro _ i hi
    obtain rfl : i = 0 := by
      have : (dt_st T 0).length = 1 := rfl
      omega
    exact dt_q0 T n 0
  | succ k ih =>
    intro hk i hi
    have hl : (dt_st T (k + 1)).length = dt_ar (T k) + ((dt_st T k).length - 1) := by
      show (dt_kd (T k) ++ (dt_st T k).tail).length = _
      rw [List.length_append, List.length_tail]; rfl
    by_cases h : i < dt_ar (T k)
    · exact Or.inr ⟨i, h, rfl⟩
    · refine Or.inl ?_
      have e1 : dt_q T n i (k + 1) = dt_q T n (1 + (i - dt_ar (T k))) k := by
        have ei : i = dt_ar (T k) + (i - dt_ar (T k)) := by omega
        have es : dt_q T n 1 k = dt_q T n (dt_ar (T k)) (k + 1) := by
          have := dt_qs (T := T) (n := n) (p := k) 0 (by omega)
          rw [Nat.zero_add, Nat.zero_add] at this
          exact this
        rw [dt_qadd, es, ← dt_qadd, ← ei]
      rw [e1]
      exact ih (by omega) _ (by omega)
theorem dt_wrk {T : Nat → Nat} {n k : Nat} (ho : dt_ok T n) (hk : k < n) : dt_wr T n k k := by
  have h := dt_wrp (T := T) (n := n) k (by omega) 0 (by obtain ⟨r, hr⟩ := ho.2.2 k hk; rw [hr]; exact Nat.succ_pos _)
  rw [dt_q0] at h
  exact h
theorem dt_wrm {T : Nat → Nat} {n k j : Nat} (h : dt_wr T n k j) : ∀ d, dt_wr T n (k + d) j := by
  intro d
  induction d with
  | zero => exact h
  | succ d ih => exact Or.inl ih
theorem dt_wrn {T : Nat → Nat} {n k : Nat} (ho : dt_ok T n) (hk : k < n) : dt_wr T n n k := by
  have h := dt_wrm (dt_wrk ho hk) (n - k)
  rw [show k + (n - k) = n by omega] at h
  exact h
end
section
def dt_w (L : Nat → Nat × Nat × Nat) (p : Nat) (v : Nat × Nat × Nat) : Nat → Nat × Nat × Nat := fun j => if j = p then v else L j
theorem dt_wS {L : Nat → Nat × Nat × Nat} {p : Nat} {v : Nat × Nat × Nat} : dt_w L p v p = v := if_pos rfl
theorem dt_wN {L : Nat → Nat × Nat × Nat} {p j : Nat} {v : Nat × Nat × Nat} (h : j ≠ p) : dt_w L p v j = L j := if_neg h
def dt_ls (T : Nat → Nat) (n : Nat) (L : Nat → Nat × Nat × Nat) (k : Nat) : Nat → Nat × Nat × Nat :=
  if T k = 4 then (dt_w (dt_w L (k + 1) ((dt_q T n 1 (k + 1)), (dt_q T n 1 (k + 1)), (L k).2.2)) (dt_q T n 1 (k + 1)) ((L k).1, (L k).1, (L k).2.2)) else
  if T k = 5 then (dt_w (dt_w (dt_w L (k + 1) ((dt_q T n 1 (k + 1)), (dt_q T n 2 (k + 1)), 22)) (dt_q T n 1 (k + 1)) ((L k).1, (L k).1, (L k).2.2)) (dt_q T n 2 (k + 1)) ((L k).1, (L k).1, (L k).2.2)) else
  if T k = 6 then (dt_w (dt_w L (k + 1) ((dt_q T n 1 (k + 1)), (L k).1, 22)) (dt_q T n 1 (k + 1)) (k, k, (L k).1)) else
  if T k = 19 then (dt_w L (k + 1) ((L k).2.1, (L k).1, 22)) else
  if T k = 20 then (dt_w (dt_w L (k + 1) ((dt_q T n 1 (k + 1)), (L k).2.1, 22)) (dt_q T n 1 (k + 1)) ((L k).1, (L k).2.1, 22)) else
  if T k = 21 then (dt_w (dt_w L (k + 1) ((L k).1, (dt_q T n 1 (k + 1)), 22)) (dt_q T n 1 (k + 1)) ((L k).1, (L k).2.1, 22)) else
  if T k = 22 then (dt_w (dt_w (dt_w L (k + 1) ((dt_q T n 1 (k + 1)), (dt_q T n 2 (k + 1)), 22)) (dt_q T n 1 (k + 1)) ((L k).1, (L k).2.1, 22)) (dt_q T n 2 (k + 1)) ((L k).1, (L k).2.1, 22)) else
  L
theorem dt_ls4 {T : Nat → Nat} {n : Nat} {L : Nat → Nat × Nat × Nat} {k : Nat} (h : T k = 4) : dt_ls T n L k = (dt_w (dt_w L (k + 1) ((dt_q T n 1 (k + 1)), (dt_q T n 1 (k + 1)), (L k).2.2)) (dt_q T n 1 (k + 1)) ((L k).1, (L k).1, (L k).2.2)) := by simp [dt_ls, h]
theorem dt_ls5 {T : Nat → Nat} {n : Nat} {L : Nat → Nat × Nat × Nat} {k : Nat} (h : T k = 5) : dt_ls T n L k = (dt_w (dt_w (dt_w L (k + 1) ((dt_q T n 1 (k + 1)), (dt_q T n 2 (k + 1)), 22)) (dt_q T n 1 (k + 1)) ((L k).1, (L k).1, (L k).2.2)) (dt_q T n 2 (k + 1)) ((L k).1, (L k).1, (L k).2.2)) := by simp [dt_ls, h]
theorem dt_ls6 {T : Nat → Nat} {n : Nat} {L : Nat → Nat × Nat × Nat} {k : Nat} (h : T k = 6) : dt_ls T n L k = (dt_w (dt_w L (k + 1) ((dt_q T n 1 (k + 1)), (L k).1, 22)) (dt_q T n 1 (k + 1)) (k, k, (L k).1)) := by simp [dt_ls, h]
theorem dt_ls19 {T : Nat → Nat} {n : Nat} {L : Nat → Nat × Nat × Nat} {k : Nat} (h : T k = 19) : dt_ls T n L k = (dt_w L (k + 1) ((L k).2.1, (L k).1, 22)) := by simp [dt_ls, h]
theorem dt_ls20 {T : Nat → Nat} {n : Nat} {L : Nat → Nat × Nat × Nat} {k : Nat} (h : T k = 20) : dt_ls T n L k = (dt_w (dt_w L (k + 1) ((dt_q T n 1 (k + 1)), (L k).2.1, 22)) (dt_q T n 1 (k + 1)) ((L k).1, (L k).2.1, 22)) := by simp [dt_ls, h]
theorem dt_ls21 {T : Nat → Nat} {n : Nat} {L : Nat → Nat × Nat × Nat} {k : Nat} (h : T k = 21) : dt_ls T n L k = (dt_w (dt_w L (k + 1) ((L k).1, (dt_q T n 1 (k + 1)), 22)) (dt_q T n 1 (k + 1)) ((L k).1, (L k).2.1, 22)) := by simp [dt_ls, h]
theorem dt_ls22 {T : Nat → Nat} {n : Nat} {L : Nat → Nat × Nat × Nat} {k : Nat} (h : T k = 22) : dt_ls T n L k = (dt_w (dt_w (dt_w L (k + 1) ((dt_q T n 1 (k + 1)), (dt_q T n 2 (k + 1)), 22)) (dt_q T n 1 (k + 1)) ((L k).1, (L k).2.1, 22)) (dt_q T n 2 (k + 1)) ((L k).1, (L k).2.1, 22)) := by simp [dt_ls, h]
theorem dt_ls0 {T : Nat → Nat} {n : Nat} {L : Nat → Nat × Nat × Nat} {k : Nat} (h : dt_ar (T k) = 0) : dt_ls T n L k = L := by
  have h2 : T k ≠ 4 ∧ T k ≠ 5 ∧ T k ≠ 6 ∧ T k ≠ 19 ∧ T k ≠ 20 ∧ T k ≠ 21 ∧ T k ≠ 22 := by
    refine ⟨?_, ?_, ?_, ?_, ?_, ?_, ?_⟩ <;> (intro z; rw [z] at h; exact absurd h (by decide))
  simp [dt_ls, h2]
def dt_lk (T : Nat → Nat) (n : Nat) : Nat → Nat → Nat × Nat × Nat
  | 0 => fun _ => (22, 22, 22)
  | k + 1 => dt_ls T n (dt_lk T n k) k
theorem dt_tc : ∀ t, t < 32 → t = 4 ∨ t = 5 ∨ t = 6 ∨ t = 19 ∨ t = 20 ∨ t = 21 ∨ t = 22 ∨ dt_ar t = 0 := by decide +kernel
theorem dt_c1 {T : Nat → Nat} {n k : Nat} (ho : dt_ok T n) (hc : dt_st T n = []) (hk : k < n) (h : 0 < dt_ar (T k)) : k + 1 < n ∧ (dt_kd (T k))[0]? = some (dt_c (T (k + 1))) := by
  have := dt_ch ho hc hk h
  rw [dt_q0] at this
  exact this.2
theorem dt_wr0 {T : Nat → Nat} {n k j : Nat} (h : dt_ar (T k) = 0) (w : dt_wr T n (k + 1) j) : dt_wr T n k j := by
  rcases w with w | ⟨i, hi, _⟩
  · exact w
  · omega
theorem dt_wr1 {T : Nat → Nat} {n k j : Nat} (h : dt_ar (T k) = 1) (w : dt_wr T n (k + 1) j) : dt_wr T n k j ∨ j = k + 1 := by
  rcases w with w | ⟨i, hi, e⟩
  · exact Or.inl w
  · obtain rfl : i = 0 := by omega
    rw [dt_q0] at e
    exact Or.inr e
theorem dt_wr2 {T : Nat → Nat} {n k j : Nat} (h : dt_ar (T k) = 2) (w : dt_wr T n (k + 1) j) : (dt_wr T n k j ∨ j = k + 1) ∨ j = dt_q T n 1 (k + 1) := by
  rcases w with w | ⟨i, hi, e⟩
  · exact Or.inl (Or.inl w)
  · have : i = 0 ∨ i = 1 := by omega
    rcases this with rfl | rfl
    · rw [dt_q0] at e
      exact Or.inl (Or.inr e)
    · exact Or.inr e
theorem dt_wr3 {T : Nat → Nat} {n k j : Nat} (h : dt_ar (T k) = 3) (w : dt_wr T n (k + 1) j) : ((dt_wr T n k j ∨ j = k + 1) ∨ j = dt_q T n 1 (k + 1)) ∨ j = dt_q T n 2 (k + 1) := by
  rcases w with w | ⟨i, hi, e⟩
  · exact Or.inl (Or.inl (Or.inl w))
  · have : i = 0 ∨ i = 1 ∨ i = 2 := by omega
    rcases this with rfl | rfl | rfl
    · rw [dt_q0] at e
      exact Or.inl (Or.inl (Or.inr e))
    · exact Or.inl (Or.inr e)
    · exact Or.inr e
/-! the links' values: places of tokens, or the end; at a statement both roads are one -/
def dt_v (n x : Nat) : Prop := x < n ∨ x = 22
def dt_kv (T : Nat → Nat) (n j : Nat) (v : Nat × Nat × Nat) : Prop := dt_v n v.1 ∧ dt_v n v.2.1 ∧ dt_v n v.2.2 ∧ (dt_c (T j) = false → v.1 = v.2.1)
theorem dt_kw {T : Nat → Nat} {n : Nat} {D : Nat → Prop} {L : Nat → Nat × Nat × Nat} {p : Nat} {v : Nat × Nat × Nat} (h : ∀ j, D j → dt_kv T n j (L j)) (hv : dt_kv T n p v) : ∀ j, (D j ∨ j = p) → dt_kv T n j (dt_w L p v j) := by
  intro j hj
  by_cases e : j = p
  · subst e; rw [dt_wS]; exact hv
  · rw [dt_wN e]
    rcases hj with hj | hj
    · exact h j hj
    · exact absurd hj e
theorem dt_lko {T : Nat → Nat} {n : Nat} (ho : dt_ok T n) (hc : dt_st T n = []) : ∀ k, k ≤ n → ∀ j, dt_wr T n k j → dt_kv T n j (dt_lk T n k j) := by
  intro k
  induction k with
  | zero => intro _ j _; exact ⟨Or.inr rfl, Or.inr rfl, Or.inr rfl, fun _ => rfl⟩
  | succ k ih =>
    intro hk j hj
    have ih' := ih (by omega)
    have hk' : k < n := by omega
    obtain ⟨v1, v2, v3, v4⟩ := ih' k (dt_wrk ho hk')
    have vk : dt_v n k := Or.inl hk'
    have v22 : dt_v n 22 := Or.inr rfl
    show dt_kv T n j (dt_ls T n (dt_lk T n k) k j)
    rcases dt_tc (T k) (ho.2.1 k) with h | h | h | h | h | h | h | h
    · have ar : dt_ar (T k) = 2 := by rw [h]; rfl
      have ek : dt_kd (T k) = [false, false] := by rw [h]; rfl
      obtain ⟨c0, k0⟩ := dt_c1 ho hc hk' (by omega)
      obtain ⟨_, c1, k1⟩ := dt_ch ho hc (i := 1) hk' (by omega)
      have w1 : dt_v n (dt_q T n 1 (k + 1)) := Or.inl c1
      rw [dt_ls4 h]
      exact (dt_kw (dt_kw ih' (p := (k + 1)) (v := (dt_q T n 1 (k + 1), dt_q T n 1 (k + 1), (dt_lk T n k k).2.2)) ⟨w1, w1, v3, fun _ => rfl⟩) (p := (dt_q T n 1 (k + 1))) (v := ((dt_lk T n k k).1, (dt_lk T n k k).1, (dt_lk T n k k).2.2)) ⟨v1, v1, v3, fun _ => rfl⟩) j (dt_wr2 ar hj)
    · have ar : dt_ar (T k) = 3 := by rw [h]; rfl
      have ek : dt_kd (T k) = [true, false, false] := by rw [h]; rfl
      obtain ⟨c0, k0⟩ := dt_c1 ho hc hk' (by omega)
      obtain ⟨_, c1, k1⟩ := dt_ch ho hc (i := 1) hk' (by omega)
      have w1 : dt_v n (dt_q T n 1 (k + 1)) := Or.inl c1
      obtain ⟨_, c2, k2⟩ := dt_ch ho hc (i := 2) hk' (by omega)
      have w2 : dt_v n (dt_q T n 2 (k + 1)) := Or.inl c2
      rw [dt_ls5 h]
      exact (dt_kw (dt_kw (dt_kw ih' (p := (k + 1)) (v := (dt_q T n 1 (k + 1), dt_q T n 2 (k + 1), 22)) ⟨w1, w2, v22, fun z => (by rw [ek] at k0; rw [z] at k0; cases k0)⟩) (p := (dt_q T n 1 (k + 1))) (v := ((dt_lk T n k k).1, (dt_lk T n k k).1, (dt_lk T n k k).2.2)) ⟨v1, v1, v3, fun _ => rfl⟩) (p := (dt_q T n 2 (k + 1))) (v := ((dt_lk T n k k).1, (dt_lk T n k k).1, (dt_lk T n k k).2.2)) ⟨v1, v1, v3, fun _ => rfl⟩) j (dt_wr3 ar hj)
    · have ar : dt_ar (T k) = 2 := by rw [h]; rfl
      have ek : dt_kd (T k) = [true, false] := by rw [h]; rfl
      obtain ⟨c0, k0⟩ := dt_c1 ho hc hk' (by omega)
      obtain ⟨_, c1, k1⟩ := dt_ch ho hc (i := 1) hk' (by omega)
      have w1 : dt_v n (dt_q T n 1 (k + 1)) := Or.inl c1
      rw [dt_ls6 h]
      exact (dt_kw (dt_kw ih' (p := (k + 1)) (v := (dt_q T n 1 (k + 1), (dt_lk T n k k).1, 22)) ⟨w1, v1, v22, fun z => (by rw [ek] at k0; rw [z] at k0; cases k0)⟩) (p := (dt_q T n 1 (k + 1))) (v := (k, k, (dt_lk T n k k).1)) ⟨vk, vk, v1, fun _ => rfl⟩) j (dt_wr2 ar hj)
    · have ar : dt_ar (T k) = 1 := by rw [h]; rfl
      have ek : dt_kd (T k) = [true] := by rw [h]; rfl
      obtain ⟨c0, k0⟩ := dt_c1 ho hc hk' (by omega)
      rw [dt_ls19 h]
      exact (dt_kw ih' (p := (k + 1)) (v := ((dt_lk T n k k).2.1, (dt_lk T n k k).1, 22)) ⟨v2, v1, v22, fun z => (by rw [ek] at k0; rw [z] at k0; cases k0)⟩) j (dt_wr1 ar hj)
    · have ar : dt_ar (T k) = 2 := by rw [h]; rfl
      have ek : dt_kd (T k) = [true, true] := by rw [h]; rfl
      obtain ⟨c0, k0⟩ := dt_c1 ho hc hk' (by omega)
      obtain ⟨_, c1, k1⟩ := dt_ch ho hc (i := 1) hk' (by omega)
      have w1 : dt_v n (dt_q T n 1 (k + 1)) := Or.inl c1
      rw [dt_ls20 h]
      exact (dt_kw (dt_kw ih' (p := (k + 1)) (v := (dt_q T n 1 (k + 1), (dt_lk T n k k).2.1, 22)) ⟨w1, v2, v22, fun z => (by rw [ek] at k0; rw [z] at k0; cases k0)⟩) (p := (dt_q T n 1 (k + 1))) (v := ((dt_lk T n k k).1, (dt_lk T n k k).2.1, 22)) ⟨v1, v2, v22, fun z => (by rw [ek] at k1; rw [z] at k1; cases k1)⟩) j (dt_wr2 ar hj)
    · have ar : dt_ar (T k) = 2 := by rw [h]; rfl
      have ek : dt_kd (T k) = [true, true] := by rw [h]; rfl
      obtain ⟨c0, k0⟩ := dt_c1 ho hc hk' (by omega)
      obtain ⟨_, c1, k1⟩ := dt_ch ho hc (i := 1) hk' (by omega)
      have w1 : dt_v n (dt_q T n 1 (k + 1)) := Or.inl c1
      rw [dt_ls21 h]
      exact (dt_kw (dt_kw ih' (p := (k + 1)) (v := ((dt_lk T n k k).1, dt_q T n 1 (k + 1), 22)) ⟨v1, w1, v22, fun z => (by rw [ek] at k0; rw [z] at k0; cases k0)⟩) (p := (dt_q T n 1 (k + 1))) (v := ((dt_lk T n k k).1, (dt_lk T n k k).2.1, 22)) ⟨v1, v2, v22, fun z => (by rw [ek] at k1; rw [z] at k1; cases k1)⟩) j (dt_wr2 ar hj)
    · have ar : dt_ar (T k) = 3 := by rw [h]; rfl
      have ek : dt_kd (T k) = [true, true, true] := by rw [h]; rfl
      obtain ⟨c0, k0⟩ := dt_c1 ho hc hk' (by omega)
      obtain ⟨_, c1, k1⟩ := dt_ch ho hc (i := 1) hk' (by omega)
      have w1 : dt_v n (dt_q T n 1 (k + 1)) := Or.inl c1
      obtain ⟨_, c2, k2⟩ := dt_ch ho hc (i := 2) hk' (by omega)
      have w2 : dt_v n (dt_q T n 2 (k + 1)) := Or.inl c2
      rw [dt_ls22 h]
      exact (dt_kw (dt_kw (dt_kw ih' (p := (k + 1)) (v := (dt_q T n 1 (k + 1), dt_q T n 2 (k + 1), 22)) ⟨w1, w2, v22, fun z => (by rw [ek] at k0; rw [z] at k0; cases k0)⟩) (p := (dt_q T n 1 (k + 1))) (v := ((dt_lk T n k k).1, (dt_lk T n k k).2.1, 22)) ⟨v1, v2, v22, fun z => (by rw [ek] at k1; rw [z] at k1; cases k1)⟩) (p := (dt_q T n 2 (k + 1))) (v := ((dt_lk T n k k).1, (dt_lk T n k k).2.1, 22)) ⟨v1, v2, v22, fun z => (by rw [ek] at k2; rw [z] at k2; cases k2)⟩) j (dt_wr3 ar hj)
    · rw [dt_ls0 h]
      exact ih' j (dt_wr0 h hj)
def dt_L (T : Nat → Nat) (n : Nat) : Nat → Nat × Nat × Nat := dt_lk T n n
theorem dt_Lok {T : Nat → Nat} {n : Nat} (ho : dt_ok T n) (hc : dt_st T n = []) {j : Nat} (hj : j < n) : dt_kv T n j (dt_L T n j) := dt_lko ho hc n (Nat.le_refl n) j (dt_wrn ho hj)
def dt_nx (T : Nat → Nat) (L : Nat → Nat × Nat × Nat) (k : Nat) (o : Bool) : Nat :=
  if 0 < dt_ar (T k) then k + 1 else if T k = 1 then (L k).2.2 else if T k = 16 then (L k).1 else if T k = 17 then (L k).2.1 else if o = true then (L k).1 else (L k).2.1
theorem dt_nxv {T : Nat → Nat} {n : Nat} (ho : dt_ok T n) (hc : dt_st T n = []) {k : Nat} (hk : k < n) (o : Bool) : dt_v n (dt_nx T (dt_L T n) k o) := by
  obtain ⟨v1, v2, v3, _⟩ := dt_Lok ho hc hk
  unfold dt_nx
  split
  · rename_i h
    exact Or.inl (dt_c1 ho hc hk h).1
  · split
    · exact v3
    · split
      · exact v1
      · split
        · exact v2
        · split
          · exact v1
          · exact v2
theorem dt_v23 {n x : Nat} (hn : n ≤ 22) (h : dt_v n x) : x < 23 := by
  rcases h with h | h <;> omega
end
section
/-! counting bits -/
def dc_n (f : Nat → Bool) : Nat → Nat
  | 0 => 0
  | c + 1 => dc_n f c + (if f c = true then 1 else 0)
theorem dc_le (f : Nat → Bool) : ∀ c, dc_n f c ≤ c := by
  intro c
  induction c with
  | zero => exact Nat.le_refl _
  | succ c ih =>
    show dc_n f c + (if f c = true then 1 else 0) ≤ c + 1
    split <;> omega
theorem dc_mono {f g : Nat → Bool} (h : ∀ c, f c = true → g c = true) : ∀ c, dc_n f c ≤ dc_n g c := by
  intro c
  induction c with
  | zero => exact Nat.le_refl _
  | succ c ih =>
    show dc_n f c + (if f c = true then 1 else 0) ≤ dc_n g c + (if g c = true then 1 else 0)
    by_cases z : f c = true
    · rw [if_pos z, if_pos (h c z)]; omega
    · rw [if_neg z]; omega
theorem dc_lt {f g : Nat → Bool} (h : ∀ c, f c = true → g c = true) {c0 : Nat} (h0 : f c0 = false) (h1 : g c0 = true) : ∀ c, c0 < c → dc_n f c < dc_n g c := by
  intro c
  induction c with
  | zero => intro z; omega
  | succ c ih =>
    intro hc
    show dc_n f c + (if f c = true then 1 else 0) < dc_n g c + (if g c = true then 1 else 0)
    by_cases e : c0 = c
    · subst e
      have := dc_mono h c0
      rw [h0, h1, if_pos rfl, if_neg (by decide)]
      omega
    · have := ih (by omega)
      by_cases z : f c = true
      · rw [if_pos z, if_pos (h c z)]; omega
      · rw [if_neg z]; omega
def dc_a (a : Nat → Int32) : Nat := dc_n (fun c => bt (a (c / 16)) (c % 16)) 368
theorem dc_a_le (a : Nat → Int32) : dc_a a ≤ 368 := dc_le _ 368
theorem dc_a_mono {a b : Nat → Int32} (h : ∀ k s, bt (a k) s = true → bt (b k) s = true) : dc_a a ≤ dc_a b := dc_mono (fun c => h (c / 16) (c % 16)) 368
theorem dc_a_lt {a b : Nat → Int32} (h : ∀ k s, bt (a k) s = true → bt (b k) s = true) {k s : Nat} (hk : k < 23) (hs : s < 16) (h0 : bt (a k) s = false) (h1 : bt (b k) s = true) : dc_a a < dc_a b := by
  have e1 : (16 * k + s) / 16 = k := by omega
  have e2 : (16 * k + s) % 16 = s := by omega
  refine dc_lt (c0 := 16 * k + s) (fun c => h (c / 16) (c % 16)) ?_ ?_ 368 (by omega)
  · show bt (a ((16 * k + s) / 16)) ((16 * k + s) % 16) = false
    rw [e1, e2]; exact h0
  · show bt (b ((16 * k + s) / 16)) ((16 * k + s) % 16) = true
    rw [e1, e2]; exact h1
/-! laying a mask at two places -/
def dm_p (a : Nat → Int32) (x y : Nat) (m : Int32) : Nat → Int32 := upd (upd a x (a x ||| m)) y ((upd a x (a x ||| m)) y ||| m)
theorem dm_bt (a : Nat → Int32) (x y : Nat) (m : Int32) (j i : Nat) : bt (dm_p a x y m j) i = (bt (a j) i || ((decide (j = x) || decide (j = y)) && bt m i)) := by
  unfold dm_p
  by_cases hy : j = y
  · subst hy
    rw [pk_us, b_or]
    by_cases hx : j = x
    · subst hx
      rw [pk_us, b_or]
      simp
    · rw [pk_un hx]
      simp
  · rw [pk_un hy]
    by_cases hx : j = x
    · subst hx
      rw [pk_us, b_or]
      simp
    · rw [pk_un hx]
      simp [hx, hy]
/-! the least set of places with settings -/
def dm_G (n : Nat) (nx : Nat → Bool → Nat) (af : Nat → Nat → Nat) (P : Nat → Nat → Prop) : Prop := P 0 0 ∧ ∀ k s, k < n → s < 16 → P k s → ∀ o, P (nx k o) (af k s)
def dm_cl (nx : Nat → Bool → Nat) (af : Nat → Nat → Nat) (a : Nat → Int32) (k s : Nat) : Prop := bt (a k) s = true → ∀ o, bt (a (nx k o)) (af k s) = true
def dm_B (n : Nat) (nx : Nat → Bool → Nat) (af : Nat → Nat → Nat) (a : Nat → Int32) : Prop :=
  bt (a 0) 0 = true ∧ (∀ k, k < 23 → ∀ i, 16 ≤ i → bt (a k) i = false) ∧ (∀ P, dm_G n nx af P → ∀ k s, k < 23 → s < 16 → bt (a k) s = true → P k s)
def dm_L (n : Nat) (nx : Nat → Bool → Nat) (af : Nat → Nat → Nat) (a : Nat → Int32) : Prop := dm_B n nx af a ∧ ∀ k s, k < n → s < 16 → dm_cl nx af a k s
theorem dm_sub {n : Nat} {nx : Nat → Bool → Nat} {af : Nat → Nat → Nat} {a b : Nat → Int32} (ha : dm_L n nx af a) (hb : dm_B n nx af b) : ∀ k s, k < 23 → s < 16 → bt (b k) s = true → bt (a k) s = true :=
  hb.2.2 (fun k s => bt (a k) s = true) ⟨ha.1.1, fun k s hk hs h o => ha.2 k s hk hs h o⟩
theorem dm_uniq {n : Nat} {nx : Nat → Bool → Nat} {af : Nat → Nat → Nat} {a b : Nat → Int32} (ha : dm_L n nx af a) (hb : dm_L n nx af b) : ∀ k, k < 23 → a k = b k := by
  intro k hk
  apply b_ext
  intro i _
  by_cases hi : i < 16
  · have h1 := dm_sub ha hb.1 k i hk hi
    have h2 := dm_sub hb ha.1 k i hk hi
    cases ea : bt (a k) i <;> cases eb : bt (b k) i
    · rfl
    · rw [h1 eb] at ea; cases ea
    · rw [h2 ea] at eb; cases eb
    · rfl
  · rw [ha.1.2.1 k hk i (by omega), hb.1.2.1 k hk i (by omega)]
def dm_I (n : Nat) (nx : Nat → Bool → Nat) (af : Nat → Nat → Nat) (a0 : Nat → Int32) (D : Nat → Nat → Prop) (a : Nat → Int32) (g : Int32) : Prop :=
  dm_B n nx af a ∧ (∀ k s, bt (a0 k) s = true → bt (a k) s = true) ∧ ((g = 0 ∧ a = a0 ∧ ∀ k s, k < n → s < 16 → D k s → dm_cl nx af a0 k s) ∨ (g = 1 ∧ dc_a a0 < dc_a a))
theorem dm_step {n : Nat} {nx : Nat → Bool → Nat} {af : Nat → Nat → Nat} {a0 : Nat → Int32} {D D' : Nat → Nat → Prop} {a : Nat → Int32} {g : Int32} (hx : ∀ k, k < n → ∀ o, nx k o < 23) (hn : n ≤ 22) (haf : ∀ k s, k < n → s < 16 → af k s < 16)
    (h : dm_I n nx af a0 D a g) {k : Nat} (hk : k < n) (m : Int32) (E : Nat → Prop)
    (h1 : ∀ i, bt m i = true → ∃ s, s < 16 ∧ bt (a k) s = true ∧ i = af k s)
    (h2 : ∀ s, s < 16 → E s → bt (a k) s = true → bt m (af k s) = true)
    (hD : ∀ k' s', D' k' s' → D k' s' ∨ (k' = k ∧ E s')) (g' : Int32)
    (hg : (g = 0 ∧ g' = 0 ∧ (∀ i, bt m i = true → bt (a (nx k true)) i = true) ∧ (∀ i, bt m i = true → bt (a (nx k false)) i = true)) ∨ (g' = 1 ∧ (g = 1 ∨ ∃ i o, bt m i = true ∧ bt (a (nx k o)) i = false))) :
    dm_I n nx af a0 D' (dm_p a (nx k true) (nx k false) m) g' := by
  obtain ⟨⟨b0, bh, bm⟩, mo, hc⟩ := h
  have up : ∀ j i, bt (a j) i = true → bt (dm_p a (nx k true) (nx k false) m j) i = true := by
    intro j i z
    rw [dm_bt, z]; rfl
  have m16 : ∀ i, 16 ≤ i → bt m i = false := by
    intro i hi
    cases e : bt m i
    · rfl
    · obtain ⟨s, hs, _, e2⟩ := h1 i e
      have := haf k s hk hs
      omega
  refine ⟨⟨up _ _ b0, ?_, ?_⟩, fun j i z => up j i (mo j i z), ?_⟩
  · intro j hj i hi
    rw [dm_bt, bh j hj i hi, m16 i hi]
    simp
  · intro P hP j s hj hs z
    rw [dm_bt] at z
    by_cases e : bt (a j) s = true
    · exact bm P hP j s hj hs e
    · have e' : bt (a j) s = false := by cases q : bt (a j) s <;> simp_all
      rw [e', Bool.false_or, Bool.and_eq_true, Bool.or_eq_true, decide_eq_true_eq, decide_eq_true_eq] at z
      obtain ⟨zj, zm⟩ := z
      obtain ⟨s0, hs0, hb0, rfl⟩ := h1 s zm
      have hp := hP.2 k s0 hk hs0 (bm P hP k s0 (by omega) hs0 hb0)
      rcases zj with rfl | rfl
      · exact hp true
      · exact hp false
  · rcases hg with ⟨g0, g'0, s1, s2⟩ | ⟨g'1, hh⟩
    · left
      rcases hc with ⟨_, ea, hcl⟩ | ⟨g1, _⟩
      · have e : dm_p a (nx k true) (nx k false) m = a := by
          funext j
          apply b_ext
          intro i _
          rw [dm_bt]
          cases em : bt m i
          · simp
          · by_cases e1 : j = nx k true
            · subst e1; rw [s1 i em]; rfl
            · by_cases e2 : j = nx k false
              · subst e2; rw [s2 i em]; rfl
              · simp [e1, e2]
        refine ⟨g'0, e.trans ea, ?_⟩
        intro k' s' hk' hs' hd
        rcases hD k' s' hd with hd | ⟨rfl, he⟩
        · exact hcl k' s' hk' hs' hd
        · intro z o
          rw [← ea] at z ⊢
          have := h2 s' hs' he z
          cases o
          · exact s2 _ this
          · exact s1 _ this
      · rw [g1] at g0; exact absurd g0 (by decide)
    · right
      refine ⟨g'1, ?_⟩
      rcases hc with ⟨g0, ea, _⟩ | ⟨g1, hlt⟩
      · rcases hh with g1 | ⟨i, o, em, e0⟩
        · rw [g1] at g0; exact absurd g0 (by decide)
        · rw [← ea]
          obtain ⟨s, hs, _, e2⟩ := h1 i em
          have hi := haf k s hk hs
          refine dc_a_lt up (hx k hk o) (s := i) (by omega) e0 ?_
          rw [dm_bt, em]
          cases o <;> simp
      · exact Nat.lt_of_lt_of_le hlt (dc_a_mono up)
def dm_O (n : Nat) (nx : Nat → Bool → Nat) (af : Nat → Nat → Nat) (p : Nat) (a : Nat → Int32) (g : Int32) : Prop :=
  dm_B n nx af a ∧ ((g = 1 ∧ p + 1 ≤ dc_a a) ∨ (g = 0 ∧ ∀ k s, k < n → s < 16 → dm_cl nx af a k s))
theorem dm_O_I {n : Nat} {nx : Nat → Bool → Nat} {af : Nat → Nat → Nat} {a : Nat → Int32} (D : Nat → Nat → Prop) (hD : ∀ k s, k < n → s < 16 → ¬ D k s) (h : dm_B n nx af a) : dm_I n nx af a D a 0 :=
  ⟨h, fun _ _ z => z, Or.inl ⟨rfl, rfl, fun k s hk hs z => absurd z (hD k s hk hs)⟩⟩
theorem dm_I_O {n : Nat} {nx : Nat → Bool → Nat} {af : Nat → Nat → Nat} {a0 a : Nat → Int32} {D : Nat → Nat → Prop} {g : Int32} {p : Nat} (hD : ∀ k s, k < n → s < 16 → D k s) (hp : p + 1 ≤ dc_a a0) (h : dm_I n nx af a0 D a g) : dm_O n nx af (p + 1) a g := by
  obtain ⟨hB, _, hc⟩ := h
  refine ⟨hB, ?_⟩
  rcases hc with ⟨g0, ea, hcl⟩ | ⟨g1, hlt⟩
  · subst ea
    exact Or.inr ⟨g0, fun k s hk hs => hcl k s hk hs (hD k s hk hs)⟩
  · exact Or.inl ⟨g1, by omega⟩
theorem dm_O_L {n : Nat} {nx : Nat → Bool → Nat} {af : Nat → Nat → Nat} {a : Nat → Int32} {g : Int32} {p : Nat} (h : dm_O n nx af p a g) (hg : g = 0 ∨ 369 ≤ p) : dm_L n nx af a := by
  obtain ⟨hB, hc⟩ := h
  rcases hc with ⟨g1, hlt⟩ | ⟨g0, hcl⟩
  · rcases hg with g0 | hp
    · rw [g1] at g0; exact absurd g0 (by decide)
    · have := dc_a_le a
      omega
  · exact ⟨hB, hcl⟩
theorem dm_1 : ∀ i, i < 32 → bt 1 i = decide (i = 0) := by decide +kernel
theorem dm_one (i : Nat) : bt 1 i = decide (i = 0) := by
  by_cases h : i < 32
  · exact dm_1 i h
  · rw [b_big (by omega), decide_eq_false (by omega)]
theorem dm_init {n : Nat} {nx : Nat → Bool → Nat} {af : Nat → Nat → Nat} {a : Nat → Int32} (h : ∀ k, k < 23 → a k = if k = 0 then 1 else 0) : dm_O n nx af 0 a 1 := by
  have e0 : a 0 = 1 := (h 0 (by decide)).trans (if_pos rfl)
  have hb : bt (a 0) 0 = true := by rw [e0, dm_one]; rfl
  refine ⟨⟨hb, ?_, ?_⟩, Or.inl ⟨rfl, ?_⟩⟩
  · intro k hk i hi
    rw [h k hk]
    by_cases z : k = 0
    · rw [if_pos z, dm_one, decide_eq_false (by omega)]
    · rw [if_neg z, b_0]
  · intro P hP k s hk hs z
    rw [h k hk] at z
    by_cases zk : k = 0
    · rw [if_pos zk, dm_one, decide_eq_true_eq] at z
      subst zk z
      exact hP.1
    · rw [if_neg zk, b_0] at z
      cases z
  · have h0 : dc_a (fun _ => 0) < dc_a a := dc_a_lt (k := 0) (s := 0) (fun k s z => by rw [b_0] at z; cases z) (by decide) (by decide) (b_0 0) hb
    omega
end
section
theorem db_shl32 : ∀ c, c < 32 → ∀ i, i < 32 → bt ((1 : Int32) <<< (nI c &&& 31)) i = decide (i = c) := by decide +kernel
theorem db_shl {c : Nat} (hc : c < 32) (i : Nat) : bt ((1 : Int32) <<< (nI c &&& 31)) i = decide (i = c) := by
  by_cases h : i < 32
  · exact db_shl32 c hc i h
  · rw [b_big (by omega), decide_eq_false (by omega)]
theorem db_and1 (y : Int32) : (y &&& 1) = if bt y 0 = true then 1 else 0 := by
  apply b_ext
  intro i _
  rw [b_and, dm_one]
  by_cases h : i = 0
  · subst h
    cases bt y 0
    · rw [if_neg (by decide), b_0]; rfl
    · rw [if_pos rfl, dm_one]; rfl
  · rw [decide_eq_false h, Bool.and_false]
    split
    · rw [dm_one, decide_eq_false h]
    · rw [b_0]
theorem db_1 (y : Int32) : (y &&& 1) = 1 ↔ bt y 0 = true := by
  rw [db_and1]
  cases bt y 0 <;> decide
theorem db_z (y : Int32) : (y &&& 1) = 0 ↔ bt y 0 = false := by
  rw [db_and1]
  cases bt y 0 <;> decide
theorem db_u (x : Int32) {s : Nat} (hs : s < 32) : ((x.toUInt32 >>> ((nI s).toUInt32 &&& Int32.toUInt32 31)).toInt32 &&& 1) = 1 ↔ bt x s = true := by
  rw [db_1, b_ushr s hs, Nat.add_zero]
theorem db_s (x : Int32) {s : Nat} (hs : s < 32) : ((x >>> (nI s &&& 31)) &&& 1) = 1 ↔ bt x s = true := by
  rw [db_1, b_sshr s hs x (by decide), Nat.add_zero, if_pos hs]
theorem db_s0 (x : Int32) {s : Nat} (hs : s < 32) : ((x >>> (nI s &&& 31)) &&& 1) = 0 ↔ bt x s = false := by
  rw [db_z, b_sshr s hs x (by decide), Nat.add_zero, if_pos hs]
theorem db_sub0 (m z : Int32) : (m &&& (z ^^^ (-1))) = 0 ↔ ∀ i, bt m i = true → bt z i = true := by
  constructor
  · intro h i hm
    have hi : i < 32 := by
      rcases Nat.lt_or_ge i 32 with q | q
      · exact q
      · rw [b_big q] at hm; cases hm
    have e : bt (m &&& (z ^^^ (-1))) i = false := by rw [h, b_0]
    rw [b_and, b_xor, b_m1 i hi, hm] at e
    cases q : bt z i
    · rw [q] at e; cases e
    · rfl
  · intro h
    apply b_ext
    intro i hi
    rw [b_and, b_xor, b_m1 i hi, b_0]
    cases q : bt m i
    · rfl
    · rw [h i q]; rfl
theorem db_and0 (z : Int32) {c : Nat} (hc : c < 32) : (z &&& ((1 : Int32) <<< (nI c &&& 31))) = 0 ↔ bt z c = false := by
  constructor
  · intro h
    have e : bt (z &&& ((1 : Int32) <<< (nI c &&& 31))) c = false := by rw [h, b_0]
    rw [b_and, db_shl hc, decide_eq_true rfl, Bool.and_true] at e
    exact e
  · intro h
    apply b_ext
    intro i hi
    rw [b_and, db_shl hc, b_0]
    by_cases e : i = c
    · subst e; rw [h]; rfl
    · rw [decide_eq_false e, Bool.and_false]
theorem db_ba0 (z : Int32) {c : Nat} (hc : c < 32) : (z &&& ((1 : Int32) <<< (nI c &&& 31))) = 0 ↔ bt z c = false := db_and0 z hc
/-! the bit of a token -/
theorem db_3 : ∀ t, t < 32 → (nI t &&& 3) = nI (t % 4) := by decide +kernel
def dt_set (t : Nat) : Bool := decide (8 ≤ t ∧ t ≤ 11 ∨ 24 ≤ t ∧ t ≤ 27)
def dt_use (t : Nat) : Bool := decide (12 ≤ t ∧ t ≤ 15 ∨ 28 ≤ t)
def dt_opn (t : Nat) : Bool := decide (t = 18 ∨ 24 ≤ t)
def dt_tk (t : Nat) : Bool := decide (t < 32 ∧ t ≠ 2 ∧ t ≠ 3 ∧ t ≠ 7 ∧ t ≠ 23)
def dt_at (t s : Nat) : Nat := if dt_set t = true then s ||| 2 ^ (t % 4) else s
def dt_af (T : Nat → Nat) (k s : Nat) : Nat := dt_at (T k) s
theorem db_at16 : ∀ t, t < 32 → ∀ s, s < 16 → dt_at t s < 16 := by decide +kernel
theorem db_atS : ∀ t, t < 32 → dt_set t = true → ∀ s, s < 16 → nI s ||| ((1 : Int32) <<< ((nI t &&& 3) &&& 31)) = nI (dt_at t s) := by decide +kernel
def db_i (b : Bool) : Int32 := if b = true then 1 else 0
/-! the folds over the settings of a mask -/
def dv_f (al : Bool) (m : Int32) : Nat → Int32
  | 0 => if al = true then 15 else 0
  | s + 1 => if bt m s = true then (if al = true then dv_f al m s &&& nI s else dv_f al m s ||| nI s) else dv_f al m s
theorem dv_15 : ∀ v, v < 4 → bt 15 v = true := by decide +kernel
theorem dv_t (m : Int32) {v : Nat} (hv : v < 4) : ∀ s, bt (dv_f true m s) v = true ↔ ∀ s', s' < s → bt m s' = true → bt (nI s') v = true := by
  intro s
  induction s with
  | zero => exact ⟨fun _ s' h => absurd h (Nat.not_lt_zero _), fun _ => dv_15 v hv⟩
  | succ s ih =>
    have e : dv_f true m (s + 1) = if bt m s = true then dv_f true m s &&& nI s else dv_f true m s := rfl
    rw [e]
    by_cases h : bt m s = true
    · rw [if_pos h, b_and, Bool.and_eq_true, ih]
      constructor
      · intro ⟨h1, h2⟩ s' hs' hb
        by_cases z : s' = s
        · subst z; exact h2
        · exact h1 s' (by omega) hb
      · intro h1
        exact ⟨fun s' hs' hb => h1 s' (by omega) hb, h1 s (by omega) h⟩
    · rw [if_neg h, ih]
      constructor
      · intro h1 s' hs' hb
        by_cases z : s' = s
        · subst z; exact absurd hb h
        · exact h1 s' (by omega) hb
      · intro h1 s' hs' hb
        exact h1 s' (by omega) hb
theorem dv_s (m : Int32) (v : Nat) : ∀ s, bt (dv_f false m s) v = true ↔ ∃ s', s' < s ∧ bt m s' = true ∧ bt (nI s') v = true := by
  intro s
  induction s with
  | zero =>
    constructor
    · intro h
      have h : bt 0 v = true := h
      rw [b_0] at h; cases h
    · intro ⟨s', h, _⟩
      exact absurd h (Nat.not_lt_zero _)
  | succ s ih =>
    have e : dv_f false m (s + 1) = if bt m s = true then dv_f false m s ||| nI s else dv_f false m s := rfl
    rw [e]
    by_cases h : bt m s = true
    · rw [if_pos h, b_or, Bool.or_eq_true, ih]
      constructor
      · intro h1
        rcases h1 with ⟨s', a, b, c⟩ | h1
        · exact ⟨s', by omega, b, c⟩
        · exact ⟨s, by omega, h, h1⟩
      · intro ⟨s', a, b, c⟩
        by_cases z : s' = s
        · subst z; exact Or.inr c
        · exact Or.inl ⟨s', by omega, b, c⟩
    · rw [if_neg h, ih]
      constructor
      · intro ⟨s', a, b, c⟩
        exact ⟨s', by omega, b, c⟩
      · intro ⟨s', a, b, c⟩
        by_cases z : s' = s
        · subst z; exact absurd b h
        · exact ⟨s', by omega, b, c⟩
/-! the folds over the places -/
def dr_f (Q : Nat → Bool) : Nat → Int32
  | 0 => 0
  | k + 1 => if Q k = true then dr_f Q k ||| ((1 : Int32) <<< (nI k &&& 31)) else dr_f Q k
def dr_y (q : Nat → Bool) : Nat → Int32
  | 0 => 0
  | c + 1 => if q c = true then dr_y q c ||| ((1 : Int32) <<< (nI (c / 16) &&& 31)) else dr_y q c
theorem dr_fb (Q : Nat → Bool) (i : Nat) : ∀ k, k ≤ 32 → (bt (dr_f Q k) i = true ↔ i < k ∧ Q i = true) := by
  intro k
  induction k with
  | zero =>
    intro _
    constructor
    · intro h
      have h : bt 0 i = true := h
      rw [b_0] at h; cases h
    · intro h; omega
  | succ k ih =>
    intro hk
    have e : dr_f Q (k + 1) = if Q k = true then dr_f Q k ||| ((1 : Int32) <<< (nI k &&& 31)) else dr_f Q k := rfl
    rw [e]
    by_cases h : Q k = true
    · rw [if_pos h, b_or, Bool.or_eq_true, ih (by omega), db_shl (by omega), decide_eq_true_eq]
      constructor
      · intro h1
        rcases h1 with ⟨a, b⟩ | rfl
        · exact ⟨by omega, b⟩
        · exact ⟨by omega, h⟩
      · intro ⟨a, b⟩
        by_cases z : i = k
        · exact Or.inr z
        · exact Or.inl ⟨by omega, b⟩
    · rw [if_neg h, ih (by omega)]
      constructor
      · intro ⟨a, b⟩
        exact ⟨by omega, b⟩
      · intro ⟨a, b⟩
        by_cases z : i = k
        · subst z; exact absurd b h
        · exact ⟨by omega, b⟩
theorem dr_yb (q : Nat → Bool) (i : Nat) : ∀ c, c ≤ 512 → (bt (dr_y q c) i = true ↔ ∃ d, d < c ∧ q d = true ∧ i = d / 16) := by
  intro c
  induction c with
  | zero =>
    intro _
    constructor
    · intro h
      have h : bt 0 i = true := h
      rw [b_0] at h; cases h
    · intro ⟨d, h, _⟩; omega
  | succ c ih =>
    intro hk
    have e : dr_y q (c + 1) = if q c = true then dr_y q c ||| ((1 : Int32) <<< (nI (c / 16) &&& 31)) else dr_y q c := rfl
    rw [e]
    by_cases h : q c = true
    · rw [if_pos h, b_or, Bool.or_eq_true, ih (by omega), db_shl (by omega), decide_eq_true_eq]
      constructor
      · intro h1
        rcases h1 with ⟨d, a, b, e9⟩ | e9
        · exact ⟨d, by omega, b, e9⟩
        · exact ⟨c, by omega, h, e9⟩
      · intro ⟨d, a, b, e9⟩
        by_cases z : d = c
        · subst z; exact Or.inr e9
        · exact Or.inl ⟨d, by omega, b, e9⟩
    · rw [if_neg h, ih (by omega)]
      constructor
      · intro ⟨d, a, b, e9⟩
        exact ⟨d, by omega, b, e9⟩
      · intro ⟨d, a, b, e9⟩
        by_cases z : d = c
        · subst z; exact absurd b h
        · exact ⟨d, by omega, b, e9⟩
theorem dr_eq {Q q : Nat → Bool} {n : Nat} (hn : n ≤ 22) (h : ∀ k, k < n → (Q k = true ↔ ∃ s, s < 16 ∧ q (16 * k + s) = true)) : dr_y q (16 * n) = dr_f Q n := by
  apply b_ext
  intro i _
  have h1 := dr_fb Q i n (by omega)
  have h2 := dr_yb q i (16 * n) (by omega)
  have h3 : bt (dr_y q (16 * n)) i = true ↔ bt (dr_f Q n) i = true := by
    rw [h1, h2]
    constructor
    · intro ⟨d, a, b, e⟩
      refine ⟨by omega, (h i (by omega)).mpr ⟨d % 16, by omega, ?_⟩⟩
      rw [show 16 * i + d % 16 = d by omega]
      exact b
    · intro ⟨a, b⟩
      obtain ⟨s, hs, e⟩ := (h i a).mp b
      exact ⟨16 * i + s, by omega, e, by omega⟩
  cases e1 : bt (dr_y q (16 * n)) i <;> cases e2 : bt (dr_f Q n) i
  · rfl
  · rw [h3.mpr e2] at e1; cases e1
  · rw [h3.mp e1] at e2; cases e2
  · rfl
end
section
/-! the methods that read a token alone -/
theorem dk_ite {c A B : Prop} [Decidable c] : ((c → A) ∧ (¬ c → B)) ↔ (if c then A else B) := by
  by_cases h : c
  · rw [if_pos h]; exact ⟨fun z => z.1 h, fun a => ⟨fun _ => a, fun z => absurd h z⟩⟩
  · rw [if_neg h]; exact ⟨fun z => z.2 h, fun a => ⟨fun z => absurd z h, fun _ => a⟩⟩
theorem dx_pc0 : ∀ t, t < 32 → wpX_partCount (fun r => r = nI (dt_ar t)) (nI t) := by
  simp only [wpX_partCount, dk_ite]
  decide +kernel
theorem dx_pcM {P Q : Int32 → Prop} {x : Int32} (hPQ : ∀ r, P r → Q r) (h : wpX_partCount P x) : wpX_partCount Q x := by
  simp only [wpX_partCount] at h ⊢
  repeat' first
    | exact hPQ _ h
    | exact h
    | (refine And.imp (fun g z => ?_) (fun g z => ?_) h <;> (have h := g z; clear g))
theorem dx_pc {post : Int32 → Prop} {t : Nat} (ht : t < 32) (hp : post (nI (dt_ar t))) : wpX_partCount post (nI t) := dx_pcM (P := fun r => r = nI (dt_ar t)) (fun _ e => e ▸ hp) (dx_pc0 t ht)
theorem dx_ic0 : ∀ t, t < 32 → wpX_isCondition (fun r => r = db_i (dt_c t)) (nI t) := by
  simp only [wpX_isCondition, dk_ite]
  decide +kernel
theorem dx_icM {P Q : Int32 → Prop} {x : Int32} (hPQ : ∀ r, P r → Q r) (h : wpX_isCondition P x) : wpX_isCondition Q x := by
  simp only [wpX_isCondition] at h ⊢
  repeat' first
    | exact hPQ _ h
    | exact h
    | (refine And.imp (fun g z => ?_) (fun g z => ?_) h <;> (have h := g z; clear g))
theorem dx_ic {post : Int32 → Prop} {t : Nat} (ht : t < 32) (hp : post (db_i (dt_c t))) : wpX_isCondition post (nI t) := dx_icM (P := fun r => r = db_i (dt_c t)) (fun _ e => e ▸ hp) (dx_ic0 t ht)
theorem dx_tk0 : ∀ t, t < 32 → wpX_isToken (fun r => r = db_i (dt_tk t)) (nI t) := by
  simp only [wX_isToken_22, wX_isToken_27, wpX_isToken, dk_ite]
  decide +kernel
theorem dx_tkM {P Q : Int32 → Prop} {x : Int32} (hPQ : ∀ r, P r → Q r) (h : wpX_isToken P x) : wpX_isToken Q x := by
  simp only [wX_isToken_22, wX_isToken_27, wpX_isToken] at h ⊢
  repeat' first
    | exact hPQ _ h
    | exact h
    | (refine And.imp (fun g z => ?_) (fun g z => ?_) h <;> (have h := g z; clear g))
theorem dx_tk {post : Int32 → Prop} {t : Nat} (ht : t < 32) (hp : post (db_i (dt_tk t))) : wpX_isToken post (nI t) := dx_tkM (P := fun r => r = db_i (dt_tk t)) (fun _ e => e ▸ hp) (dx_tk0 t ht)
theorem dx_se0 : ∀ t, t < 32 → wpX_isSetting (fun r => r = db_i (dt_set t)) (nI t) := by
  simp only [wX_isSetting_16, wX_isSetting_17, wX_isSetting_34, wX_isSetting_35, wpX_isSetting, dk_ite]
  decide +kernel
theorem dx_seM {P Q : Int32 → Prop} {x : Int32} (hPQ : ∀ r, P r → Q r) (h : wpX_isSetting P x) : wpX_isSetting Q x := by
  simp only [wX_isSetting_16, wX_isSetting_17, wX_isSetting_34, wX_isSetting_35, wpX_isSetting] at h ⊢
  repeat' first
    | exact hPQ _ h
    | exact h
    | (refine And.imp (fun g z => ?_) (fun g z => ?_) h <;> (have h := g z; clear g))
theorem dx_se {post : Int32 → Prop} {t : Nat} (ht : t < 32) (hp : post (db_i (dt_set t))) : wpX_isSetting post (nI t) := dx_seM (P := fun r => r = db_i (dt_set t)) (fun _ e => e ▸ hp) (dx_se0 t ht)
theorem dx_us0 : ∀ t, t < 32 → wpX_isUsing (fun r => r = db_i (dt_use t)) (nI t) := by
  simp only [wX_isUsing_16, wX_isUsing_17, wX_isUsing_34, wX_isUsing_35, wpX_isUsing, dk_ite]
  decide +kernel
theorem dx_usM {P Q : Int32 → Prop} {x : Int32} (hPQ : ∀ r, P r → Q r) (h : wpX_isUsing P x) : wpX_isUsing Q x := by
  simp only [wX_isUsing_16, wX_isUsing_17, wX_isUsing_34, wX_isUsing_35, wpX_isUsing] at h ⊢
  repeat' first
    | exact hPQ _ h
    | exact h
    | (refine And.imp (fun g z => ?_) (fun g z => ?_) h <;> (have h := g z; clear g))
theorem dx_us {post : Int32 → Prop} {t : Nat} (ht : t < 32) (hp : post (db_i (dt_use t))) : wpX_isUsing post (nI t) := dx_usM (P := fun r => r = db_i (dt_use t)) (fun _ e => e ▸ hp) (dx_us0 t ht)
theorem dx_un0 : ∀ t, t < 32 → wpX_isUndecided (fun r => r = db_i (dt_opn t)) (nI t) := by
  simp only [wpX_isUndecided, dk_ite]
  decide +kernel
theorem dx_unM {P Q : Int32 → Prop} {x : Int32} (hPQ : ∀ r, P r → Q r) (h : wpX_isUndecided P x) : wpX_isUndecided Q x := by
  simp only [wpX_isUndecided] at h ⊢
  repeat' first
    | exact hPQ _ h
    | exact h
    | (refine And.imp (fun g z => ?_) (fun g z => ?_) h <;> (have h := g z; clear g))
theorem dx_un {post : Int32 → Prop} {t : Nat} (ht : t < 32) (hp : post (db_i (dt_opn t))) : wpX_isUndecided post (nI t) := dx_unM (P := fun r => r = db_i (dt_opn t)) (fun _ e => e ▸ hp) (dx_un0 t ht)
theorem dy_st0 (u : SY) : ∀ t, t < 32 → wpY_statement (fun r => r = db_i (!dt_c t && dt_tk t)) u (nI t) := by
  obtain ⟨f_size, f_ranSet, f_ranVisited, f_ranFaults, a_tokens, a_next, a_yes, a_no, a_out, a_come, a_places⟩ := u
  simp only [wY_statement_20, wpY_statement, dk_ite]
  decide +kernel
theorem dy_stM {P Q : Int32 → Prop} {u : SY} {x : Int32} (hPQ : ∀ r, P r → Q r) (h : wpY_statement P u x) : wpY_statement Q u x := by
  obtain ⟨f_size, f_ranSet, f_ranVisited, f_ranFaults, a_tokens, a_next, a_yes, a_no, a_out, a_come, a_places⟩ := u
  simp only [wY_statement_20, wpY_statement] at h ⊢
  repeat' first
    | exact hPQ _ h
    | exact h
    | (refine And.imp (fun g z => ?_) (fun g z => ?_) h <;> (have h := g z; clear g))
theorem dy_st {post : Int32 → Prop} {u : SY} {t : Nat} (ht : t < 32) (hp : post (db_i (!dt_c t && dt_tk t))) : wpY_statement post u (nI t) := dy_stM (P := fun r => r = db_i (!dt_c t && dt_tk t)) (fun _ e => e ▸ hp) (dy_st0 u t ht)
theorem dy_co0 (u : SY) : ∀ t, t < 32 → wpY_condition (fun r => r = db_i (dt_c t && dt_tk t)) u (nI t) := by
  obtain ⟨f_size, f_ranSet, f_ranVisited, f_ranFaults, a_tokens, a_next, a_yes, a_no, a_out, a_come, a_places⟩ := u
  simp only [wY_condition_12, wpY_condition, dk_ite]
  decide +kernel
theorem dy_coM {P Q : Int32 → Prop} {u : SY} {x : Int32} (hPQ : ∀ r, P r → Q r) (h : wpY_condition P u x) : wpY_condition Q u x := by
  obtain ⟨f_size, f_ranSet, f_ranVisited, f_ranFaults, a_tokens, a_next, a_yes, a_no, a_out, a_come, a_places⟩ := u
  simp only [wY_condition_12, wpY_condition] at h ⊢
  repeat' first
    | exact hPQ _ h
    | exact h
    | (refine And.imp (fun g z => ?_) (fun g z => ?_) h <;> (have h := g z; clear g))
theorem dy_co {post : Int32 → Prop} {u : SY} {t : Nat} (ht : t < 32) (hp : post (db_i (dt_c t && dt_tk t))) : wpY_condition post u (nI t) := dy_coM (P := fun r => r = db_i (dt_c t && dt_tk t)) (fun _ e => e ▸ hp) (dy_co0 u t ht)
theorem dy_pc0 (u : SY) : ∀ t, t < 32 → wpY_parts (fun r => r = nI (dt_ar t)) u (nI t) := by
  obtain ⟨f_size, f_ranSet, f_ranVisited, f_ranFaults, a_tokens, a_next, a_yes, a_no, a_out, a_come, a_places⟩ := u
  simp only [wpY_parts, dk_ite]
  decide +kernel
theorem dy_pcM {P Q : Int32 → Prop} {u : SY} {x : Int32} (hPQ : ∀ r, P r → Q r) (h : wpY_parts P u x) : wpY_parts Q u x := by
  obtain ⟨f_size, f_ranSet, f_ranVisited, f_ranFaults, a_tokens, a_next, a_yes, a_no, a_out, a_come, a_places⟩ := u
  simp only [wpY_parts] at h ⊢
  repeat' first
    | exact hPQ _ h
    | exact h
    | (refine And.imp (fun g z => ?_) (fun g z => ?_) h <;> (have h := g z; clear g))
theorem dy_pc {post : Int32 → Prop} {u : SY} {t : Nat} (ht : t < 32) (hp : post (nI (dt_ar t))) : wpY_parts post u (nI t) := dy_pcM (P := fun r => r = nI (dt_ar t)) (fun _ e => e ▸ hp) (dy_pc0 u t ht)
theorem dy_un0 (u : SY) : ∀ t, t < 32 → wpY_open (fun r => r = db_i (dt_opn t)) u (nI t) := by
  obtain ⟨f_size, f_ranSet, f_ranVisited, f_ranFaults, a_tokens, a_next, a_yes, a_no, a_out, a_come, a_places⟩ := u
  simp only [wpY_open, dk_ite]
  decide +kernel
theorem dy_unM {P Q : Int32 → Prop} {u : SY} {x : Int32} (hPQ : ∀ r, P r → Q r) (h : wpY_open P u x) : wpY_open Q u x := by
  obtain ⟨f_size, f_ranSet, f_ranVisited, f_ranFaults, a_tokens, a_next, a_yes, a_no, a_out, a_come, a_places⟩ := u
  simp only [wpY_open] at h ⊢
  repeat' first
    | exact hPQ _ h
    | exact h
    | (refine And.imp (fun g z => ?_) (fun g z => ?_) h <;> (have h := g z; clear g))
theorem dy_un {post : Int32 → Prop} {u : SY} {t : Nat} (ht : t < 32) (hp : post (db_i (dt_opn t))) : wpY_open post u (nI t) := dy_unM (P := fun r => r = db_i (dt_opn t)) (fun _ e => e ▸ hp) (dy_un0 u t ht)
theorem dy_us0 (u : SY) : ∀ t, t < 32 → wpY_uses (fun r => r = db_i (dt_use t)) u (nI t) := by
  obtain ⟨f_size, f_ranSet, f_ranVisited, f_ranFaults, a_tokens, a_next, a_yes, a_no, a_out, a_come, a_places⟩ := u
  simp only [wY_uses_12, wpY_uses, dk_ite]
  decide +kernel
theorem dy_usM {P Q : Int32 → Prop} {u : SY} {x : Int32} (hPQ : ∀ r, P r → Q r) (h : wpY_uses P u x) : wpY_uses Q u x := by
  obtain ⟨f_size, f_ranSet, f_ranVisited, f_ranFaults, a_tokens, a_next, a_yes, a_no, a_out, a_come, a_places⟩ := u
  simp only [wY_uses_12, wpY_uses] at h ⊢
  repeat' first
    | exact hPQ _ h
    | exact h
    | (refine And.imp (fun g z => ?_) (fun g z => ?_) h <;> (have h := g z; clear g))
theorem dy_us {post : Int32 → Prop} {u : SY} {t : Nat} (ht : t < 32) (hp : post (db_i (dt_use t))) : wpY_uses post u (nI t) := dy_usM (P := fun r => r = db_i (dt_use t)) (fun _ e => e ▸ hp) (dy_us0 u t ht)
theorem dy_se0 (u : SY) : ∀ t, t < 32 → wpY_sets (fun r => r = db_i (dt_set t)) u (nI t) := by
  obtain ⟨f_size, f_ranSet, f_ranVisited, f_ranFaults, a_tokens, a_next, a_yes, a_no, a_out, a_come, a_places⟩ := u
  simp only [wY_sets_12, wpY_sets, dk_ite]
  decide +kernel
theorem dy_seM {P Q : Int32 → Prop} {u : SY} {x : Int32} (hPQ : ∀ r, P r → Q r) (h : wpY_sets P u x) : wpY_sets Q u x := by
  obtain ⟨f_size, f_ranSet, f_ranVisited, f_ranFaults, a_tokens, a_next, a_yes, a_no, a_out, a_come, a_places⟩ := u
  simp only [wY_sets_12, wpY_sets] at h ⊢
  repeat' first
    | exact hPQ _ h
    | exact h
    | (refine And.imp (fun g z => ?_) (fun g z => ?_) h <;> (have h := g z; clear g))
theorem dy_se {post : Int32 → Prop} {u : SY} {t : Nat} (ht : t < 32) (hp : post (db_i (dt_set t))) : wpY_sets post u (nI t) := dy_seM (P := fun r => r = db_i (dt_set t)) (fun _ e => e ▸ hp) (dy_se0 u t ht)
end
section
/-! the stack of pending parts in an array -/
def dk_S (c : Bool → Int32) (a : Nat → Int32) : List Bool → Prop
  | [] => True
  | b :: r => a r.length = c b ∧ dk_S c a r
theorem dk_Su {c : Bool → Int32} {a : Nat → Int32} {k : Nat} {v : Int32} : ∀ {L : List Bool}, dk_S c a L → L.length ≤ k → dk_S c (upd a k v) L := by
  intro L
  induction L with
  | nil => intro _ _; exact True.intro
  | cons b r ih =>
    intro h hk
    have hk' : r.length + 1 ≤ k := hk
    refine ⟨?_, ih h.2 (by omega)⟩
    rw [pk_un (by omega)]
    exact h.1
theorem dk_Sp {c : Bool → Int32} {a : Nat → Int32} {b : Bool} {r : List Bool} {v : Int32} (h : dk_S c a r) (hv : v = c b) : dk_S c (upd a r.length v) (b :: r) :=
  ⟨pk_us.trans hv, dk_Su h (Nat.le_refl _)⟩
theorem dk_kd1 : ∀ t, t < 32 → (t ≠ 5 ∧ t ≠ 6) → ∀ j, j < 3 → ∀ b, (dt_kd t)[j]? = some b → b = dt_c t := by decide +kernel
theorem dk_kd2 : ∀ t, t < 32 → (t = 5 ∨ t = 6) → ∀ j, j < 3 → ∀ b, (dt_kd t)[j]? = some b → b = decide (j = 0) := by decide +kernel
theorem dk_kd3 : ∀ t, t < 32 → dt_c t = true → ∀ j, j < 3 → ∀ b, (dt_kd t)[j]? = some b → b = true := by decide +kernel
theorem dk_lt {t j : Nat} {b : Bool} (ht : t < 32) (h : (dt_kd t)[j]? = some b) : j < 3 := by
  have h1 := dt_ar_le t ht
  have h2 : j < (dt_kd t).length := by
    rcases Nat.lt_or_ge j (dt_kd t).length with z | z
    · exact z
    · rw [List.getElem?_eq_none z] at h; cases h
  unfold dt_ar at h1
  omega
theorem dk_nb (b : Bool) : vp_nar .boolean (db_i b) = db_i b := by cases b <;> rfl
theorem dk_nb2 (b : Bool) : narrow .boolean (.int (db_i b)) = .int (db_i b) := by cases b <;> rfl
theorem dx_pi {post : Int32 → Prop} {t j : Nat} {b : Bool} (ht : t < 32) (hb : (dt_kd t)[j]? = some b) (hp : post (db_i b)) : wpX_partIsCondition post (nI t) (nI j) := by
  have hj := dk_lt ht hb
  by_cases h5 : t = 5
  · have e := dk_kd2 t ht (Or.inl h5) j hj b hb
    subst h5
    refine br_t rfl ?_
    refine pk_eq j 0 (fun z => ?_) (fun z => ?_)
    · subst z; rw [e] at hp; exact hp
    · rw [e, decide_eq_false z] at hp; exact hp
  · by_cases h6 : t = 6
    · have e := dk_kd2 t ht (Or.inr h6) j hj b hb
      subst h6
      refine br_f (by decide) (br_t rfl ?_)
      refine pk_eq j 0 (fun z => ?_) (fun z => ?_)
      · subst z; rw [e] at hp; exact hp
      · rw [e, decide_eq_false z] at hp; exact hp
    · have e := dk_kd1 t ht ⟨h5, h6⟩ j hj b hb
      subst e
      refine pk_eq t 5 (fun z => absurd z h5) (fun _ => pk_eq t 6 (fun z => absurd z h6) (fun _ => ?_))
      exact dx_ic (post := fun r_4 => (narrow .boolean (.int r_4) = .int r_4 ∧ (post r_4))) ht ⟨dk_nb2 _, hp⟩
theorem dy_pi {post : Int32 → Prop} {sz ys yv yf : Int32} {tk nt ye no ou co pl : Nat → Int32} {t j : Nat} {b : Bool} (ht : t < 32) (hb : (dt_kd t)[j]? = some b) (hp : post (db_i b)) : wpY_partIsCondition post (sz, ys, yv, yf, tk, nt, ye, no, ou, co, pl) (nI t) (nI j) := by
  have hj := dk_lt ht hb
  refine pk_le 16 t (fun z => ?_) (fun z => ?_)
  · have e := dk_kd3 t ht (decide_eq_true z) j hj b hb
    rw [e] at hp
    exact hp
  · by_cases h5 : t = 5
    · have e := dk_kd2 t ht (Or.inl h5) j hj b hb
      subst h5
      refine br_t rfl ?_
      refine pk_eq j 0 (fun z => ?_) (fun z => ?_)
      · subst z; rw [e] at hp; exact hp
      · rw [e, decide_eq_false z] at hp; exact hp
    · by_cases h6 : t = 6
      · have e := dk_kd2 t ht (Or.inr h6) j hj b hb
        subst h6
        refine br_f (by decide) (br_t rfl ?_)
        refine pk_eq j 0 (fun z => ?_) (fun z => ?_)
        · subst z; rw [e] at hp; exact hp
        · rw [e, decide_eq_false z] at hp; exact hp
      · have e := dk_kd1 t ht ⟨h5, h6⟩ j hj b hb
        refine pk_eq t 5 (fun z => absurd z h5) (fun _ => pk_eq t 6 (fun z => absurd z h6) (fun _ => ?_))
        rw [e, show dt_c t = false from decide_eq_false (by omega)] at hp
        exact hp
theorem dk_dr {l r : List Bool} {j : Nat} {b : Bool} (h : l[j]? = some b) : l.drop j ++ r = b :: (l.drop (j + 1) ++ r) := by
  have hj : j < l.length := by
    rcases Nat.lt_or_ge j l.length with z | z
    · exact z
    · rw [List.getElem?_eq_none z] at h; cases h
  rw [List.getElem?_eq_getElem hj] at h
  rw [List.drop_eq_getElem_cons hj, Option.some.inj h]
  rfl
theorem dk_len {l r : List Bool} {j : Nat} : (l.drop j ++ r).length = (l.length - j) + r.length := by
  rw [List.length_append, List.length_drop]
theorem dx_a37 {post : SX → Prop} {ct rs rv rf : Int32} {tk bh aT aF aB sA : Nat → Int32} {t : Nat} {r : List Bool} (ht : t < 32) (hl : (dt_kd t ++ r).length ≤ 45) (hp : ∀ op', dk_S db_i op' (dt_kd t ++ r) → post (ct, nI (dt_kd t ++ r).length, rs, rv, rf, tk, op', bh, aT, aF, aB, sA)) :
    ∀ (i : Nat) (op : Nat → Int32) (x2 oc : Int32), i ≤ (dt_kd t).length → dk_S db_i op ((dt_kd t).drop i ++ r) → x2 = nI i - 1 → oc = nI ((dt_kd t).drop i ++ r).length → wX_append_37 post (nI t) ct rs rv rf (i + 1) x2 oc tk op bh aT aF aB sA := by
  intro i
  induction i with
  | zero =>
    intro op x2 oc _ hS ex eo
    subst ex eo
    exact br_t (by decide) (hp op hS)
  | succ i ih =>
    intro op x2 oc hi hS ex eo
    rw [nI_pred] at ex
    subst ex eo
    obtain ⟨b, hb⟩ : ∃ b, (dt_kd t)[i]? = some b := ⟨_, List.getElem?_eq_getElem (by omega)⟩
    have e1 : ((dt_kd t).drop (i + 1) ++ r).length = ((dt_kd t).length - (i + 1)) + r.length := dk_len
    have e2 : (dt_kd t ++ r).length = (dt_kd t).length + r.length := List.length_append
    have e3 := dt_ar_le t ht
    unfold dt_ar at e3
    refine br_f (nI_pos (by omega)) ?_
    refine dx_pi ht hb ?_
    refine ⟨pk_in ((dt_kd t).drop (i + 1) ++ r).length 45 (by omega), ?_⟩
    refine nm_r (by rw [pk_cl ((dt_kd t).drop (i + 1) ++ r).length rfl (by omega), dk_nb]) ?_
    refine nm_r (nI_1 _) (nm_e ?_)
    refine ih _ _ _ (by omega) ?_ ?_ ?_
    · rw [dk_dr hb]
      exact dk_Sp hS rfl
    · exact (Int32.sub_eq_add_neg _ _).symm
    · rw [dk_dr hb]; rfl
theorem dx_append {post : SX → Prop} {rs rv rf : Int32} {tk op bh aT aF aB sA : Nat → Int32} {t n : Nat} {b : Bool} {r : List Bool} (ht : t < 32) (hn : n < 22) (hS : dk_S db_i op (b :: r)) (hl : (dt_kd t ++ r).length ≤ 45)
    (hp : ∀ op', dk_S db_i op' (dt_kd t ++ r) → post (nI (n + 1), nI (dt_kd t ++ r).length, rs, rv, rf, upd tk n (nI t), op', bh, aT, aF, aB, sA)) : wpX_append post (nI n, nI (b :: r).length, rs, rv, rf, tk, op, bh, aT, aF, aB, sA) (nI t) := by
  unfold wpX_append
  refine ⟨pk_in n 22 hn, ?_⟩
  refine nm_r (by rw [pk_cl n rfl (by omega)]) ?_
  refine nm_r (nI_1 n) ?_
  refine nm_r (e' := nI r.length) (nI_pred r.length) ?_
  refine dx_pc ht ?_
  refine nm_e ?_
  refine ⟨_, dx_a37 ht hl hp (dt_kd t).length op _ _ (Nat.le_refl _) ?_ rfl ?_⟩
  · rw [List.drop_length]; exact hS.2
  · rw [List.drop_length]; rfl
theorem dx_forget {post : SX → Prop} {ct oc rs rv rf : Int32} {tk op bh aT aF aB sA : Nat → Int32} (hp : ∀ op', dk_S db_i op' [false] → post (0, 1, rs, rv, rf, tk, op', bh, aT, aF, aB, sA)) : wpX_forgetTokens post (ct, oc, rs, rv, rf, tk, op, bh, aT, aF, aB, sA) := by
  unfold wpX_forgetTokens
  refine nm_e (hp _ ⟨?_, True.intro⟩)
  exact pk_us.trans rfl
/-! Y's due -/
def dk_y (b : Bool) : Int32 := if b = true then 2 else 1
def dk_du : List Bool → Int32
  | [] => 0
  | b :: _ => dk_y b
theorem dy_42 {post : Int32 → SY → Prop} {J : Int32 → Int32 → (Nat → Int32) → (Nat → Int32) → (Nat → Int32) → (Nat → Int32) → (Nat → Int32) → (Nat → Int32) → (Nat → Int32) → Prop} {sz ys yv yf : Int32} {nt ye no ou co : Nat → Int32} {T : Nat → Nat} {k : Nat} {r : List Bool} (ht : T k < 32) (hk : k < 22) (hl : (dt_kd (T k) ++ r).length ≤ 45)
    (hp : ∀ pl', dk_S dk_y pl' (dt_kd (T k) ++ r) → J (nI (dt_kd (T k) ++ r).length) (nI (k + 1)) (fun j => nI (T j)) nt ye no ou co pl') :
    ∀ (i : Nat) (pl : Nat → Int32) (x4 x1 : Int32), i ≤ (dt_kd (T k)).length → dk_S dk_y pl ((dt_kd (T k)).drop i ++ r) → x4 = nI i - 1 → x1 = nI ((dt_kd (T k)).drop i ++ r).length → wY_due_42 post J (nI k) sz ys yv yf (i + 1) x1 x4 (fun j => nI (T j)) nt ye no ou co pl := by
  intro i
  induction i with
  | zero =>
    intro pl x4 x1 _ hS ex eo
    subst ex eo
    exact br_t (by decide) (nm_r (nI_1 k) (hp pl hS))
  | succ i ih =>
    intro pl x4 x1 hi hS ex eo
    rw [nI_pred] at ex
    subst ex eo
    obtain ⟨b, hb⟩ : ∃ b, (dt_kd (T k))[i]? = some b := ⟨_, List.getElem?_eq_getElem (by omega)⟩
    have e1 : ((dt_kd (T k)).drop (i + 1) ++ r).length = ((dt_kd (T k)).length - (i + 1)) + r.length := dk_len
    have e2 : (dt_kd (T k) ++ r).length = (dt_kd (T k)).length + r.length := List.length_append
    have e3 := dt_ar_le (T k) ht
    unfold dt_ar at e3
    refine br_f (nI_pos (by omega)) ?_
    refine ⟨pk_in k 22 hk, ?_⟩
    rw [pk_cl k rfl (by omega)]
    refine dy_pi ht hb ?_
    cases b with
    | false =>
      refine br_t rfl ⟨pk_in ((dt_kd (T k)).drop (i + 1) ++ r).length 50 (by omega), ?_⟩
      refine nm_r (by rw [pk_cl ((dt_kd (T k)).drop (i + 1) ++ r).length rfl (by omega)]) ?_
      refine nm_r (nI_1 _) (nm_e ?_)
      refine ih _ _ _ (by omega) ?_ (Int32.sub_eq_add_neg _ _).symm ?_
      · rw [dk_dr hb]
        exact dk_Sp hS rfl
      · rw [dk_dr hb]; rfl
    | true =>
      refine br_f (by decide) ⟨pk_in ((dt_kd (T k)).drop (i + 1) ++ r).length 50 (by omega), ?_⟩
      refine nm_r (by rw [pk_cl ((dt_kd (T k)).drop (i + 1) ++ r).length rfl (by omega)]) ?_
      refine nm_r (nI_1 _) (nm_e ?_)
      refine ih _ _ _ (by omega) ?_ (Int32.sub_eq_add_neg _ _).symm ?_
      · rw [dk_dr hb]
        exact dk_Sp hS rfl
      · rw [dk_dr hb]; rfl
theorem dy_88 {post : Int32 → SY → Prop} {sz ys yv yf : Int32} {tk nt ye no ou co pl : Nat → Int32} {L : List Bool} (hl : L.length ≤ 45) (hS : dk_S dk_y pl L) (hp : post (dk_du L) (sz, ys, yv, yf, tk, nt, ye, no, ou, co, pl)) : wY_due_88 post (nI L.length) sz ys yv yf tk nt ye no ou co pl := by
  unfold wY_due_88
  cases L with
  | nil => exact br_t rfl hp
  | cons b r =>
    have hl' : r.length + 1 ≤ 45 := hl
    refine br_f (nI_ne0 (Nat.succ_pos _) (by show r.length + 1 < _; omega)) ?_
    have e : nI (b :: r).length - 1 = nI r.length := nI_pred r.length
    rw [e]
    refine ⟨pk_in r.length 50 (by omega), ?_⟩
    rw [pk_cl r.length rfl (by omega), hS.1]
    exact hp
theorem dy_11 {post : Int32 → SY → Prop} {ys yv yf : Int32} {nt ye no ou co : Nat → Int32} {T : Nat → Nat} {n : Nat} (ho : dt_ok T n) (hp : ∀ pl', post (dk_du (dt_st T n)) (nI n, ys, yv, yf, (fun j => nI (T j)), nt, ye, no, ou, co, pl')) :
    ∀ (d k : Nat) (pl : Nat → Int32), k + d = n → dk_S dk_y pl (dt_st T k) → wY_due_11 post (nI n) ys yv yf (d + 1) (nI (dt_st T k).length) (nI k) (fun j => nI (T j)) nt ye no ou co pl := by
  have hn := ho.1
  intro d
  induction d with
  | zero =>
    intro k pl hk hS
    obtain rfl : k = n := by omega
    have hl := dt_st_len ho.2.1 k
    exact br_t (nI_le (Nat.le_refl _) (by omega)) (dy_88 (by omega) hS (hp pl))
  | succ d ih =>
    intro k pl hk hS
    obtain ⟨r, hr⟩ := ho.2.2 k (by omega)
    have hl := dt_st_len ho.2.1 k
    have hl1 := dt_st_len ho.2.1 (k + 1)
    have e1 : dt_st T (k + 1) = dt_kd (T k) ++ r := by
      show dt_kd (T k) ++ (dt_st T k).tail = _
      rw [hr]; rfl
    rw [hr] at hS hl ⊢
    rw [e1] at hl1
    have hl' : r.length + 1 ≤ 1 + 2 * k := hl
    refine br_f (nI_ge (by omega) (by omega)) (br_f (nI_nle (Nat.succ_pos _) (by show r.length + 1 < _; omega)) ?_)
    refine nm_r (pk_m1 r.length) ?_
    refine ⟨pk_in k 22 (by omega), ?_⟩
    rw [pk_cl k rfl (by omega)]
    refine dy_pc (ho.2.1 k) ?_
    refine nm_e ?_
    refine ⟨_, dy_42 (r := r) (ho.2.1 k) (by omega) (by omega) ?_ (dt_kd (T k)).length pl _ _ (Nat.le_refl _) ?_ rfl ?_⟩
    · intro pl' hS'
      rw [← e1] at hS' ⊢
      exact ih (k + 1) pl' (by omega) hS'
    · rw [List.drop_length]; exact hS.2
    · rw [List.drop_length]; rfl
theorem dy_due {post : Int32 → SY → Prop} {ys yv yf : Int32} {nt ye no ou co pl : Nat → Int32} {T : Nat → Nat} {n : Nat} (ho : dt_ok T n) (hp : ∀ pl', post (dk_du (dt_st T n)) (nI n, ys, yv, yf, (fun j => nI (T j)), nt, ye, no, ou, co, pl')) : wpY_due post (nI n, ys, yv, yf, (fun j => nI (T j)), nt, ye, no, ou, co, pl) := by
  unfold wpY_due
  refine nm_e ⟨_, dy_11 ho hp n 0 _ (by omega) ⟨?_, True.intro⟩⟩
  exact pk_us.trans rfl
end
section
/-! X lays the links -/
theorem dx_lp {post : SX → Prop} {ct oc rs rv rf : Int32} {tk op bh aT aF aB sA : Nat → Int32} {p : Nat} {v1 v2 v3 : Int32} (hp : p < 23) (h : post (ct, oc, rs, rv, rf, tk, op, bh, upd aT p v1, upd aF p v2, upd aB p v3, sA)) : wpX_linkPart post (ct, oc, rs, rv, rf, tk, op, bh, aT, aF, aB, sA) (nI p) v1 v2 v3 := by
  unfold wpX_linkPart
  have e : (nI p).toNatClampNeg = p := nI_clamp (by omega)
  have i : vp_in (nI p) 23 := pk_in p 23 hp
  exact ⟨i, nm_r (by rw [e]) ⟨i, nm_r (by rw [e]) ⟨i, nm_r (by rw [e]) h⟩⟩⟩
def dl_A (D : Nat → Prop) (L : Nat → Nat × Nat × Nat) (aT aF aB : Nat → Int32) : Prop := ∀ j, D j → aT j = nI (L j).1 ∧ aF j = nI (L j).2.1 ∧ aB j = nI (L j).2.2
theorem dl_Aw {D : Nat → Prop} {L : Nat → Nat × Nat × Nat} {aT aF aB : Nat → Int32} (p : Nat) (v : Nat × Nat × Nat) (h : dl_A D L aT aF aB) : dl_A (fun j => D j ∨ j = p) (dt_w L p v) (upd aT p (nI v.1)) (upd aF p (nI v.2.1)) (upd aB p (nI v.2.2)) := by
  intro j hj
  by_cases e : j = p
  · subst e
    rw [dt_wS, pk_us, pk_us, pk_us]
    exact ⟨rfl, rfl, rfl⟩
  · rw [dt_wN e, pk_un e, pk_un e, pk_un e]
    rcases hj with hj | hj
    · exact h j hj
    · exact absurd hj e
theorem dl_Am {D D' : Nat → Prop} {L : Nat → Nat × Nat × Nat} {aT aF aB : Nat → Int32} (h : dl_A D L aT aF aB) (hD : ∀ j, D' j → D j) : dl_A D' L aT aF aB := fun j hj => h j (hD j hj)
def dl_b (T : Nat → Nat) (n : Nat) (bh : Nat → Int32) (i : Nat) : Prop := ∀ j, i ≤ j → j < n → bh j = nI (dt_q T n 1 j)
theorem dl_q2 (T : Nat → Nat) (n p : Nat) : dt_q T n 1 (dt_q T n 1 p) = dt_q T n 2 p := (dt_qadd T n p 1 1).symm
theorem dl_z : ∀ t, t < 32 → dt_ar t = 0 → t < 4 ∨ (6 < t ∧ (t < 19 ∨ 22 < t)) := by decide +kernel
theorem dx_lpS {post : SX → Prop} {ct oc rs rv rf : Int32} {op bh aT aF aB sA : Nat → Int32} {T : Nat → Nat} {n k : Nat} (ho : dt_ok T n) (hc : dt_st T n = []) (hk : k < n) (hcc : dt_c (T k) = false) (hb : dl_b T n bh 0) (hA : dl_A (dt_wr T n k) (dt_lk T n k) aT aF aB)
    (hp : ∀ aT' aF' aB', dl_A (dt_wr T n (k + 1)) (dt_lk T n (k + 1)) aT' aF' aB' → post (ct, oc, rs, rv, rf, (fun j => nI (T j)), op, bh, aT', aF', aB', sA)) : wpX_linkPartsOfStatement post (ct, oc, rs, rv, rf, (fun j => nI (T j)), op, bh, aT, aF, aB, sA) (nI k) := by
  unfold wpX_linkPartsOfStatement
  have hn := ho.1
  have ek : (nI k).toNatClampNeg = k := nI_clamp (by omega)
  have ek1 : (nI (k + 1)).toNatClampNeg = k + 1 := nI_clamp (by omega)
  have i23 : vp_in (nI k) 23 := pk_in k 23 (by omega)
  have i22 : vp_in (nI k) 22 := pk_in k 22 (by omega)
  have i1 : vp_in (nI (k + 1)) 23 := pk_in (k + 1) 23 (by omega)
  have hK := hA k (dt_wrk ho hk)
  refine ⟨i23, nm_r (e' := nI (dt_lk T n k k).1) (by rw [ek]; exact hK.1) ⟨i23, nm_r (e' := nI (dt_lk T n k k).2.2) (by rw [ek]; exact hK.2.2) (nm_r (nI_1 k) ⟨i1, fun x5 e5 => ⟨i22, nm_r (e' := nI (T k)) (by rw [ek]) ?_⟩⟩)⟩⟩
  rcases dt_tc (T k) (ho.2.1 k) with h | h | h | h | h | h | h | h
  · have ar : dt_ar (T k) = 2 := by rw [h]; rfl
    obtain ⟨c0, _⟩ := dt_c1 ho hc hk (by omega)
    have e5' : x5 = nI (dt_q T n 1 (k + 1)) := by rw [e5, ek1]; exact hb (k + 1) (Nat.zero_le _) c0
    subst e5'
    obtain ⟨_, c1, _⟩ := dt_ch ho hc (i := 1) hk (by omega)
    have hF := dl_Am (dl_Aw (dt_q T n 1 (k + 1)) ((dt_lk T n k k).1, (dt_lk T n k k).1, (dt_lk T n k k).2.2) (dl_Aw (k + 1) (dt_q T n 1 (k + 1), dt_q T n 1 (k + 1), (dt_lk T n k k).2.2) hA)) (fun j hj => dt_wr2 ar hj)
    rw [← dt_ls4 h] at hF
    have hF := hp _ _ _ hF
    rw [h]
    refine br_f (by decide) (br_f (by decide) (br_t rfl ?_))
    refine dx_lp (by omega) ?_
    exact dx_lp (by omega) hF
  · have ar : dt_ar (T k) = 3 := by rw [h]; rfl
    obtain ⟨c0, _⟩ := dt_c1 ho hc hk (by omega)
    have e5' : x5 = nI (dt_q T n 1 (k + 1)) := by rw [e5, ek1]; exact hb (k + 1) (Nat.zero_le _) c0
    subst e5'
    obtain ⟨_, c1, _⟩ := dt_ch ho hc (i := 1) hk (by omega)
    obtain ⟨_, c2, _⟩ := dt_ch ho hc (i := 2) hk (by omega)
    have eq1 : (nI (dt_q T n 1 (k + 1))).toNatClampNeg = dt_q T n 1 (k + 1) := nI_clamp (by omega)
    have eb2 : bh (dt_q T n 1 (k + 1)) = nI (dt_q T n 2 (k + 1)) := by rw [hb (dt_q T n 1 (k + 1)) (Nat.zero_le _) c1, dl_q2]
    have iq : vp_in (nI (dt_q T n 1 (k + 1))) 23 := pk_in (dt_q T n 1 (k + 1)) 23 (by omega)
    have hF := dl_Am (dl_Aw (dt_q T n 2 (k + 1)) ((dt_lk T n k k).1, (dt_lk T n k k).1, (dt_lk T n k k).2.2) (dl_Aw (dt_q T n 1 (k + 1)) ((dt_lk T n k k).1, (dt_lk T n k k).1, (dt_lk T n k k).2.2) (dl_Aw (k + 1) (dt_q T n 1 (k + 1), dt_q T n 2 (k + 1), 22) hA))) (fun j hj => dt_wr3 ar hj)
    rw [← dt_ls5 h] at hF
    have hF := hp _ _ _ hF
    rw [h]
    refine br_f (by decide) (br_f (by decide) (br_f (by decide) (br_t rfl ?_)))
    rw [eq1, eb2]
    refine ⟨iq, dx_lp (by omega) ?_⟩
    refine dx_lp (by omega) ⟨iq, ?_⟩
    dsimp only
    rw [eb2]
    exact dx_lp (by omega) hF
  · have ar : dt_ar (T k) = 2 := by rw [h]; rfl
    obtain ⟨c0, _⟩ := dt_c1 ho hc hk (by omega)
    have e5' : x5 = nI (dt_q T n 1 (k + 1)) := by rw [e5, ek1]; exact hb (k + 1) (Nat.zero_le _) c0
    subst e5'
    obtain ⟨_, c1, _⟩ := dt_ch ho hc (i := 1) hk (by omega)
    have hF := dl_Am (dl_Aw (dt_q T n 1 (k + 1)) (k, k, (dt_lk T n k k).1) (dl_Aw (k + 1) (dt_q T n 1 (k + 1), (dt_lk T n k k).1, 22) hA)) (fun j hj => dt_wr2 ar hj)
    rw [← dt_ls6 h] at hF
    have hF := hp _ _ _ hF
    rw [h]
    refine br_f (by decide) (br_f (by decide) (br_f (by decide) (br_f (by decide) (br_t rfl ?_))))
    refine dx_lp (by omega) ?_
    exact dx_lp (by omega) hF
  · rw [h] at hcc; exact absurd hcc (by decide)
  · rw [h] at hcc; exact absurd hcc (by decide)
  · rw [h] at hcc; exact absurd hcc (by decide)
  · rw [h] at hcc; exact absurd hcc (by decide)
  · have hF := hp _ _ _ (by rw [show dt_lk T n (k + 1) = dt_lk T n k from dt_ls0 h]; exact dl_Am hA (fun j hj => dt_wr0 h hj))
    have hz := dl_z (T k) (ho.2.1 k) h
    have h32 := ho.2.1 k
    exact pk_lt (T k) 4 (fun _ => hF) (fun h1 => pk_lt 6 (T k) (fun _ => hF) (fun h2 => absurd hz (by omega)))
theorem dx_lpC {post : SX → Prop} {ct oc rs rv rf : Int32} {op bh aT aF aB sA : Nat → Int32} {T : Nat → Nat} {n k : Nat} (ho : dt_ok T n) (hc : dt_st T n = []) (hk : k < n) (hcc : dt_c (T k) = true) (hb : dl_b T n bh 0) (hA : dl_A (dt_wr T n k) (dt_lk T n k) aT aF aB)
    (hp : ∀ aT' aF' aB', dl_A (dt_wr T n (k + 1)) (dt_lk T n (k + 1)) aT' aF' aB' → post (ct, oc, rs, rv, rf, (fun j => nI (T j)), op, bh, aT', aF', aB', sA)) : wpX_linkPartsOfCondition post (ct, oc, rs, rv, rf, (fun j => nI (T j)), op, bh, aT, aF, aB, sA) (nI k) := by
  unfold wpX_linkPartsOfCondition
  have hn := ho.1
  have ek : (nI k).toNatClampNeg = k := nI_clamp (by omega)
  have ek1 : (nI (k + 1)).toNatClampNeg = k + 1 := nI_clamp (by omega)
  have i23 : vp_in (nI k) 23 := pk_in k 23 (by omega)
  have i22 : vp_in (nI k) 22 := pk_in k 22 (by omega)
  have i1 : vp_in (nI (k + 1)) 23 := pk_in (k + 1) 23 (by omega)
  have hK := hA k (dt_wrk ho hk)
  refine ⟨i23, nm_r (e' := nI (dt_lk T n k k).1) (by rw [ek]; exact hK.1) ⟨i23, nm_r (e' := nI (dt_lk T n k k).2.1) (by rw [ek]; exact hK.2.1) (nm_r (nI_1 k) ⟨i1, fun x5 e5 => ⟨i22, nm_r (e' := nI (T k)) (by rw [ek]) ?_⟩⟩)⟩⟩
  rcases dt_tc (T k) (ho.2.1 k) with h | h | h | h | h | h | h | h
  · rw [h] at hcc; exact absurd hcc (by decide)
  · rw [h] at hcc; exact absurd hcc (by decide)
  · rw [h] at hcc; exact absurd hcc (by decide)
  · have ar : dt_ar (T k) = 1 := by rw [h]; rfl
    obtain ⟨c0, _⟩ := dt_c1 ho hc hk (by omega)
    have e5' : x5 = nI (dt_q T n 1 (k + 1)) := by rw [e5, ek1]; exact hb (k + 1) (Nat.zero_le _) c0
    subst e5'
    have hF := dl_Am (dl_Aw (k + 1) ((dt_lk T n k k).2.1, (dt_lk T n k k).1, 22) hA) (fun j hj => dt_wr1 ar hj)
    rw [← dt_ls19 h] at hF
    have hF := hp _ _ _ hF
    rw [h]
    refine br_f (by decide) (br_f (by decide) (br_t rfl ?_))
    exact dx_lp (by omega) hF
  · have ar : dt_ar (T k) = 2 := by rw [h]; rfl
    obtain ⟨c0, _⟩ := dt_c1 ho hc hk (by omega)
    have e5' : x5 = nI (dt_q T n 1 (k + 1)) := by rw [e5, ek1]; exact hb (k + 1) (Nat.zero_le _) c0
    subst e5'
    obtain ⟨_, c1, _⟩ := dt_ch ho hc (i := 1) hk (by omega)
    have hF := dl_Am (dl_Aw (dt_q T n 1 (k + 1)) ((dt_lk T n k k).1, (dt_lk T n k k).2.1, 22) (dl_Aw (k + 1) (dt_q T n 1 (k + 1), (dt_lk T n k k).2.1, 22) hA)) (fun j hj => dt_wr2 ar hj)
    rw [← dt_ls20 h] at hF
    have hF := hp _ _ _ hF
    rw [h]
    refine br_f (by decide) (br_f (by decide) (br_f (by decide) (br_t rfl ?_)))
    refine dx_lp (by omega) ?_
    exact dx_lp (by omega) hF
  · have ar : dt_ar (T k) = 2 := by rw [h]; rfl
    obtain ⟨c0, _⟩ := dt_c1 ho hc hk (by omega)
    have e5' : x5 = nI (dt_q T n 1 (k + 1)) := by rw [e5, ek1]; exact hb (k + 1) (Nat.zero_le _) c0
    subst e5'
    obtain ⟨_, c1, _⟩ := dt_ch ho hc (i := 1) hk (by omega)
    have hF := dl_Am (dl_Aw (dt_q T n 1 (k + 1)) ((dt_lk T n k k).1, (dt_lk T n k k).2.1, 22) (dl_Aw (k + 1) ((dt_lk T n k k).1, dt_q T n 1 (k + 1), 22) hA)) (fun j hj => dt_wr2 ar hj)
    rw [← dt_ls21 h] at hF
    have hF := hp _ _ _ hF
    rw [h]
    refine br_f (by decide) (br_f (by decide) (br_f (by decide) (br_f (by decide) (br_t rfl ?_))))
    refine dx_lp (by omega) ?_
    exact dx_lp (by omega) hF
  · have ar : dt_ar (T k) = 3 := by rw [h]; rfl
    obtain ⟨c0, _⟩ := dt_c1 ho hc hk (by omega)
    have e5' : x5 = nI (dt_q T n 1 (k + 1)) := by rw [e5, ek1]; exact hb (k + 1) (Nat.zero_le _) c0
    subst e5'
    obtain ⟨_, c1, _⟩ := dt_ch ho hc (i := 1) hk (by omega)
    obtain ⟨_, c2, _⟩ := dt_ch ho hc (i := 2) hk (by omega)
    have eq1 : (nI (dt_q T n 1 (k + 1))).toNatClampNeg = dt_q T n 1 (k + 1) := nI_clamp (by omega)
    have eb2 : bh (dt_q T n 1 (k + 1)) = nI (dt_q T n 2 (k + 1)) := by rw [hb (dt_q T n 1 (k + 1)) (Nat.zero_le _) c1, dl_q2]
    have iq : vp_in (nI (dt_q T n 1 (k + 1))) 23 := pk_in (dt_q T n 1 (k + 1)) 23 (by omega)
    have hF := dl_Am (dl_Aw (dt_q T n 2 (k + 1)) ((dt_lk T n k k).1, (dt_lk T n k k).2.1, 22) (dl_Aw (dt_q T n 1 (k + 1)) ((dt_lk T n k k).1, (dt_lk T n k k).2.1, 22) (dl_Aw (k + 1) (dt_q T n 1 (k + 1), dt_q T n 2 (k + 1), 22) hA))) (fun j hj => dt_wr3 ar hj)
    rw [← dt_ls22 h] at hF
    have hF := hp _ _ _ hF
    rw [h]
    refine br_f (by decide) (br_f (by decide) (br_f (by decide) (br_f (by decide) (br_f (by decide) (br_t rfl ?_)))))
    rw [eq1, eb2]
    refine ⟨iq, dx_lp (by omega) ?_⟩
    refine dx_lp (by omega) ⟨iq, ?_⟩
    dsimp only
    rw [eb2]
    exact dx_lp (by omega) hF
  · have hF := hp _ _ _ (by rw [show dt_lk T n (k + 1) = dt_lk T n k from dt_ls0 h]; exact dl_Am hA (fun j hj => dt_wr0 h hj))
    have hz := dl_z (T k) (ho.2.1 k) h
    have h32 := ho.2.1 k
    have h16 : 16 ≤ T k := of_decide_eq_true hcc
    exact pk_lt (T k) 19 (fun _ => hF) (fun h1 => pk_lt 22 (T k) (fun _ => hF) (fun h2 => absurd hz (by omega)))
theorem dx_28 {post : SX → Prop} {J : Int32 → (Nat → Int32) → (Nat → Int32) → (Nat → Int32) → (Nat → Int32) → (Nat → Int32) → (Nat → Int32) → (Nat → Int32) → Prop} {ct oc rs rv rf : Int32} {op bh aT aF aB sA : Nat → Int32} {T : Nat → Nat} {n i : Nat} (ho : dt_ok T n) (hc : dt_st T n = []) (hi : i < n) (hb : dl_b T n bh (i + 1))
    (hJ : J (nI i + (-1)) (fun j => nI (T j)) op (upd bh i (nI (dt_q T n 1 i))) aT aF aB sA) :
    ∀ d m, m + d = dt_ar (T i) → wX_linkParts_28 post J (nI i) (nI (dt_ar (T i))) ct oc rs rv rf (fun j => nI (T j)) op bh aT aF aB sA (d + 1) (nI (dt_q T n m (i + 1))) (nI m) := by
  have hn := ho.1
  have ha := dt_ar_le (T i) (ho.2.1 i)
  intro d
  induction d with
  | zero =>
    intro m hm
    have es : dt_q T n 1 i = dt_q T n m (i + 1) := by
      have := dt_qs (T := T) (n := n) (p := i) 0 hi
      rw [Nat.zero_add, Nat.zero_add] at this
      rw [this, ← hm, Nat.add_zero]
    refine br_t (nI_le (by omega) (by omega)) ⟨pk_in i 23 (by omega), nm_r (by rw [nI_clamp (n := i) (by omega), ← es]) (nm_e hJ)⟩
  | succ d ih =>
    intro m hm
    obtain ⟨g1, g2, _⟩ := dt_ch ho hc (i := m) hi (by omega)
    refine br_f (nI_ge (by omega) (by omega)) ⟨pk_in (dt_q T n m (i + 1)) 23 (by omega), nm_r (e' := nI (dt_q T n (m + 1) (i + 1))) ?_ (nm_r (nI_1 m) (ih (m + 1) (by omega)))⟩
    rw [nI_clamp (n := dt_q T n m (i + 1)) (by omega), hb _ (by omega) g2, dt_qadd]
theorem dx_7 {post : SX → Prop} {ct oc rs rv rf : Int32} {op aT aF aB sA : Nat → Int32} {T : Nat → Nat} {n : Nat} (ho : dt_ok T n) (hc : dt_st T n = [])
    (hp : ∀ bh', dl_b T n bh' 0 → ∃ n73 : Nat, wX_linkParts_73 post n73 0 ct oc rs rv rf (fun j => nI (T j)) op bh' (upd aT 0 22) (upd aF 0 22) (upd aB 0 22) sA) :
    ∀ (i : Nat) (bh : Nat → Int32) (x1 : Int32), i ≤ n → x1 = nI i - 1 → dl_b T n bh i → wX_linkParts_7 post ct oc rs rv rf (i + 1) x1 (fun j => nI (T j)) op bh aT aF aB sA := by
  have hn := ho.1
  intro i
  induction i with
  | zero =>
    intro bh x1 _ ex hb
    subst ex
    refine br_t (by decide) ?_
    exact dx_lp (p := 0) (by decide) (hp bh hb)
  | succ i ih =>
    intro bh x1 hi ex hb
    rw [nI_pred] at ex
    subst ex
    refine br_f (nI_pos (by omega)) (nm_r (nI_1 i) ⟨pk_in i 22 (by omega), ?_⟩)
    rw [nI_clamp (n := i) (by omega)]
    refine dx_pc (ho.2.1 i) ⟨dt_ar (T i) + 1, ?_⟩
    have h28 := dx_28 (post := post) (J := wX_linkParts_7 post ct oc rs rv rf (i + 1)) (op := op) (aT := aT) (aF := aF) (aB := aB) (sA := sA) (bh := bh) (ct := ct) (oc := oc) (rs := rs) (rv := rv) (rf := rf) ho hc (i := i) (by omega) hb
      (ih _ _ (by omega) (Int32.sub_eq_add_neg _ _).symm (by
        intro j h1 h2
        by_cases e : j = i
        · subst e; exact pk_us
        · rw [pk_un e]; exact hb j (by omega) h2)) (dt_ar (T i)) 0 (by omega)
    rw [dt_q0] at h28
    exact h28
theorem dx_73 {post : SX → Prop} {oc rs rv rf : Int32} {op bh sA : Nat → Int32} {T : Nat → Nat} {n : Nat} (ho : dt_ok T n) (hc : dt_st T n = []) (hb : dl_b T n bh 0)
    (hp : ∀ aT aF aB, dl_A (dt_wr T n n) (dt_lk T n n) aT aF aB → post (nI n, oc, rs, rv, rf, (fun j => nI (T j)), op, bh, aT, aF, aB, sA)) :
    ∀ (d k : Nat) (aT aF aB : Nat → Int32), k + d = n → dl_A (dt_wr T n k) (dt_lk T n k) aT aF aB → wX_linkParts_73 post (d + 1) (nI k) (nI n) oc rs rv rf (fun j => nI (T j)) op bh aT aF aB sA := by
  have hn := ho.1
  intro d
  induction d with
  | zero =>
    intro k aT aF aB hk hA
    obtain rfl : k = n := by omega
    exact br_t (nI_le (Nat.le_refl _) (by omega)) (hp aT aF aB hA)
  | succ d ih =>
    intro k aT aF aB hk hA
    refine br_f (nI_ge (by omega) (by omega)) ⟨pk_in k 22 (by omega), ?_⟩
    rw [nI_clamp (n := k) (by omega)]
    refine dx_ic (ho.2.1 k) ?_
    cases hcc : dt_c (T k) with
    | false =>
      refine br_t rfl ?_
      refine dx_lpS ho hc (by omega) hcc hb hA (fun aT' aF' aB' hA' => ?_)
      exact nm_r (nI_1 k) (ih (k + 1) aT' aF' aB' (by omega) hA')
    | true =>
      refine br_f (by decide) ?_
      refine dx_lpC ho hc (by omega) hcc hb hA (fun aT' aF' aB' hA' => ?_)
      exact nm_r (nI_1 k) (ih (k + 1) aT' aF' aB' (by omega) hA')
def dl_X (T : Nat → Nat) (n : Nat) (aT aF aB : Nat → Int32) : Prop := ∀ j, j < n → aT j = nI (dt_L T n j).1 ∧ aF j = nI (dt_L T n j).2.1 ∧ aB j = nI (dt_L T n j).2.2
theorem dx_linkParts {post : SX → Prop} {oc rs rv rf : Int32} {op bh aT aF aB sA : Nat → Int32} {T : Nat → Nat} {n : Nat} (ho : dt_ok T n) (hc : dt_st T n = []) (h0 : 0 < n)
    (hp : ∀ bh aT aF aB, dl_X T n aT aF aB → post (nI n, oc, rs, rv, rf, (fun j => nI (T j)), op, bh, aT, aF, aB, sA)) : wpX_linkParts post (nI n, oc, rs, rv, rf, (fun j => nI (T j)), op, bh, aT, aF, aB, sA) := by
  unfold wpX_linkParts
  refine nm_e ⟨_, dx_7 ho hc (fun bh' hb => ⟨n + 1, ?_⟩) n bh _ (Nat.le_refl n) rfl (fun j h1 h2 => absurd h2 (by omega))⟩
  refine dx_73 ho hc hb (fun aT aF aB hA => hp _ aT aF aB (fun j hj => hA j (dt_wrn ho hj))) n 0 _ _ _ (by omega) ?_
  intro j hj
  have hj : j = 0 := hj
  subst hj
  rw [pk_us, pk_us, pk_us]
  exact ⟨rfl, rfl, rfl⟩
end
section
/-! Y lays the links -/
theorem dy_fo {post : SY → Prop} {sz ys yv yf : Int32} {tk nt ye no ou co pl : Nat → Int32} {p : Nat} {v1 v2 : Int32} (hp : p < 23) (h : post (sz, ys, yv, yf, tk, upd nt p v1, ye, no, upd ou p v2, co, pl)) : wpY_follow post (sz, ys, yv, yf, tk, nt, ye, no, ou, co, pl) (nI p) v1 v2 := by
  unfold wpY_follow
  have e : (nI p).toNatClampNeg = p := nI_clamp (by omega)
  have i : vp_in (nI p) 23 := pk_in p 23 hp
  exact ⟨i, nm_r (by rw [e]) ⟨i, nm_r (by rw [e]) h⟩⟩
theorem dy_br {post : SY → Prop} {sz ys yv yf : Int32} {tk nt ye no ou co pl : Nat → Int32} {p : Nat} {v1 v2 : Int32} (hp : p < 23) (h : post (sz, ys, yv, yf, tk, nt, upd ye p v1, upd no p v2, ou, co, pl)) : wpY_branch post (sz, ys, yv, yf, tk, nt, ye, no, ou, co, pl) (nI p) v1 v2 := by
  unfold wpY_branch
  have e : (nI p).toNatClampNeg = p := nI_clamp (by omega)
  have i : vp_in (nI p) 23 := pk_in p 23 hp
  exact ⟨i, nm_r (by rw [e]) ⟨i, nm_r (by rw [e]) h⟩⟩
def dl_Y (T : Nat → Nat) (D : Nat → Prop) (L : Nat → Nat × Nat × Nat) (nt ye no ou : Nat → Int32) : Prop :=
  ∀ j, D j → (dt_c (T j) = true → ye j = nI (L j).1 ∧ no j = nI (L j).2.1) ∧ (dt_c (T j) = false → nt j = nI (L j).1 ∧ ou j = nI (L j).2.2)
theorem dl_Ym {T : Nat → Nat} {D D' : Nat → Prop} {L : Nat → Nat × Nat × Nat} {nt ye no ou : Nat → Int32} (h : dl_Y T D L nt ye no ou) (hD : ∀ j, D' j → D j) : dl_Y T D' L nt ye no ou := fun j hj => h j (hD j hj)
theorem dl_Yf {T : Nat → Nat} {D : Nat → Prop} {L : Nat → Nat × Nat × Nat} {nt ye no ou : Nat → Int32} (p : Nat) (v : Nat × Nat × Nat) (hc : dt_c (T p) = false) (h : dl_Y T D L nt ye no ou) : dl_Y T (fun j => D j ∨ j = p) (dt_w L p v) (upd nt p (nI v.1)) ye no (upd ou p (nI v.2.2)) := by
  intro j hj
  by_cases e : j = p
  · subst e
    rw [dt_wS, pk_us, pk_us]
    exact ⟨fun z => (by rw [hc] at z; cases z), fun _ => ⟨rfl, rfl⟩⟩
  · rw [dt_wN e, pk_un e, pk_un e]
    rcases hj with hj | hj
    · exact h j hj
    · exact absurd hj e
theorem dl_Yb {T : Nat → Nat} {D : Nat → Prop} {L : Nat → Nat × Nat × Nat} {nt ye no ou : Nat → Int32} (p : Nat) (v : Nat × Nat × Nat) (hc : dt_c (T p) = true) (h : dl_Y T D L nt ye no ou) : dl_Y T (fun j => D j ∨ j = p) (dt_w L p v) nt (upd ye p (nI v.1)) (upd no p (nI v.2.1)) ou := by
  intro j hj
  by_cases e : j = p
  · subst e
    rw [dt_wS, pk_us, pk_us]
    exact ⟨fun _ => ⟨rfl, rfl⟩, fun z => (by rw [hc] at z; cases z)⟩
  · rw [dt_wN e, pk_un e, pk_un e]
    rcases hj with hj | hj
    · exact h j hj
    · exact absurd hj e
def dl_m (x : Nat) : Nat := if x < 22 then x else 21
theorem dl_m1 {x : Nat} (h : x < 22) : dl_m x = x := if_pos h
theorem dl_mle {x n : Nat} (h : x ≤ n) : dl_m x ≤ n := by
  unfold dl_m
  split <;> omega
theorem dy_37 {post : Int32 → Prop} {sz ys yv yf : Int32} {tk nt ye no ou co pl : Nat → Int32} {p : Nat} (hp : p ≤ 22) (h : post (nI (dl_m p))) : wY_behind_37 post (nI p) sz ys yv yf tk nt ye no ou co pl := by
  unfold wY_behind_37
  refine pk_le 22 p (fun z => ?_) (fun z => ?_)
  · have e : dl_m p = 21 := if_neg (by omega)
    rw [e] at h; exact h
  · have e : dl_m p = p := if_pos (by omega)
    rw [e] at h; exact h
theorem dy_4 {post : Int32 → Prop} {ys yv yf : Int32} {nt ye no ou co pl : Nat → Int32} {T : Nat → Nat} {n : Nat} (hn : n ≤ 22) (hT : ∀ k, T k < 32) :
    ∀ d p o, p + d = n → o + 3 * d ≤ 100 → post (nI (dl_m (dt_q T n o p))) → wY_behind_4 post (nI n) ys yv yf (fun j => nI (T j)) nt ye no ou co pl (d + 1) (nI o) (nI p) := by
  intro d
  induction d with
  | zero =>
    intro p o hp _ h
    rw [dt_qe o (by omega)] at h
    exact pk_le o 0 (fun _ => dy_37 (by omega) h) (fun _ => pk_le n p (fun _ => dy_37 (by omega) h) (fun z => absurd z (by omega)))
  | succ d ih =>
    intro p o hp hb h
    cases o with
    | zero =>
      rw [dt_q0] at h
      exact br_t (by decide) (dy_37 (by omega) h)
    | succ o =>
      rw [dt_qs o (by omega)] at h
      have ha := dt_ar_le (T p) (hT p)
      refine br_f (nI_nle (Nat.succ_pos _) (by omega)) (br_f (nI_ge (by omega) (by omega)) ⟨pk_in p 22 (by omega), ?_⟩)
      rw [nI_clamp (n := p) (by omega)]
      refine dy_pc (hT p) ?_
      refine nm_r (e' := nI (o + dt_ar (T p))) (by rw [nI_pred, nI_add]) (nm_r (nI_1 p) (ih (p + 1) _ (by omega) (by omega) h))
theorem dy_be {post : Int32 → Prop} {ys yv yf : Int32} {nt ye no ou co pl : Nat → Int32} {T : Nat → Nat} {n p : Nat} (ho : dt_ok T n) (hp : p ≤ n) (h : post (nI (dl_m (dt_q T n 1 p)))) : wpY_behind post (nI n, ys, yv, yf, (fun j => nI (T j)), nt, ye, no, ou, co, pl) (nI p) := by
  have hn := ho.1
  unfold wpY_behind
  exact ⟨_, dy_4 hn ho.2.1 (n - p) p 1 (by omega) (by omega) h⟩
theorem dl_qle {T : Nat → Nat} {n p : Nat} : ∀ d o, p + d = n → dt_q T n o p ≤ n := by
  intro d
  induction d generalizing p with
  | zero => intro o h; rw [dt_qe o (by omega)]; omega
  | succ d ih =>
    intro o h
    cases o with
    | zero => rw [dt_q0]; omega
    | succ o => rw [dt_qs o (by omega)]; exact ih _ (by omega)
theorem dy_link {post : SY → Prop} {ys yv yf : Int32} {nt ye no ou co pl : Nat → Int32} {T : Nat → Nat} {n k : Nat} (ho : dt_ok T n) (hc : dt_st T n = []) (hk : k < n) (hA : dl_Y T (dt_wr T n k) (dt_lk T n k) nt ye no ou) (har : 0 < dt_ar (T k))
    (hp : ∀ nt' ye' no' ou', dl_Y T (dt_wr T n (k + 1)) (dt_lk T n (k + 1)) nt' ye' no' ou' → post (nI n, ys, yv, yf, (fun j => nI (T j)), nt', ye', no', ou', co, pl)) : wpY_link post (nI n, ys, yv, yf, (fun j => nI (T j)), nt, ye, no, ou, co, pl) (nI k) := by
  unfold wpY_link
  have hn := ho.1
  have ek : (nI k).toNatClampNeg = k := nI_clamp (by omega)
  have i23 : vp_in (nI k) 23 := pk_in k 23 (by omega)
  have i22 : vp_in (nI k) 22 := pk_in k 22 (by omega)
  have hK := hA k (dt_wrk ho hk)
  obtain ⟨c0, d0⟩ := dt_c1 ho hc hk har
  have q1n : dt_q T n 1 (k + 1) ≤ n := dl_qle (n - (k + 1)) 1 (by omega)
  refine ⟨i22, nm_r (e' := nI (T k)) (by rw [ek]) (nm_r (nI_1 k) (dy_be ho (by omega) (dy_be ho (dl_mle q1n) ?_)))⟩
  rw [ek]
  rcases dt_tc (T k) (ho.2.1 k) with h | h | h | h | h | h | h | h
  · have ar : dt_ar (T k) = 2 := by rw [h]; rfl
    have ekd : dt_kd (T k) = [false, false] := by rw [h]; rfl
    rw [ekd] at d0
    have d0 := (Option.some.inj d0).symm
    have n0 : k ≠ k + 1 := by omega
    obtain ⟨g1, c1, d1⟩ := dt_ch ho hc (i := 1) hk (by omega)
    rw [ekd] at d1
    have d1 := (Option.some.inj d1).symm
    have n1 : k ≠ dt_q T n 1 (k + 1) := by omega
    rw [dl_m1 (show dt_q T n 1 (k + 1) < 22 by omega)]
    obtain ⟨kn, ko⟩ := hK.2 (by rw [h]; rfl)
    have hF := dl_Ym (dl_Yf (dt_q T n 1 (k + 1)) ((dt_lk T n k k).1, (dt_lk T n k k).1, (dt_lk T n k k).2.2) d1 (dl_Yf (k + 1) (dt_q T n 1 (k + 1), dt_q T n 1 (k + 1), (dt_lk T n k k).2.2) d0 hA)) (fun j hj => dt_wr2 ar hj)
    rw [← dt_ls4 h] at hF
    have hF := hp _ _ _ _ hF
    rw [h]
    refine br_t rfl ?_
    rw [ko]
    refine ⟨i23, dy_fo (by omega) ⟨i23, i23, ?_⟩⟩
    dsimp only
    rw [pk_un n0, pk_un n0, kn, ko]
    exact dy_fo (by omega) hF
  · have ar : dt_ar (T k) = 3 := by rw [h]; rfl
    have ekd : dt_kd (T k) = [true, false, false] := by rw [h]; rfl
    rw [ekd] at d0
    have d0 := (Option.some.inj d0).symm
    have n0 : k ≠ k + 1 := by omega
    obtain ⟨g1, c1, d1⟩ := dt_ch ho hc (i := 1) hk (by omega)
    rw [ekd] at d1
    have d1 := (Option.some.inj d1).symm
    have n1 : k ≠ dt_q T n 1 (k + 1) := by omega
    rw [dl_m1 (show dt_q T n 1 (k + 1) < 22 by omega)]
    obtain ⟨g2, c2, d2⟩ := dt_ch ho hc (i := 2) hk (by omega)
    rw [ekd] at d2
    have d2 := (Option.some.inj d2).symm
    rw [dl_q2, dl_m1 (show dt_q T n 2 (k + 1) < 22 by omega)]
    obtain ⟨kn, ko⟩ := hK.2 (by rw [h]; rfl)
    have hF := dl_Ym (dl_Yf (dt_q T n 2 (k + 1)) ((dt_lk T n k k).1, (dt_lk T n k k).1, (dt_lk T n k k).2.2) d2 (dl_Yf (dt_q T n 1 (k + 1)) ((dt_lk T n k k).1, (dt_lk T n k k).1, (dt_lk T n k k).2.2) d1 (dl_Yb (k + 1) (dt_q T n 1 (k + 1), dt_q T n 2 (k + 1), 22) d0 hA))) (fun j hj => dt_wr3 ar hj)
    rw [← dt_ls5 h] at hF
    have hF := hp _ _ _ _ hF
    rw [h]
    refine br_f (by decide) (br_t rfl ?_)
    refine dy_br (by omega) ⟨i23, i23, ?_⟩
    dsimp only
    rw [kn, ko]
    refine dy_fo (by omega) ⟨i23, i23, ?_⟩
    dsimp only
    rw [pk_un n1, pk_un n1, kn, ko]
    exact dy_fo (by omega) hF
  · have ar : dt_ar (T k) = 2 := by rw [h]; rfl
    have ekd : dt_kd (T k) = [true, false] := by rw [h]; rfl
    rw [ekd] at d0
    have d0 := (Option.some.inj d0).symm
    have n0 : k ≠ k + 1 := by omega
    obtain ⟨g1, c1, d1⟩ := dt_ch ho hc (i := 1) hk (by omega)
    rw [ekd] at d1
    have d1 := (Option.some.inj d1).symm
    have n1 : k ≠ dt_q T n 1 (k + 1) := by omega
    rw [dl_m1 (show dt_q T n 1 (k + 1) < 22 by omega)]
    obtain ⟨kn, ko⟩ := hK.2 (by rw [h]; rfl)
    have hF := dl_Ym (dl_Yf (dt_q T n 1 (k + 1)) (k, k, (dt_lk T n k k).1) d1 (dl_Yb (k + 1) (dt_q T n 1 (k + 1), (dt_lk T n k k).1, 22) d0 hA)) (fun j hj => dt_wr2 ar hj)
    rw [← dt_ls6 h] at hF
    have hF := hp _ _ _ _ hF
    rw [h]
    refine br_f (by decide) (br_f (by decide) (br_t rfl ?_))
    rw [kn]
    refine ⟨i23, dy_br (by omega) ⟨i23, ?_⟩⟩
    dsimp only
    rw [kn]
    exact dy_fo (by omega) hF
  · have ar : dt_ar (T k) = 1 := by rw [h]; rfl
    have ekd : dt_kd (T k) = [true] := by rw [h]; rfl
    rw [ekd] at d0
    have d0 := (Option.some.inj d0).symm
    have n0 : k ≠ k + 1 := by omega
    obtain ⟨ky, kz⟩ := hK.1 (by rw [h]; rfl)
    have hF := dl_Ym (dl_Yb (k + 1) ((dt_lk T n k k).2.1, (dt_lk T n k k).1, 22) d0 hA) (fun j hj => dt_wr1 ar hj)
    rw [← dt_ls19 h] at hF
    have hF := hp _ _ _ _ hF
    rw [h]
    refine br_f (by decide) (br_f (by decide) (br_f (by decide) (br_t rfl ?_)))
    rw [ky, kz]
    exact ⟨i23, i23, dy_br (by omega) hF⟩
  · have ar : dt_ar (T k) = 2 := by rw [h]; rfl
    have ekd : dt_kd (T k) = [true, true] := by rw [h]; rfl
    rw [ekd] at d0
    have d0 := (Option.some.inj d0).symm
    have n0 : k ≠ k + 1 := by omega
    obtain ⟨g1, c1, d1⟩ := dt_ch ho hc (i := 1) hk (by omega)
    rw [ekd] at d1
    have d1 := (Option.some.inj d1).symm
    have n1 : k ≠ dt_q T n 1 (k + 1) := by omega
    rw [dl_m1 (show dt_q T n 1 (k + 1) < 22 by omega)]
    obtain ⟨ky, kz⟩ := hK.1 (by rw [h]; rfl)
    have hF := dl_Ym (dl_Yb (dt_q T n 1 (k + 1)) ((dt_lk T n k k).1, (dt_lk T n k k).2.1, 22) d1 (dl_Yb (k + 1) (dt_q T n 1 (k + 1), (dt_lk T n k k).2.1, 22) d0 hA)) (fun j hj => dt_wr2 ar hj)
    rw [← dt_ls20 h] at hF
    have hF := hp _ _ _ _ hF
    rw [h]
    refine br_f (by decide) (br_f (by decide) (br_f (by decide) (br_f (by decide) (br_t rfl ?_))))
    rw [kz]
    refine ⟨i23, dy_br (by omega) ⟨i23, i23, ?_⟩⟩
    dsimp only
    rw [pk_un n0, pk_un n0, ky, kz]
    exact dy_br (by omega) hF
  · have ar : dt_ar (T k) = 2 := by rw [h]; rfl
    have ekd : dt_kd (T k) = [true, true] := by rw [h]; rfl
    rw [ekd] at d0
    have d0 := (Option.some.inj d0).symm
    have n0 : k ≠ k + 1 := by omega
    obtain ⟨g1, c1, d1⟩ := dt_ch ho hc (i := 1) hk (by omega)
    rw [ekd] at d1
    have d1 := (Option.some.inj d1).symm
    have n1 : k ≠ dt_q T n 1 (k + 1) := by omega
    rw [dl_m1 (show dt_q T n 1 (k + 1) < 22 by omega)]
    obtain ⟨ky, kz⟩ := hK.1 (by rw [h]; rfl)
    have hF := dl_Ym (dl_Yb (dt_q T n 1 (k + 1)) ((dt_lk T n k k).1, (dt_lk T n k k).2.1, 22) d1 (dl_Yb (k + 1) ((dt_lk T n k k).1, dt_q T n 1 (k + 1), 22) d0 hA)) (fun j hj => dt_wr2 ar hj)
    rw [← dt_ls21 h] at hF
    have hF := hp _ _ _ _ hF
    rw [h]
    refine br_f (by decide) (br_f (by decide) (br_f (by decide) (br_f (by decide) (br_f (by decide) (br_t rfl ?_)))))
    rw [ky]
    refine ⟨i23, dy_br (by omega) ⟨i23, i23, ?_⟩⟩
    dsimp only
    rw [pk_un n0, pk_un n0, ky, kz]
    exact dy_br (by omega) hF
  · have ar : dt_ar (T k) = 3 := by rw [h]; rfl
    have ekd : dt_kd (T k) = [true, true, true] := by rw [h]; rfl
    rw [ekd] at d0
    have d0 := (Option.some.inj d0).symm
    have n0 : k ≠ k + 1 := by omega
    obtain ⟨g1, c1, d1⟩ := dt_ch ho hc (i := 1) hk (by omega)
    rw [ekd] at d1
    have d1 := (Option.some.inj d1).symm
    have n1 : k ≠ dt_q T n 1 (k + 1) := by omega
    rw [dl_m1 (show dt_q T n 1 (k + 1) < 22 by omega)]
    obtain ⟨g2, c2, d2⟩ := dt_ch ho hc (i := 2) hk (by omega)
    rw [ekd] at d2
    have d2 := (Option.some.inj d2).symm
    rw [dl_q2, dl_m1 (show dt_q T n 2 (k + 1) < 22 by omega)]
    obtain ⟨ky, kz⟩ := hK.1 (by rw [h]; rfl)
    have hF := dl_Ym (dl_Yb (dt_q T n 2 (k + 1)) ((dt_lk T n k k).1, (dt_lk T n k k).2.1, 22) d2 (dl_Yb (dt_q T n 1 (k + 1)) ((dt_lk T n k k).1, (dt_lk T n k k).2.1, 22) d1 (dl_Yb (k + 1) (dt_q T n 1 (k + 1), dt_q T n 2 (k + 1), 22) d0 hA))) (fun j hj => dt_wr3 ar hj)
    rw [← dt_ls22 h] at hF
    have hF := hp _ _ _ _ hF
    rw [h]
    refine br_f (by decide) (br_f (by decide) (br_f (by decide) (br_f (by decide) (br_f (by decide) (br_f (by decide) (br_t rfl ?_))))))
    refine dy_br (by omega) ⟨i23, i23, ?_⟩
    dsimp only
    rw [pk_un n0, pk_un n0, ky, kz]
    refine dy_br (by omega) ⟨i23, i23, ?_⟩
    dsimp only
    rw [pk_un n1, pk_un n1, pk_un n0, pk_un n0, ky, kz]
    exact dy_br (by omega) hF
  · omega
theorem dy_20 {post : Int32 → SY → Prop} {ys yv yf : Int32} {co pl : Nat → Int32} {T : Nat → Nat} {n : Nat} (ho : dt_ok T n) (hc : dt_st T n = [])
    (hp : ∀ nt ye no ou, dl_Y T (dt_wr T n n) (dt_lk T n n) nt ye no ou → post 1 (nI n, ys, yv, yf, (fun j => nI (T j)), nt, ye, no, ou, co, pl)) :
    ∀ (d k : Nat) (nt ye no ou : Nat → Int32), k + d = n → dl_Y T (dt_wr T n k) (dt_lk T n k) nt ye no ou → wY_prepare_20 post (d + 1) (nI k) (nI n) ys yv yf (fun j => nI (T j)) nt ye no ou co pl := by
  have hn := ho.1
  intro d
  induction d with
  | zero =>
    intro k nt ye no ou hk hA
    obtain rfl : k = n := by omega
    exact br_t (nI_le (Nat.le_refl _) (by omega)) (hp nt ye no ou hA)
  | succ d ih =>
    intro k nt ye no ou hk hA
    refine br_f (nI_ge (by omega) (by omega)) ⟨pk_in k 22 (by omega), ?_⟩
    rw [nI_clamp (n := k) (by omega)]
    refine dy_pc (ho.2.1 k) ?_
    have ha := dt_ar_le (T k) (ho.2.1 k)
    refine pk_le (dt_ar (T k)) 0 (fun z => ?_) (fun z => ?_)
    · refine nm_r (nI_1 k) (ih (k + 1) nt ye no ou (by omega) ?_)
      rw [show dt_lk T n (k + 1) = dt_lk T n k from dt_ls0 (by omega)]
      exact dl_Ym hA (fun j hj => dt_wr0 (by omega) hj)
    · exact dy_link ho hc (by omega) hA z (fun nt' ye' no' ou' hA' => nm_r (nI_1 k) (ih (k + 1) nt' ye' no' ou' (by omega) hA'))
def dl_W (T : Nat → Nat) (n : Nat) (nt ye no ou : Nat → Int32) : Prop := ∀ j, j < n → (dt_c (T j) = true → ye j = nI (dt_L T n j).1 ∧ no j = nI (dt_L T n j).2.1) ∧ (dt_c (T j) = false → nt j = nI (dt_L T n j).1 ∧ ou j = nI (dt_L T n j).2.2)
theorem dk_ne0 : ∀ b, ¬ dk_y b = 0 := by decide
theorem dk_ne {b : Bool} {r : List Bool} : ¬ dk_du (b :: r) = 0 := dk_ne0 b
theorem dy_complete {post : Int32 → SY → Prop} {ys yv yf : Int32} {nt ye no ou co pl : Nat → Int32} {T : Nat → Nat} {n : Nat} (ho : dt_ok T n) (h0 : dt_st T n = [] → ∀ pl, post 1 (nI n, ys, yv, yf, (fun j => nI (T j)), nt, ye, no, ou, co, pl)) (h1 : dt_st T n ≠ [] → ∀ pl, post 0 (nI n, ys, yv, yf, (fun j => nI (T j)), nt, ye, no, ou, co, pl)) : wpY_complete post (nI n, ys, yv, yf, (fun j => nI (T j)), nt, ye, no, ou, co, pl) := by
  unfold wpY_complete
  refine dy_due ho (fun pl' => ?_)
  cases e : dt_st T n with
  | nil => exact br_t rfl (h0 e pl')
  | cons b r => exact br_f dk_ne (h1 (by rw [e]; intro z; cases z) pl')
theorem dy_prepare {post : Int32 → SY → Prop} {ys yv yf : Int32} {nt ye no ou co pl : Nat → Int32} {T : Nat → Nat} {n : Nat} (ho : dt_ok T n) (h0 : dt_st T n = [] → ∀ nt ye no ou pl, dl_W T n nt ye no ou → post 1 (nI n, ys, yv, yf, (fun j => nI (T j)), nt, ye, no, ou, co, pl)) (h1 : dt_st T n ≠ [] → ∀ pl, post 0 (nI n, ys, yv, yf, (fun j => nI (T j)), nt, ye, no, ou, co, pl)) : wpY_prepare post (nI n, ys, yv, yf, (fun j => nI (T j)), nt, ye, no, ou, co, pl) := by
  unfold wpY_prepare
  refine dy_complete ho (fun hc pl' => ?_) (fun hc pl' => ?_)
  · refine br_f (by decide) ?_
    refine dy_fo (p := 0) (by decide) ⟨n + 1, ?_⟩
    have hn0 : 0 < n := by
      rcases Nat.eq_zero_or_pos n with z | z
      · subst z; cases hc
      · exact z
    refine dy_20 ho hc (fun nt' ye' no' ou' hA => h0 hc _ _ _ _ _ (fun j hj => hA j (dt_wrn ho hj))) n 0 _ _ _ _ (by omega) ?_
    intro j hj
    have hj : j = 0 := hj
    subst hj
    rw [pk_us, pk_us]
    refine ⟨fun z => ?_, fun _ => ⟨rfl, rfl⟩⟩
    obtain ⟨r, hr⟩ := ho.2.2 0 hn0
    have hr : [false] = dt_c (T 0) :: r := hr
    rw [z] at hr
    cases hr
  · exact br_t rfl (h1 hc pl')
end
section
/-! X follows all walks -/
theorem dx_pa {post : Int32 → Prop} {ct oc rs rv rf : Int32} {op bh aT aF aB sA : Nat → Int32} {T : Nat → Nat} {L : Nat → Nat × Nat × Nat} {k : Nat} (hT : T k < 32) (hk : k < 22) (hL : aT k = nI (L k).1 ∧ aF k = nI (L k).2.1 ∧ aB k = nI (L k).2.2) (o : Bool) (hp : post (nI (dt_nx T L k o))) : wpX_placeAfter post (ct, oc, rs, rv, rf, (fun j => nI (T j)), op, bh, aT, aF, aB, sA) (nI k) (db_i o) := by
  unfold wpX_placeAfter
  have ek : (nI k).toNatClampNeg = k := nI_clamp (by omega)
  have i23 : vp_in (nI k) 23 := pk_in k 23 (by omega)
  have i22 : vp_in (nI k) 22 := pk_in k 22 (by omega)
  have ha := dt_ar_le (T k) hT
  refine ⟨i22, nm_r (e' := nI (T k)) (by rw [ek]) (dx_pc hT ?_)⟩
  rw [ek, hL.1, hL.2.1, hL.2.2]
  unfold dt_nx at hp
  refine pk_le (dt_ar (T k)) 0 (fun z => ?_) (fun z => ?_)
  · rw [if_neg (show ¬ 0 < dt_ar (T k) by omega)] at hp
    refine pk_eq (T k) 1 (fun z1 => ⟨i23, ?_⟩) (fun z1 => ?_)
    · rw [if_pos z1] at hp; exact hp
    · rw [if_neg z1] at hp
      refine pk_eq (T k) 16 (fun z2 => ⟨i23, ?_⟩) (fun z2 => ?_)
      · rw [if_pos z2] at hp; exact hp
      · rw [if_neg z2] at hp
        refine pk_eq (T k) 17 (fun z3 => ⟨i23, ?_⟩) (fun z3 => ?_)
        · rw [if_pos z3] at hp; exact hp
        · rw [if_neg z3] at hp
          cases o with
          | false => exact br_t rfl ⟨i23, hp⟩
          | true => exact br_f (by decide) ⟨i23, hp⟩
  · rw [if_pos z] at hp
    rw [nI_1]
    exact hp
theorem dx_wv4 {post : Int32 → Prop} {m : Int32} {t : Nat} (ht : t < 32) (hs : dt_set t = true) (hp : ∀ r, (∀ i, bt r i = true ↔ ∃ s, s < 16 ∧ bt m s = true ∧ i = dt_at t s) → post r) :
    ∀ d s, s + d = 16 → ∀ r, (∀ i, bt r i = true ↔ ∃ s', s' < s ∧ bt m s' = true ∧ i = dt_at t s') → wX_withVariable_4 post m ((1 : Int32) <<< ((nI t &&& 3) &&& 31)) (d + 1) r (nI s) := by
  intro d
  induction d with
  | zero =>
    intro s h r hr
    obtain rfl : s = 16 := by omega
    exact br_t (by decide) (hp r hr)
  | succ d ih =>
    intro s h r hr
    refine br_f (nI_ge (b := 16) (by omega) (by omega)) ?_
    by_cases hb : bt m s = true
    · refine br_t ((db_u m (by omega)).mpr hb) (nm_r (by rw [db_atS t ht hs s (by omega)]) (nm_r (nI_1 s) (ih (s + 1) (by omega) _ ?_)))
      intro i
      have h16 := db_at16 t ht s (by omega)
      rw [b_or, Bool.or_eq_true, hr, db_shl (by omega), decide_eq_true_eq]
      constructor
      · intro h1
        rcases h1 with ⟨s', a, b, c⟩ | h1
        · exact ⟨s', by omega, b, c⟩
        · exact ⟨s, by omega, hb, h1⟩
      · intro ⟨s', a, b, c⟩
        by_cases z : s' = s
        · subst z; exact Or.inr c
        · exact Or.inl ⟨s', by omega, b, c⟩
    · refine br_f (fun z => hb ((db_u m (by omega)).mp z)) (nm_r (nI_1 s) (ih (s + 1) (by omega) r ?_))
      intro i
      rw [hr]
      constructor
      · intro ⟨s', a, b, c⟩
        exact ⟨s', by omega, b, c⟩
      · intro ⟨s', a, b, c⟩
        by_cases z : s' = s
        · subst z; exact absurd b hb
        · exact ⟨s', by omega, b, c⟩
theorem dx_wv {post : Int32 → Prop} {m : Int32} {t : Nat} (ht : t < 32) (hs : dt_set t = true) (hp : ∀ r, (∀ i, bt r i = true ↔ ∃ s, s < 16 ∧ bt m s = true ∧ i = dt_at t s) → post r) : wpX_withVariable post m ((1 : Int32) <<< ((nI t &&& 3) &&& 31)) := by
  unfold wpX_withVariable
  refine ⟨17, dx_wv4 ht hs hp 16 0 (by omega) 0 ?_⟩
  intro i
  rw [b_0]
  constructor
  · intro z; cases z
  · intro ⟨s', a, _⟩; omega
theorem dx_82 {post : Int32 → SX → Prop} {ct oc rs rv rf : Int32} {tk op bh aT aF aB sA : Nat → Int32} {x y : Nat} {m : Int32} {g : Bool} (hx : x < 23) (hy : y < 23) (hp : post (db_i g) (ct, oc, rs, rv, rf, tk, op, bh, aT, aF, aB, dm_p sA x y m)) : wX_passOn_82 post m (nI x) (nI y) (db_i g) ct oc rs rv rf tk op bh aT aF aB sA := by
  unfold wX_passOn_82
  have ex : (nI x).toNatClampNeg = x := nI_clamp (by omega)
  have ey : (nI y).toNatClampNeg = y := nI_clamp (by omega)
  have ix : vp_in (nI x) 23 := pk_in x 23 hx
  have iy : vp_in (nI y) 23 := pk_in y 23 hy
  refine ⟨ix, ix, nm_r (by rw [ex]) ⟨iy, iy, nm_r (e' := dm_p sA x y m) (by rw [ey]; rfl) ⟨dk_nb2 g, hp⟩⟩⟩
def dm_fl (a : Nat → Int32) (m : Int32) (nx : Nat → Bool → Nat) (k : Nat) (f : Bool) : Prop :=
  (f = false ∧ (∀ i, bt m i = true → bt (a (nx k true)) i = true) ∧ (∀ i, bt m i = true → bt (a (nx k false)) i = true)) ∨ (f = true ∧ ∃ i o, bt m i = true ∧ bt (a (nx k o)) i = false)
theorem db_nsub {m z : Int32} (h : ¬ (m &&& (z ^^^ (-1))) = 0) : ∃ i, bt m i = true ∧ bt z i = false := by
  rw [db_sub0] at h
  obtain ⟨i, hi⟩ := Classical.not_forall.mp h
  refine ⟨i, ?_, ?_⟩
  · cases e : bt m i
    · exact absurd (fun z => by rw [e] at z; cases z) hi
    · rfl
  · cases e : bt z i
    · rfl
    · exact absurd (fun _ => e) hi
theorem dx_35 {post : Int32 → SX → Prop} {ct oc rs rv rf : Int32} {op bh aT aF aB sA : Nat → Int32} {T : Nat → Nat} {L : Nat → Nat × Nat × Nat} {k : Nat} {m : Int32} (hT : T k < 32) (hk : k < 22) (hL : aT k = nI (L k).1 ∧ aF k = nI (L k).2.1 ∧ aB k = nI (L k).2.2) (hx : ∀ o, dt_nx T L k o < 23)
    (hp : ∀ f, dm_fl sA m (dt_nx T L) k f → post (db_i f) (ct, oc, rs, rv, rf, (fun j => nI (T j)), op, bh, aT, aF, aB, dm_p sA (dt_nx T L k true) (dt_nx T L k false) m)) : wX_passOn_35 post (nI k) m ct oc rs rv rf (fun j => nI (T j)) op bh aT aF aB sA := by
  unfold wX_passOn_35
  have ht := hx true
  have hf := hx false
  have ex : (nI (dt_nx T L k true)).toNatClampNeg = dt_nx T L k true := nI_clamp (by omega)
  have ey : (nI (dt_nx T L k false)).toNatClampNeg = dt_nx T L k false := nI_clamp (by omega)
  refine dx_pa (o := true) hT hk hL (dx_pa (o := false) hT hk hL ⟨pk_in (dt_nx T L k true) 23 ht, ?_⟩)
  rw [ex, ey]
  refine br_c (fun h1 => ⟨pk_in (dt_nx T L k false) 23 hf, br_c (fun h2 => ?_) (fun h2 => ?_)⟩) (fun h1 => ?_)
  · exact dx_82 (g := false) ht hf (hp false (Or.inl ⟨rfl, (db_sub0 _ _).mp h1, (db_sub0 _ _).mp h2⟩))
  · obtain ⟨i, a, b⟩ := db_nsub h2
    exact dx_82 (g := true) ht hf (hp true (Or.inr ⟨rfl, i, false, a, b⟩))
  · obtain ⟨i, a, b⟩ := db_nsub h1
    exact dx_82 (g := true) ht hf (hp true (Or.inr ⟨rfl, i, true, a, b⟩))
theorem dx_passOn {post : Int32 → SX → Prop} {ct oc rs rv rf : Int32} {op bh aT aF aB sA : Nat → Int32} {T : Nat → Nat} {L : Nat → Nat × Nat × Nat} {k : Nat} (hT : T k < 32) (hk : k < 22) (hL : aT k = nI (L k).1 ∧ aF k = nI (L k).2.1 ∧ aB k = nI (L k).2.2) (hx : ∀ o, dt_nx T L k o < 23) (hB : ∀ i, 16 ≤ i → bt (sA k) i = false)
    (hp : ∀ m f, (∀ i, bt m i = true → ∃ s, s < 16 ∧ bt (sA k) s = true ∧ i = dt_af T k s) → (∀ s, s < 16 → bt (sA k) s = true → bt m (dt_af T k s) = true) → dm_fl sA m (dt_nx T L) k f → post (db_i f) (ct, oc, rs, rv, rf, (fun j => nI (T j)), op, bh, aT, aF, aB, dm_p sA (dt_nx T L k true) (dt_nx T L k false) m)) : wpX_passOn post (ct, oc, rs, rv, rf, (fun j => nI (T j)), op, bh, aT, aF, aB, sA) (nI k) := by
  unfold wpX_passOn
  have ek : (nI k).toNatClampNeg = k := nI_clamp (by omega)
  have i23 : vp_in (nI k) 23 := pk_in k 23 (by omega)
  have i22 : vp_in (nI k) 22 := pk_in k 22 (by omega)
  refine ⟨i23, nm_r (e' := sA k) (by rw [ek]) ⟨i22, ?_⟩⟩
  rw [ek]
  refine dx_se hT ?_
  cases hs : dt_set (T k) with
  | false =>
    refine br_t rfl ?_
    have ea : ∀ s, dt_af T k s = s := fun s => if_neg (by rw [hs]; decide)
    refine dx_35 hT hk hL hx (fun f hf => hp _ f ?_ ?_ hf)
    · intro i hi
      refine ⟨i, ?_, hi, (ea i).symm⟩
      rcases Nat.lt_or_ge i 16 with z | z
      · exact z
      · rw [hB i z] at hi; cases hi
    · intro s _ h
      rw [ea]; exact h
  | true =>
    refine br_f (by decide) ⟨i22, ?_⟩
    show wpX_withVariable _ _ _
    refine dx_wv hT hs (fun r hr => ?_)
    refine dx_35 hT hk hL hx (fun f hf => hp _ f ?_ ?_ hf)
    · intro i hi
      exact (hr i).mp hi
    · intro s h16 h
      exact (hr _).mpr ⟨s, h16, h, rfl⟩
theorem db_ior (g f : Bool) : db_i g ||| db_i f = db_i (g || f) := by cases g <;> cases f <;> decide
theorem dm_stepB {n : Nat} {nx : Nat → Bool → Nat} {af : Nat → Nat → Nat} {a0 : Nat → Int32} {D D' : Nat → Nat → Prop} {a : Nat → Int32} {g f : Bool} (hx : ∀ k, k < n → ∀ o, nx k o < 23) (hn : n ≤ 22) (haf : ∀ k s, k < n → s < 16 → af k s < 16)
    (h : dm_I n nx af a0 D a (db_i g)) {k : Nat} (hk : k < n) (m : Int32) (E : Nat → Prop)
    (h1 : ∀ i, bt m i = true → ∃ s, s < 16 ∧ bt (a k) s = true ∧ i = af k s)
    (h2 : ∀ s, s < 16 → E s → bt (a k) s = true → bt m (af k s) = true)
    (hD : ∀ k' s', D' k' s' → D k' s' ∨ (k' = k ∧ E s')) (hf : dm_fl a m nx k f) :
    dm_I n nx af a0 D' (dm_p a (nx k true) (nx k false) m) (db_i (g || f)) := by
  refine dm_step hx hn haf h hk m E h1 h2 hD _ ?_
  cases g with
  | true => exact Or.inr ⟨rfl, Or.inl rfl⟩
  | false =>
    rcases hf with ⟨rfl, s1, s2⟩ | ⟨rfl, i, o, a, b⟩
    · exact Or.inl ⟨rfl, rfl, s1, s2⟩
    · exact Or.inr ⟨rfl, Or.inr ⟨i, o, a, b⟩⟩
theorem dt_af16 {T : Nat → Nat} (hT : ∀ k, T k < 32) : ∀ k s, s < 16 → dt_af T k s < 16 := fun k s hs => db_at16 (T k) (hT k) s hs
theorem dx_47 {post : SX → Prop} {J : Int32 → Int32 → Int32 → Int32 → Int32 → Int32 → Int32 → (Nat → Int32) → (Nat → Int32) → (Nat → Int32) → (Nat → Int32) → (Nat → Int32) → (Nat → Int32) → (Nat → Int32) → Prop} {oc rs rv rf : Int32} {op bh aT aF aB : Nat → Int32} {T : Nat → Nat} {n p : Nat} {a0 : Nat → Int32} (ho : dt_ok T n) (hc : dt_st T n = []) (hL : dl_X T n aT aF aB)
    (hJ : ∀ (g : Bool) sA, dm_I n (dt_nx T (dt_L T n)) (dt_af T) a0 (fun k _ => k < n) sA (db_i g) → J (db_i g) (nI (p + 1)) (nI n) oc rs rv rf (fun j => nI (T j)) op bh aT aF aB sA) :
    ∀ d i, i + d = n → ∀ (g : Bool) sA, dm_I n (dt_nx T (dt_L T n)) (dt_af T) a0 (fun k _ => k < i) sA (db_i g) → wX_followAllWalks_47 post J (nI p) (d + 1) (db_i g) (nI i) (nI n) oc rs rv rf (fun j => nI (T j)) op bh aT aF aB sA := by
  have hn := ho.1
  have hx : ∀ k, k < n → ∀ o, dt_nx T (dt_L T n) k o < 23 := fun k hk o => dt_v23 hn (dt_nxv ho hc hk o)
  intro d
  induction d with
  | zero =>
    intro i hi g sA hI
    obtain rfl : i = n := by omega
    exact br_t (nI_le (Nat.le_refl _) (by omega)) (nm_r (nI_1 p) (hJ g sA hI))
  | succ d ih =>
    intro i hi g sA hI
    refine br_f (nI_ge (by omega) (by omega)) ?_
    refine dx_passOn (L := dt_L T n) (ho.2.1 i) (by omega) (hL i (by omega)) (hx i (by omega)) (fun j hj => hI.1.2.1 i (by omega) j hj) (fun m f h1 h2 hf => ?_)
    refine nm_r (db_ior g f) (nm_r (nI_1 i) (ih (i + 1) (by omega) (g || f) _ ?_))
    refine dm_stepB hx hn (fun k s _ hs => dt_af16 ho.2.1 k s hs) hI (by omega) m (fun _ => True) h1 (fun s hs _ => h2 s hs) (fun k' s' hD => ?_) hf
    by_cases e : k' = i
    · exact Or.inr ⟨e, True.intro⟩
    · exact Or.inl (by omega)
theorem dx_32 {post : SX → Prop} {oc rs rv rf : Int32} {op bh aT aF aB : Nat → Int32} {T : Nat → Nat} {n : Nat} (ho : dt_ok T n) (hc : dt_st T n = []) (hL : dl_X T n aT aF aB)
    (hp : ∀ sA, dm_L n (dt_nx T (dt_L T n)) (dt_af T) sA → post (nI n, oc, rs, rv, rf, (fun j => nI (T j)), op, bh, aT, aF, aB, sA)) :
    ∀ d p, p + d = 369 → ∀ (g : Bool) sA, dm_O n (dt_nx T (dt_L T n)) (dt_af T) p sA (db_i g) → wX_followAllWalks_32 post (d + 1) (db_i g) (nI p) (nI n) oc rs rv rf (fun j => nI (T j)) op bh aT aF aB sA := by
  intro d
  induction d with
  | zero =>
    intro p hpp g sA hO
    obtain rfl : p = 369 := by omega
    exact br_t (by decide) (hp sA (dm_O_L hO (Or.inr (Nat.le_refl _))))
  | succ d ih =>
    intro p hpp g sA hO
    refine br_f (nI_ge (b := 369) (by omega) (by omega)) ?_
    cases g with
    | false => exact br_t rfl (hp sA (dm_O_L hO (Or.inl rfl)))
    | true =>
      refine br_f (by decide) ⟨n + 1, ?_⟩
      have hcnt : p + 1 ≤ dc_a sA := by
        rcases hO.2 with ⟨_, h⟩ | ⟨h, _⟩
        · exact h
        · exact absurd h (by decide)
      exact dx_47 ho hc hL (fun g' sA' hI => ih (p + 1) (by omega) g' sA' (dm_I_O (fun k s hk _ => hk) hcnt hI)) n 0 (by omega) false sA (dm_O_I _ (fun k s _ _ z => Nat.not_lt_zero _ z) hO.1)
theorem dx_2 {post : SX → Prop} {ct oc rs rv rf : Int32} {tk op bh aT aF aB : Nat → Int32} (hp : ∀ sA, (∀ k, k < 23 → sA k = if k = 0 then 1 else 0) → ∃ n32 : Nat, wX_followAllWalks_32 post n32 1 0 ct oc rs rv rf tk op bh aT aF aB sA) :
    ∀ d i, i + d = 23 → ∀ sA, (∀ k, k < i → sA k = 0) → wX_followAllWalks_2 post ct oc rs rv rf (d + 1) (nI i) tk op bh aT aF aB sA := by
  intro d
  induction d with
  | zero =>
    intro i hi sA h
    obtain rfl : i = 23 := by omega
    refine br_t (by decide) (nm_e (hp _ (fun k hk => ?_)))
    by_cases e : k = 0
    · subst e; rw [if_pos rfl]; exact pk_us
    · rw [pk_un e, if_neg e]; exact h k hk
  | succ d ih =>
    intro i hi sA h
    refine br_f (nI_ge (b := 23) (by omega) (by omega)) ⟨pk_in i 23 (by omega), nm_r (by rw [nI_clamp (n := i) (by omega)]) (nm_r (nI_1 i) (ih (i + 1) (by omega) _ (fun k hk => ?_)))⟩
    by_cases e : k = i
    · subst e; exact pk_us
    · rw [pk_un e]; exact h k (by omega)
theorem dx_fw {post : SX → Prop} {oc rs rv rf : Int32} {op bh aT aF aB sA : Nat → Int32} {T : Nat → Nat} {n : Nat} (ho : dt_ok T n) (hc : dt_st T n = []) (hL : dl_X T n aT aF aB)
    (hp : ∀ sA, dm_L n (dt_nx T (dt_L T n)) (dt_af T) sA → post (nI n, oc, rs, rv, rf, (fun j => nI (T j)), op, bh, aT, aF, aB, sA)) : wpX_followAllWalks post (nI n, oc, rs, rv, rf, (fun j => nI (T j)), op, bh, aT, aF, aB, sA) := by
  unfold wpX_followAllWalks
  exact ⟨24, dx_2 (fun sA' h => ⟨370, dx_32 ho hc hL hp 369 0 (by omega) true sA' (dm_init h)⟩) 23 0 (by omega) sA (fun k hk => absurd hk (Nat.not_lt_zero _))⟩
end
section
/-! Y follows all walks -/
def dt_tks (T : Nat → Nat) (n : Nat) : Prop := ∀ j, j < n → dt_tk (T j) = true
theorem dt_nop : ∀ t, t < 32 → (dt_tk t = true ∧ 16 ≤ t ∧ ¬ t = 16 ∧ dt_ar t = 0 ∧ dt_opn t = false) → t = 17 := by decide +kernel
theorem dt_nop2 : ∀ t, t < 32 → dt_opn t = true → t ≠ 1 ∧ t ≠ 16 ∧ t ≠ 17 := by decide +kernel
theorem dy_on {post : Int32 → Prop} {sz ys yv yf : Int32} {nt ye no ou co pl : Nat → Int32} {T : Nat → Nat} {L : Nat → Nat × Nat × Nat} {k : Nat} (hT : T k < 32) (htk : dt_tk (T k) = true) (hk : k < 22) (hW : (dt_c (T k) = true → ye k = nI (L k).1 ∧ no k = nI (L k).2.1) ∧ (dt_c (T k) = false → nt k = nI (L k).1 ∧ ou k = nI (L k).2.2)) (hv : dt_c (T k) = false → (L k).1 = (L k).2.1) (o : Bool) (hp : post (nI (dt_nx T L k o))) : wpY_onwards post (sz, ys, yv, yf, (fun j => nI (T j)), nt, ye, no, ou, co, pl) (nI k) (db_i o) := by
  unfold wpY_onwards
  have ek : (nI k).toNatClampNeg = k := nI_clamp (by omega)
  have i23 : vp_in (nI k) 23 := pk_in k 23 (by omega)
  have i22 : vp_in (nI k) 22 := pk_in k 22 (by omega)
  have ha := dt_ar_le (T k) hT
  refine ⟨i22, nm_r (e' := nI (T k)) (by rw [ek]) (dy_pc hT ?_)⟩
  rw [ek]
  unfold dt_nx at hp
  refine pk_le (dt_ar (T k)) 0 (fun z => ?_) (fun z => ?_)
  · rw [if_neg (show ¬ 0 < dt_ar (T k) by omega)] at hp
    refine pk_le 16 (T k) (fun z1 => ?_) (fun z1 => ?_)
    · obtain ⟨wy, wn⟩ := hW.1 (decide_eq_true z1)
      rw [wy, wn]
      rw [if_neg (show ¬ T k = 1 by omega)] at hp
      refine pk_eq (T k) 16 (fun z2 => ⟨i23, ?_⟩) (fun z2 => ?_)
      · rw [if_pos z2] at hp; exact hp
      · rw [if_neg z2] at hp
        refine dy_un hT ?_
        cases e : dt_opn (T k) with
        | false =>
          have e17 := dt_nop (T k) hT ⟨htk, z1, z2, by omega, e⟩
          rw [if_pos e17] at hp
          exact br_t rfl ⟨i23, hp⟩
        | true =>
          have e17 := (dt_nop2 (T k) hT e).2.2
          rw [if_neg e17] at hp
          refine br_f (by decide) ?_
          cases o with
          | false => exact br_t rfl ⟨i23, hp⟩
          | true => exact br_f (by decide) ⟨i23, hp⟩
    · have hcf : dt_c (T k) = false := decide_eq_false (by omega)
      obtain ⟨wt, wo⟩ := hW.2 hcf
      rw [wt, wo]
      refine pk_eq (T k) 1 (fun z2 => ⟨i23, ?_⟩) (fun z2 => ⟨i23, ?_⟩)
      · rw [if_pos z2] at hp; exact hp
      · rw [if_neg z2, if_neg (show ¬ T k = 16 by omega), if_neg (show ¬ T k = 17 by omega), ← hv hcf] at hp
        cases o <;> exact hp
  · rw [if_pos z] at hp
    rw [nI_1]
    exact hp
def dt_sv (t : Nat) (s : Int32) : Int32 := if dt_set t = true then s ||| ((1 : Int32) <<< ((nI t &&& 3) &&& 31)) else s
theorem dy_af {post : Int32 → Prop} {sz ys yv yf : Int32} {nt ye no ou co pl : Nat → Int32} {T : Nat → Nat} {k : Nat} {s : Int32} (hT : T k < 32) (hk : k < 22) (hp : post (dt_sv (T k) s)) : wpY_after post (sz, ys, yv, yf, (fun j => nI (T j)), nt, ye, no, ou, co, pl) (nI k) s := by
  unfold wpY_after
  have ek : (nI k).toNatClampNeg = k := nI_clamp (by omega)
  have i22 : vp_in (nI k) 22 := pk_in k 22 (by omega)
  have h0 : (T k < 8 ∨ 11 < T k ∧ T k < 24 ∨ 27 < T k) → post s := by
    intro z
    have e : dt_sv (T k) s = s := if_neg (by rw [show dt_set (T k) = false from decide_eq_false (by omega)]; decide)
    rw [e] at hp; exact hp
  have h1 : (8 ≤ T k ∧ T k ≤ 11 ∨ 24 ≤ T k ∧ T k ≤ 27) → post (s ||| ((1 : Int32) <<< ((nI (T k) &&& 3) &&& 31))) := by
    intro z
    have e : dt_sv (T k) s = s ||| ((1 : Int32) <<< ((nI (T k) &&& 3) &&& 31)) := if_pos (decide_eq_true z)
    rw [e] at hp; exact hp
  refine ⟨i22, nm_r (e' := nI (T k)) (by rw [ek]) ?_⟩
  refine pk_lt (T k) 8 (fun z => ?_) (fun z => pk_le (T k) 11 (fun z1 => h1 (by omega)) (fun z1 => ?_))
  · exact pk_lt (T k) 24 (fun _ => h0 (by omega)) (fun z1 => absurd z (by omega))
  · exact pk_lt (T k) 24 (fun _ => h0 (by omega)) (fun z2 => pk_lt 27 (T k) (fun z3 => h0 (by omega)) (fun z3 => h1 (by omega)))
theorem dt_svn {t s : Nat} (ht : t < 32) (hs : s < 16) : dt_sv t (nI s) = nI (dt_at t s) := by
  unfold dt_sv
  by_cases h : dt_set t = true
  · rw [if_pos h, db_atS t ht h s hs]
  · rw [if_neg h]; unfold dt_at; rw [if_neg h]
theorem dy_54 {post : Int32 → SY → Prop} {sz ys yv yf : Int32} {tk nt ye no ou co pl : Nat → Int32} {x y : Nat} {m : Int32} {g : Bool} (hx : x < 23) (hy : y < 23) (hp : post (db_i g) (sz, ys, yv, yf, tk, nt, ye, no, ou, dm_p co x y m, pl)) : wY_spread_54 post m (nI x) (nI y) (db_i g) sz ys yv yf tk nt ye no ou co pl := by
  unfold wY_spread_54
  have ex : (nI x).toNatClampNeg = x := nI_clamp (by omega)
  have ey : (nI y).toNatClampNeg = y := nI_clamp (by omega)
  have ix : vp_in (nI x) 23 := pk_in x 23 hx
  have iy : vp_in (nI y) 23 := pk_in y 23 hy
  refine ⟨ix, ix, nm_r (by rw [ex]) ⟨iy, iy, nm_r (e' := dm_p co x y m) (by rw [ey]; rfl) ⟨dk_nb2 g, hp⟩⟩⟩
theorem dy_spread {post : Int32 → SY → Prop} {sz ys yv yf : Int32} {nt ye no ou co pl : Nat → Int32} {T : Nat → Nat} {L : Nat → Nat × Nat × Nat} {k s : Nat} (hT : T k < 32) (htk : dt_tk (T k) = true) (hk : k < 22) (hs : s < 16) (hW : (dt_c (T k) = true → ye k = nI (L k).1 ∧ no k = nI (L k).2.1) ∧ (dt_c (T k) = false → nt k = nI (L k).1 ∧ ou k = nI (L k).2.2)) (hv : dt_c (T k) = false → (L k).1 = (L k).2.1) (hx : ∀ o, dt_nx T L k o < 23)
    (hp : ∀ f, dm_fl co ((1 : Int32) <<< (nI (dt_af T k s) &&& 31)) (dt_nx T L) k f → post (db_i f) (sz, ys, yv, yf, (fun j => nI (T j)), nt, ye, no, ou, dm_p co (dt_nx T L k true) (dt_nx T L k false) ((1 : Int32) <<< (nI (dt_af T k s) &&& 31)), pl)) : wpY_spread post (sz, ys, yv, yf, (fun j => nI (T j)), nt, ye, no, ou, co, pl) (nI k) (nI s) := by
  unfold wpY_spread
  have h16 : dt_af T k s < 16 := db_at16 (T k) hT s hs
  have ht := hx true
  have hf := hx false
  have ex : (nI (dt_nx T L k true)).toNatClampNeg = dt_nx T L k true := nI_clamp (by omega)
  have ey : (nI (dt_nx T L k false)).toNatClampNeg = dt_nx T L k false := nI_clamp (by omega)
  refine dy_af hT hk ?_
  rw [dt_svn hT hs]
  refine nm_e (dy_on (o := true) hT htk hk hW hv (dy_on (o := false) hT htk hk hW hv ⟨pk_in (dt_nx T L k true) 23 ht, ?_⟩))
  rw [ex, ey]
  have hm : ∀ i, bt ((1 : Int32) <<< (nI (dt_af T k s) &&& 31)) i = decide (i = dt_af T k s) := db_shl (by omega)
  have hme : bt ((1 : Int32) <<< (nI (dt_af T k s) &&& 31)) (dt_af T k s) = true := by rw [hm]; exact decide_eq_true rfl
  refine br_c (fun h1 => ?_) (fun h1 => ⟨pk_in (dt_nx T L k false) 23 hf, br_c (fun h2 => ?_) (fun h2 => ?_)⟩)
  · exact dy_54 (g := true) ht hf (hp true (Or.inr ⟨rfl, _, true, hme, (db_and0 _ (show dt_af T k s < 32 by omega)).mp h1⟩))
  · exact dy_54 (g := true) ht hf (hp true (Or.inr ⟨rfl, _, false, hme, (db_and0 _ (show dt_af T k s < 32 by omega)).mp h2⟩))
  · refine dy_54 (g := false) ht hf (hp false (Or.inl ⟨rfl, fun i hi => ?_, fun i hi => ?_⟩))
    · rw [hm, decide_eq_true_eq] at hi
      subst hi
      cases e : bt (co (dt_nx T L k true)) (dt_af T k s)
      · exact absurd ((db_and0 _ (show dt_af T k s < 32 by omega)).mpr e) h1
      · rfl
    · rw [hm, decide_eq_true_eq] at hi
      subst hi
      cases e : bt (co (dt_nx T L k false)) (dt_af T k s)
      · exact absurd ((db_and0 _ (show dt_af T k s < 32 by omega)).mpr e) h2
      · rfl
theorem dm_skip {n : Nat} {nx : Nat → Bool → Nat} {af : Nat → Nat → Nat} {a0 : Nat → Int32} {D D' : Nat → Nat → Prop} {a : Nat → Int32} {g : Int32} (h : dm_I n nx af a0 D a g) {k s : Nat} (hb : bt (a k) s = false) (hD : ∀ k' s', D' k' s' → D k' s' ∨ (k' = k ∧ s' = s)) : dm_I n nx af a0 D' a g := by
  obtain ⟨hB, mo, hc⟩ := h
  refine ⟨hB, mo, ?_⟩
  rcases hc with ⟨g0, ea, hcl⟩ | hc
  · refine Or.inl ⟨g0, ea, fun k' s' hk' hs' hd => ?_⟩
    rcases hD k' s' hd with hd | ⟨rfl, rfl⟩
    · exact hcl k' s' hk' hs' hd
    · intro z
      rw [← ea, hb] at z
      cases z
  · exact Or.inr hc
theorem dy_57 {post : Int32 → SY → Prop} {J : Int32 → Int32 → Int32 → Int32 → Int32 → Int32 → (Nat → Int32) → (Nat → Int32) → (Nat → Int32) → (Nat → Int32) → (Nat → Int32) → (Nat → Int32) → (Nat → Int32) → Prop} {ys yv yf : Int32} {nt ye no ou pl : Nat → Int32} {T : Nat → Nat} {n p : Nat} {a0 : Nat → Int32} (ho : dt_ok T n) (hc : dt_st T n = []) (htk : dt_tks T n) (hW : dl_W T n nt ye no ou)
    (hJ : ∀ (g : Bool) co, dm_I n (dt_nx T (dt_L T n)) (dt_af T) a0 (fun k s => s < 16 ∧ 16 * k + s < 16 * n) co (db_i g) → J (db_i g) (nI (p + 1)) (nI n) ys yv yf (fun j => nI (T j)) nt ye no ou co pl) :
    ∀ d c, c + d = 16 * n → ∀ (g : Bool) co, dm_I n (dt_nx T (dt_L T n)) (dt_af T) a0 (fun k s => s < 16 ∧ 16 * k + s < c) co (db_i g) → wY_explore_57 post J (nI p) (d + 1) (db_i g) (nI c) (nI n) ys yv yf (fun j => nI (T j)) nt ye no ou co pl := by
  have hn := ho.1
  have hx : ∀ k, k < n → ∀ o, dt_nx T (dt_L T n) k o < 23 := fun k hk o => dt_v23 hn (dt_nxv ho hc hk o)
  have e16 : (16 : Int32) * nI n = nI (16 * n) := pk_mul 16 n
  have ne : ¬ (16 : Int32) = 0 := by decide
  intro d
  induction d with
  | zero =>
    intro c hcd g co hI
    obtain rfl : c = 16 * n := by omega
    refine br_t (by rw [e16]; exact nI_le (Nat.le_refl _) (by omega)) (nm_r (nI_1 p) (hJ g co hI))
  | succ d ih =>
    intro c hcd g co hI
    have hk : c / 16 < n := by omega
    have hs : c % 16 < 16 := by omega
    have e1 : nI c / (16 : Int32) = nI (c / 16) := pk_div (d := 16) (by omega) (by decide) (by decide)
    have e2 : nI c - nI c / (16 : Int32) * (16 : Int32) = nI (c % 16) := pk_rem (d := 16) (by omega) (by decide) (by decide)
    have hD : ∀ k' s', (s' < 16 ∧ 16 * k' + s' < c + 1) → (s' < 16 ∧ 16 * k' + s' < c) ∨ (k' = c / 16 ∧ s' = c % 16) := by
      intro k' s' h
      by_cases z : 16 * k' + s' < c
      · exact Or.inl ⟨h.1, z⟩
      · exact Or.inr ⟨by omega, by omega⟩
    have ek : (nI (c / 16)).toNatClampNeg = c / 16 := nI_clamp (by omega)
    refine br_f (by rw [e16]; exact nI_ge (by omega) (by omega)) ⟨ne, ?_⟩
    rw [e2, e1]
    refine ⟨pk_in (c / 16) 23 (by omega), ne, ?_⟩
    rw [ek]
    by_cases hb : bt (co (c / 16)) (c % 16) = true
    · refine br_t ((db_s _ (by omega)).mpr hb) ⟨ne, ne, ?_⟩
      refine dy_spread (L := dt_L T n) (ho.2.1 _) (htk _ hk) (by omega) hs (hW _ hk) (dt_Lok ho hc hk).2.2.2 (hx _ hk) (fun f hf => ?_)
      have h16 : dt_af T (c / 16) (c % 16) < 16 := db_at16 _ (ho.2.1 _) _ hs
      have hI' := dm_stepB (D' := fun k s => s < 16 ∧ 16 * k + s < c + 1) hx hn (fun k s _ hs => dt_af16 ho.2.1 k s hs) hI hk _ (fun s' => s' = c % 16)
        (fun i hi => ⟨c % 16, hs, hb, by rw [db_shl (by omega), decide_eq_true_eq] at hi; exact hi⟩)
        (fun s' _ es _ => by rw [es, db_shl (by omega)]; exact decide_eq_true rfl) hD hf
      have hN := ih (c + 1) (by omega) (g || f) _ hI'
      cases f with
      | false =>
        refine br_t rfl ?_
        cases g with
        | false => exact br_t rfl (nm_r (nI_1 c) hN)
        | true => exact br_f (by decide) (nm_r (nI_1 c) hN)
      | true =>
        refine br_f (by decide) (nm_r (nI_1 c) ?_)
        cases g with
        | false => exact hN
        | true => exact hN
    · refine br_f (fun z => hb ((db_s _ (by omega)).mp z)) (nm_r (nI_1 c) (ih (c + 1) (by omega) g co ?_))
      exact dm_skip hI (by cases e : bt (co (c / 16)) (c % 16) <;> simp_all) hD
theorem dy_42e {post : Int32 → SY → Prop} {ys yv yf : Int32} {nt ye no ou pl : Nat → Int32} {T : Nat → Nat} {n : Nat} (ho : dt_ok T n) (hc : dt_st T n = []) (htk : dt_tks T n) (hW : dl_W T n nt ye no ou)
    (hp : ∀ co, dm_L n (dt_nx T (dt_L T n)) (dt_af T) co → post 1 (nI n, ys, yv, yf, (fun j => nI (T j)), nt, ye, no, ou, co, pl)) :
    ∀ d p, p + d = 369 → ∀ (g : Bool) co, dm_O n (dt_nx T (dt_L T n)) (dt_af T) p co (db_i g) → wY_explore_42 post (d + 1) (db_i g) (nI p) (nI n) ys yv yf (fun j => nI (T j)) nt ye no ou co pl := by
  intro d
  induction d with
  | zero =>
    intro p hpp g co hO
    obtain rfl : p = 369 := by omega
    exact br_t (by decide) (hp co (dm_O_L hO (Or.inr (Nat.le_refl _))))
  | succ d ih =>
    intro p hpp g co hO
    refine br_f (nI_ge (b := 369) (by omega) (by omega)) ?_
    cases g with
    | false => exact br_t rfl (hp co (dm_O_L hO (Or.inl rfl)))
    | true =>
      refine br_f (by decide) ⟨16 * n + 1, ?_⟩
      have hcnt : p + 1 ≤ dc_a co := by
        rcases hO.2 with ⟨_, h⟩ | ⟨h, _⟩
        · exact h
        · exact absurd h (by decide)
      exact dy_57 ho hc htk hW (fun g' co' hI => ih (p + 1) (by omega) g' co' (dm_I_O (fun k s hk hs => ⟨hs, by omega⟩) hcnt hI)) (16 * n) 0 (by omega) false co (dm_O_I _ (fun k s _ _ z => Nat.not_lt_zero _ z.2) hO.1)
theorem dy_11e {post : Int32 → SY → Prop} {sz ys yv yf : Int32} {tk nt ye no ou pl : Nat → Int32} (hp : ∀ co, (∀ k, k < 23 → co k = if k = 0 then 1 else 0) → ∃ n42 : Nat, wY_explore_42 post n42 1 0 sz ys yv yf tk nt ye no ou co pl) :
    ∀ d i, i + d = 23 → ∀ co, (∀ k, k < i → co k = if k = 0 then 1 else 0) → wY_explore_11 post sz ys yv yf (d + 1) (nI i) tk nt ye no ou co pl := by
  intro d
  induction d with
  | zero =>
    intro i hi co h
    obtain rfl : i = 23 := by omega
    exact br_t (by decide) (hp _ h)
  | succ d ih =>
    intro i hi co h
    refine br_f (nI_ge (b := 23) (by omega) (by omega)) ?_
    refine pk_eq i 0 (fun z => ⟨pk_in i 23 (by omega), nm_r (by rw [nI_clamp (n := i) (by omega)]) (nm_r (nI_1 i) (ih (i + 1) (by omega) _ (fun k hk => ?_)))⟩) (fun z => ⟨pk_in i 23 (by omega), nm_r (by rw [nI_clamp (n := i) (by omega)]) (nm_r (nI_1 i) (ih (i + 1) (by omega) _ (fun k hk => ?_)))⟩)
    · by_cases e : k = i
      · subst e; rw [if_pos z]; exact pk_us
      · rw [pk_un e]; exact h k (by omega)
    · by_cases e : k = i
      · subst e; rw [if_neg z]; exact pk_us
      · rw [pk_un e]; exact h k (by omega)
theorem dy_explore {post : Int32 → SY → Prop} {ys yv yf : Int32} {nt ye no ou co pl : Nat → Int32} {T : Nat → Nat} {n : Nat} (ho : dt_ok T n) (htk : dt_tks T n) (h0 : dt_st T n = [] → ∀ nt ye no ou co pl, dm_L n (dt_nx T (dt_L T n)) (dt_af T) co → post 1 (nI n, ys, yv, yf, (fun j => nI (T j)), nt, ye, no, ou, co, pl)) (h1 : dt_st T n ≠ [] → ∀ pl, post 0 (nI n, ys, yv, yf, (fun j => nI (T j)), nt, ye, no, ou, co, pl)) : wpY_explore post (nI n, ys, yv, yf, (fun j => nI (T j)), nt, ye, no, ou, co, pl) := by
  unfold wpY_explore
  refine dy_prepare ho (fun hc nt' ye' no' ou' pl' hW => ?_) (fun hc pl' => ?_)
  · refine br_f (by decide) ⟨24, ?_⟩
    exact dy_11e (fun co' h => ⟨370, dy_42e ho hc htk hW (h0 hc _ _ _ _ · _) 369 0 (by omega) true co' (dm_init h)⟩) 23 0 (by omega) co (fun k hk => absurd hk (Nat.not_lt_zero _))
  · exact br_t rfl (h1 hc pl')
end
section
/-! the relation -/
def dR (T : Nat → Nat) (n : Nat) (oc : Int32) (op aT aF aB sA : Nat → Int32) : Prop :=
  dt_ok T n ∧ dt_tks T n ∧ dk_S db_i op (dt_st T n) ∧ oc = nI (dt_st T n).length ∧ (dt_st T n = [] → dl_X T n aT aF aB ∧ dm_L n (dt_nx T (dt_L T n)) (dt_af T) sA)
/-- both hold the same tokens and the same last run; X's stack of pending parts is the stack of the tokens; if it is empty, X's links are laid and its settings are the least set -/
def i_Rel (k : Nat) (u : SX) (v : SY) : Prop :=
  ∃ (T : Nat → Nat) (n : Nat) (oc rs rv rf : Int32) (op bh aT aF aB sA nt ye no ou co pl : Nat → Int32),
    u = (nI n, oc, rs, rv, rf, (fun j => nI (T j)), op, bh, aT, aF, aB, sA) ∧ v = (nI n, rs, rv, rf, (fun j => nI (T j)), nt, ye, no, ou, co, pl) ∧ dR T n oc op aT aF aB sA
theorem i_mk {k : Nat} {T : Nat → Nat} {n : Nat} {oc rs rv rf : Int32} {op bh aT aF aB sA nt ye no ou co pl : Nat → Int32} (h : dR T n oc op aT aF aB sA) : i_Rel k (nI n, oc, rs, rv, rf, (fun j => nI (T j)), op, bh, aT, aF, aB, sA) (nI n, rs, rv, rf, (fun j => nI (T j)), nt, ye, no, ou, co, pl) :=
  ⟨T, n, oc, rs, rv, rf, op, bh, aT, aF, aB, sA, nt, ye, no, ou, co, pl, rfl, rfl, h⟩
theorem i_up {k : Nat} {u : SX} {v : SY} (h : i_Rel k u v) : i_Rel (k + 2) u v := h
theorem dR_0 {T : Nat → Nat} (hT : ∀ k, T k < 32) {op aT aF aB sA : Nat → Int32} (hS : dk_S db_i op [false]) : dR T 0 1 op aT aF aB sA :=
  ⟨⟨by decide, hT, fun j hj => absurd hj (Nat.not_lt_zero j)⟩, fun j hj => absurd hj (Nat.not_lt_zero j), hS, rfl, fun z => (by cases z)⟩
theorem i_vc0 : wpX_init (fun u => wpY_init (fun v => i_Rel 0 u v)) := by
  unfold wpX_init
  refine dx_forget (fun op' hS => ?_)
  exact i_mk (k := 0) (T := fun _ => 0) (n := 0) (dR_0 (fun _ => by decide) hS)
theorem i_vc_clear {k : Nat} {u : SX} {v : SY} (I : i_Rel k u v) (hk : k + 2 ≤ 1024) : wpX_clear (fun u' => wpY_clear (fun v' => i_Rel (k + 2) u' v') v) u := by
  obtain ⟨T, n, oc, rs, rv, rf, op, bh, aT, aF, aB, sA, nt, ye, no, ou, co, pl, rfl, rfl, hR⟩ := I
  unfold wpX_clear
  refine dx_forget (fun op' hS => ?_)
  exact i_mk (k := k + 2) (n := 0) (dR_0 hR.1.2.1 hS)
theorem i_vc_length {k : Nat} {u : SX} {v : SY} (I : i_Rel k u v) (hk : k + 2 ≤ 1024) : wpX_length (fun r => wpY_length (fun r' => r' = r ∧ i_Rel (k + 2) u v) v) u := by
  obtain ⟨T, n, oc, rs, rv, rf, op, bh, aT, aF, aB, sA, nt, ye, no, ou, co, pl, rfl, rfl, hR⟩ := I
  exact ⟨rfl, i_mk hR⟩
theorem i_vc_runSet {k : Nat} {u : SX} {v : SY} (I : i_Rel k u v) (hk : k + 2 ≤ 1024) : wpX_runSet (fun r => wpY_runSet (fun r' => r' = r ∧ i_Rel (k + 2) u v) v) u := by
  obtain ⟨T, n, oc, rs, rv, rf, op, bh, aT, aF, aB, sA, nt, ye, no, ou, co, pl, rfl, rfl, hR⟩ := I
  exact ⟨rfl, i_mk hR⟩
theorem i_vc_runVisited {k : Nat} {u : SX} {v : SY} (I : i_Rel k u v) (hk : k + 2 ≤ 1024) : wpX_runVisited (fun r => wpY_runVisited (fun r' => r' = r ∧ i_Rel (k + 2) u v) v) u := by
  obtain ⟨T, n, oc, rs, rv, rf, op, bh, aT, aF, aB, sA, nt, ye, no, ou, co, pl, rfl, rfl, hR⟩ := I
  exact ⟨rfl, i_mk hR⟩
theorem i_vc_runFaults {k : Nat} {u : SX} {v : SY} (I : i_Rel k u v) (hk : k + 2 ≤ 1024) : wpX_runFaults (fun r => wpY_runFaults (fun r' => r' = r ∧ i_Rel (k + 2) u v) v) u := by
  obtain ⟨T, n, oc, rs, rv, rf, op, bh, aT, aF, aB, sA, nt, ye, no, ou, co, pl, rfl, rfl, hR⟩ := I
  exact ⟨rfl, i_mk hR⟩
/-! oc = 0 says that the stack is empty -/
theorem dR_oc {T : Nat → Nat} {n : Nat} (ho : dt_ok T n) : (nI (dt_st T n).length = 0) ↔ dt_st T n = [] := by
  have hl := dt_st_len ho.2.1 n
  have hn := ho.1
  rw [show (0 : Int32) = nI 0 from rfl, nI_eq (by omega) (by omega)]
  exact List.length_eq_zero_iff
theorem i_vc_complete {k : Nat} {u : SX} {v : SY} (I : i_Rel k u v) (hk : k + 2 ≤ 1024) : wpX_complete (fun r => wpY_complete (fun r' v' => r' = r ∧ i_Rel (k + 2) u v') v) u := by
  obtain ⟨T, n, oc, rs, rv, rf, op, bh, aT, aF, aB, sA, nt, ye, no, ou, co, pl, rfl, rfl, hR⟩ := I
  have ho := hR.1
  have e := hR.2.2.2.1
  have hz := dR_oc ho
  unfold wpX_complete
  refine br_c (fun z => ?_) (fun z => ?_)
  · rw [e, hz] at z
    exact dy_complete ho (fun _ pl' => ⟨rfl, i_mk hR⟩) (fun h => absurd z h)
  · rw [e, hz] at z
    exact dy_complete ho (fun h => absurd h z) (fun _ pl' => ⟨rfl, i_mk hR⟩)
/-! feed -/
theorem dv_neg {v : Int32} (h : v < 0) {c : Nat} (hc : c < 2 ^ 31) : v < nI c ∧ ¬ v = nI c := by
  have h2 : v < nI c := by
    rw [Int32.lt_iff_toInt_lt, show (0 : Int32).toInt = 0 from by decide] at h
    rw [Int32.lt_iff_toInt_lt, nI_toInt hc]
    omega
  refine ⟨h2, fun e => ?_⟩
  rw [e] at h2
  exact Int32.lt_irrefl h2
theorem dv_cases (v : Int32) : (∃ t, t < 32 ∧ v = nI t) ∨ v < 0 ∨ ∃ t, 32 ≤ t ∧ t < 2 ^ 31 ∧ v = nI t := by
  by_cases h : v < 0
  · exact Or.inr (Or.inl h)
  · obtain ⟨j, hj, rfl⟩ := nI_of h
    by_cases z : j < 32
    · exact Or.inl ⟨j, z, rfl⟩
    · exact Or.inr (Or.inr ⟨j, by omega, hj, rfl⟩)
theorem dx_tkO {post : Int32 → Prop} {v : Int32} (h : v < 0 ∨ ∃ t, 32 ≤ t ∧ t < 2 ^ 31 ∧ v = nI t) (hp : post 0) : wpX_isToken post v := by
  rcases h with h | ⟨t, h1, h2, rfl⟩
  · exact br_t h hp
  · exact br_f (nI_pos h2) (br_f (nI_ge (a := 31) (by omega) h2) hp)
theorem dy_stO {post : Int32 → Prop} {sz ys yv yf : Int32} {tk nt ye no ou co pl : Nat → Int32} {v : Int32} (h : v < 0 ∨ ∃ t, 32 ≤ t ∧ t < 2 ^ 31 ∧ v = nI t) (hp : post 0) : wpY_statement post (sz, ys, yv, yf, tk, nt, ye, no, ou, co, pl) v := by
  rcases h with h | ⟨t, h1, h2, rfl⟩
  · exact br_f (dv_neg h (c := 0) (by decide)).2 (br_f (dv_neg h (c := 1) (by decide)).2 (br_t (dv_neg h (c := 4) (by decide)).1 (br_t (dv_neg h (c := 8) (by decide)).1 hp)))
  · exact br_f (nI_ne0 (by omega) h2) (pk_eq t 1 (fun z => absurd z (by omega)) (fun _ => br_f (nI_nlt (b := 4) (by omega) h2) (br_f (nI_ge (a := 6) (by omega) h2) (br_f (nI_nlt (b := 8) (by omega) h2) (br_t (nI_lt (a := 15) (by omega) h2) hp)))))
theorem dy_coO {post : Int32 → Prop} {sz ys yv yf : Int32} {tk nt ye no ou co pl : Nat → Int32} {v : Int32} (h : v < 0 ∨ ∃ t, 32 ≤ t ∧ t < 2 ^ 31 ∧ v = nI t) (hp : post 0) : wpY_condition post (sz, ys, yv, yf, tk, nt, ye, no, ou, co, pl) v := by
  rcases h with h | ⟨t, h1, h2, rfl⟩
  · exact br_t (dv_neg h (c := 16) (by decide)).1 (br_t (dv_neg h (c := 24) (by decide)).1 hp)
  · exact br_f (nI_nlt (b := 16) (by omega) h2) (br_f (nI_ge (a := 22) (by omega) h2) (br_f (nI_nlt (b := 24) (by omega) h2) (br_t (nI_lt (a := 31) (by omega) h2) hp)))
def dt_u (T : Nat → Nat) (n t : Nat) : Nat → Nat := fun j => if j = n then t else T j
theorem dt_uT (T : Nat → Nat) (n t : Nat) : upd (fun j => nI (T j)) n (nI t) = fun j => nI (dt_u T n t j) := by
  funext j
  unfold dt_u
  by_cases e : j = n
  · subst e; rw [if_pos rfl]; exact pk_us
  · rw [if_neg e]; exact pk_un e
theorem dt_us {T : Nat → Nat} {n t : Nat} : dt_u T n t n = t := if_pos rfl
theorem dt_un {T : Nat → Nat} {n t j : Nat} (h : j ≠ n) : dt_u T n t j = T j := if_neg h
theorem dt_ust {T : Nat → Nat} {n t j : Nat} (h : j ≤ n) : dt_st (dt_u T n t) j = dt_st T j := dt_st_congr j (fun i hi => dt_un (by omega))
theorem dt_ust1 {T : Nat → Nat} {n t : Nat} {b : Bool} {r : List Bool} (h : dt_st T n = b :: r) : dt_st (dt_u T n t) (n + 1) = dt_kd t ++ r := by
  show dt_kd (dt_u T n t n) ++ (dt_st (dt_u T n t) n).tail = _
  rw [dt_us, dt_ust (Nat.le_refl n), h]
  rfl
theorem dt_uok {T : Nat → Nat} {n t : Nat} {r : List Bool} (ho : dt_ok T n) (hn : n < 22) (ht : t < 32) (h : dt_st T n = dt_c t :: r) : dt_ok (dt_u T n t) (n + 1) := by
  refine ⟨hn, fun k => ?_, fun j hj => ?_⟩
  · by_cases e : k = n
    · subst e; rw [dt_us]; exact ht
    · rw [dt_un e]; exact ho.2.1 k
  · rw [dt_ust (by omega)]
    by_cases e : j = n
    · subst e; rw [dt_us]; exact ⟨r, h⟩
    · rw [dt_un e]; exact ho.2.2 j (by omega)
theorem dt_utk {T : Nat → Nat} {n t : Nat} (h : dt_tks T n) (ht : dt_tk t = true) : dt_tks (dt_u T n t) (n + 1) := by
  intro j hj
  by_cases e : j = n
  · subst e; rw [dt_us]; exact ht
  · rw [dt_un e]; exact h j (by omega)
theorem dk_n1 {r : List Bool} : ¬ dk_du (true :: r) = 1 := (by decide : ¬ dk_y true = 1)
theorem dk_n2 {r : List Bool} : ¬ dk_du (false :: r) = 2 := (by decide : ¬ dk_y false = 2)
theorem dy_49 {post : Int32 → SY → Prop} {ys yv yf : Int32} {nt ye no ou co pl : Nat → Int32} {T : Nat → Nat} {n t : Nat} (hn : n < 22) (hp : post (nI (n + 1)) (nI (n + 1), ys, yv, yf, (fun j => nI (dt_u T n t j)), nt, ye, no, ou, co, pl)) : wY_feed_49 post (nI t) (nI n) ys yv yf (fun j => nI (T j)) nt ye no ou co pl := by
  unfold wY_feed_49
  exact ⟨pk_in n 22 hn, nm_r (by rw [nI_clamp (n := n) (by omega), dt_uT]) (nm_r (nI_1 n) hp)⟩
/-- Y's feed of a token that does not fit -/
theorem dy_feedN {post : Int32 → SY → Prop} {ys yv yf : Int32} {nt ye no ou co pl : Nat → Int32} {T : Nat → Nat} {n : Nat} {b : Bool} {r : List Bool} {v : Int32} (ho : dt_ok T n) (hn : n < 22) (h : dt_st T n = b :: r) (h0 : b = false → ∀ {P : Int32 → Prop} {pl}, P 0 → wpY_statement P (nI n, ys, yv, yf, (fun j => nI (T j)), nt, ye, no, ou, co, pl) v) (h1 : b = true → ∀ {P : Int32 → Prop} {pl}, P 0 → wpY_condition P (nI n, ys, yv, yf, (fun j => nI (T j)), nt, ye, no, ou, co, pl) v)
    (hp : ∀ pl, post (-1) (nI n, ys, yv, yf, (fun j => nI (T j)), nt, ye, no, ou, co, pl)) : wpY_feed post (nI n, ys, yv, yf, (fun j => nI (T j)), nt, ye, no, ou, co, pl) v := by
  unfold wpY_feed
  refine dy_due ho (fun pl' => ?_)
  rw [h]
  refine br_f (nI_ge (b := 22) hn (by decide)) (br_f dk_ne ?_)
  cases b with
  | false =>
    refine br_t rfl (h0 rfl ?_)
    exact br_t rfl (hp pl')
  | true =>
    refine br_f dk_n1 ?_
    unfold wY_feed_34
    refine br_t rfl (h1 rfl ?_)
    exact br_t rfl (hp pl')
theorem dy_feedF {post : Int32 → SY → Prop} {ys yv yf : Int32} {nt ye no ou co pl : Nat → Int32} {T : Nat → Nat} {n : Nat} {v : Int32} (ho : dt_ok T n) (h : n = 22 ∨ dt_st T n = []) (hp : ∀ pl, post (-2) (nI n, ys, yv, yf, (fun j => nI (T j)), nt, ye, no, ou, co, pl)) : wpY_feed post (nI n, ys, yv, yf, (fun j => nI (T j)), nt, ye, no, ou, co, pl) v := by
  unfold wpY_feed
  have hn := ho.1
  refine dy_due ho (fun pl' => ?_)
  refine pk_le 22 n (fun z => hp pl') (fun z => ?_)
  rcases h with h | h
  · omega
  · rw [h]
    exact br_t rfl (hp pl')
theorem dy_feedY {post : Int32 → SY → Prop} {ys yv yf : Int32} {nt ye no ou co pl : Nat → Int32} {T : Nat → Nat} {n t : Nat} {r : List Bool} (ho : dt_ok T n) (hn : n < 22) (ht : t < 32) (htk : dt_tk t = true) (h : dt_st T n = dt_c t :: r) (hp : ∀ pl, post (nI (n + 1)) (nI (n + 1), ys, yv, yf, (fun j => nI (dt_u T n t j)), nt, ye, no, ou, co, pl)) : wpY_feed post (nI n, ys, yv, yf, (fun j => nI (T j)), nt, ye, no, ou, co, pl) (nI t) := by
  unfold wpY_feed
  refine dy_due ho (fun pl' => ?_)
  rw [h]
  refine br_f (nI_ge (b := 22) hn (by decide)) (br_f dk_ne ?_)
  cases e : dt_c t with
  | false =>
    refine br_t rfl (dy_st ht ?_)
    rw [e, htk]
    refine br_f (by decide) ?_
    unfold wY_feed_34
    exact br_f dk_n2 (dy_49 hn (hp pl'))
  | true =>
    refine br_f dk_n1 ?_
    unfold wY_feed_34
    refine br_t rfl (dy_co ht ?_)
    rw [e, htk]
    exact br_f (by decide) (dy_49 hn (hp pl'))
theorem i_vc_feed {k : Nat} {u : SX} {v : SY} (I : i_Rel k u v) (hk : k + 2 ≤ 1024) (v1 : Int32) : wpX_feed (fun r u' => wpY_feed (fun r' v' => r' = r ∧ i_Rel (k + 2) u' v') v v1) u v1 := by
  obtain ⟨T, n, oc, rs, rv, rf, op, bh, aT, aF, aB, sA, nt, ye, no, ou, co, pl, rfl, rfl, hR⟩ := I
  obtain ⟨ho, htk, hS, rfl, hL⟩ := hR
  have hR : dR T n (nI (dt_st T n).length) op aT aF aB sA := ⟨ho, htk, hS, rfl, hL⟩
  have hn := ho.1
  have hl := dt_st_len ho.2.1 n
  unfold wpX_feed
  refine pk_le 22 n (fun z => dy_feedF ho (Or.inl (by omega)) (fun pl' => ⟨rfl, i_mk hR⟩)) (fun z => ?_)
  refine br_c (fun z0 => dy_feedF ho (Or.inr ((dR_oc ho).mp z0)) (fun pl' => ⟨rfl, i_mk hR⟩)) (fun z0 => ?_)
  cases hst : dt_st T n with
  | nil => exact absurd ((dR_oc ho).mpr hst) z0
  | cons b r =>
    rw [hst] at hl
    have hl' : r.length + 1 ≤ 1 + 2 * n := hl
    have ep : nI (b :: r).length - 1 = nI r.length := nI_pred r.length
    have hS' := hS
    rw [hst] at hS'
    rcases dv_cases v1 with ⟨t, ht, rfl⟩ | hv
    · refine dx_tk ht ?_
      cases htt : dt_tk t with
      | false =>
        refine br_t rfl (dy_feedN ho z hst (fun _ P pl' h => ?_) (fun _ P pl' h => ?_) (fun pl' => ⟨rfl, ?_⟩))
        · exact dy_st ht (by rw [htt, Bool.and_false]; exact h)
        · exact dy_co ht (by rw [htt, Bool.and_false]; exact h)
        · rw [← hst]; exact i_mk hR
      | true =>
        refine br_f (by decide) (dx_ic ht ?_)
        rw [ep]
        refine ⟨pk_in r.length 45 (by omega), ?_⟩
        rw [nI_clamp (n := r.length) (by omega), hS'.1]
        refine br_c (fun zc => ?_) (fun zc => ?_)
        · have hc : dt_c t = b := by
            revert zc
            cases dt_c t <;> cases b <;> decide
          subst hc
          have ho' := dt_uok ho z ht hst
          have htk' := dt_utk htk htt
          have es := dt_ust1 (t := t) hst
          have hl1 := dt_st_len ho'.2.1 (n + 1)
          rw [es] at hl1
          refine dx_append ht z hS' (by omega) (fun op' hS2 => ?_)
          rw [← es] at hS2 ⊢
          rw [dt_uT]
          refine br_c (fun z1 => ?_) (fun z1 => ?_)
          · have hc' := (dR_oc ho').mp z1
            refine dx_linkParts ho' hc' (Nat.succ_pos n) (fun bh' aT' aF' aB' hX => ?_)
            refine dx_fw ho' hc' hX (fun sA' hM => ?_)
            exact dy_feedY ho z ht htt hst (fun pl' => ⟨rfl, i_mk ⟨ho', htk', hS2, rfl, fun _ => ⟨hX, hM⟩⟩⟩)
          · exact dy_feedY ho z ht htt hst (fun pl' => ⟨rfl, i_mk ⟨ho', htk', hS2, rfl, fun q => absurd ((dR_oc ho').mpr q) z1⟩⟩)
        · have hc : dt_c t = !b := by
            revert zc
            cases dt_c t <;> cases b <;> decide
          refine dy_feedN ho z hst (fun eb P pl' h => ?_) (fun eb P pl' h => ?_) (fun pl' => ⟨rfl, ?_⟩)
          · exact dy_st ht (by rw [hc, eb]; exact h)
          · exact dy_co ht (by rw [hc, eb]; exact h)
          · rw [← hst]; exact i_mk hR
    · refine dx_tkO hv (br_t rfl ?_)
      refine dy_feedN ho z hst (fun _ P pl' h => dy_stO hv h) (fun _ P pl' h => dy_coO hv h) (fun pl' => ⟨rfl, ?_⟩)
      rw [← hst]; exact i_mk hR
/-! back -/
theorem dx_b29 {post : Int32 → SX → Prop} {rs rv rf : Int32} {bh aT aF aB sA : Nat → Int32} {T : Nat → Nat} {m : Nat} {last : Int32} (ho : dt_ok T m) (hp : ∀ op, dk_S db_i op (dt_st T m) → post last (nI m, nI (dt_st T m).length, rs, rv, rf, (fun j => nI (T j)), op, bh, aT, aF, aB, sA)) :
    ∀ d i, i + d = m → ∀ op, dk_S db_i op (dt_st T i) → wX_back_29 post (nI m) last (d + 1) (nI i) (nI i) (nI (dt_st T i).length) rs rv rf (fun j => nI (T j)) op bh aT aF aB sA := by
  have hm := ho.1
  intro d
  induction d with
  | zero =>
    intro i hi op hS
    obtain rfl : i = m := by omega
    exact br_t (nI_le (Nat.le_refl _) (by omega)) (hp op hS)
  | succ d ih =>
    intro i hi op hS
    refine br_f (nI_ge (by omega) (by omega)) ⟨pk_in i 22 (by omega), ?_⟩
    rw [nI_clamp (n := i) (by omega)]
    obtain ⟨r, hr⟩ := ho.2.2 i (by omega)
    have es : dt_st T (i + 1) = dt_kd (T i) ++ r := by
      show dt_kd (T i) ++ (dt_st T i).tail = _
      rw [hr]; rfl
    have hl1 := dt_st_len ho.2.1 (i + 1)
    rw [es] at hl1
    rw [hr] at hS ⊢
    refine dx_append (ho.2.1 i) (by omega) hS (by omega) (fun op' hS2 => ?_)
    have et : upd (fun j => nI (T j)) i (nI (T i)) = fun j => nI (T j) := by
      funext j
      by_cases e : j = i
      · subst e; exact pk_us
      · exact pk_un e
    rw [← es] at hS2 ⊢
    rw [et]
    exact nm_r (nI_1 i) (ih (i + 1) (by omega) op' hS2)
theorem i_vc_back {k : Nat} {u : SX} {v : SY} (I : i_Rel k u v) (hk : k + 2 ≤ 1024) : wpX_back (fun r u' => wpY_back (fun r' v' => r' = r ∧ i_Rel (k + 2) u' v') v) u := by
  obtain ⟨T, n, oc, rs, rv, rf, op, bh, aT, aF, aB, sA, nt, ye, no, ou, co, pl, rfl, rfl, hR⟩ := I
  have ho := hR.1
  have hn := ho.1
  unfold wpX_back
  cases n with
  | zero => exact br_t rfl (br_t rfl ⟨rfl, i_mk hR⟩)
  | succ m =>
    have hne : ¬ nI (m + 1) = 0 := nI_ne0 (Nat.succ_pos m) (by omega)
    refine br_f hne (nm_r (nI_pred m) ⟨pk_in m 22 (by omega), nm_r (e' := nI (T m)) (by rw [nI_clamp (n := m) (by omega)]) ?_⟩)
    refine dx_forget (fun op' hS => ⟨m + 1, ?_⟩)
    have ho' : dt_ok T m := ⟨by omega, ho.2.1, fun j hj => ho.2.2 j (by omega)⟩
    refine dx_b29 ho' (fun op2 hS2 => ?_) m 0 (by omega) op' hS
    unfold wpY_back
    refine br_f hne (nm_r (nI_pred m) ⟨pk_in m 22 (by omega), ?_, ?_⟩)
    · rw [nI_clamp (n := m) (by omega)]
    · refine i_mk ⟨ho', fun j hj => hR.2.1 j (by omega), hS2, rfl, fun z => ?_⟩
      obtain ⟨r, hr⟩ := ho.2.2 m (Nat.lt_succ_self m)
      rw [z] at hr
      cases hr
end
section
/-! the queries -/
theorem dx_al5 {post : Int32 → Prop} {m : Int32} (hp : post (dv_f true m 16)) : ∀ d s, s + d = 16 → wX_setInAll_5 post m (d + 1) (dv_f true m s) (nI s) := by
  intro d
  induction d with
  | zero =>
    intro s h
    obtain rfl : s = 16 := by omega
    exact br_t (by decide) hp
  | succ d ih =>
    intro s h
    have hN := ih (s + 1) (by omega)
    have e : dv_f true m (s + 1) = if bt m s = true then dv_f true m s &&& nI s else dv_f true m s := rfl
    refine br_f (nI_ge (b := 16) (by omega) (by omega)) ?_
    by_cases hb : bt m s = true
    · rw [e, if_pos hb] at hN
      exact br_t ((db_u m (by omega)).mpr hb) (nm_e (nm_r (nI_1 s) hN))
    · rw [e, if_neg hb] at hN
      exact br_f (fun z => hb ((db_u m (by omega)).mp z)) (nm_r (nI_1 s) hN)
theorem dx_all {post : Int32 → Prop} {m : Int32} (hp : post (dv_f true m 16)) : wpX_setInAll post m := ⟨17, dx_al5 hp 16 0 (by omega)⟩
theorem dx_so4 {post : Int32 → Prop} {m : Int32} (hp : post (dv_f false m 16)) : ∀ d s, s + d = 16 → wX_setInSome_4 post m (d + 1) (dv_f false m s) (nI s) := by
  intro d
  induction d with
  | zero =>
    intro s h
    obtain rfl : s = 16 := by omega
    exact br_t (by decide) hp
  | succ d ih =>
    intro s h
    have hN := ih (s + 1) (by omega)
    have e : dv_f false m (s + 1) = if bt m s = true then dv_f false m s ||| nI s else dv_f false m s := rfl
    refine br_f (nI_ge (b := 16) (by omega) (by omega)) ?_
    by_cases hb : bt m s = true
    · rw [e, if_pos hb] at hN
      exact br_t ((db_u m (by omega)).mpr hb) (nm_e (nm_r (nI_1 s) hN))
    · rw [e, if_neg hb] at hN
      exact br_f (fun z => hb ((db_u m (by omega)).mp z)) (nm_r (nI_1 s) hN)
theorem dx_some {post : Int32 → Prop} {m : Int32} (hp : post (dv_f false m 16)) : wpX_setInSome post m := ⟨17, dx_so4 hp 16 0 (by omega)⟩
theorem dy_ov14 {post : Int32 → Prop} {sz ys yv yf : Int32} {tk nt ye no ou co pl : Nat → Int32} {k : Nat} {al : Bool} (hk : k < 23) (hp : post (dv_f al (co k) 16)) : ∀ d s, s + d = 16 → wY_over_14 post (nI k) (db_i al) sz ys yv yf tk nt ye no ou co pl (d + 1) (dv_f al (co k) s) (nI s) := by
  intro d
  induction d with
  | zero =>
    intro s h
    obtain rfl : s = 16 := by omega
    exact br_t (by decide) hp
  | succ d ih =>
    intro s h
    have hN := ih (s + 1) (by omega)
    have e : dv_f al (co k) (s + 1) = if bt (co k) s = true then (if al = true then dv_f al (co k) s &&& nI s else dv_f al (co k) s ||| nI s) else dv_f al (co k) s := rfl
    refine br_f (nI_ge (b := 16) (by omega) (by omega)) ⟨pk_in k 23 hk, ?_⟩
    rw [nI_clamp (n := k) (by omega)]
    by_cases hb : bt (co k) s = true
    · rw [e, if_pos hb] at hN
      refine br_t ((db_s _ (by omega)).mpr hb) ?_
      cases al with
      | false => exact br_t rfl (nm_e (nm_r (nI_1 s) hN))
      | true => exact br_f (by decide) (nm_e (nm_r (nI_1 s) hN))
    · rw [e, if_neg hb] at hN
      exact br_f (fun z => hb ((db_s _ (by omega)).mp z)) (nm_r (nI_1 s) hN)
theorem dy_over {post : Int32 → Prop} {sz ys yv yf : Int32} {tk nt ye no ou co pl : Nat → Int32} {k : Nat} {al : Bool} (hk : k < 23) (hp : post (dv_f al (co k) 16)) : wpY_over post (sz, ys, yv, yf, tk, nt, ye, no, ou, co, pl) (nI k) (db_i al) := by
  unfold wpY_over
  cases al with
  | false => exact br_t rfl ⟨17, dy_ov14 (al := false) hk hp 16 0 (by omega)⟩
  | true => exact br_f (by decide) ⟨17, dy_ov14 (al := true) hk hp 16 0 (by omega)⟩
/-! visited -/
def dq_v (a : Nat → Int32) (k : Nat) : Bool := !(decide (a k = 0))
theorem dr_congr {Q Q' : Nat → Bool} : ∀ n, (∀ k, k < n → Q k = Q' k) → dr_f Q n = dr_f Q' n := by
  intro n
  induction n with
  | zero => intro _; rfl
  | succ n ih =>
    intro h
    show (if Q n = true then dr_f Q n ||| _ else dr_f Q n) = (if Q' n = true then dr_f Q' n ||| _ else dr_f Q' n)
    rw [h n (by omega), ih (fun k hk => h k (by omega))]
theorem dr_s (Q : Nat → Bool) (k : Nat) : dr_f Q (k + 1) = if Q k = true then dr_f Q k ||| ((1 : Int32) <<< (nI k &&& 31)) else dr_f Q k := rfl
theorem dr_ys (q : Nat → Bool) (c : Nat) : dr_y q (c + 1) = if q c = true then dr_y q c ||| ((1 : Int32) <<< (nI (c / 16) &&& 31)) else dr_y q c := rfl
theorem dx_vi {post : Int32 → Prop} {oc rs rv rf : Int32} {tk op bh aT aF aB sA : Nat → Int32} {n : Nat} (hn : n ≤ 22) (hp : post (dr_f (dq_v sA) n)) : ∀ d k, k + d = n → wX_visited_13 post (nI n) oc rs rv rf tk op bh aT aF aB sA (d + 1) (dr_f (dq_v sA) k) (nI k) := by
  intro d
  induction d with
  | zero =>
    intro k h
    obtain rfl : k = n := by omega
    exact br_t (nI_le (Nat.le_refl _) (by omega)) hp
  | succ d ih =>
    intro k h
    have hN := ih (k + 1) (by omega)
    rw [dr_s] at hN
    refine br_f (nI_ge (by omega) (by omega)) ⟨pk_in k 23 (by omega), ?_⟩
    rw [nI_clamp (n := k) (by omega)]
    refine br_c (fun z => ?_) (fun z => ?_)
    · rw [if_neg (by rw [dq_v, decide_eq_true z]; decide)] at hN
      exact nm_r (nI_1 k) hN
    · rw [if_pos (by rw [dq_v, decide_eq_false z]; rfl)] at hN
      exact nm_e (nm_r (nI_1 k) hN)
theorem dy_vi {post : Int32 → SY → Prop} {ys yv yf : Int32} {tk nt ye no ou co pl : Nat → Int32} {n : Nat} (hn : n ≤ 22) (hp : post (dr_f (dq_v co) n) (nI n, ys, yv, yf, tk, nt, ye, no, ou, co, pl)) : ∀ d k, k + d = n → wY_visited_13 post (nI n) ys yv yf tk nt ye no ou co pl (d + 1) (dr_f (dq_v co) k) (nI k) := by
  intro d
  induction d with
  | zero =>
    intro k h
    obtain rfl : k = n := by omega
    exact br_t (nI_le (Nat.le_refl _) (by omega)) hp
  | succ d ih =>
    intro k h
    have hN := ih (k + 1) (by omega)
    rw [dr_s] at hN
    refine br_f (nI_ge (by omega) (by omega)) ⟨pk_in k 23 (by omega), ?_⟩
    rw [nI_clamp (n := k) (by omega)]
    refine br_c (fun z => ?_) (fun z => ?_)
    · rw [if_neg (by rw [dq_v, decide_eq_true z]; decide)] at hN
      exact nm_r (Int32.or_zero) (nm_r (nI_1 k) hN)
    · rw [if_pos (by rw [dq_v, decide_eq_false z]; rfl)] at hN
      exact nm_e (nm_r (nI_1 k) hN)
/-! badUses and secondSets -/
def dq_b (T : Nat → Nat) (a : Nat → Int32) (k : Nat) : Bool := dt_use (T k) && !(bt (dv_f true (a k) 16) (T k % 4))
def dq_by (T : Nat → Nat) (a : Nat → Int32) (c : Nat) : Bool := dt_use (T (c / 16)) && (!(bt (nI (c % 16)) (T (c / 16) % 4)) && bt (a (c / 16)) (c % 16))
def dq_s (T : Nat → Nat) (a : Nat → Int32) (k : Nat) : Bool := dt_set (T k) && bt (dv_f false (a k) 16) (T k % 4)
def dq_sy (T : Nat → Nat) (a : Nat → Int32) (c : Nat) : Bool := dt_set (T (c / 16)) && (bt (nI (c % 16)) (T (c / 16) % 4) && bt (a (c / 16)) (c % 16))
theorem dq_dm {k s : Nat} (hs : s < 16) : (16 * k + s) / 16 = k ∧ (16 * k + s) % 16 = s := ⟨by omega, by omega⟩
theorem dq_be {T : Nat → Nat} {a : Nat → Int32} {n : Nat} (hn : n ≤ 22) : dr_y (dq_by T a) (16 * n) = dr_f (dq_b T a) n := by
  refine dr_eq hn (fun k _ => ?_)
  have hv : T k % 4 < 4 := Nat.mod_lt _ (by decide)
  have h := dv_t (a k) hv 16
  unfold dq_b
  rw [Bool.and_eq_true]
  constructor
  · intro ⟨h1, h2⟩
    have h2' : ¬ bt (dv_f true (a k) 16) (T k % 4) = true := by
      intro z; rw [z] at h2; cases h2
    rw [h] at h2'
    obtain ⟨s, hs⟩ := Classical.not_forall.mp h2'
    obtain ⟨h16, hs⟩ := Classical.not_imp.mp hs
    obtain ⟨hb, hs⟩ := Classical.not_imp.mp hs
    refine ⟨s, h16, ?_⟩
    unfold dq_by
    rw [(dq_dm h16).1, (dq_dm h16).2, h1, hb]
    cases e : bt (nI s) (T k % 4)
    · rfl
    · exact absurd e hs
  · intro ⟨s, h16, hq⟩
    unfold dq_by at hq
    rw [(dq_dm h16).1, (dq_dm h16).2, Bool.and_eq_true, Bool.and_eq_true] at hq
    obtain ⟨h1, h2, h3⟩ := hq
    refine ⟨h1, ?_⟩
    cases e : bt (dv_f true (a k) 16) (T k % 4)
    · rfl
    · rw [h.mp e s h16 h3] at h2; cases h2
theorem dq_se {T : Nat → Nat} {a : Nat → Int32} {n : Nat} (hn : n ≤ 22) : dr_y (dq_sy T a) (16 * n) = dr_f (dq_s T a) n := by
  refine dr_eq hn (fun k _ => ?_)
  have h := dv_s (a k) (T k % 4) 16
  unfold dq_s
  rw [Bool.and_eq_true, h]
  constructor
  · intro ⟨h1, s, h16, hb, hs⟩
    refine ⟨s, h16, ?_⟩
    unfold dq_sy
    rw [(dq_dm h16).1, (dq_dm h16).2, h1, hb, hs]
    rfl
  · intro ⟨s, h16, hq⟩
    unfold dq_sy at hq
    rw [(dq_dm h16).1, (dq_dm h16).2, Bool.and_eq_true, Bool.and_eq_true] at hq
    exact ⟨hq.1, s, h16, hq.2.2, hq.2.1⟩
theorem db_va (z : Int32) {t : Nat} (ht : t < 32) : (z &&& ((1 : Int32) <<< ((nI t &&& 3) &&& 31))) = 0 ↔ bt z (t % 4) = false := by
  rw [db_3 t ht]
  exact db_and0 z (by omega)
theorem db_vs0 (z : Int32) {t : Nat} (ht : t < 32) : ((z >>> ((nI t &&& 3) &&& 31)) &&& 1) = 0 ↔ bt z (t % 4) = false := by
  rw [db_3 t ht]
  exact db_s0 z (by omega)
theorem db_vs1 (z : Int32) {t : Nat} (ht : t < 32) : ((z >>> ((nI t &&& 3) &&& 31)) &&& 1) = 1 ↔ bt z (t % 4) = true := by
  rw [db_3 t ht]
  exact db_s z (by omega)
theorem db_f {b : Bool} (h : ¬ b = false) : b = true := by cases b <;> simp_all
theorem db_t {b : Bool} (h : ¬ b = true) : b = false := by cases b <;> simp_all
theorem dx_bu {post : Int32 → Prop} {oc rs rv rf : Int32} {op bh aT aF aB sA : Nat → Int32} {T : Nat → Nat} {n : Nat} (hn : n ≤ 22) (hT : ∀ k, T k < 32) (hp : post (dr_f (dq_b T sA) n)) : ∀ d k, k + d = n → wX_badUses_13 post (nI n) oc rs rv rf (fun j => nI (T j)) op bh aT aF aB sA (d + 1) (dr_f (dq_b T sA) k) (nI k) := by
  intro d
  induction d with
  | zero =>
    intro k h
    obtain rfl : k = n := by omega
    exact br_t (nI_le (Nat.le_refl _) (by omega)) hp
  | succ d ih =>
    intro k h
    have hN := ih (k + 1) (by omega)
    rw [dr_s] at hN
    refine br_f (nI_ge (by omega) (by omega)) ⟨pk_in k 23 (by omega), ?_⟩
    rw [nI_clamp (n := k) (by omega)]
    refine dx_all ⟨pk_in k 22 (by omega), dx_us (hT k) ?_⟩
    cases hu : dt_use (T k) with
    | false =>
      rw [if_neg (by unfold dq_b; rw [hu]; simp)] at hN
      exact br_t rfl (nm_r (nI_1 k) hN)
    | true =>
      refine br_f (by decide) ⟨pk_in k 22 (by omega), ?_⟩
      refine br_c (fun z => ?_) (fun z => ?_)
      · rw [if_pos (by unfold dq_b; rw [hu, (db_va _ (hT k)).mp z]; rfl)] at hN
        exact nm_e (nm_r (nI_1 k) hN)
      · rw [if_neg (by unfold dq_b; rw [hu, db_f (fun y => z ((db_va _ (hT k)).mpr y))]; decide)] at hN
        exact nm_r (nI_1 k) hN
theorem dy_buJ {post : Int32 → SY → Prop} {J : Int32 → Int32 → Prop} {sz ys yv yf : Int32} {tk nt ye no ou co pl : Nat → Int32} {x1 x2 : Int32} {c : Nat} (hc : c < 352) (hp : J (if bt (co (c / 16)) (c % 16) = true then x1 ||| ((1 : Int32) <<< (nI (c / 16) &&& 31)) else x1) (nI (c + 1))) : wY_badUses_68 post J x1 x2 (nI c) (nI (c / 16)) 1 sz ys yv yf tk nt ye no ou co pl := by
  unfold wY_badUses_68
  have e2 : nI c - nI c / (16 : Int32) * (16 : Int32) = nI (c % 16) := pk_rem (d := 16) (by omega) (by decide) (by decide)
  refine br_f (by decide) ⟨pk_in (c / 16) 23 (by omega), by decide, ?_⟩
  rw [e2, nI_clamp (n := c / 16) (by omega)]
  by_cases hb : bt (co (c / 16)) (c % 16) = true
  · rw [if_pos hb] at hp
    exact br_t ((db_s _ (by omega)).mpr hb) (nm_e (nm_r (nI_1 c) hp))
  · rw [if_neg hb] at hp
    exact br_f (fun z => hb ((db_s _ (by omega)).mp z)) (nm_r (nI_1 c) hp)
theorem dy_bu {post : Int32 → SY → Prop} {ys yv yf : Int32} {nt ye no ou co pl : Nat → Int32} {T : Nat → Nat} {n : Nat} (hn : n ≤ 22) (hT : ∀ k, T k < 32) (hp : post (dr_y (dq_by T co) (16 * n)) (nI n, ys, yv, yf, (fun j => nI (T j)), nt, ye, no, ou, co, pl)) : ∀ d c, c + d = 16 * n → wY_badUses_9 post 1 (nI n) ys yv yf (fun j => nI (T j)) nt ye no ou co pl (d + 1) (dr_y (dq_by T co) c) (nI c) := by
  have e16 : (16 : Int32) * nI n = nI (16 * n) := pk_mul 16 n
  have ne : ¬ (16 : Int32) = 0 := by decide
  intro d
  induction d with
  | zero =>
    intro c h
    obtain rfl : c = 16 * n := by omega
    exact br_t (by rw [e16]; exact nI_le (Nat.le_refl _) (by omega)) hp
  | succ d ih =>
    intro c h
    have hN := ih (c + 1) (by omega)
    rw [dr_ys] at hN
    have e1 : nI c / (16 : Int32) = nI (c / 16) := pk_div (d := 16) (by omega) (by decide) (by decide)
    have e2 : nI c - nI c / (16 : Int32) * (16 : Int32) = nI (c % 16) := pk_rem (d := 16) (by omega) (by decide) (by decide)
    refine br_f (by rw [e16]; exact nI_ge (by omega) (by omega)) (br_f (by decide) ⟨ne, nm_r e1 ⟨pk_in (c / 16) 22 (by omega), ?_⟩⟩)
    rw [nI_clamp (n := c / 16) (by omega), e2]
    refine dy_us (hT _) ?_
    cases hu : dt_use (T (c / 16)) with
    | false =>
      rw [if_neg (by unfold dq_by; rw [hu]; simp)] at hN
      exact br_t rfl (br_t rfl (nm_r (nI_1 c) hN))
    | true =>
      refine br_f (by decide) ⟨ne, pk_in (c / 16) 22 (by omega), ?_⟩
      refine br_c (fun z => ?_) (fun z => ?_)
      · refine dy_buJ (by omega) ?_
        have eq : dq_by T co c = bt (co (c / 16)) (c % 16) := by unfold dq_by; rw [hu, (db_vs0 _ (hT _)).mp z]; rfl
        rw [eq] at hN
        exact hN
      · rw [if_neg (by unfold dq_by; rw [hu, db_f (fun y => z ((db_vs0 _ (hT _)).mpr y))]; simp)] at hN
        exact br_t rfl (nm_r (nI_1 c) hN)
theorem dy_bu0 {post : Int32 → SY → Prop} {sz ys yv yf : Int32} {tk nt ye no ou co pl : Nat → Int32} (hp : post 0 (sz, ys, yv, yf, tk, nt, ye, no, ou, co, pl)) : wY_badUses_9 post 0 sz ys yv yf tk nt ye no ou co pl 1 0 0 :=
  br_c (fun _ => hp) (fun _ => br_t rfl hp)
theorem dx_ss {post : Int32 → Prop} {oc rs rv rf : Int32} {op bh aT aF aB sA : Nat → Int32} {T : Nat → Nat} {n : Nat} (hn : n ≤ 22) (hT : ∀ k, T k < 32) (hp : post (dr_f (dq_s T sA) n)) : ∀ d k, k + d = n → wX_secondSets_13 post (nI n) oc rs rv rf (fun j => nI (T j)) op bh aT aF aB sA (d + 1) (dr_f (dq_s T sA) k) (nI k) := by
  intro d
  induction d with
  | zero =>
    intro k h
    obtain rfl : k = n := by omega
    exact br_t (nI_le (Nat.le_refl _) (by omega)) hp
  | succ d ih =>
    intro k h
    have hN := ih (k + 1) (by omega)
    rw [dr_s] at hN
    refine br_f (nI_ge (by omega) (by omega)) ⟨pk_in k 23 (by omega), ?_⟩
    rw [nI_clamp (n := k) (by omega)]
    refine dx_some ⟨pk_in k 22 (by omega), dx_se (hT k) ?_⟩
    cases hu : dt_set (T k) with
    | false =>
      rw [if_neg (by unfold dq_s; rw [hu]; simp)] at hN
      exact br_t rfl (nm_r (nI_1 k) hN)
    | true =>
      refine br_f (by decide) ⟨pk_in k 22 (by omega), ?_⟩
      refine br_c (fun z => ?_) (fun z => ?_)
      · rw [if_neg (by unfold dq_s; rw [hu, (db_va _ (hT k)).mp z]; decide)] at hN
        exact nm_r (nI_1 k) hN
      · rw [if_pos (by unfold dq_s; rw [hu, db_f (fun y => z ((db_va _ (hT k)).mpr y))]; rfl)] at hN
        exact nm_e (nm_r (nI_1 k) hN)
theorem dy_ssJ {post : Int32 → SY → Prop} {J : Int32 → Int32 → Prop} {sz ys yv yf : Int32} {tk nt ye no ou co pl : Nat → Int32} {x1 x2 : Int32} {c : Nat} (hc : c < 352) (hp : J (if bt (co (c / 16)) (c % 16) = true then x1 ||| ((1 : Int32) <<< (nI (c / 16) &&& 31)) else x1) (nI (c + 1))) : wY_secondSets_69 post J x1 x2 (nI c) (nI (c / 16)) 1 sz ys yv yf tk nt ye no ou co pl := by
  unfold wY_secondSets_69
  have e2 : nI c - nI c / (16 : Int32) * (16 : Int32) = nI (c % 16) := pk_rem (d := 16) (by omega) (by decide) (by decide)
  refine br_f (by decide) ⟨pk_in (c / 16) 23 (by omega), by decide, ?_⟩
  rw [e2, nI_clamp (n := c / 16) (by omega)]
  by_cases hb : bt (co (c / 16)) (c % 16) = true
  · rw [if_pos hb] at hp
    exact br_t ((db_s _ (by omega)).mpr hb) (nm_e (nm_r (nI_1 c) hp))
  · rw [if_neg hb] at hp
    exact br_f (fun z => hb ((db_s _ (by omega)).mp z)) (nm_r (nI_1 c) hp)
theorem dy_ss {post : Int32 → SY → Prop} {ys yv yf : Int32} {nt ye no ou co pl : Nat → Int32} {T : Nat → Nat} {n : Nat} (hn : n ≤ 22) (hT : ∀ k, T k < 32) (hp : post (dr_y (dq_sy T co) (16 * n)) (nI n, ys, yv, yf, (fun j => nI (T j)), nt, ye, no, ou, co, pl)) : ∀ d c, c + d = 16 * n → wY_secondSets_9 post 1 (nI n) ys yv yf (fun j => nI (T j)) nt ye no ou co pl (d + 1) (dr_y (dq_sy T co) c) (nI c) := by
  have e16 : (16 : Int32) * nI n = nI (16 * n) := pk_mul 16 n
  have ne : ¬ (16 : Int32) = 0 := by decide
  intro d
  induction d with
  | zero =>
    intro c h
    obtain rfl : c = 16 * n := by omega
    exact br_t (by rw [e16]; exact nI_le (Nat.le_refl _) (by omega)) hp
  | succ d ih =>
    intro c h
    have hN := ih (c + 1) (by omega)
    rw [dr_ys] at hN
    have e1 : nI c / (16 : Int32) = nI (c / 16) := pk_div (d := 16) (by omega) (by decide) (by decide)
    have e2 : nI c - nI c / (16 : Int32) * (16 : Int32) = nI (c % 16) := pk_rem (d := 16) (by omega) (by decide) (by decide)
    refine br_f (by rw [e16]; exact nI_ge (by omega) (by omega)) (br_f (by decide) ⟨ne, nm_r e1 ⟨pk_in (c / 16) 22 (by omega), ?_⟩⟩)
    rw [nI_clamp (n := c / 16) (by omega), e2]
    refine dy_se (hT _) ?_
    cases hu : dt_set (T (c / 16)) with
    | false =>
      rw [if_neg (by unfold dq_sy; rw [hu]; simp)] at hN
      exact br_t rfl (br_t rfl (nm_r (nI_1 c) hN))
    | true =>
      refine br_f (by decide) ⟨ne, pk_in (c / 16) 22 (by omega), ?_⟩
      refine br_c (fun z => ?_) (fun z => ?_)
      · refine dy_ssJ (by omega) ?_
        have eq : dq_sy T co c = bt (co (c / 16)) (c % 16) := by unfold dq_sy; rw [hu, (db_vs1 _ (hT _)).mp z]; rfl
        rw [eq] at hN
        exact hN
      · rw [if_neg (by unfold dq_sy; rw [hu, db_t (fun y => z ((db_vs1 _ (hT _)).mpr y))]; simp)] at hN
        exact br_t rfl (nm_r (nI_1 c) hN)
theorem dy_ss0 {post : Int32 → SY → Prop} {sz ys yv yf : Int32} {tk nt ye no ou co pl : Nat → Int32} (hp : post 0 (sz, ys, yv, yf, tk, nt, ye, no, ou, co, pl)) : wY_secondSets_9 post 0 sz ys yv yf tk nt ye no ou co pl 1 0 0 :=
  br_c (fun _ => hp) (fun _ => br_t rfl hp)
end
section
/-! the answers of the queries -/
theorem i_vc_visited {k : Nat} {u : SX} {v : SY} (I : i_Rel k u v) (hk : k + 2 ≤ 1024) : wpX_visited (fun r => wpY_visited (fun r' v' => r' = r ∧ i_Rel (k + 2) u v') v) u := by
  obtain ⟨T, n, oc, rs, rv, rf, op, bh, aT, aF, aB, sA, nt, ye, no, ou, co, pl, rfl, rfl, hR⟩ := I
  have ho := hR.1
  have htk := hR.2.1
  have e := hR.2.2.2.1
  have hn := ho.1
  have hz := dR_oc ho
  unfold wpX_visited wpY_visited
  refine br_c (fun z => ?_) (fun z => ?_)
  · rw [e, hz] at z
    obtain ⟨hX, hM⟩ := hR.2.2.2.2 z
    refine ⟨n + 1, dx_vi hn ?_ n 0 (by omega)⟩
    refine dy_explore ho htk (fun _ nt ye no ou co' pl hM' => ?_) (fun h => absurd z h)
    refine br_f (by decide) ⟨n + 1, dy_vi hn ⟨?_, i_mk hR⟩ n 0 (by omega)⟩
    exact dr_congr n (fun k hk => by unfold dq_v; rw [dm_uniq hM hM' k (by omega)])
  · rw [e, hz] at z
    exact dy_explore ho htk (fun h => absurd h z) (fun _ pl => br_t rfl ⟨rfl, i_mk hR⟩)
theorem i_vc_surely {k : Nat} {u : SX} {v : SY} (I : i_Rel k u v) (hk : k + 2 ≤ 1024) (v1 : Int32) : wpX_surely (fun r => wpY_surely (fun r' v' => r' = r ∧ i_Rel (k + 2) u v') v v1) u v1 := by
  obtain ⟨T, n, oc, rs, rv, rf, op, bh, aT, aF, aB, sA, nt, ye, no, ou, co, pl, rfl, rfl, hR⟩ := I
  have ho := hR.1
  have htk := hR.2.1
  have e := hR.2.2.2.1
  have hn := ho.1
  have hz := dR_oc ho
  unfold wpX_surely wpY_surely
  refine br_c (fun z => ?_) (fun z => ?_)
  · rw [e, hz] at z
    obtain ⟨hX, hM⟩ := hR.2.2.2.2 z
    refine br_c (fun z1 => ?_) (fun z1 => ?_)
    · refine dy_explore ho htk (fun _ nt ye no ou co' pl hM' => ?_) (fun h => absurd z h)
      exact br_f (by decide) (br_t z1 ⟨rfl, i_mk hR⟩)
    · obtain ⟨j, hj, rfl⟩ := nI_of z1
      refine pk_lt j n (fun z2 => ⟨pk_in j 23 (by omega), ?_⟩) (fun z2 => ?_)
      · rw [nI_clamp hj]
        refine dx_all ?_
        refine dy_explore ho htk (fun _ nt ye no ou co' pl hM' => ?_) (fun h => absurd z h)
        refine br_f (by decide) (br_f z1 (br_f (nI_ge z2 (by omega)) ?_))
        refine dy_over (al := true) (by omega) ⟨?_, i_mk hR⟩
        rw [dm_uniq hM hM' j (by omega)]
      · refine dy_explore ho htk (fun _ nt ye no ou co' pl hM' => ?_) (fun h => absurd z h)
        exact br_f (by decide) (br_f z1 (br_t (nI_le z2 hj) ⟨rfl, i_mk hR⟩))
  · rw [e, hz] at z
    exact dy_explore ho htk (fun h => absurd h z) (fun _ pl => br_t rfl ⟨rfl, i_mk hR⟩)
theorem i_vc_perhaps {k : Nat} {u : SX} {v : SY} (I : i_Rel k u v) (hk : k + 2 ≤ 1024) (v1 : Int32) : wpX_perhaps (fun r => wpY_perhaps (fun r' v' => r' = r ∧ i_Rel (k + 2) u v') v v1) u v1 := by
  obtain ⟨T, n, oc, rs, rv, rf, op, bh, aT, aF, aB, sA, nt, ye, no, ou, co, pl, rfl, rfl, hR⟩ := I
  have ho := hR.1
  have htk := hR.2.1
  have e := hR.2.2.2.1
  have hn := ho.1
  have hz := dR_oc ho
  unfold wpX_perhaps wpY_perhaps
  refine br_c (fun z => ?_) (fun z => ?_)
  · rw [e, hz] at z
    obtain ⟨hX, hM⟩ := hR.2.2.2.2 z
    refine br_c (fun z1 => ?_) (fun z1 => ?_)
    · refine dy_explore ho htk (fun _ nt ye no ou co' pl hM' => ?_) (fun h => absurd z h)
      exact br_f (by decide) (br_t z1 ⟨rfl, i_mk hR⟩)
    · obtain ⟨j, hj, rfl⟩ := nI_of z1
      refine pk_lt j n (fun z2 => ⟨pk_in j 23 (by omega), ?_⟩) (fun z2 => ?_)
      · rw [nI_clamp hj]
        refine dx_some ?_
        refine dy_explore ho htk (fun _ nt ye no ou co' pl hM' => ?_) (fun h => absurd z h)
        refine br_f (by decide) (br_f z1 (br_f (nI_ge z2 (by omega)) ?_))
        refine dy_over (al := false) (by omega) ⟨?_, i_mk hR⟩
        rw [dm_uniq hM hM' j (by omega)]
      · refine dy_explore ho htk (fun _ nt ye no ou co' pl hM' => ?_) (fun h => absurd z h)
        exact br_f (by decide) (br_f z1 (br_t (nI_le z2 hj) ⟨rfl, i_mk hR⟩))
  · rw [e, hz] at z
    exact dy_explore ho htk (fun h => absurd h z) (fun _ pl => br_t rfl ⟨rfl, i_mk hR⟩)
theorem i_vc_ends {k : Nat} {u : SX} {v : SY} (I : i_Rel k u v) (hk : k + 2 ≤ 1024) : wpX_ends (fun r => wpY_ends (fun r' v' => r' = r ∧ i_Rel (k + 2) u v') v) u := by
  obtain ⟨T, n, oc, rs, rv, rf, op, bh, aT, aF, aB, sA, nt, ye, no, ou, co, pl, rfl, rfl, hR⟩ := I
  have ho := hR.1
  have htk := hR.2.1
  have e := hR.2.2.2.1
  have hn := ho.1
  have hz := dR_oc ho
  unfold wpX_ends wpY_ends
  refine br_c (fun z => ?_) (fun z => ?_)
  · rw [e, hz] at z
    obtain ⟨hX, hM⟩ := hR.2.2.2.2 z
    refine br_c (fun z1 => ?_) (fun z1 => ?_)
    · refine dy_explore ho htk (fun _ nt ye no ou co' pl hM' => ?_) (fun h => absurd z h)
      rw [dm_uniq hM hM' 22 (by decide)] at z1
      exact br_f (by decide) (br_t z1 ⟨rfl, i_mk hR⟩)
    · refine dy_explore ho htk (fun _ nt ye no ou co' pl hM' => ?_) (fun h => absurd z h)
      rw [dm_uniq hM hM' 22 (by decide)] at z1
      exact br_f (by decide) (br_f z1 ⟨rfl, i_mk hR⟩)
  · rw [e, hz] at z
    exact dy_explore ho htk (fun h => absurd h z) (fun _ pl => br_t rfl ⟨rfl, i_mk hR⟩)
theorem i_vc_surelyAtEnd {k : Nat} {u : SX} {v : SY} (I : i_Rel k u v) (hk : k + 2 ≤ 1024) : wpX_surelyAtEnd (fun r => wpY_surelyAtEnd (fun r' v' => r' = r ∧ i_Rel (k + 2) u v') v) u := by
  obtain ⟨T, n, oc, rs, rv, rf, op, bh, aT, aF, aB, sA, nt, ye, no, ou, co, pl, rfl, rfl, hR⟩ := I
  have ho := hR.1
  have htk := hR.2.1
  have e := hR.2.2.2.1
  have hn := ho.1
  have hz := dR_oc ho
  unfold wpX_surelyAtEnd wpY_surelyAtEnd
  refine br_c (fun z => ?_) (fun z => ?_)
  · rw [e, hz] at z
    obtain ⟨hX, hM⟩ := hR.2.2.2.2 z
    refine dx_all ?_
    refine dy_explore ho htk (fun _ nt ye no ou co' pl hM' => ?_) (fun h => absurd z h)
    refine br_f (by decide) ?_
    refine dy_over (k := 22) (al := true) (by decide) ⟨?_, i_mk hR⟩
    rw [dm_uniq hM hM' 22 (by decide)]
  · rw [e, hz] at z
    exact dy_explore ho htk (fun h => absurd h z) (fun _ pl => br_t rfl ⟨rfl, i_mk hR⟩)
theorem i_vc_perhapsAtEnd {k : Nat} {u : SX} {v : SY} (I : i_Rel k u v) (hk : k + 2 ≤ 1024) : wpX_perhapsAtEnd (fun r => wpY_perhapsAtEnd (fun r' v' => r' = r ∧ i_Rel (k + 2) u v') v) u := by
  obtain ⟨T, n, oc, rs, rv, rf, op, bh, aT, aF, aB, sA, nt, ye, no, ou, co, pl, rfl, rfl, hR⟩ := I
  have ho := hR.1
  have htk := hR.2.1
  have e := hR.2.2.2.1
  have hn := ho.1
  have hz := dR_oc ho
  unfold wpX_perhapsAtEnd wpY_perhapsAtEnd
  refine br_c (fun z => ?_) (fun z => ?_)
  · rw [e, hz] at z
    obtain ⟨hX, hM⟩ := hR.2.2.2.2 z
    refine dx_some ?_
    refine dy_explore ho htk (fun _ nt ye no ou co' pl hM' => ?_) (fun h => absurd z h)
    refine br_f (by decide) ?_
    refine dy_over (k := 22) (al := false) (by decide) ⟨?_, i_mk hR⟩
    rw [dm_uniq hM hM' 22 (by decide)]
  · rw [e, hz] at z
    exact dy_explore ho htk (fun h => absurd h z) (fun _ pl => br_t rfl ⟨rfl, i_mk hR⟩)
theorem i_vc_badUses {k : Nat} {u : SX} {v : SY} (I : i_Rel k u v) (hk : k + 2 ≤ 1024) : wpX_badUses (fun r => wpY_badUses (fun r' v' => r' = r ∧ i_Rel (k + 2) u v') v) u := by
  obtain ⟨T, n, oc, rs, rv, rf, op, bh, aT, aF, aB, sA, nt, ye, no, ou, co, pl, rfl, rfl, hR⟩ := I
  have ho := hR.1
  have htk := hR.2.1
  have e := hR.2.2.2.1
  have hn := ho.1
  have hz := dR_oc ho
  unfold wpX_badUses wpY_badUses
  refine br_c (fun z => ?_) (fun z => ?_)
  · rw [e, hz] at z
    obtain ⟨hX, hM⟩ := hR.2.2.2.2 z
    refine ⟨n + 1, dx_bu hn ho.2.1 ?_ n 0 (by omega)⟩
    refine dy_explore ho htk (fun _ nt ye no ou co' pl hM' => ?_) (fun h => absurd z h)
    refine ⟨16 * n + 1, dy_bu hn ho.2.1 ⟨?_, i_mk hR⟩ (16 * n) 0 (by omega)⟩
    rw [dq_be hn]
    exact dr_congr n (fun k hk => by unfold dq_b; rw [dm_uniq hM hM' k (by omega)])
  · rw [e, hz] at z
    exact dy_explore ho htk (fun h => absurd h z) (fun _ pl => ⟨1, dy_bu0 ⟨rfl, i_mk hR⟩⟩)
theorem i_vc_secondSets {k : Nat} {u : SX} {v : SY} (I : i_Rel k u v) (hk : k + 2 ≤ 1024) : wpX_secondSets (fun r => wpY_secondSets (fun r' v' => r' = r ∧ i_Rel (k + 2) u v') v) u := by
  obtain ⟨T, n, oc, rs, rv, rf, op, bh, aT, aF, aB, sA, nt, ye, no, ou, co, pl, rfl, rfl, hR⟩ := I
  have ho := hR.1
  have htk := hR.2.1
  have e := hR.2.2.2.1
  have hn := ho.1
  have hz := dR_oc ho
  unfold wpX_secondSets wpY_secondSets
  refine br_c (fun z => ?_) (fun z => ?_)
  · rw [e, hz] at z
    obtain ⟨hX, hM⟩ := hR.2.2.2.2 z
    refine ⟨n + 1, dx_ss hn ho.2.1 ?_ n 0 (by omega)⟩
    refine dy_explore ho htk (fun _ nt ye no ou co' pl hM' => ?_) (fun h => absurd z h)
    refine ⟨16 * n + 1, dy_ss hn ho.2.1 ⟨?_, i_mk hR⟩ (16 * n) 0 (by omega)⟩
    rw [dq_se hn]
    exact dr_congr n (fun k hk => by unfold dq_s; rw [dm_uniq hM hM' k (by omega)])
  · rw [e, hz] at z
    exact dy_explore ho htk (fun h => absurd h z) (fun _ pl => ⟨1, dy_ss0 ⟨rfl, i_mk hR⟩⟩)
end
section
/-! the runs -/
def dr_ft (t : Nat) (rs rf : Int32) : Int32 := if (dt_use t && !(bt rs (t % 4))) = true then rf + 1 else rf
def dr_as (t a : Nat) : Nat := if dt_opn t = true then a + 1 else a
theorem dx_nv41 {post : SX → Prop} {ct oc rs rv rf : Int32} {tk op bh aT aF aB sA : Nat → Int32} {t : Nat} (ht : t < 32) (hp : post (ct, oc, dt_sv t rs, rv, rf, tk, op, bh, aT, aF, aB, sA)) : wX_noteVisit_41 post (nI t) ct oc rs rv rf tk op bh aT aF aB sA := by
  unfold wX_noteVisit_41
  refine dx_se ht ?_
  unfold dt_sv at hp
  cases hs : dt_set t with
  | false =>
    rw [hs, if_neg (by decide)] at hp
    exact br_t rfl hp
  | true =>
    rw [hs, if_pos rfl] at hp
    exact br_f (by decide) (nm_e hp)
theorem dx_nv {post : SX → Prop} {ct oc rs rv rf : Int32} {tk op bh aT aF aB sA : Nat → Int32} {t p : Nat} (ht : t < 32) (hp : post (ct, oc, dt_sv t rs, rv ||| ((1 : Int32) <<< (nI p &&& 31)), dr_ft t rs rf, tk, op, bh, aT, aF, aB, sA)) : wpX_noteVisit post (ct, oc, rs, rv, rf, tk, op, bh, aT, aF, aB, sA) (nI p) (nI t) := by
  unfold wpX_noteVisit
  refine nm_e (dx_us ht ?_)
  unfold dr_ft at hp
  cases hu : dt_use t with
  | false =>
    rw [hu, if_neg (by simp)] at hp
    exact br_t rfl (dx_nv41 ht hp)
  | true =>
    refine br_f (by decide) (br_c (fun z => ?_) (fun z => ?_))
    · rw [hu, (db_va _ ht).mp z, if_pos (by decide)] at hp
      exact nm_e (dx_nv41 ht hp)
    · rw [hu, db_f (fun y => z ((db_va _ ht).mpr y)), if_neg (by decide)] at hp
      exact dx_nv41 ht hp
theorem dx_r73 {post : Int32 → SX → Prop} {J : Int32 → Int32 → Int32 → Int32 → Int32 → Int32 → Int32 → Int32 → (Nat → Int32) → (Nat → Int32) → (Nat → Int32) → (Nat → Int32) → (Nat → Int32) → (Nat → Int32) → (Nat → Int32) → Prop} {ct oc rs rv rf : Int32} {op bh aT aF aB sA : Nat → Int32} {T : Nat → Nat} {L : Nat → Nat × Nat × Nat} {p a : Nat} {dec x2 : Int32} {o : Bool} (hT : T p < 32) (hp22 : p < 22) (hL : aT p = nI (L p).1 ∧ aF p = nI (L p).2.1 ∧ aB p = nI (L p).2.2)
    (hp : J x2 (nI (dr_as (T p) a)) (nI (dt_nx T L p o)) ct oc (dt_sv (T p) rs) (rv ||| ((1 : Int32) <<< (nI p &&& 31))) (dr_ft (T p) rs rf) (fun j => nI (T j)) op bh aT aF aB sA) : wX_run_73 post J dec x2 (nI a) (nI p) (nI (T p)) (db_i o) ct oc rs rv rf (fun j => nI (T j)) op bh aT aF aB sA := by
  unfold wX_run_73
  refine dx_un hT ?_
  unfold dr_as at hp
  cases hu : dt_opn (T p) with
  | false =>
    rw [hu, if_neg (by decide)] at hp
    refine br_t rfl ?_
    unfold wX_run_86
    exact dx_nv hT (dx_pa hT hp22 hL o hp)
  | true =>
    rw [hu, if_pos rfl] at hp
    refine br_f (by decide) (nm_r (nI_1 a) ?_)
    unfold wX_run_86
    exact dx_nv hT (dx_pa hT hp22 hL o hp)
theorem db_31 : ∀ a, a < 128 → (nI a &&& 31) = nI (a % 32) := by decide +kernel
theorem dy_r115 {post : Int32 → SY → Prop} {J : Int32 → Int32 → Int32 → Int32 → Int32 → Int32 → Prop} {sz ys yv yf : Int32} {nt ye no ou co pl : Nat → Int32} {T : Nat → Nat} {L : Nat → Nat × Nat × Nat} {p a : Nat} {dec x3 z0 : Int32} (hT : T p < 32) (htk : dt_tk (T p) = true) (hp22 : p < 22) (ha : a < 128) (hW : (dt_c (T p) = true → ye p = nI (L p).1 ∧ no p = nI (L p).2.1) ∧ (dt_c (T p) = false → nt p = nI (L p).1 ∧ ou p = nI (L p).2.2)) (hv : dt_c (T p) = false → (L p).1 = (L p).2.1)
    (hp : J (nI (dt_nx T L p (bt dec (a % 32)))) x3 (nI (dr_as (T p) a)) (dt_sv (T p) ys) yv z0) : wY_run_115 post J dec (nI p) x3 (nI a) z0 sz ys yv yf (fun j => nI (T j)) nt ye no ou co pl := by
  unfold wY_run_115
  refine dy_af hT hp22 ?_
  have h149 : ∀ o : Bool, o = bt dec (a % 32) → wY_run_149 post J dec (nI p) x3 (nI a) (db_i o) sz (dt_sv (T p) ys) yv z0 (fun j => nI (T j)) nt ye no ou co pl := by
    intro o eo
    unfold wY_run_149
    refine ⟨pk_in p 22 hp22, ?_⟩
    rw [nI_clamp (n := p) (by omega)]
    refine dy_un hT ?_
    rw [← eo] at hp
    unfold dr_as at hp
    cases hu : dt_opn (T p) with
    | false =>
      rw [hu, if_neg (by decide)] at hp
      refine br_t rfl ?_
      unfold wY_run_173
      exact dy_on hT htk hp22 hW hv o hp
    | true =>
      rw [hu, if_pos rfl] at hp
      refine br_f (by decide) ?_
      unfold wY_run_173
      refine dy_on hT htk hp22 hW hv o ?_
      rw [nI_1]
      exact hp
  rw [db_31 a ha]
  refine br_c (fun z => ?_) (fun z => ?_)
  · exact h149 true ((db_s dec (Nat.mod_lt a (by decide))).mp z).symm
  · exact h149 false (db_t (fun y => z ((db_s dec (Nat.mod_lt a (by decide))).mpr y))).symm
theorem dl_run {T : Nat → Nat} {n : Nat} {dec : Int32} {oc : Int32} {op bh aT aF aB sA : Nat → Int32} (ho : dt_ok T n) (hc : dt_st T n = []) (htk : dt_tks T n) (hX : dl_X T n aT aF aB) :
    ∀ d v, v + d = 100 → ∀ (a p : Nat) (rs rv rf : Int32), a ≤ v → dt_v n p → ∃ r rs' rv' rf' : Int32,
      (∀ post : Int32 → SX → Prop, post r (nI n, oc, rs', rv', rf', (fun j => nI (T j)), op, bh, aT, aF, aB, sA) → wX_run_31 post dec (d + 1) (nI v) (nI a) (nI p) (nI n) oc rs rv rf (fun j => nI (T j)) op bh aT aF aB sA) ∧
      (∀ nt ye no ou co pl, dl_W T n nt ye no ou → ∀ post : Int32 → SY → Prop, post r (nI n, rs', rv', rf', (fun j => nI (T j)), nt, ye, no, ou, co, pl) → wY_run_31 post dec (nI n) (fun j => nI (T j)) nt ye no ou co pl (d + 1) (nI p) (nI v) (nI a) rs rv rf) := by
  have hn := ho.1
  intro d
  induction d with
  | zero =>
    intro v hv a p rs rv rf ha hp
    obtain rfl : v = 100 := by omega
    refine ⟨nI 100, rs, rv, rf, fun post h => br_t (by decide) h, fun nt ye no ou co pl hW post h => ?_⟩
    exact br_c (fun _ => h) (fun _ => br_t (by decide) h)
  | succ d ih =>
    intro v hv a p rs rv rf ha hp
    by_cases z : p = 22
    · subst z
      refine ⟨nI v, rs, rv, rf, fun post h => br_f (nI_ge (b := 100) (by omega) (by omega)) (br_t rfl h), fun nt ye no ou co pl hW post h => br_t (by decide) h⟩
    · have hpn : p < n := by
        rcases hp with h | h
        · exact h
        · exact absurd h z
      have h22 : p < 22 := by omega
      have e32 : nI a - nI a / (32 : Int32) * (32 : Int32) = nI (a % 32) := pk_rem (d := 32) (by omega) (by decide) (by decide)
      have ha' : dr_as (T p) a ≤ v + 1 := by unfold dr_as; split <;> omega
      have hx := dt_nxv ho hc hpn (bt dec (a % 32))
      obtain ⟨r, rs', rv', rf', h1, h2⟩ := ih (v + 1) (by omega) (dr_as (T p) a) (dt_nx T (dt_L T n) p (bt dec (a % 32))) (dt_sv (T p) rs) (rv ||| ((1 : Int32) <<< (nI p &&& 31))) (dr_ft (T p) rs rf) ha' hx
      refine ⟨r, rs', rv', rf', fun post h => ?_, fun nt ye no ou co pl hW post h => ?_⟩
      · have h1 := h1 post h
        refine br_f (nI_ge (b := 100) (by omega) (by omega)) ?_
        refine pk_eq p 22 (fun y => absurd y z) (fun _ => ?_)
        refine nm_r (nI_1 v) ⟨pk_in p 22 h22, nm_r (e' := nI (T p)) (by rw [nI_clamp (n := p) (by omega)]) ⟨by decide, ?_⟩⟩
        rw [e32]
        refine br_c (fun y => ?_) (fun y => ?_)
        · rw [(db_u dec (Nat.mod_lt a (by decide))).mp y] at h1
          exact dx_r73 (o := true) (ho.2.1 p) h22 (hX p hpn) h1
        · rw [db_t (fun q => y ((db_u dec (Nat.mod_lt a (by decide))).mpr q))] at h1
          exact dx_r73 (o := false) (ho.2.1 p) h22 (hX p hpn) h1
      · have h2 := h2 nt ye no ou co pl hW post h
        refine br_f (nI_ge (b := 22) h22 (by decide)) (br_f (nI_ge (b := 100) (by omega) (by omega)) ?_)
        refine nm_r (nI_1 v) (nm_e ⟨pk_in p 22 h22, ?_⟩)
        rw [nI_clamp (n := p) (by omega)]
        refine dy_us (ho.2.1 p) ?_
        unfold dr_ft at h2
        cases hu : dt_use (T p) with
        | false =>
          rw [hu, if_neg (by simp)] at h2
          refine br_t rfl ?_
          unfold wY_run_93 wY_run_94
          exact br_t rfl (dy_r115 (ho.2.1 p) (htk p hpn) h22 (by omega) (hW p hpn) (dt_Lok ho hc hpn).2.2.2 h2)
        | true =>
          refine br_f (by decide) ⟨pk_in p 22 h22, br_c (fun y => ?_) (fun y => ?_)⟩
          · rw [hu, (db_vs0 _ (ho.2.1 p)).mp y, if_pos (by decide)] at h2
            unfold wY_run_94
            exact br_f (by decide) (dy_r115 (ho.2.1 p) (htk p hpn) h22 (by omega) (hW p hpn) (dt_Lok ho hc hpn).2.2.2 h2)
          · rw [hu, db_f (fun q => y ((db_vs0 _ (ho.2.1 p)).mpr q)), if_neg (by decide)] at h2
            unfold wY_run_93 wY_run_94
            exact br_t rfl (dy_r115 (ho.2.1 p) (htk p hpn) h22 (by omega) (hW p hpn) (dt_Lok ho hc hpn).2.2.2 h2)
end
section
theorem i_vc_run {k : Nat} {u : SX} {v : SY} (I : i_Rel k u v) (hk : k + 2 ≤ 1024) (v1 : Int32) : wpX_run (fun r u' => wpY_run (fun r' v' => r' = r ∧ i_Rel (k + 2) u' v') v v1) u v1 := by
  obtain ⟨T, n, oc, rs, rv, rf, op, bh, aT, aF, aB, sA, nt, ye, no, ou, co, pl, rfl, rfl, hR⟩ := I
  have ho := hR.1
  have htk := hR.2.1
  have e := hR.2.2.2.1
  have hz := dR_oc ho
  unfold wpX_run wpY_run
  refine br_c (fun z => ?_) (fun z => ?_)
  · rw [e, hz] at z
    obtain ⟨hX, hM⟩ := hR.2.2.2.2 z
    have h0 : dt_v n 0 := Or.inl (by
      rcases Nat.eq_zero_or_pos n with y | y
      · subst y; cases z
      · exact y)
    obtain ⟨r, rs', rv', rf', h1, h2⟩ := dl_run (dec := v1) (oc := oc) (op := op) (bh := bh) (sA := sA) ho z htk hX 100 0 (by omega) 0 0 0 0 0 (Nat.le_refl 0) h0
    refine ⟨101, h1 _ ?_⟩
    refine dy_prepare ho (fun _ nt' ye' no' ou' pl' hW => ?_) (fun h => absurd z h)
    exact br_f (by decide) ⟨101, h2 _ _ _ _ _ _ hW _ ⟨rfl, i_mk hR⟩⟩
  · rw [e, hz] at z
    exact dy_prepare ho (fun h => absurd h z) (fun _ pl => br_t rfl ⟨rfl, i_mk hR⟩)
end

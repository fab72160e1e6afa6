theorem db_shl32 : ∀ c, c < 32 → ∀ i, i < 32 → bt ((1 : Int32) <<< (nI c &&& 31)) i = decide (i = c) := by decide +kernel
theorem db_shl {c : Nat} (hc : c < 32) (i : Nat) : bt ((1 : Int32) <<< (nI c &&& 31)) i = decide (i = c) := by
  by_cases h : i < 32
  · exact db_shl32 c hc i h
  · rw [b_big (by omega), decide_eq_false (by omega)]
theorem db_and1 (y : Int32) : (y &&& 1) = if bt y 0 = true then 1 else 0 := by
  apply b_ext
  intro i _
  rw [b_and, dm_one]
  by_cases h : i = 0
  · subst h
    cases bt y 0
    · rw [if_neg (by decide), b_0]; rfl
    · rw [if_pos rfl, dm_one]; rfl
  · rw [decide_eq_false h, Bool.and_false]
    split
    · rw [dm_one, decide_eq_false h]
    · rw [b_0]
theorem db_1 (y : Int32) : (y &&& 1) = 1 ↔ bt y 0 = true := by
  rw [db_and1]
  cases bt y 0 <;> decide
theorem db_z (y : Int32) : (y &&& 1) = 0 ↔ bt y 0 = false := by
  rw [db_and1]
  cases bt y 0 <;> decide
theorem db_u (x : Int32) {s : Nat} (hs : s < 32) : ((x.toUInt32 >>> ((nI s).toUInt32 &&& Int32.toUInt32 31)).toInt32 &&& 1) = 1 ↔ bt x s = true := by
  rw [db_1, b_ushr s hs, Nat.add_zero]
theorem db_s (x : Int32) {s : Nat} (hs : s < 32) : ((x >>> (nI s &&& 31)) &&& 1) = 1 ↔ bt x s = true := by
  rw [db_1, b_sshr s hs x (by decide), Nat.add_zero, if_pos hs]
theorem db_s0 (x : Int32) {s : Nat} (hs : s < 32) : ((x >>> (nI s &&& 31)) &&& 1) = 0 ↔ bt x s = false := by
  rw [db_z, b_sshr s hs x (by decide), Nat.add_zero, if_pos hs]
theorem db_sub0 (m z : Int32) : (m &&& (z ^^^ (-1))) = 0 ↔ ∀ i, bt m i = true → bt z i = true := by
  constructor
  · intro h i hm
    have hi : i < 32 := by
      rcases Nat.lt_or_ge i 32 with q | q
      · exact q
      · rw [b_big q] at hm; cases hm
    have e : bt (m &&& (z ^^^ (-1))) i = false := by rw [h, b_0]
    rw [b_and, b_xor, b_m1 i hi, hm] at e
    cases q : bt z i
    · rw [q] at e; cases e
    · rfl
  · intro h
    apply b_ext
    intro i hi
    rw [b_and, b_xor, b_m1 i hi, b_0]
    cases q : bt m i
    · rfl
    · rw [h i q]; rfl
theorem db_and0 (z : Int32) {c : Nat} (hc : c < 32) : (z &&& ((1 : Int32) <<< (nI c &&& 31))) = 0 ↔ bt z c = false := by
  constructor
  · intro h
    have e : bt (z &&& ((1 : Int32) <<< (nI c &&& 31))) c = false := by rw [h, b_0]
    rw [b_and, db_shl hc, decide_eq_true rfl, Bool.and_true] at e
    exact e
  · intro h
    apply b_ext
    intro i hi
    rw [b_and, db_shl hc, b_0]
    by_cases e : i = c
    · subst e; rw [h]; rfl
    · rw [decide_eq_false e, Bool.and_false]
theorem db_ba0 (z : Int32) {c : Nat} (hc : c < 32) : (z &&& ((1 : Int32) <<< (nI c &&& 31))) = 0 ↔ bt z c = false := db_and0 z hc
/-! the bit of a token -/
theorem db_3 : ∀ t, t < 32 → (nI t &&& 3) = nI (t % 4) := by decide +kernel
def dt_set (t : Nat) : Bool := decide (8 ≤ t ∧ t ≤ 11 ∨ 24 ≤ t ∧ t ≤ 27)
def dt_use (t : Nat) : Bool := decide (12 ≤ t ∧ t ≤ 15 ∨ 28 ≤ t)
def dt_opn (t : Nat) : Bool := decide (t = 18 ∨ 24 ≤ t)
def dt_tk (t : Nat) : Bool := decide (t < 32 ∧ t ≠ 2 ∧ t ≠ 3 ∧ t ≠ 7 ∧ t ≠ 23)
def dt_at (t s : Nat) : Nat := if dt_set t = true then s ||| 2 ^ (t % 4) else s
def dt_af (T : Nat → Nat) (k s : Nat) : Nat := dt_at (T k) s
theorem db_at16 : ∀ t, t < 32 → ∀ s, s < 16 → dt_at t s < 16 := by decide +kernel
theorem db_atS : ∀ t, t < 32 → dt_set t = true → ∀ s, s < 16 → nI s ||| ((1 : Int32) <<< ((nI t &&& 3) &&& 31)) = nI (dt_at t s) := by decide +kernel
def db_i (b : Bool) : Int32 := if b = true then 1 else 0
/-! the folds over the settings of a mask -/
def dv_f (al : Bool) (m : Int32) : Nat → Int32
  | 0 => if al = true then 15 else 0
  | s + 1 => if bt m s = true then (if al = true then dv_f al m s &&& nI s else dv_f al m s ||| nI s) else dv_f al m s
theorem dv_15 : ∀ v, v < 4 → bt 15 v = true := by decide +kernel
theorem dv_t (m : Int32) {v : Nat} (hv : v < 4) : ∀ s, bt (dv_f true m s) v = true ↔ ∀ s', s' < s → bt m s' = true → bt (nI s') v = true := by
  intro s
  induction s with
  | zero => exact ⟨fun _ s' h => absurd h (Nat.not_lt_zero _), fun _ => dv_15 v hv⟩
  | succ s ih =>
    have e : dv_f true m (s + 1) = if bt m s = true then dv_f true m s &&& nI s else dv_f true m s := rfl
    rw [e]
    by_cases h : bt m s = true
    · rw [if_pos h, b_and, Bool.and_eq_true, ih]
      constructor
      · intro ⟨h1, h2⟩ s' hs' hb
        by_cases z : s' = s
        · subst z; exact h2
        · exact h1 s' (by omega) hb
      · intro h1
        exact ⟨fun s' hs' hb => h1 s' (by omega) hb, h1 s (by omega) h⟩
    · rw [if_neg h, ih]
      constructor
      · intro h1 s' hs' hb
        by_cases z : s' = s
        · subst z; exact absurd hb h
        · exact h1 s' (by omega) hb
      · intro h1 s' hs' hb
        exact h1 s' (by omega) hb
theorem dv_s (m : Int32) (v : Nat) : ∀ s, bt (dv_f false m s) v = true ↔ ∃ s', s' < s ∧ bt m s' = true ∧ bt (nI s') v = true := by
  intro s
  induction s with
  | zero =>
    constructor
    · intro h
      have h : bt 0 v = true := h
      rw [b_0] at h; cases h
    · intro ⟨s', h, _⟩
      exact absurd h (Nat.not_lt_zero _)
  | succ s ih =>
    have e : dv_f false m (s + 1) = if bt m s = true then dv_f false m s ||| nI s else dv_f false m s := rfl
    rw [e]
    by_cases h : bt m s = true
    · rw [if_pos h, b_or, Bool.or_eq_true, ih]
      constructor
      · intro h1
        rcases h1 with ⟨s', a, b, c⟩ | h1
        · exact ⟨s', by omega, b, c⟩
        · exact ⟨s, by omega, h, h1⟩
      · intro ⟨s', a, b, c⟩
        by_cases z : s' = s
        · subst z; exact Or.inr c
        · exact Or.inl ⟨s', by omega, b, c⟩
    · rw [if_neg h, ih]
      constructor
      · intro ⟨s', a, b, c⟩
        exact ⟨s', by omega, b, c⟩
      · intro ⟨s', a, b, c⟩
        by_cases z : s' = s
        · subst z; exact absurd b h
        · exact ⟨s', by omega, b, c⟩
/-! the folds over the places -/
def dr_f (Q : Nat → Bool) : Nat → Int32
  | 0 => 0
  | k + 1 => if Q k = true then dr_f Q k ||| ((1 : Int32) <<< (nI k &&& 31)) else dr_f Q k
def dr_y (q : Nat → Bool) : Nat → Int32
  | 0 => 0
  | c + 1 => if q c = true then dr_y q c ||| ((1 : Int32) <<< (nI (c / 16) &&& 31)) else dr_y q c
theorem dr_fb (Q : Nat → Bool) (i : Nat) : ∀ k, k ≤ 32 → (bt (dr_f Q k) i = true ↔ i < k ∧ Q i = true) := by
  intro k
  induction k with
  | zero =>
    intro _
    constructor
    · intro h
      have h : bt 0 i = true := h
      rw [b_0] at h; cases h
    · intro h; omega
  | succ k ih =>
    intro hk
    have e : dr_f Q (k + 1) = if Q k = true then dr_f Q k ||| ((1 : Int32) <<< (nI k &&& 31)) else dr_f Q k := rfl
    rw [e]
    by_cases h : Q k = true
    · rw [if_pos h, b_or, Bool.or_eq_true, ih (by omega), db_shl (by omega), decide_eq_true_eq]
      constructor
      · intro h1
        rcases h1 with ⟨a, b⟩ | rfl
        · exact ⟨by omega, b⟩
        · exact ⟨by omega, h⟩
      · intro ⟨a, b⟩
        by_cases z : i = k
        · exact Or.inr z
        · exact Or.inl ⟨by omega, b⟩
    · rw [if_neg h, ih (by omega)]
      constructor
      · intro ⟨a, b⟩
        exact ⟨by omega, b⟩
      · intro ⟨a, b⟩
        by_cases z : i = k
        · subst z; exact absurd b h
        · exact ⟨by omega, b⟩
theorem dr_yb (q : Nat → Bool) (i : Nat) : ∀ c, c ≤ 512 → (bt (dr_y q c) i = true ↔ ∃ d, d < c ∧ q d = true ∧ i = d / 16) := by
  intro c
  induction c with
  | zero =>
    intro _
    constructor
    · intro h
      have h : bt 0 i = true := h
      rw [b_0] at h; cases h
    · intro ⟨d, h, _⟩; omega
  | succ c ih =>
    intro hk
    have e : dr_y q (c + 1) = if q c = true then dr_y q c ||| ((1 : Int32) <<< (nI (c / 16) &&& 31)) else dr_y q c := rfl
    rw [e]
    by_cases h : q c = true
    · rw [if_pos h, b_or, Bool.or_eq_true, ih (by omega), db_shl (by omega), decide_eq_true_eq]
      constructor
      · intro h1
        rcases h1 with ⟨d, a, b, e9⟩ | e9
        · exact ⟨d, by omega, b, e9⟩
        · exact ⟨c, by omega, h, e9⟩
      · intro ⟨d, a, b, e9⟩
        by_cases z : d = c
        · subst z; exact Or.inr e9
        · exact Or.inl ⟨d, by omega, b, e9⟩
    · rw [if_neg h, ih (by omega)]
      constructor
      · intro ⟨d, a, b, e9⟩
        exact ⟨d, by omega, b, e9⟩
      · intro ⟨d, a, b, e9⟩
        by_cases z : d = c
        · subst z; exact absurd b h
        · exact ⟨d, by omega, b, e9⟩
theorem dr_eq {Q q : Nat → Bool} {n : Nat} (hn : n ≤ 22) (h : ∀ k, k < n → (Q k = true ↔ ∃ s, s < 16 ∧ q (16 * k + s) = true)) : dr_y q (16 * n) = dr_f Q n := by
  apply b_ext
  intro i _
  have h1 := dr_fb Q i n (by omega)
  have h2 := dr_yb q i (16 * n) (by omega)
  have h3 : bt (dr_y q (16 * n)) i = true ↔ bt (dr_f Q n) i = true := by
    rw [h1, h2]
    constructor
    · intro ⟨d, a, b, e⟩
      refine ⟨by omega, (h i (by omega)).mpr ⟨d % 16, by omega, ?_⟩⟩
      rw [show 16 * i + d % 16 = d by omega]
      exact b
    · intro ⟨a, b⟩
      obtain ⟨s, hs, e⟩ := (h i a).mp b
      exact ⟨16 * i + s, by omega, e, by omega⟩
  cases e1 : bt (dr_y q (16 * n)) i <;> cases e2 : bt (dr_f Q n) i
  · rfl
  · rw [h3.mpr e2] at e1; cases e1
  · rw [h3.mp e1] at e2; cases e2
  · rfl

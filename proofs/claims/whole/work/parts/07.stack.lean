/-! the stack of pending parts in an array -/
def dk_S (c : Bool → Int32) (a : Nat → Int32) : List Bool → Prop
  | [] => True
  | b :: r => a r.length = c b ∧ dk_S c a r
theorem dk_Su {c : Bool → Int32} {a : Nat → Int32} {k : Nat} {v : Int32} : ∀ {L : List Bool}, dk_S c a L → L.length ≤ k → dk_S c (upd a k v) L := by
  intro L
  induction L with
  | nil => intro _ _; exact True.intro
  | cons b r ih =>
    intro h hk
    have hk' : r.length + 1 ≤ k := hk
    refine ⟨?_, ih h.2 (by omega)⟩
    rw [pk_un (by omega)]
    exact h.1
theorem dk_Sp {c : Bool → Int32} {a : Nat → Int32} {b : Bool} {r : List Bool} {v : Int32} (h : dk_S c a r) (hv : v = c b) : dk_S c (upd a r.length v) (b :: r) :=
  ⟨pk_us.trans hv, dk_Su h (Nat.le_refl _)⟩
theorem dk_kd1 : ∀ t, t < 32 → (t ≠ 5 ∧ t ≠ 6) → ∀ j, j < 3 → ∀ b, (dt_kd t)[j]? = some b → b = dt_c t := by decide +kernel
theorem dk_kd2 : ∀ t, t < 32 → (t = 5 ∨ t = 6) → ∀ j, j < 3 → ∀ b, (dt_kd t)[j]? = some b → b = decide (j = 0) := by decide +kernel
theorem dk_kd3 : ∀ t, t < 32 → dt_c t = true → ∀ j, j < 3 → ∀ b, (dt_kd t)[j]? = some b → b = true := by decide +kernel
theorem dk_lt {t j : Nat} {b : Bool} (ht : t < 32) (h : (dt_kd t)[j]? = some b) : j < 3 := by
  have h1 := dt_ar_le t ht
  have h2 : j < (dt_kd t).length := by
    rcases Nat.lt_or_ge j (dt_kd t).length with z | z
    · exact z
    · rw [List.getElem?_eq_none z] at h; cases h
  unfold dt_ar at h1
  omega
theorem dk_nb (b : Bool) : vp_nar .boolean (db_i b) = db_i b := by cases b <;> rfl
theorem dk_nb2 (b : Bool) : narrow .boolean (.int (db_i b)) = .int (db_i b) := by cases b <;> rfl
theorem dx_pi {post : Int32 → Prop} {t j : Nat} {b : Bool} (ht : t < 32) (hb : (dt_kd t)[j]? = some b) (hp : post (db_i b)) : wpX_partIsCondition post (nI t) (nI j) := by
  have hj := dk_lt ht hb
  by_cases h5 : t = 5
  · have e := dk_kd2 t ht (Or.inl h5) j hj b hb
    subst h5
    refine br_t rfl ?_
    refine pk_eq j 0 (fun z => ?_) (fun z => ?_)
    · subst z; rw [e] at hp; exact hp
    · rw [e, decide_eq_false z] at hp; exact hp
  · by_cases h6 : t = 6
    · have e := dk_kd2 t ht (Or.inr h6) j hj b hb
      subst h6
      refine br_f (by decide) (br_t rfl ?_)
      refine pk_eq j 0 (fun z => ?_) (fun z => ?_)
      · subst z; rw [e] at hp; exact hp
      · rw [e, decide_eq_false z] at hp; exact hp
    · have e := dk_kd1 t ht ⟨h5, h6⟩ j hj b hb
      subst e
      refine pk_eq t 5 (fun z => absurd z h5) (fun _ => pk_eq t 6 (fun z => absurd z h6) (fun _ => ?_))
      exact dx_ic (post := fun r_4 => (narrow .boolean (.int r_4) = .int r_4 ∧ (post r_4))) ht ⟨dk_nb2 _, hp⟩
theorem dy_pi {post : Int32 → Prop} {sz ys yv yf : Int32} {tk nt ye no ou co pl : Nat → Int32} {t j : Nat} {b : Bool} (ht : t < 32) (hb : (dt_kd t)[j]? = some b) (hp : post (db_i b)) : wpY_partIsCondition post (sz, ys, yv, yf, tk, nt, ye, no, ou, co, pl) (nI t) (nI j) := by
  have hj := dk_lt ht hb
  refine pk_le 16 t (fun z => ?_) (fun z => ?_)
  · have e := dk_kd3 t ht (decide_eq_true z) j hj b hb
    rw [e] at hp
    exact hp
  · by_cases h5 : t = 5
    · have e := dk_kd2 t ht (Or.inl h5) j hj b hb
      subst h5
      refine br_t rfl ?_
      refine pk_eq j 0 (fun z => ?_) (fun z => ?_)
      · subst z; rw [e] at hp; exact hp
      · rw [e, decide_eq_false z] at hp; exact hp
    · by_cases h6 : t = 6
      · have e := dk_kd2 t ht (Or.inr h6) j hj b hb
        subst h6
        refine br_f (by decide) (br_t rfl ?_)
        refine pk_eq j 0 (fun z => ?_) (fun z => ?_)
        · subst z; rw [e] at hp; exact hp
        · rw [e, decide_eq_false z] at hp; exact hp
      · have e := dk_kd1 t ht ⟨h5, h6⟩ j hj b hb
        refine pk_eq t 5 (fun z => absurd z h5) (fun _ => pk_eq t 6 (fun z => absurd z h6) (fun _ => ?_))
        rw [e, show dt_c t = false from decide_eq_false (by omega)] at hp
        exact hp
theorem dk_dr {l r : List Bool} {j : Nat} {b : Bool} (h : l[j]? = some b) : l.drop j ++ r = b :: (l.drop (j + 1) ++ r) := by
  have hj : j < l.length := by
    rcases Nat.lt_or_ge j l.length with z | z
    · exact z
    · rw [List.getElem?_eq_none z] at h; cases h
  rw [List.getElem?_eq_getElem hj] at h
  rw [List.drop_eq_getElem_cons hj, Option.some.inj h]
  rfl
theorem dk_len {l r : List Bool} {j : Nat} : (l.drop j ++ r).length = (l.length - j) + r.length := by
  rw [List.length_append, List.length_drop]
theorem dx_a37 {post : SX → Prop} {ct rs rv rf : Int32} {tk bh aT aF aB sA : Nat → Int32} {t : Nat} {r : List Bool} (ht : t < 32) (hl : (dt_kd t ++ r).length ≤ 45) (hp : ∀ op', dk_S db_i op' (dt_kd t ++ r) → post (ct, nI (dt_kd t ++ r).length, rs, rv, rf, tk, op', bh, aT, aF, aB, sA)) :
    ∀ (i : Nat) (op : Nat → Int32) (x2 oc : Int32), i ≤ (dt_kd t).length → dk_S db_i op ((dt_kd t).drop i ++ r) → x2 = nI i - 1 → oc = nI ((dt_kd t).drop i ++ r).length → wX_append_37 post (nI t) ct rs rv rf (i + 1) x2 oc tk op bh aT aF aB sA := by
  intro i
  induction i with
  | zero =>
    intro op x2 oc _ hS ex eo
    subst ex eo
    exact br_t (by decide) (hp op hS)
  | succ i ih =>
    intro op x2 oc hi hS ex eo
    rw [nI_pred] at ex
    subst ex eo
    obtain ⟨b, hb⟩ : ∃ b, (dt_kd t)[i]? = some b := ⟨_, List.getElem?_eq_getElem (by omega)⟩
    have e1 : ((dt_kd t).drop (i + 1) ++ r).length = ((dt_kd t).length - (i + 1)) + r.length := dk_len
    have e2 : (dt_kd t ++ r).length = (dt_kd t).length + r.length := List.length_append
    have e3 := dt_ar_le t ht
    unfold dt_ar at e3
    refine br_f (nI_pos (by omega)) ?_
    refine dx_pi ht hb ?_
    refine ⟨pk_in ((dt_kd t).drop (i + 1) ++ r).length 45 (by omega), ?_⟩
    refine nm_r (by rw [pk_cl ((dt_kd t).drop (i + 1) ++ r).length rfl (by omega), dk_nb]) ?_
    refine nm_r (nI_1 _) (nm_e ?_)
    refine ih _ _ _ (by omega) ?_ ?_ ?_
    · rw [dk_dr hb]
      exact dk_Sp hS rfl
    · exact (Int32.sub_eq_add_neg _ _).symm
    · rw [dk_dr hb]; rfl
theorem dx_append {post : SX → Prop} {rs rv rf : Int32} {tk op bh aT aF aB sA : Nat → Int32} {t n : Nat} {b : Bool} {r : List Bool} (ht : t < 32) (hn : n < 22) (hS : dk_S db_i op (b :: r)) (hl : (dt_kd t ++ r).length ≤ 45)
    (hp : ∀ op', dk_S db_i op' (dt_kd t ++ r) → post (nI (n + 1), nI (dt_kd t ++ r).length, rs, rv, rf, upd tk n (nI t), op', bh, aT, aF, aB, sA)) : wpX_append post (nI n, nI (b :: r).length, rs, rv, rf, tk, op, bh, aT, aF, aB, sA) (nI t) := by
  unfold wpX_append
  refine ⟨pk_in n 22 hn, ?_⟩
  refine nm_r (by rw [pk_cl n rfl (by omega)]) ?_
  refine nm_r (nI_1 n) ?_
  refine nm_r (e' := nI r.length) (nI_pred r.length) ?_
  refine dx_pc ht ?_
  refine nm_e ?_
  refine ⟨_, dx_a37 ht hl hp (dt_kd t).length op _ _ (Nat.le_refl _) ?_ rfl ?_⟩
  · rw [List.drop_length]; exact hS.2
  · rw [List.drop_length]; rfl
theorem dx_forget {post : SX → Prop} {ct oc rs rv rf : Int32} {tk op bh aT aF aB sA : Nat → Int32} (hp : ∀ op', dk_S db_i op' [false] → post (0, 1, rs, rv, rf, tk, op', bh, aT, aF, aB, sA)) : wpX_forgetTokens post (ct, oc, rs, rv, rf, tk, op, bh, aT, aF, aB, sA) := by
  unfold wpX_forgetTokens
  refine nm_e (hp _ ⟨?_, True.intro⟩)
  exact pk_us.trans rfl
/-! Y's due -/
def dk_y (b : Bool) : Int32 := if b = true then 2 else 1
def dk_du : List Bool → Int32
  | [] => 0
  | b :: _ => dk_y b
theorem dy_42 {post : Int32 → SY → Prop} {J : Int32 → Int32 → (Nat → Int32) → (Nat → Int32) → (Nat → Int32) → (Nat → Int32) → (Nat → Int32) → (Nat → Int32) → (Nat → Int32) → Prop} {sz ys yv yf : Int32} {nt ye no ou co : Nat → Int32} {T : Nat → Nat} {k : Nat} {r : List Bool} (ht : T k < 32) (hk : k < 22) (hl : (dt_kd (T k) ++ r).length ≤ 45)
    (hp : ∀ pl', dk_S dk_y pl' (dt_kd (T k) ++ r) → J (nI (dt_kd (T k) ++ r).length) (nI (k + 1)) (fun j => nI (T j)) nt ye no ou co pl') :
    ∀ (i : Nat) (pl : Nat → Int32) (x4 x1 : Int32), i ≤ (dt_kd (T k)).length → dk_S dk_y pl ((dt_kd (T k)).drop i ++ r) → x4 = nI i - 1 → x1 = nI ((dt_kd (T k)).drop i ++ r).length → wY_due_42 post J (nI k) sz ys yv yf (i + 1) x1 x4 (fun j => nI (T j)) nt ye no ou co pl := by
  intro i
  induction i with
  | zero =>
    intro pl x4 x1 _ hS ex eo
    subst ex eo
    exact br_t (by decide) (nm_r (nI_1 k) (hp pl hS))
  | succ i ih =>
    intro pl x4 x1 hi hS ex eo
    rw [nI_pred] at ex
    subst ex eo
    obtain ⟨b, hb⟩ : ∃ b, (dt_kd (T k))[i]? = some b := ⟨_, List.getElem?_eq_getElem (by omega)⟩
    have e1 : ((dt_kd (T k)).drop (i + 1) ++ r).length = ((dt_kd (T k)).length - (i + 1)) + r.length := dk_len
    have e2 : (dt_kd (T k) ++ r).length = (dt_kd (T k)).length + r.length := List.length_append
    have e3 := dt_ar_le (T k) ht
    unfold dt_ar at e3
    refine br_f (nI_pos (by omega)) ?_
    refine ⟨pk_in k 22 hk, ?_⟩
    rw [pk_cl k rfl (by omega)]
    refine dy_pi ht hb ?_
    cases b with
    | false =>
      refine br_t rfl ⟨pk_in ((dt_kd (T k)).drop (i + 1) ++ r).length 50 (by omega), ?_⟩
      refine nm_r (by rw [pk_cl ((dt_kd (T k)).drop (i + 1) ++ r).length rfl (by omega)]) ?_
      refine nm_r (nI_1 _) (nm_e ?_)
      refine ih _ _ _ (by omega) ?_ (Int32.sub_eq_add_neg _ _).symm ?_
      · rw [dk_dr hb]
        exact dk_Sp hS rfl
      · rw [dk_dr hb]; rfl
    | true =>
      refine br_f (by decide) ⟨pk_in ((dt_kd (T k)).drop (i + 1) ++ r).length 50 (by omega), ?_⟩
      refine nm_r (by rw [pk_cl ((dt_kd (T k)).drop (i + 1) ++ r).length rfl (by omega)]) ?_
      refine nm_r (nI_1 _) (nm_e ?_)
      refine ih _ _ _ (by omega) ?_ (Int32.sub_eq_add_neg _ _).symm ?_
      · rw [dk_dr hb]
        exact dk_Sp hS rfl
      · rw [dk_dr hb]; rfl
theorem dy_88 {post : Int32 → SY → Prop} {sz ys yv yf : Int32} {tk nt ye no ou co pl : Nat → Int32} {L : List Bool} (hl : L.length ≤ 45) (hS : dk_S dk_y pl L) (hp : post (dk_du L) (sz, ys, yv, yf, tk, nt, ye, no, ou, co, pl)) : wY_due_88 post (nI L.length) sz ys yv yf tk nt ye no ou co pl := by
  unfold wY_due_88
  cases L with
  | nil => exact br_t rfl hp
  | cons b r =>
    have hl' : r.length + 1 ≤ 45 := hl
    refine br_f (nI_ne0 (Nat.succ_pos _) (by show r.length + 1 < _; omega)) ?_
    have e : nI (b :: r).length - 1 = nI r.length := nI_pred r.length
    rw [e]
    refine ⟨pk_in r.length 50 (by omega), ?_⟩
    rw [pk_cl r.length rfl (by omega), hS.1]
    exact hp
theorem dy_11 {post : Int32 → SY → Prop} {ys yv yf : Int32} {nt ye no ou co : Nat → Int32} {T : Nat → Nat} {n : Nat} (ho : dt_ok T n) (hp : ∀ pl', post (dk_du (dt_st T n)) (nI n, ys, yv, yf, (fun j => nI (T j)), nt, ye, no, ou, co, pl')) :
    ∀ (d k : Nat) (pl : Nat → Int32), k + d = n → dk_S dk_y pl (dt_st T k) → wY_due_11 post (nI n) ys yv yf (d + 1) (nI (dt_st T k).length) (nI k) (fun j => nI (T j)) nt ye no ou co pl := by
  have hn := ho.1
  intro d
  induction d with
  | zero =>
    intro k pl hk hS
    obtain rfl : k = n := by omega
    have hl := dt_st_len ho.2.1 k
    exact br_t (nI_le (Nat.le_refl _) (by omega)) (dy_88 (by omega) hS (hp pl))
  | succ d ih =>
    intro k pl hk hS
    obtain ⟨r, hr⟩ := ho.2.2 k (by omega)
    have hl := dt_st_len ho.2.1 k
    have hl1 := dt_st_len ho.2.1 (k + 1)
    have e1 : dt_st T (k + 1) = dt_kd (T k) ++ r := by
      show dt_kd (T k) ++ (dt_st T k).tail = _
      rw [hr]; rfl
    rw [hr] at hS hl ⊢
    rw [e1] at hl1
    have hl' : r.length + 1 ≤ 1 + 2 * k := hl
    refine br_f (nI_ge (by omega) (by omega)) (br_f (nI_nle (Nat.succ_pos _) (by show r.length + 1 < _; omega)) ?_)
    refine nm_r (pk_m1 r.length) ?_
    refine ⟨pk_in k 22 (by omega), ?_⟩
    rw [pk_cl k rfl (by omega)]
    refine dy_pc (ho.2.1 k) ?_
    refine nm_e ?_
    refine ⟨_, dy_42 (r := r) (ho.2.1 k) (by omega) (by omega) ?_ (dt_kd (T k)).length pl _ _ (Nat.le_refl _) ?_ rfl ?_⟩
    · intro pl' hS'
      rw [← e1] at hS' ⊢
      exact ih (k + 1) pl' (by omega) hS'
    · rw [List.drop_length]; exact hS.2
    · rw [List.drop_length]; rfl
theorem dy_due {post : Int32 → SY → Prop} {ys yv yf : Int32} {nt ye no ou co pl : Nat → Int32} {T : Nat → Nat} {n : Nat} (ho : dt_ok T n) (hp : ∀ pl', post (dk_du (dt_st T n)) (nI n, ys, yv, yf, (fun j => nI (T j)), nt, ye, no, ou, co, pl')) : wpY_due post (nI n, ys, yv, yf, (fun j => nI (T j)), nt, ye, no, ou, co, pl) := by
  unfold wpY_due
  refine nm_e ⟨_, dy_11 ho hp n 0 _ (by omega) ⟨?_, True.intro⟩⟩
  exact pk_us.trans rfl

/-! the queries -/
theorem dx_al5 {post : Int32 → Prop} {m : Int32} (hp : post (dv_f true m 16)) : ∀ d s, s + d = 16 → wX_setInAll_5 post m (d + 1) (dv_f true m s) (nI s) := by
  intro d
  induction d with
  | zero =>
    intro s h
    obtain rfl : s = 16 := by omega
    exact br_t (by decide) hp
  | succ d ih =>
    intro s h
    have hN := ih (s + 1) (by omega)
    have e : dv_f true m (s + 1) = if bt m s = true then dv_f true m s &&& nI s else dv_f true m s := rfl
    refine br_f (nI_ge (b := 16) (by omega) (by omega)) ?_
    by_cases hb : bt m s = true
    · rw [e, if_pos hb] at hN
      exact br_t ((db_u m (by omega)).mpr hb) (nm_e (nm_r (nI_1 s) hN))
    · rw [e, if_neg hb] at hN
      exact br_f (fun z => hb ((db_u m (by omega)).mp z)) (nm_r (nI_1 s) hN)
theorem dx_all {post : Int32 → Prop} {m : Int32} (hp : post (dv_f true m 16)) : wpX_setInAll post m := ⟨17, dx_al5 hp 16 0 (by omega)⟩
theorem dx_so4 {post : Int32 → Prop} {m : Int32} (hp : post (dv_f false m 16)) : ∀ d s, s + d = 16 → wX_setInSome_4 post m (d + 1) (dv_f false m s) (nI s) := by
  intro d
  induction d with
  | zero =>
    intro s h
    obtain rfl : s = 16 := by omega
    exact br_t (by decide) hp
  | succ d ih =>
    intro s h
    have hN := ih (s + 1) (by omega)
    have e : dv_f false m (s + 1) = if bt m s = true then dv_f false m s ||| nI s else dv_f false m s := rfl
    refine br_f (nI_ge (b := 16) (by omega) (by omega)) ?_
    by_cases hb : bt m s = true
    · rw [e, if_pos hb] at hN
      exact br_t ((db_u m (by omega)).mpr hb) (nm_e (nm_r (nI_1 s) hN))
    · rw [e, if_neg hb] at hN
      exact br_f (fun z => hb ((db_u m (by omega)).mp z)) (nm_r (nI_1 s) hN)
theorem dx_some {post : Int32 → Prop} {m : Int32} (hp : post (dv_f false m 16)) : wpX_setInSome post m := ⟨17, dx_so4 hp 16 0 (by omega)⟩
theorem dy_ov14 {post : Int32 → Prop} {sz ys yv yf : Int32} {tk nt ye no ou co pl : Nat → Int32} {k : Nat} {al : Bool} (hk : k < 23) (hp : post (dv_f al (co k) 16)) : ∀ d s, s + d = 16 → wY_over_14 post (nI k) (db_i al) sz ys yv yf tk nt ye no ou co pl (d + 1) (dv_f al (co k) s) (nI s) := by
  intro d
  induction d with
  | zero =>
    intro s h
    obtain rfl : s = 16 := by omega
    exact br_t (by decide) hp
  | succ d ih =>
    intro s h
    have hN := ih (s + 1) (by omega)
    have e : dv_f al (co k) (s + 1) = if bt (co k) s = true then (if al = true then dv_f al (co k) s &&& nI s else dv_f al (co k) s ||| nI s) else dv_f al (co k) s := rfl
    refine br_f (nI_ge (b := 16) (by omega) (by omega)) ⟨pk_in k 23 hk, ?_⟩
    rw [nI_clamp (n := k) (by omega)]
    by_cases hb : bt (co k) s = true
    · rw [e, if_pos hb] at hN
      refine br_t ((db_s _ (by omega)).mpr hb) ?_
      cases al with
      | false => exact br_t rfl (nm_e (nm_r (nI_1 s) hN))
      | true => exact br_f (by decide) (nm_e (nm_r (nI_1 s) hN))
    · rw [e, if_neg hb] at hN
      exact br_f (fun z => hb ((db_s _ (by omega)).mp z)) (nm_r (nI_1 s) hN)
theorem dy_over {post : Int32 → Prop} {sz ys yv yf : Int32} {tk nt ye no ou co pl : Nat → Int32} {k : Nat} {al : Bool} (hk : k < 23) (hp : post (dv_f al (co k) 16)) : wpY_over post (sz, ys, yv, yf, tk, nt, ye, no, ou, co, pl) (nI k) (db_i al) := by
  unfold wpY_over
  cases al with
  | false => exact br_t rfl ⟨17, dy_ov14 (al := false) hk hp 16 0 (by omega)⟩
  | true => exact br_f (by decide) ⟨17, dy_ov14 (al := true) hk hp 16 0 (by omega)⟩
/-! visited -/
def dq_v (a : Nat → Int32) (k : Nat) : Bool := !(decide (a k = 0))
theorem dr_congr {Q Q' : Nat → Bool} : ∀ n, (∀ k, k < n → Q k = Q' k) → dr_f Q n = dr_f Q' n := by
  intro n
  induction n with
  | zero => intro _; rfl
  | succ n ih =>
    intro h
    show (if Q n = true then dr_f Q n ||| _ else dr_f Q n) = (if Q' n = true then dr_f Q' n ||| _ else dr_f Q' n)
    rw [h n (by omega), ih (fun k hk => h k (by omega))]
theorem dr_s (Q : Nat → Bool) (k : Nat) : dr_f Q (k + 1) = if Q k = true then dr_f Q k ||| ((1 : Int32) <<< (nI k &&& 31)) else dr_f Q k := rfl
theorem dr_ys (q : Nat → Bool) (c : Nat) : dr_y q (c + 1) = if q c = true then dr_y q c ||| ((1 : Int32) <<< (nI (c / 16) &&& 31)) else dr_y q c := rfl
theorem dx_vi {post : Int32 → Prop} {oc rs rv rf : Int32} {tk op bh aT aF aB sA : Nat → Int32} {n : Nat} (hn : n ≤ 22) (hp : post (dr_f (dq_v sA) n)) : ∀ d k, k + d = n → wX_visited_13 post (nI n) oc rs rv rf tk op bh aT aF aB sA (d + 1) (dr_f (dq_v sA) k) (nI k) := by
  intro d
  induction d with
  | zero =>
    intro k h
    obtain rfl : k = n := by omega
    exact br_t (nI_le (Nat.le_refl _) (by omega)) hp
  | succ d ih =>
    intro k h
    have hN := ih (k + 1) (by omega)
    rw [dr_s] at hN
    refine br_f (nI_ge (by omega) (by omega)) ⟨pk_in k 23 (by omega), ?_⟩
    rw [nI_clamp (n := k) (by omega)]
    refine br_c (fun z => ?_) (fun z => ?_)
    · rw [if_neg (by rw [dq_v, decide_eq_true z]; decide)] at hN
      exact nm_r (nI_1 k) hN
    · rw [if_pos (by rw [dq_v, decide_eq_false z]; rfl)] at hN
      exact nm_e (nm_r (nI_1 k) hN)
theorem dy_vi {post : Int32 → SY → Prop} {ys yv yf : Int32} {tk nt ye no ou co pl : Nat → Int32} {n : Nat} (hn : n ≤ 22) (hp : post (dr_f (dq_v co) n) (nI n, ys, yv, yf, tk, nt, ye, no, ou, co, pl)) : ∀ d k, k + d = n → wY_visited_13 post (nI n) ys yv yf tk nt ye no ou co pl (d + 1) (dr_f (dq_v co) k) (nI k) := by
  intro d
  induction d with
  | zero =>
    intro k h
    obtain rfl : k = n := by omega
    exact br_t (nI_le (Nat.le_refl _) (by omega)) hp
  | succ d ih =>
    intro k h
    have hN := ih (k + 1) (by omega)
    rw [dr_s] at hN
    refine br_f (nI_ge (by omega) (by omega)) ⟨pk_in k 23 (by omega), ?_⟩
    rw [nI_clamp (n := k) (by omega)]
    refine br_c (fun z => ?_) (fun z => ?_)
    · rw [if_neg (by rw [dq_v, decide_eq_true z]; decide)] at hN
      exact nm_r (Int32.or_zero) (nm_r (nI_1 k) hN)
    · rw [if_pos (by rw [dq_v, decide_eq_false z]; rfl)] at hN
      exact nm_e (nm_r (nI_1 k) hN)
/-! badUses and secondSets -/
def dq_b (T : Nat → Nat) (a : Nat → Int32) (k : Nat) : Bool := dt_use (T k) && !(bt (dv_f true (a k) 16) (T k % 4))
def dq_by (T : Nat → Nat) (a : Nat → Int32) (c : Nat) : Bool := dt_use (T (c / 16)) && (!(bt (nI (c % 16)) (T (c / 16) % 4)) && bt (a (c / 16)) (c % 16))
def dq_s (T : Nat → Nat) (a : Nat → Int32) (k : Nat) : Bool := dt_set (T k) && bt (dv_f false (a k) 16) (T k % 4)
def dq_sy (T : Nat → Nat) (a : Nat → Int32) (c : Nat) : Bool := dt_set (T (c / 16)) && (bt (nI (c % 16)) (T (c / 16) % 4) && bt (a (c / 16)) (c % 16))
theorem dq_dm {k s : Nat} (hs : s < 16) : (16 * k + s) / 16 = k ∧ (16 * k + s) % 16 = s := ⟨by omega, by omega⟩
theorem dq_be {T : Nat → Nat} {a : Nat → Int32} {n : Nat} (hn : n ≤ 22) : dr_y (dq_by T a) (16 * n) = dr_f (dq_b T a) n := by
  refine dr_eq hn (fun k _ => ?_)
  have hv : T k % 4 < 4 := Nat.mod_lt _ (by decide)
  have h := dv_t (a k) hv 16
  unfold dq_b
  rw [Bool.and_eq_true]
  constructor
  · intro ⟨h1, h2⟩
    have h2' : ¬ bt (dv_f true (a k) 16) (T k % 4) = true := by
      intro z; rw [z] at h2; cases h2
    rw [h] at h2'
    obtain ⟨s, hs⟩ := Classical.not_forall.mp h2'
    obtain ⟨h16, hs⟩ := Classical.not_imp.mp hs
    obtain ⟨hb, hs⟩ := Classical.not_imp.mp hs
    refine ⟨s, h16, ?_⟩
    unfold dq_by
    rw [(dq_dm h16).1, (dq_dm h16).2, h1, hb]
    cases e : bt (nI s) (T k % 4)
    · rfl
    · exact absurd e hs
  · intro ⟨s, h16, hq⟩
    unfold dq_by at hq
    rw [(dq_dm h16).1, (dq_dm h16).2, Bool.and_eq_true, Bool.and_eq_true] at hq
    obtain ⟨h1, h2, h3⟩ := hq
    refine ⟨h1, ?_⟩
    cases e : bt (dv_f true (a k) 16) (T k % 4)
    · rfl
    · rw [h.mp e s h16 h3] at h2; cases h2
theorem dq_se {T : Nat → Nat} {a : Nat → Int32} {n : Nat} (hn : n ≤ 22) : dr_y (dq_sy T a) (16 * n) = dr_f (dq_s T a) n := by
  refine dr_eq hn (fun k _ => ?_)
  have h := dv_s (a k) (T k % 4) 16
  unfold dq_s
  rw [Bool.and_eq_true, h]
  constructor
  · intro ⟨h1, s, h16, hb, hs⟩
    refine ⟨s, h16, ?_⟩
    unfold dq_sy
    rw [(dq_dm h16).1, (dq_dm h16).2, h1, hb, hs]
    rfl
  · intro ⟨s, h16, hq⟩
    unfold dq_sy at hq
    rw [(dq_dm h16).1, (dq_dm h16).2, Bool.and_eq_true, Bool.and_eq_true] at hq
    exact ⟨hq.1, s, h16, hq.2.2, hq.2.1⟩
theorem db_va (z : Int32) {t : Nat} (ht : t < 32) : (z &&& ((1 : Int32) <<< ((nI t &&& 3) &&& 31))) = 0 ↔ bt z (t % 4) = false := by
  rw [db_3 t ht]
  exact db_and0 z (by omega)
theorem db_vs0 (z : Int32) {t : Nat} (ht : t < 32) : ((z >>> ((nI t &&& 3) &&& 31)) &&& 1) = 0 ↔ bt z (t % 4) = false := by
  rw [db_3 t ht]
  exact db_s0 z (by omega)
theorem db_vs1 (z : Int32) {t : Nat} (ht : t < 32) : ((z >>> ((nI t &&& 3) &&& 31)) &&& 1) = 1 ↔ bt z (t % 4) = true := by
  rw [db_3 t ht]
  exact db_s z (by omega)
theorem db_f {b : Bool} (h : ¬ b = false) : b = true := by cases b <;> simp_all
theorem db_t {b : Bool} (h : ¬ b = true) : b = false := by cases b <;> simp_all
theorem dx_bu {post : Int32 → Prop} {oc rs rv rf : Int32} {op bh aT aF aB sA : Nat → Int32} {T : Nat → Nat} {n : Nat} (hn : n ≤ 22) (hT : ∀ k, T k < 32) (hp : post (dr_f (dq_b T sA) n)) : ∀ d k, k + d = n → wX_badUses_13 post (nI n) oc rs rv rf (fun j => nI (T j)) op bh aT aF aB sA (d + 1) (dr_f (dq_b T sA) k) (nI k) := by
  intro d
  induction d with
  | zero =>
    intro k h
    obtain rfl : k = n := by omega
    exact br_t (nI_le (Nat.le_refl _) (by omega)) hp
  | succ d ih =>
    intro k h
    have hN := ih (k + 1) (by omega)
    rw [dr_s] at hN
    refine br_f (nI_ge (by omega) (by omega)) ⟨pk_in k 23 (by omega), ?_⟩
    rw [nI_clamp (n := k) (by omega)]
    refine dx_all ⟨pk_in k 22 (by omega), dx_us (hT k) ?_⟩
    cases hu : dt_use (T k) with
    | false =>
      rw [if_neg (by unfold dq_b; rw [hu]; simp)] at hN
      exact br_t rfl (nm_r (nI_1 k) hN)
    | true =>
      refine br_f (by decide) ⟨pk_in k 22 (by omega), ?_⟩
      refine br_c (fun z => ?_) (fun z => ?_)
      · rw [if_pos (by unfold dq_b; rw [hu, (db_va _ (hT k)).mp z]; rfl)] at hN
        exact nm_e (nm_r (nI_1 k) hN)
      · rw [if_neg (by unfold dq_b; rw [hu, db_f (fun y => z ((db_va _ (hT k)).mpr y))]; decide)] at hN
        exact nm_r (nI_1 k) hN
theorem dy_buJ {post : Int32 → SY → Prop} {J : Int32 → Int32 → Prop} {sz ys yv yf : Int32} {tk nt ye no ou co pl : Nat → Int32} {x1 x2 : Int32} {c : Nat} (hc : c < 352) (hp : J (if bt (co (c / 16)) (c % 16) = true then x1 ||| ((1 : Int32) <<< (nI (c / 16) &&& 31)) else x1) (nI (c + 1))) : wY_badUses_68 post J x1 x2 (nI c) (nI (c / 16)) 1 sz ys yv yf tk nt ye no ou co pl := by
  unfold wY_badUses_68
  have e2 : nI c - nI c / (16 : Int32) * (16 : Int32) = nI (c % 16) := pk_rem (d := 16) (by omega) (by decide) (by decide)
  refine br_f (by decide) ⟨pk_in (c / 16) 23 (by omega), by decide, ?_⟩
  rw [e2, nI_clamp (n := c / 16) (by omega)]
  by_cases hb : bt (co (c / 16)) (c % 16) = true
  · rw [if_pos hb] at hp
    exact br_t ((db_s _ (by omega)).mpr hb) (nm_e (nm_r (nI_1 c) hp))
  · rw [if_neg hb] at hp
    exact br_f (fun z => hb ((db_s _ (by omega)).mp z)) (nm_r (nI_1 c) hp)
theorem dy_bu {post : Int32 → SY → Prop} {ys yv yf : Int32} {nt ye no ou co pl : Nat → Int32} {T : Nat → Nat} {n : Nat} (hn : n ≤ 22) (hT : ∀ k, T k < 32) (hp : post (dr_y (dq_by T co) (16 * n)) (nI n, ys, yv, yf, (fun j => nI (T j)), nt, ye, no, ou, co, pl)) : ∀ d c, c + d = 16 * n → wY_badUses_9 post 1 (nI n) ys yv yf (fun j => nI (T j)) nt ye no ou co pl (d + 1) (dr_y (dq_by T co) c) (nI c) := by
  have e16 : (16 : Int32) * nI n = nI (16 * n) := pk_mul 16 n
  have ne : ¬ (16 : Int32) = 0 := by decide
  intro d
  induction d with
  | zero =>
    intro c h
    obtain rfl : c = 16 * n := by omega
    exact br_t (by rw [e16]; exact nI_le (Nat.le_refl _) (by omega)) hp
  | succ d ih =>
    intro c h
    have hN := ih (c + 1) (by omega)
    rw [dr_ys] at hN
    have e1 : nI c / (16 : Int32) = nI (c / 16) := pk_div (d := 16) (by omega) (by decide) (by decide)
    have e2 : nI c - nI c / (16 : Int32) * (16 : Int32) = nI (c % 16) := pk_rem (d := 16) (by omega) (by decide) (by decide)
    refine br_f (by rw [e16]; exact nI_ge (by omega) (by omega)) (br_f (by decide) ⟨ne, nm_r e1 ⟨pk_in (c / 16) 22 (by omega), ?_⟩⟩)
    rw [nI_clamp (n := c / 16) (by omega), e2]
    refine dy_us (hT _) ?_
    cases hu : dt_use (T (c / 16)) with
    | false =>
      rw [if_neg (by unfold dq_by; rw [hu]; simp)] at hN
      exact br_t rfl (br_t rfl (nm_r (nI_1 c) hN))
    | true =>
      refine br_f (by decide) ⟨ne, pk_in (c / 16) 22 (by omega), ?_⟩
      refine br_c (fun z => ?_) (fun z => ?_)
      · refine dy_buJ (by omega) ?_
        have eq : dq_by T co c = bt (co (c / 16)) (c % 16) := by unfold dq_by; rw [hu, (db_vs0 _ (hT _)).mp z]; rfl
        rw [eq] at hN
        exact hN
      · rw [if_neg (by unfold dq_by; rw [hu, db_f (fun y => z ((db_vs0 _ (hT _)).mpr y))]; simp)] at hN
        exact br_t rfl (nm_r (nI_1 c) hN)
theorem dy_bu0 {post : Int32 → SY → Prop} {sz ys yv yf : Int32} {tk nt ye no ou co pl : Nat → Int32} (hp : post 0 (sz, ys, yv, yf, tk, nt, ye, no, ou, co, pl)) : wY_badUses_9 post 0 sz ys yv yf tk nt ye no ou co pl 1 0 0 :=
  br_c (fun _ => hp) (fun _ => br_t rfl hp)
theorem dx_ss {post : Int32 → Prop} {oc rs rv rf : Int32} {op bh aT aF aB sA : Nat → Int32} {T : Nat → Nat} {n : Nat} (hn : n ≤ 22) (hT : ∀ k, T k < 32) (hp : post (dr_f (dq_s T sA) n)) : ∀ d k, k + d = n → wX_secondSets_13 post (nI n) oc rs rv rf (fun j => nI (T j)) op bh aT aF aB sA (d + 1) (dr_f (dq_s T sA) k) (nI k) := by
  intro d
  induction d with
  | zero =>
    intro k h
    obtain rfl : k = n := by omega
    exact br_t (nI_le (Nat.le_refl _) (by omega)) hp
  | succ d ih =>
    intro k h
    have hN := ih (k + 1) (by omega)
    rw [dr_s] at hN
    refine br_f (nI_ge (by omega) (by omega)) ⟨pk_in k 23 (by omega), ?_⟩
    rw [nI_clamp (n := k) (by omega)]
    refine dx_some ⟨pk_in k 22 (by omega), dx_se (hT k) ?_⟩
    cases hu : dt_set (T k) with
    | false =>
      rw [if_neg (by unfold dq_s; rw [hu]; simp)] at hN
      exact br_t rfl (nm_r (nI_1 k) hN)
    | true =>
      refine br_f (by decide) ⟨pk_in k 22 (by omega), ?_⟩
      refine br_c (fun z => ?_) (fun z => ?_)
      · rw [if_neg (by unfold dq_s; rw [hu, (db_va _ (hT k)).mp z]; decide)] at hN
        exact nm_r (nI_1 k) hN
      · rw [if_pos (by unfold dq_s; rw [hu, db_f (fun y => z ((db_va _ (hT k)).mpr y))]; rfl)] at hN
        exact nm_e (nm_r (nI_1 k) hN)
theorem dy_ssJ {post : Int32 → SY → Prop} {J : Int32 → Int32 → Prop} {sz ys yv yf : Int32} {tk nt ye no ou co pl : Nat → Int32} {x1 x2 : Int32} {c : Nat} (hc : c < 352) (hp : J (if bt (co (c / 16)) (c % 16) = true then x1 ||| ((1 : Int32) <<< (nI (c / 16) &&& 31)) else x1) (nI (c + 1))) : wY_secondSets_69 post J x1 x2 (nI c) (nI (c / 16)) 1 sz ys yv yf tk nt ye no ou co pl := by
  unfold wY_secondSets_69
  have e2 : nI c - nI c / (16 : Int32) * (16 : Int32) = nI (c % 16) := pk_rem (d := 16) (by omega) (by decide) (by decide)
  refine br_f (by decide) ⟨pk_in (c / 16) 23 (by omega), by decide, ?_⟩
  rw [e2, nI_clamp (n := c / 16) (by omega)]
  by_cases hb : bt (co (c / 16)) (c % 16) = true
  · rw [if_pos hb] at hp
    exact br_t ((db_s _ (by omega)).mpr hb) (nm_e (nm_r (nI_1 c) hp))
  · rw [if_neg hb] at hp
    exact br_f (fun z => hb ((db_s _ (by omega)).mp z)) (nm_r (nI_1 c) hp)
theorem dy_ss {post : Int32 → SY → Prop} {ys yv yf : Int32} {nt ye no ou co pl : Nat → Int32} {T : Nat → Nat} {n : Nat} (hn : n ≤ 22) (hT : ∀ k, T k < 32) (hp : post (dr_y (dq_sy T co) (16 * n)) (nI n, ys, yv, yf, (fun j => nI (T j)), nt, ye, no, ou, co, pl)) : ∀ d c, c + d = 16 * n → wY_secondSets_9 post 1 (nI n) ys yv yf (fun j => nI (T j)) nt ye no ou co pl (d + 1) (dr_y (dq_sy T co) c) (nI c) := by
  have e16 : (16 : Int32) * nI n = nI (16 * n) := pk_mul 16 n
  have ne : ¬ (16 : Int32) = 0 := by decide
  intro d
  induction d with
  | zero =>
    intro c h
    obtain rfl : c = 16 * n := by omega
    exact br_t (by rw [e16]; exact nI_le (Nat.le_refl _) (by omega)) hp
  | succ d ih =>
    intro c h
    have hN := ih (c + 1) (by omega)
    rw [dr_ys] at hN
    have e1 : nI c / (16 : Int32) = nI (c / 16) := pk_div (d := 16) (by omega) (by decide) (by decide)
    have e2 : nI c - nI c / (16 : Int32) * (16 : Int32) = nI (c % 16) := pk_rem (d := 16) (by omega) (by decide) (by decide)
    refine br_f (by rw [e16]; exact nI_ge (by omega) (by omega)) (br_f (by decide) ⟨ne, nm_r e1 ⟨pk_in (c / 16) 22 (by omega), ?_⟩⟩)
    rw [nI_clamp (n := c / 16) (by omega), e2]
    refine dy_se (hT _) ?_
    cases hu : dt_set (T (c / 16)) with
    | false =>
      rw [if_neg (by unfold dq_sy; rw [hu]; simp)] at hN
      exact br_t rfl (br_t rfl (nm_r (nI_1 c) hN))
    | true =>
      refine br_f (by decide) ⟨ne, pk_in (c / 16) 22 (by omega), ?_⟩
      refine br_c (fun z => ?_) (fun z => ?_)
      · refine dy_ssJ (by omega) ?_
        have eq : dq_sy T co c = bt (co (c / 16)) (c % 16) := by unfold dq_sy; rw [hu, (db_vs1 _ (hT _)).mp z]; rfl
        rw [eq] at hN
        exact hN
      · rw [if_neg (by unfold dq_sy; rw [hu, db_t (fun y => z ((db_vs1 _ (hT _)).mpr y))]; simp)] at hN
        exact br_t rfl (nm_r (nI_1 c) hN)
theorem dy_ss0 {post : Int32 → SY → Prop} {sz ys yv yf : Int32} {tk nt ye no ou co pl : Nat → Int32} (hp : post 0 (sz, ys, yv, yf, tk, nt, ye, no, ou, co, pl)) : wY_secondSets_9 post 0 sz ys yv yf tk nt ye no ou co pl 1 0 0 :=
  br_c (fun _ => hp) (fun _ => br_t rfl hp)

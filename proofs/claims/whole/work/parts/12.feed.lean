/-! the relation -/
def dR (T : Nat → Nat) (n : Nat) (oc : Int32) (op aT aF aB sA : Nat → Int32) : Prop :=
  dt_ok T n ∧ dt_tks T n ∧ dk_S db_i op (dt_st T n) ∧ oc = nI (dt_st T n).length ∧ (dt_st T n = [] → dl_X T n aT aF aB ∧ dm_L n (dt_nx T (dt_L T n)) (dt_af T) sA)
/-- both hold the same tokens and the same last run; X's stack of pending parts is the stack of the tokens; if it is empty, X's links are laid and its settings are the least set -/
def i_Rel (k : Nat) (u : SX) (v : SY) : Prop :=
  ∃ (T : Nat → Nat) (n : Nat) (oc rs rv rf : Int32) (op bh aT aF aB sA nt ye no ou co pl : Nat → Int32),
    u = (nI n, oc, rs, rv, rf, (fun j => nI (T j)), op, bh, aT, aF, aB, sA) ∧ v = (nI n, rs, rv, rf, (fun j => nI (T j)), nt, ye, no, ou, co, pl) ∧ dR T n oc op aT aF aB sA
theorem i_mk {k : Nat} {T : Nat → Nat} {n : Nat} {oc rs rv rf : Int32} {op bh aT aF aB sA nt ye no ou co pl : Nat → Int32} (h : dR T n oc op aT aF aB sA) : i_Rel k (nI n, oc, rs, rv, rf, (fun j => nI (T j)), op, bh, aT, aF, aB, sA) (nI n, rs, rv, rf, (fun j => nI (T j)), nt, ye, no, ou, co, pl) :=
  ⟨T, n, oc, rs, rv, rf, op, bh, aT, aF, aB, sA, nt, ye, no, ou, co, pl, rfl, rfl, h⟩
theorem i_up {k : Nat} {u : SX} {v : SY} (h : i_Rel k u v) : i_Rel (k + 2) u v := h
theorem dR_0 {T : Nat → Nat} (hT : ∀ k, T k < 32) {op aT aF aB sA : Nat → Int32} (hS : dk_S db_i op [false]) : dR T 0 1 op aT aF aB sA :=
  ⟨⟨by decide, hT, fun j hj => absurd hj (Nat.not_lt_zero j)⟩, fun j hj => absurd hj (Nat.not_lt_zero j), hS, rfl, fun z => (by cases z)⟩
theorem i_vc0 : wpX_init (fun u => wpY_init (fun v => i_Rel 0 u v)) := by
  unfold wpX_init
  refine dx_forget (fun op' hS => ?_)
  exact i_mk (k := 0) (T := fun _ => 0) (n := 0) (dR_0 (fun _ => by decide) hS)
theorem i_vc_clear {k : Nat} {u : SX} {v : SY} (I : i_Rel k u v) (hk : k + 2 ≤ 1024) : wpX_clear (fun u' => wpY_clear (fun v' => i_Rel (k + 2) u' v') v) u := by
  obtain ⟨T, n, oc, rs, rv, rf, op, bh, aT, aF, aB, sA, nt, ye, no, ou, co, pl, rfl, rfl, hR⟩ := I
  unfold wpX_clear
  refine dx_forget (fun op' hS => ?_)
  exact i_mk (k := k + 2) (n := 0) (dR_0 hR.1.2.1 hS)
theorem i_vc_length {k : Nat} {u : SX} {v : SY} (I : i_Rel k u v) (hk : k + 2 ≤ 1024) : wpX_length (fun r => wpY_length (fun r' => r' = r ∧ i_Rel (k + 2) u v) v) u := by
  obtain ⟨T, n, oc, rs, rv, rf, op, bh, aT, aF, aB, sA, nt, ye, no, ou, co, pl, rfl, rfl, hR⟩ := I
  exact ⟨rfl, i_mk hR⟩
theorem i_vc_runSet {k : Nat} {u : SX} {v : SY} (I : i_Rel k u v) (hk : k + 2 ≤ 1024) : wpX_runSet (fun r => wpY_runSet (fun r' => r' = r ∧ i_Rel (k + 2) u v) v) u := by
  obtain ⟨T, n, oc, rs, rv, rf, op, bh, aT, aF, aB, sA, nt, ye, no, ou, co, pl, rfl, rfl, hR⟩ := I
  exact ⟨rfl, i_mk hR⟩
theorem i_vc_runVisited {k : Nat} {u : SX} {v : SY} (I : i_Rel k u v) (hk : k + 2 ≤ 1024) : wpX_runVisited (fun r => wpY_runVisited (fun r' => r' = r ∧ i_Rel (k + 2) u v) v) u := by
  obtain ⟨T, n, oc, rs, rv, rf, op, bh, aT, aF, aB, sA, nt, ye, no, ou, co, pl, rfl, rfl, hR⟩ := I
  exact ⟨rfl, i_mk hR⟩
theorem i_vc_runFaults {k : Nat} {u : SX} {v : SY} (I : i_Rel k u v) (hk : k + 2 ≤ 1024) : wpX_runFaults (fun r => wpY_runFaults (fun r' => r' = r ∧ i_Rel (k + 2) u v) v) u := by
  obtain ⟨T, n, oc, rs, rv, rf, op, bh, aT, aF, aB, sA, nt, ye, no, ou, co, pl, rfl, rfl, hR⟩ := I
  exact ⟨rfl, i_mk hR⟩
/-! oc = 0 says that the stack is empty -/
theorem dR_oc {T : Nat → Nat} {n : Nat} (ho : dt_ok T n) : (nI (dt_st T n).length = 0) ↔ dt_st T n = [] := by
  have hl := dt_st_len ho.2.1 n
  have hn := ho.1
  rw [show (0 : Int32) = nI 0 from rfl, nI_eq (by omega) (by omega)]
  exact List.length_eq_zero_iff
theorem i_vc_complete {k : Nat} {u : SX} {v : SY} (I : i_Rel k u v) (hk : k + 2 ≤ 1024) : wpX_complete (fun r => wpY_complete (fun r' v' => r' = r ∧ i_Rel (k + 2) u v') v) u := by
  obtain ⟨T, n, oc, rs, rv, rf, op, bh, aT, aF, aB, sA, nt, ye, no, ou, co, pl, rfl, rfl, hR⟩ := I
  have ho := hR.1
  have e := hR.2.2.2.1
  have hz := dR_oc ho
  unfold wpX_complete
  refine br_c (fun z => ?_) (fun z => ?_)
  · rw [e, hz] at z
    exact dy_complete ho (fun _ pl' => ⟨rfl, i_mk hR⟩) (fun h => absurd z h)
  · rw [e, hz] at z
    exact dy_complete ho (fun h => absurd h z) (fun _ pl' => ⟨rfl, i_mk hR⟩)
/-! feed -/
theorem dv_neg {v : Int32} (h : v < 0) {c : Nat} (hc : c < 2 ^ 31) : v < nI c ∧ ¬ v = nI c := by
  have h2 : v < nI c := by
    rw [Int32.lt_iff_toInt_lt, show (0 : Int32).toInt = 0 from by decide] at h
    rw [Int32.lt_iff_toInt_lt, nI_toInt hc]
    omega
  refine ⟨h2, fun e => ?_⟩
  rw [e] at h2
  exact Int32.lt_irrefl h2
theorem dv_cases (v : Int32) : (∃ t, t < 32 ∧ v = nI t) ∨ v < 0 ∨ ∃ t, 32 ≤ t ∧ t < 2 ^ 31 ∧ v = nI t := by
  by_cases h : v < 0
  · exact Or.inr (Or.inl h)
  · obtain ⟨j, hj, rfl⟩ := nI_of h
    by_cases z : j < 32
    · exact Or.inl ⟨j, z, rfl⟩
    · exact Or.inr (Or.inr ⟨j, by omega, hj, rfl⟩)
theorem dx_tkO {post : Int32 → Prop} {v : Int32} (h : v < 0 ∨ ∃ t, 32 ≤ t ∧ t < 2 ^ 31 ∧ v = nI t) (hp : post 0) : wpX_isToken post v := by
  rcases h with h | ⟨t, h1, h2, rfl⟩
  · exact br_t h hp
  · exact br_f (nI_pos h2) (br_f (nI_ge (a := 31) (by omega) h2) hp)
theorem dy_stO {post : Int32 → Prop} {sz ys yv yf : Int32} {tk nt ye no ou co pl : Nat → Int32} {v : Int32} (h : v < 0 ∨ ∃ t, 32 ≤ t ∧ t < 2 ^ 31 ∧ v = nI t) (hp : post 0) : wpY_statement post (sz, ys, yv, yf, tk, nt, ye, no, ou, co, pl) v := by
  rcases h with h | ⟨t, h1, h2, rfl⟩
  · exact br_f (dv_neg h (c := 0) (by decide)).2 (br_f (dv_neg h (c := 1) (by decide)).2 (br_t (dv_neg h (c := 4) (by decide)).1 (br_t (dv_neg h (c := 8) (by decide)).1 hp)))
  · exact br_f (nI_ne0 (by omega) h2) (pk_eq t 1 (fun z => absurd z (by omega)) (fun _ => br_f (nI_nlt (b := 4) (by omega) h2) (br_f (nI_ge (a := 6) (by omega) h2) (br_f (nI_nlt (b := 8) (by omega) h2) (br_t (nI_lt (a := 15) (by omega) h2) hp)))))
theorem dy_coO {post : Int32 → Prop} {sz ys yv yf : Int32} {tk nt ye no ou co pl : Nat → Int32} {v : Int32} (h : v < 0 ∨ ∃ t, 32 ≤ t ∧ t < 2 ^ 31 ∧ v = nI t) (hp : post 0) : wpY_condition post (sz, ys, yv, yf, tk, nt, ye, no, ou, co, pl) v := by
  rcases h with h | ⟨t, h1, h2, rfl⟩
  · exact br_t (dv_neg h (c := 16) (by decide)).1 (br_t (dv_neg h (c := 24) (by decide)).1 hp)
  · exact br_f (nI_nlt (b := 16) (by omega) h2) (br_f (nI_ge (a := 22) (by omega) h2) (br_f (nI_nlt (b := 24) (by omega) h2) (br_t (nI_lt (a := 31) (by omega) h2) hp)))
def dt_u (T : Nat → Nat) (n t : Nat) : Nat → Nat := fun j => if j = n then t else T j
theorem dt_uT (T : Nat → Nat) (n t : Nat) : upd (fun j => nI (T j)) n (nI t) = fun j => nI (dt_u T n t j) := by
  funext j
  unfold dt_u
  by_cases e : j = n
  · subst e; rw [if_pos rfl]; exact pk_us
  · rw [if_neg e]; exact pk_un e
theorem dt_us {T : Nat → Nat} {n t : Nat} : dt_u T n t n = t := if_pos rfl
theorem dt_un {T : Nat → Nat} {n t j : Nat} (h : j ≠ n) : dt_u T n t j = T j := if_neg h
theorem dt_ust {T : Nat → Nat} {n t j : Nat} (h : j ≤ n) : dt_st (dt_u T n t) j = dt_st T j := dt_st_congr j (fun i hi => dt_un (by omega))
theorem dt_ust1 {T : Nat → Nat} {n t : Nat} {b : Bool} {r : List Bool} (h : dt_st T n = b :: r) : dt_st (dt_u T n t) (n + 1) = dt_kd t ++ r := by
  show dt_kd (dt_u T n t n) ++ (dt_st (dt_u T n t) n).tail = _
  rw [dt_us, dt_ust (Nat.le_refl n), h]
  rfl
theorem dt_uok {T : Nat → Nat} {n t : Nat} {r : List Bool} (ho : dt_ok T n) (hn : n < 22) (ht : t < 32) (h : dt_st T n = dt_c t :: r) : dt_ok (dt_u T n t) (n + 1) := by
  refine ⟨hn, fun k => ?_, fun j hj => ?_⟩
  · by_cases e : k = n
    · subst e; rw [dt_us]; exact ht
    · rw [dt_un e]; exact ho.2.1 k
  · rw [dt_ust (by omega)]
    by_cases e : j = n
    · subst e; rw [dt_us]; exact ⟨r, h⟩
    · rw [dt_un e]; exact ho.2.2 j (by omega)
theorem dt_utk {T : Nat → Nat} {n t : Nat} (h : dt_tks T n) (ht : dt_tk t = true) : dt_tks (dt_u T n t) (n + 1) := by
  intro j hj
  by_cases e : j = n
  · subst e; rw [dt_us]; exact ht
  · rw [dt_un e]; exact h j (by omega)
theorem dk_n1 {r : List Bool} : ¬ dk_du (true :: r) = 1 := (by decide : ¬ dk_y true = 1)
theorem dk_n2 {r : List Bool} : ¬ dk_du (false :: r) = 2 := (by decide : ¬ dk_y false = 2)
theorem dy_49 {post : Int32 → SY → Prop} {ys yv yf : Int32} {nt ye no ou co pl : Nat → Int32} {T : Nat → Nat} {n t : Nat} (hn : n < 22) (hp : post (nI (n + 1)) (nI (n + 1), ys, yv, yf, (fun j => nI (dt_u T n t j)), nt, ye, no, ou, co, pl)) : wY_feed_49 post (nI t) (nI n) ys yv yf (fun j => nI (T j)) nt ye no ou co pl := by
  unfold wY_feed_49
  exact ⟨pk_in n 22 hn, nm_r (by rw [nI_clamp (n := n) (by omega), dt_uT]) (nm_r (nI_1 n) hp)⟩
/-- Y's feed of a token that does not fit -/
theorem dy_feedN {post : Int32 → SY → Prop} {ys yv yf : Int32} {nt ye no ou co pl : Nat → Int32} {T : Nat → Nat} {n : Nat} {b : Bool} {r : List Bool} {v : Int32} (ho : dt_ok T n) (hn : n < 22) (h : dt_st T n = b :: r) (h0 : b = false → ∀ {P : Int32 → Prop} {pl}, P 0 → wpY_statement P (nI n, ys, yv, yf, (fun j => nI (T j)), nt, ye, no, ou, co, pl) v) (h1 : b = true → ∀ {P : Int32 → Prop} {pl}, P 0 → wpY_condition P (nI n, ys, yv, yf, (fun j => nI (T j)), nt, ye, no, ou, co, pl) v)
    (hp : ∀ pl, post (-1) (nI n, ys, yv, yf, (fun j => nI (T j)), nt, ye, no, ou, co, pl)) : wpY_feed post (nI n, ys, yv, yf, (fun j => nI (T j)), nt, ye, no, ou, co, pl) v := by
  unfold wpY_feed
  refine dy_due ho (fun pl' => ?_)
  rw [h]
  refine br_f (nI_ge (b := 22) hn (by decide)) (br_f dk_ne ?_)
  cases b with
  | false =>
    refine br_t rfl (h0 rfl ?_)
    exact br_t rfl (hp pl')
  | true =>
    refine br_f dk_n1 ?_
    unfold wY_feed_34
    refine br_t rfl (h1 rfl ?_)
    exact br_t rfl (hp pl')
theorem dy_feedF {post : Int32 → SY → Prop} {ys yv yf : Int32} {nt ye no ou co pl : Nat → Int32} {T : Nat → Nat} {n : Nat} {v : Int32} (ho : dt_ok T n) (h : n = 22 ∨ dt_st T n = []) (hp : ∀ pl, post (-2) (nI n, ys, yv, yf, (fun j => nI (T j)), nt, ye, no, ou, co, pl)) : wpY_feed post (nI n, ys, yv, yf, (fun j => nI (T j)), nt, ye, no, ou, co, pl) v := by
  unfold wpY_feed
  have hn := ho.1
  refine dy_due ho (fun pl' => ?_)
  refine pk_le 22 n (fun z => hp pl') (fun z => ?_)
  rcases h with h | h
  · omega
  · rw [h]
    exact br_t rfl (hp pl')
theorem dy_feedY {post : Int32 → SY → Prop} {ys yv yf : Int32} {nt ye no ou co pl : Nat → Int32} {T : Nat → Nat} {n t : Nat} {r : List Bool} (ho : dt_ok T n) (hn : n < 22) (ht : t < 32) (htk : dt_tk t = true) (h : dt_st T n = dt_c t :: r) (hp : ∀ pl, post (nI (n + 1)) (nI (n + 1), ys, yv, yf, (fun j => nI (dt_u T n t j)), nt, ye, no, ou, co, pl)) : wpY_feed post (nI n, ys, yv, yf, (fun j => nI (T j)), nt, ye, no, ou, co, pl) (nI t) := by
  unfold wpY_feed
  refine dy_due ho (fun pl' => ?_)
  rw [h]
  refine br_f (nI_ge (b := 22) hn (by decide)) (br_f dk_ne ?_)
  cases e : dt_c t with
  | false =>
    refine br_t rfl (dy_st ht ?_)
    rw [e, htk]
    refine br_f (by decide) ?_
    unfold wY_feed_34
    exact br_f dk_n2 (dy_49 hn (hp pl'))
  | true =>
    refine br_f dk_n1 ?_
    unfold wY_feed_34
    refine br_t rfl (dy_co ht ?_)
    rw [e, htk]
    exact br_f (by decide) (dy_49 hn (hp pl'))
theorem i_vc_feed {k : Nat} {u : SX} {v : SY} (I : i_Rel k u v) (hk : k + 2 ≤ 1024) (v1 : Int32) : wpX_feed (fun r u' => wpY_feed (fun r' v' => r' = r ∧ i_Rel (k + 2) u' v') v v1) u v1 := by
  obtain ⟨T, n, oc, rs, rv, rf, op, bh, aT, aF, aB, sA, nt, ye, no, ou, co, pl, rfl, rfl, hR⟩ := I
  obtain ⟨ho, htk, hS, rfl, hL⟩ := hR
  have hR : dR T n (nI (dt_st T n).length) op aT aF aB sA := ⟨ho, htk, hS, rfl, hL⟩
  have hn := ho.1
  have hl := dt_st_len ho.2.1 n
  unfold wpX_feed
  refine pk_le 22 n (fun z => dy_feedF ho (Or.inl (by omega)) (fun pl' => ⟨rfl, i_mk hR⟩)) (fun z => ?_)
  refine br_c (fun z0 => dy_feedF ho (Or.inr ((dR_oc ho).mp z0)) (fun pl' => ⟨rfl, i_mk hR⟩)) (fun z0 => ?_)
  cases hst : dt_st T n with
  | nil => exact absurd ((dR_oc ho).mpr hst) z0
  | cons b r =>
    rw [hst] at hl
    have hl' : r.length + 1 ≤ 1 + 2 * n := hl
    have ep : nI (b :: r).length - 1 = nI r.length := nI_pred r.length
    have hS' := hS
    rw [hst] at hS'
    rcases dv_cases v1 with ⟨t, ht, rfl⟩ | hv
    · refine dx_tk ht ?_
      cases htt : dt_tk t with
      | false =>
        refine br_t rfl (dy_feedN ho z hst (fun _ P pl' h => ?_) (fun _ P pl' h => ?_) (fun pl' => ⟨rfl, ?_⟩))
        · exact dy_st ht (by rw [htt, Bool.and_false]; exact h)
        · exact dy_co ht (by rw [htt, Bool.and_false]; exact h)
        · rw [← hst]; exact i_mk hR
      | true =>
        refine br_f (by decide) (dx_ic ht ?_)
        rw [ep]
        refine ⟨pk_in r.length 45 (by omega), ?_⟩
        rw [nI_clamp (n := r.length) (by omega), hS'.1]
        refine br_c (fun zc => ?_) (fun zc => ?_)
        · have hc : dt_c t = b := by
            revert zc
            cases dt_c t <;> cases b <;> decide
          subst hc
          have ho' := dt_uok ho z ht hst
          have htk' := dt_utk htk htt
          have es := dt_ust1 (t := t) hst
          have hl1 := dt_st_len ho'.2.1 (n + 1)
          rw [es] at hl1
          refine dx_append ht z hS' (by omega) (fun op' hS2 => ?_)
          rw [← es] at hS2 ⊢
          rw [dt_uT]
          refine br_c (fun z1 => ?_) (fun z1 => ?_)
          · have hc' := (dR_oc ho').mp z1
            refine dx_linkParts ho' hc' (Nat.succ_pos n) (fun bh' aT' aF' aB' hX => ?_)
            refine dx_fw ho' hc' hX (fun sA' hM => ?_)
            exact dy_feedY ho z ht htt hst (fun pl' => ⟨rfl, i_mk ⟨ho', htk', hS2, rfl, fun _ => ⟨hX, hM⟩⟩⟩)
          · exact dy_feedY ho z ht htt hst (fun pl' => ⟨rfl, i_mk ⟨ho', htk', hS2, rfl, fun q => absurd ((dR_oc ho').mpr q) z1⟩⟩)
        · have hc : dt_c t = !b := by
            revert zc
            cases dt_c t <;> cases b <;> decide
          refine dy_feedN ho z hst (fun eb P pl' h => ?_) (fun eb P pl' h => ?_) (fun pl' => ⟨rfl, ?_⟩)
          · exact dy_st ht (by rw [hc, eb]; exact h)
          · exact dy_co ht (by rw [hc, eb]; exact h)
          · rw [← hst]; exact i_mk hR
    · refine dx_tkO hv (br_t rfl ?_)
      refine dy_feedN ho z hst (fun _ P pl' h => dy_stO hv h) (fun _ P pl' h => dy_coO hv h) (fun pl' => ⟨rfl, ?_⟩)
      rw [← hst]; exact i_mk hR
/-! back -/
theorem dx_b29 {post : Int32 → SX → Prop} {rs rv rf : Int32} {bh aT aF aB sA : Nat → Int32} {T : Nat → Nat} {m : Nat} {last : Int32} (ho : dt_ok T m) (hp : ∀ op, dk_S db_i op (dt_st T m) → post last (nI m, nI (dt_st T m).length, rs, rv, rf, (fun j => nI (T j)), op, bh, aT, aF, aB, sA)) :
    ∀ d i, i + d = m → ∀ op, dk_S db_i op (dt_st T i) → wX_back_29 post (nI m) last (d + 1) (nI i) (nI i) (nI (dt_st T i).length) rs rv rf (fun j => nI (T j)) op bh aT aF aB sA := by
  have hm := ho.1
  intro d
  induction d with
  | zero =>
    intro i hi op hS
    obtain rfl : i = m := by omega
    exact br_t (nI_le (Nat.le_refl _) (by omega)) (hp op hS)
  | succ d ih =>
    intro i hi op hS
    refine br_f (nI_ge (by omega) (by omega)) ⟨pk_in i 22 (by omega), ?_⟩
    rw [nI_clamp (n := i) (by omega)]
    obtain ⟨r, hr⟩ := ho.2.2 i (by omega)
    have es : dt_st T (i + 1) = dt_kd (T i) ++ r := by
      show dt_kd (T i) ++ (dt_st T i).tail = _
      rw [hr]; rfl
    have hl1 := dt_st_len ho.2.1 (i + 1)
    rw [es] at hl1
    rw [hr] at hS ⊢
    refine dx_append (ho.2.1 i) (by omega) hS (by omega) (fun op' hS2 => ?_)
    have et : upd (fun j => nI (T j)) i (nI (T i)) = fun j => nI (T j) := by
      funext j
      by_cases e : j = i
      · subst e; exact pk_us
      · exact pk_un e
    rw [← es] at hS2 ⊢
    rw [et]
    exact nm_r (nI_1 i) (ih (i + 1) (by omega) op' hS2)
theorem i_vc_back {k : Nat} {u : SX} {v : SY} (I : i_Rel k u v) (hk : k + 2 ≤ 1024) : wpX_back (fun r u' => wpY_back (fun r' v' => r' = r ∧ i_Rel (k + 2) u' v') v) u := by
  obtain ⟨T, n, oc, rs, rv, rf, op, bh, aT, aF, aB, sA, nt, ye, no, ou, co, pl, rfl, rfl, hR⟩ := I
  have ho := hR.1
  have hn := ho.1
  unfold wpX_back
  cases n with
  | zero => exact br_t rfl (br_t rfl ⟨rfl, i_mk hR⟩)
  | succ m =>
    have hne : ¬ nI (m + 1) = 0 := nI_ne0 (Nat.succ_pos m) (by omega)
    refine br_f hne (nm_r (nI_pred m) ⟨pk_in m 22 (by omega), nm_r (e' := nI (T m)) (by rw [nI_clamp (n := m) (by omega)]) ?_⟩)
    refine dx_forget (fun op' hS => ⟨m + 1, ?_⟩)
    have ho' : dt_ok T m := ⟨by omega, ho.2.1, fun j hj => ho.2.2 j (by omega)⟩
    refine dx_b29 ho' (fun op2 hS2 => ?_) m 0 (by omega) op' hS
    unfold wpY_back
    refine br_f hne (nm_r (nI_pred m) ⟨pk_in m 22 (by omega), ?_, ?_⟩)
    · rw [nI_clamp (n := m) (by omega)]
    · refine i_mk ⟨ho', fun j hj => hR.2.1 j (by omega), hS2, rfl, fun z => ?_⟩
      obtain ⟨r, hr⟩ := ho.2.2 m (Nat.lt_succ_self m)
      rw [z] at hr
      cases hr

/-! Y lays the links -/
theorem dy_fo {post : SY → Prop} {sz ys yv yf : Int32} {tk nt ye no ou co pl : Nat → Int32} {p : Nat} {v1 v2 : Int32} (hp : p < 23) (h : post (sz, ys, yv, yf, tk, upd nt p v1, ye, no, upd ou p v2, co, pl)) : wpY_follow post (sz, ys, yv, yf, tk, nt, ye, no, ou, co, pl) (nI p) v1 v2 := by
  unfold wpY_follow
  have e : (nI p).toNatClampNeg = p := nI_clamp (by omega)
  have i : vp_in (nI p) 23 := pk_in p 23 hp
  exact ⟨i, nm_r (by rw [e]) ⟨i, nm_r (by rw [e]) h⟩⟩
theorem dy_br {post : SY → Prop} {sz ys yv yf : Int32} {tk nt ye no ou co pl : Nat → Int32} {p : Nat} {v1 v2 : Int32} (hp : p < 23) (h : post (sz, ys, yv, yf, tk, nt, upd ye p v1, upd no p v2, ou, co, pl)) : wpY_branch post (sz, ys, yv, yf, tk, nt, ye, no, ou, co, pl) (nI p) v1 v2 := by
  unfold wpY_branch
  have e : (nI p).toNatClampNeg = p := nI_clamp (by omega)
  have i : vp_in (nI p) 23 := pk_in p 23 hp
  exact ⟨i, nm_r (by rw [e]) ⟨i, nm_r (by rw [e]) h⟩⟩
def dl_Y (T : Nat → Nat) (D : Nat → Prop) (L : Nat → Nat × Nat × Nat) (nt ye no ou : Nat → Int32) : Prop :=
  ∀ j, D j → (dt_c (T j) = true → ye j = nI (L j).1 ∧ no j = nI (L j).2.1) ∧ (dt_c (T j) = false → nt j = nI (L j).1 ∧ ou j = nI (L j).2.2)
theorem dl_Ym {T : Nat → Nat} {D D' : Nat → Prop} {L : Nat → Nat × Nat × Nat} {nt ye no ou : Nat → Int32} (h : dl_Y T D L nt ye no ou) (hD : ∀ j, D' j → D j) : dl_Y T D' L nt ye no ou := fun j hj => h j (hD j hj)
theorem dl_Yf {T : Nat → Nat} {D : Nat → Prop} {L : Nat → Nat × Nat × Nat} {nt ye no ou : Nat → Int32} (p : Nat) (v : Nat × Nat × Nat) (hc : dt_c (T p) = false) (h : dl_Y T D L nt ye no ou) : dl_Y T (fun j => D j ∨ j = p) (dt_w L p v) (upd nt p (nI v.1)) ye no (upd ou p (nI v.2.2)) := by
  intro j hj
  by_cases e : j = p
  · subst e
    rw [dt_wS, pk_us, pk_us]
    exact ⟨fun z => (by rw [hc] at z; cases z), fun _ => ⟨rfl, rfl⟩⟩
  · rw [dt_wN e, pk_un e, pk_un e]
    rcases hj with hj | hj
    · exact h j hj
    · exact absurd hj e
theorem dl_Yb {T : Nat → Nat} {D : Nat → Prop} {L : Nat → Nat × Nat × Nat} {nt ye no ou : Nat → Int32} (p : Nat) (v : Nat × Nat × Nat) (hc : dt_c (T p) = true) (h : dl_Y T D L nt ye no ou) : dl_Y T (fun j => D j ∨ j = p) (dt_w L p v) nt (upd ye p (nI v.1)) (upd no p (nI v.2.1)) ou := by
  intro j hj
  by_cases e : j = p
  · subst e
    rw [dt_wS, pk_us, pk_us]
    exact ⟨fun _ => ⟨rfl, rfl⟩, fun z => (by rw [hc] at z; cases z)⟩
  · rw [dt_wN e, pk_un e, pk_un e]
    rcases hj with hj | hj
    · exact h j hj
    · exact absurd hj e
def dl_m (x : Nat) : Nat := if x < 22 then x else 21
theorem dl_m1 {x : Nat} (h : x < 22) : dl_m x = x := if_pos h
theorem dl_mle {x n : Nat} (h : x ≤ n) : dl_m x ≤ n := by
  unfold dl_m
  split <;> omega
theorem dy_37 {post : Int32 → Prop} {sz ys yv yf : Int32} {tk nt ye no ou co pl : Nat → Int32} {p : Nat} (hp : p ≤ 22) (h : post (nI (dl_m p))) : wY_behind_37 post (nI p) sz ys yv yf tk nt ye no ou co pl := by
  unfold wY_behind_37
  refine pk_le 22 p (fun z => ?_) (fun z => ?_)
  · have e : dl_m p = 21 := if_neg (by omega)
    rw [e] at h; exact h
  · have e : dl_m p = p := if_pos (by omega)
    rw [e] at h; exact h
theorem dy_4 {post : Int32 → Prop} {ys yv yf : Int32} {nt ye no ou co pl : Nat → Int32} {T : Nat → Nat} {n : Nat} (hn : n ≤ 22) (hT : ∀ k, T k < 32) :
    ∀ d p o, p + d = n → o + 3 * d ≤ 100 → post (nI (dl_m (dt_q T n o p))) → wY_behind_4 post (nI n) ys yv yf (fun j => nI (T j)) nt ye no ou co pl (d + 1) (nI o) (nI p) := by
  intro d
  induction d with
  | zero =>
    intro p o hp _ h
    rw [dt_qe o (by omega)] at h
    exact pk_le o 0 (fun _ => dy_37 (by omega) h) (fun _ => pk_le n p (fun _ => dy_37 (by omega) h) (fun z => absurd z (by omega)))
  | succ d ih =>
    intro p o hp hb h
    cases o with
    | zero =>
      rw [dt_q0] at h
      exact br_t (by decide) (dy_37 (by omega) h)
    | succ o =>
      rw [dt_qs o (by omega)] at h
      have ha := dt_ar_le (T p) (hT p)
      refine br_f (nI_nle (Nat.succ_pos _) (by omega)) (br_f (nI_ge (by omega) (by omega)) ⟨pk_in p 22 (by omega), ?_⟩)
      rw [nI_clamp (n := p) (by omega)]
      refine dy_pc (hT p) ?_
      refine nm_r (e' := nI (o + dt_ar (T p))) (by rw [nI_pred, nI_add]) (nm_r (nI_1 p) (ih (p + 1) _ (by omega) (by omega) h))
theorem dy_be {post : Int32 → Prop} {ys yv yf : Int32} {nt ye no ou co pl : Nat → Int32} {T : Nat → Nat} {n p : Nat} (ho : dt_ok T n) (hp : p ≤ n) (h : post (nI (dl_m (dt_q T n 1 p)))) : wpY_behind post (nI n, ys, yv, yf, (fun j => nI (T j)), nt, ye, no, ou, co, pl) (nI p) := by
  have hn := ho.1
  unfold wpY_behind
  exact ⟨_, dy_4 hn ho.2.1 (n - p) p 1 (by omega) (by omega) h⟩
theorem dl_qle {T : Nat → Nat} {n p : Nat} : ∀ d o, p + d = n → dt_q T n o p ≤ n := by
  intro d
  induction d generalizing p with
  | zero => intro o h; rw [dt_qe o (by omega)]; omega
  | succ d ih =>
    intro o h
    cases o with
    | zero => rw [dt_q0]; omega
    | succ o => rw [dt_qs o (by omega)]; exact ih _ (by omega)
theorem dy_link {post : SY → Prop} {ys yv yf : Int32} {nt ye no ou co pl : Nat → Int32} {T : Nat → Nat} {n k : Nat} (ho : dt_ok T n) (hc : dt_st T n = []) (hk : k < n) (hA : dl_Y T (dt_wr T n k) (dt_lk T n k) nt ye no ou) (har : 0 < dt_ar (T k))
    (hp : ∀ nt' ye' no' ou', dl_Y T (dt_wr T n (k + 1)) (dt_lk T n (k + 1)) nt' ye' no' ou' → post (nI n, ys, yv, yf, (fun j => nI (T j)), nt', ye', no', ou', co, pl)) : wpY_link post (nI n, ys, yv, yf, (fun j => nI (T j)), nt, ye, no, ou, co, pl) (nI k) := by
  unfold wpY_link
  have hn := ho.1
  have ek : (nI k).toNatClampNeg = k := nI_clamp (by omega)
  have i23 : vp_in (nI k) 23 := pk_in k 23 (by omega)
  have i22 : vp_in (nI k) 22 := pk_in k 22 (by omega)
  have hK := hA k (dt_wrk ho hk)
  obtain ⟨c0, d0⟩ := dt_c1 ho hc hk har
  have q1n : dt_q T n 1 (k + 1) ≤ n := dl_qle (n - (k + 1)) 1 (by omega)
  refine ⟨i22, nm_r (e' := nI (T k)) (by rw [ek]) (nm_r (nI_1 k) (dy_be ho (by omega) (dy_be ho (dl_mle q1n) ?_)))⟩
  rw [ek]
  rcases dt_tc (T k) (ho.2.1 k) with h | h | h | h | h | h | h | h
  · have ar : dt_ar (T k) = 2 := by rw [h]; rfl
    have ekd : dt_kd (T k) = [false, false] := by rw [h]; rfl
    rw [ekd] at d0
    have d0 := (Option.some.inj d0).symm
    have n0 : k ≠ k + 1 := by omega
    obtain ⟨g1, c1, d1⟩ := dt_ch ho hc (i := 1) hk (by omega)
    rw [ekd] at d1
    have d1 := (Option.some.inj d1).symm
    have n1 : k ≠ dt_q T n 1 (k + 1) := by omega
    rw [dl_m1 (show dt_q T n 1 (k + 1) < 22 by omega)]
    obtain ⟨kn, ko⟩ := hK.2 (by rw [h]; rfl)
    have hF := dl_Ym (dl_Yf (dt_q T n 1 (k + 1)) ((dt_lk T n k k).1, (dt_lk T n k k).1, (dt_lk T n k k).2.2) d1 (dl_Yf (k + 1) (dt_q T n 1 (k + 1), dt_q T n 1 (k + 1), (dt_lk T n k k).2.2) d0 hA)) (fun j hj => dt_wr2 ar hj)
    rw [← dt_ls4 h] at hF
    have hF := hp _ _ _ _ hF
    rw [h]
    refine br_t rfl ?_
    rw [ko]
    refine ⟨i23, dy_fo (by omega) ⟨i23, i23, ?_⟩⟩
    dsimp only
    rw [pk_un n0, pk_un n0, kn, ko]
    exact dy_fo (by omega) hF
  · have ar : dt_ar (T k) = 3 := by rw [h]; rfl
    have ekd : dt_kd (T k) = [true, false, false] := by rw [h]; rfl
    rw [ekd] at d0
    have d0 := (Option.some.inj d0).symm
    have n0 : k ≠ k + 1 := by omega
    obtain ⟨g1, c1, d1⟩ := dt_ch ho hc (i := 1) hk (by omega)
    rw [ekd] at d1
    have d1 := (Option.some.inj d1).symm
    have n1 : k ≠ dt_q T n 1 (k + 1) := by omega
    rw [dl_m1 (show dt_q T n 1 (k + 1) < 22 by omega)]
    obtain ⟨g2, c2, d2⟩ := dt_ch ho hc (i := 2) hk (by omega)
    rw [ekd] at d2
    have d2 := (Option.some.inj d2).symm
    rw [dl_q2, dl_m1 (show dt_q T n 2 (k + 1) < 22 by omega)]
    obtain ⟨kn, ko⟩ := hK.2 (by rw [h]; rfl)
    have hF := dl_Ym (dl_Yf (dt_q T n 2 (k + 1)) ((dt_lk T n k k).1, (dt_lk T n k k).1, (dt_lk T n k k).2.2) d2 (dl_Yf (dt_q T n 1 (k + 1)) ((dt_lk T n k k).1, (dt_lk T n k k).1, (dt_lk T n k k).2.2) d1 (dl_Yb (k + 1) (dt_q T n 1 (k + 1), dt_q T n 2 (k + 1), 22) d0 hA))) (fun j hj => dt_wr3 ar hj)
    rw [← dt_ls5 h] at hF
    have hF := hp _ _ _ _ hF
    rw [h]
    refine br_f (by decide) (br_t rfl ?_)
    refine dy_br (by omega) ⟨i23, i23, ?_⟩
    dsimp only
    rw [kn, ko]
    refine dy_fo (by omega) ⟨i23, i23, ?_⟩
    dsimp only
    rw [pk_un n1, pk_un n1, kn, ko]
    exact dy_fo (by omega) hF
  · have ar : dt_ar (T k) = 2 := by rw [h]; rfl
    have ekd : dt_kd (T k) = [true, false] := by rw [h]; rfl
    rw [ekd] at d0
    have d0 := (Option.some.inj d0).symm
    have n0 : k ≠ k + 1 := by omega
    obtain ⟨g1, c1, d1⟩ := dt_ch ho hc (i := 1) hk (by omega)
    rw [ekd] at d1
    have d1 := (Option.some.inj d1).symm
    have n1 : k ≠ dt_q T n 1 (k + 1) := by omega
    rw [dl_m1 (show dt_q T n 1 (k + 1) < 22 by omega)]
    obtain ⟨kn, ko⟩ := hK.2 (by rw [h]; rfl)
    have hF := dl_Ym (dl_Yf (dt_q T n 1 (k + 1)) (k, k, (dt_lk T n k k).1) d1 (dl_Yb (k + 1) (dt_q T n 1 (k + 1), (dt_lk T n k k).1, 22) d0 hA)) (fun j hj => dt_wr2 ar hj)
    rw [← dt_ls6 h] at hF
    have hF := hp _ _ _ _ hF
    rw [h]
    refine br_f (by decide) (br_f (by decide) (br_t rfl ?_))
    rw [kn]
    refine ⟨i23, dy_br (by omega) ⟨i23, ?_⟩⟩
    dsimp only
    rw [kn]
    exact dy_fo (by omega) hF
  · have ar : dt_ar (T k) = 1 := by rw [h]; rfl
    have ekd : dt_kd (T k) = [true] := by rw [h]; rfl
    rw [ekd] at d0
    have d0 := (Option.some.inj d0).symm
    have n0 : k ≠ k + 1 := by omega
    obtain ⟨ky, kz⟩ := hK.1 (by rw [h]; rfl)
    have hF := dl_Ym (dl_Yb (k + 1) ((dt_lk T n k k).2.1, (dt_lk T n k k).1, 22) d0 hA) (fun j hj => dt_wr1 ar hj)
    rw [← dt_ls19 h] at hF
    have hF := hp _ _ _ _ hF
    rw [h]
    refine br_f (by decide) (br_f (by decide) (br_f (by decide) (br_t rfl ?_)))
    rw [ky, kz]
    exact ⟨i23, i23, dy_br (by omega) hF⟩
  · have ar : dt_ar (T k) = 2 := by rw [h]; rfl
    have ekd : dt_kd (T k) = [true, true] := by rw [h]; rfl
    rw [ekd] at d0
    have d0 := (Option.some.inj d0).symm
    have n0 : k ≠ k + 1 := by omega
    obtain ⟨g1, c1, d1⟩ := dt_ch ho hc (i := 1) hk (by omega)
    rw [ekd] at d1
    have d1 := (Option.some.inj d1).symm
    have n1 : k ≠ dt_q T n 1 (k + 1) := by omega
    rw [dl_m1 (show dt_q T n 1 (k + 1) < 22 by omega)]
    obtain ⟨ky, kz⟩ := hK.1 (by rw [h]; rfl)
    have hF := dl_Ym (dl_Yb (dt_q T n 1 (k + 1)) ((dt_lk T n k k).1, (dt_lk T n k k).2.1, 22) d1 (dl_Yb (k + 1) (dt_q T n 1 (k + 1), (dt_lk T n k k).2.1, 22) d0 hA)) (fun j hj => dt_wr2 ar hj)
    rw [← dt_ls20 h] at hF
    have hF := hp _ _ _ _ hF
    rw [h]
    refine br_f (by decide) (br_f (by decide) (br_f (by decide) (br_f (by decide) (br_t rfl ?_))))
    rw [kz]
    refine ⟨i23, dy_br (by omega) ⟨i23, i23, ?_⟩⟩
    dsimp only
    rw [pk_un n0, pk_un n0, ky, kz]
    exact dy_br (by omega) hF
  · have ar : dt_ar (T k) = 2 := by rw [h]; rfl
    have ekd : dt_kd (T k) = [true, true] := by rw [h]; rfl
    rw [ekd] at d0
    have d0 := (Option.some.inj d0).symm
    have n0 : k ≠ k + 1 := by omega
    obtain ⟨g1, c1, d1⟩ := dt_ch ho hc (i := 1) hk (by omega)
    rw [ekd] at d1
    have d1 := (Option.some.inj d1).symm
    have n1 : k ≠ dt_q T n 1 (k + 1) := by omega
    rw [dl_m1 (show dt_q T n 1 (k + 1) < 22 by omega)]
    obtain ⟨ky, kz⟩ := hK.1 (by rw [h]; rfl)
    have hF := dl_Ym (dl_Yb (dt_q T n 1 (k + 1)) ((dt_lk T n k k).1, (dt_lk T n k k).2.1, 22) d1 (dl_Yb (k + 1) ((dt_lk T n k k).1, dt_q T n 1 (k + 1), 22) d0 hA)) (fun j hj => dt_wr2 ar hj)
    rw [← dt_ls21 h] at hF
    have hF := hp _ _ _ _ hF
    rw [h]
    refine br_f (by decide) (br_f (by decide) (br_f (by decide) (br_f (by decide) (br_f (by decide) (br_t rfl ?_)))))
    rw [ky]
    refine ⟨i23, dy_br (by omega) ⟨i23, i23, ?_⟩⟩
    dsimp only
    rw [pk_un n0, pk_un n0, ky, kz]
    exact dy_br (by omega) hF
  · have ar : dt_ar (T k) = 3 := by rw [h]; rfl
    have ekd : dt_kd (T k) = [true, true, true] := by rw [h]; rfl
    rw [ekd] at d0
    have d0 := (Option.some.inj d0).symm
    have n0 : k ≠ k + 1 := by omega
    obtain ⟨g1, c1, d1⟩ := dt_ch ho hc (i := 1) hk (by omega)
    rw [ekd] at d1
    have d1 := (Option.some.inj d1).symm
    have n1 : k ≠ dt_q T n 1 (k + 1) := by omega
    rw [dl_m1 (show dt_q T n 1 (k + 1) < 22 by omega)]
    obtain ⟨g2, c2, d2⟩ := dt_ch ho hc (i := 2) hk (by omega)
    rw [ekd] at d2
    have d2 := (Option.some.inj d2).symm
    rw [dl_q2, dl_m1 (show dt_q T n 2 (k + 1) < 22 by omega)]
    obtain ⟨ky, kz⟩ := hK.1 (by rw [h]; rfl)
    have hF := dl_Ym (dl_Yb (dt_q T n 2 (k + 1)) ((dt_lk T n k k).1, (dt_lk T n k k).2.1, 22) d2 (dl_Yb (dt_q T n 1 (k + 1)) ((dt_lk T n k k).1, (dt_lk T n k k).2.1, 22) d1 (dl_Yb (k + 1) (dt_q T n 1 (k + 1), dt_q T n 2 (k + 1), 22) d0 hA))) (fun j hj => dt_wr3 ar hj)
    rw [← dt_ls22 h] at hF
    have hF := hp _ _ _ _ hF
    rw [h]
    refine br_f (by decide) (br_f (by decide) (br_f (by decide) (br_f (by decide) (br_f (by decide) (br_f (by decide) (br_t rfl ?_))))))
    refine dy_br (by omega) ⟨i23, i23, ?_⟩
    dsimp only
    rw [pk_un n0, pk_un n0, ky, kz]
    refine dy_br (by omega) ⟨i23, i23, ?_⟩
    dsimp only
    rw [pk_un n1, pk_un n1, pk_un n0, pk_un n0, ky, kz]
    exact dy_br (by omega) hF
  · omega
theorem dy_20 {post : Int32 → SY → Prop} {ys yv yf : Int32} {co pl : Nat → Int32} {T : Nat → Nat} {n : Nat} (ho : dt_ok T n) (hc : dt_st T n = [])
    (hp : ∀ nt ye no ou, dl_Y T (dt_wr T n n) (dt_lk T n n) nt ye no ou → post 1 (nI n, ys, yv, yf, (fun j => nI (T j)), nt, ye, no, ou, co, pl)) :
    ∀ (d k : Nat) (nt ye no ou : Nat → Int32), k + d = n → dl_Y T (dt_wr T n k) (dt_lk T n k) nt ye no ou → wY_prepare_20 post (d + 1) (nI k) (nI n) ys yv yf (fun j => nI (T j)) nt ye no ou co pl := by
  have hn := ho.1
  intro d
  induction d with
  | zero =>
    intro k nt ye no ou hk hA
    obtain rfl : k = n := by omega
    exact br_t (nI_le (Nat.le_refl _) (by omega)) (hp nt ye no ou hA)
  | succ d ih =>
    intro k nt ye no ou hk hA
    refine br_f (nI_ge (by omega) (by omega)) ⟨pk_in k 22 (by omega), ?_⟩
    rw [nI_clamp (n := k) (by omega)]
    refine dy_pc (ho.2.1 k) ?_
    have ha := dt_ar_le (T k) (ho.2.1 k)
    refine pk_le (dt_ar (T k)) 0 (fun z => ?_) (fun z => ?_)
    · refine nm_r (nI_1 k) (ih (k + 1) nt ye no ou (by omega) ?_)
      rw [show dt_lk T n (k + 1) = dt_lk T n k from dt_ls0 (by omega)]
      exact dl_Ym hA (fun j hj => dt_wr0 (by omega) hj)
    · exact dy_link ho hc (by omega) hA z (fun nt' ye' no' ou' hA' => nm_r (nI_1 k) (ih (k + 1) nt' ye' no' ou' (by omega) hA'))
def dl_W (T : Nat → Nat) (n : Nat) (nt ye no ou : Nat → Int32) : Prop := ∀ j, j < n → (dt_c (T j) = true → ye j = nI (dt_L T n j).1 ∧ no j = nI (dt_L T n j).2.1) ∧ (dt_c (T j) = false → nt j = nI (dt_L T n j).1 ∧ ou j = nI (dt_L T n j).2.2)
theorem dk_ne0 : ∀ b, ¬ dk_y b = 0 := by decide
theorem dk_ne {b : Bool} {r : List Bool} : ¬ dk_du (b :: r) = 0 := dk_ne0 b
theorem dy_complete {post : Int32 → SY → Prop} {ys yv yf : Int32} {nt ye no ou co pl : Nat → Int32} {T : Nat → Nat} {n : Nat} (ho : dt_ok T n) (h0 : dt_st T n = [] → ∀ pl, post 1 (nI n, ys, yv, yf, (fun j => nI (T j)), nt, ye, no, ou, co, pl)) (h1 : dt_st T n ≠ [] → ∀ pl, post 0 (nI n, ys, yv, yf, (fun j => nI (T j)), nt, ye, no, ou, co, pl)) : wpY_complete post (nI n, ys, yv, yf, (fun j => nI (T j)), nt, ye, no, ou, co, pl) := by
  unfold wpY_complete
  refine dy_due ho (fun pl' => ?_)
  cases e : dt_st T n with
  | nil => exact br_t rfl (h0 e pl')
  | cons b r => exact br_f dk_ne (h1 (by rw [e]; intro z; cases z) pl')
theorem dy_prepare {post : Int32 → SY → Prop} {ys yv yf : Int32} {nt ye no ou co pl : Nat → Int32} {T : Nat → Nat} {n : Nat} (ho : dt_ok T n) (h0 : dt_st T n = [] → ∀ nt ye no ou pl, dl_W T n nt ye no ou → post 1 (nI n, ys, yv, yf, (fun j => nI (T j)), nt, ye, no, ou, co, pl)) (h1 : dt_st T n ≠ [] → ∀ pl, post 0 (nI n, ys, yv, yf, (fun j => nI (T j)), nt, ye, no, ou, co, pl)) : wpY_prepare post (nI n, ys, yv, yf, (fun j => nI (T j)), nt, ye, no, ou, co, pl) := by
  unfold wpY_prepare
  refine dy_complete ho (fun hc pl' => ?_) (fun hc pl' => ?_)
  · refine br_f (by decide) ?_
    refine dy_fo (p := 0) (by decide) ⟨n + 1, ?_⟩
    have hn0 : 0 < n := by
      rcases Nat.eq_zero_or_pos n with z | z
      · subst z; cases hc
      · exact z
    refine dy_20 ho hc (fun nt' ye' no' ou' hA => h0 hc _ _ _ _ _ (fun j hj => hA j (dt_wrn ho hj))) n 0 _ _ _ _ (by omega) ?_
    intro j hj
    have hj : j = 0 := hj
    subst hj
    rw [pk_us, pk_us]
    refine ⟨fun z => ?_, fun _ => ⟨rfl, rfl⟩⟩
    obtain ⟨r, hr⟩ := ho.2.2 0 hn0
    have hr : [false] = dt_c (T 0) :: r := hr
    rw [z] at hr
    cases hr
  · exact br_t rfl (h1 hc pl')

/-! X lays the links -/
theorem dx_lp {post : SX → Prop} {ct oc rs rv rf : Int32} {tk op bh aT aF aB sA : Nat → Int32} {p : Nat} {v1 v2 v3 : Int32} (hp : p < 23) (h : post (ct, oc, rs, rv, rf, tk, op, bh, upd aT p v1, upd aF p v2, upd aB p v3, sA)) : wpX_linkPart post (ct, oc, rs, rv, rf, tk, op, bh, aT, aF, aB, sA) (nI p) v1 v2 v3 := by
  unfold wpX_linkPart
  have e : (nI p).toNatClampNeg = p := nI_clamp (by omega)
  have i : vp_in (nI p) 23 := pk_in p 23 hp
  exact ⟨i, nm_r (by rw [e]) ⟨i, nm_r (by rw [e]) ⟨i, nm_r (by rw [e]) h⟩⟩⟩
def dl_A (D : Nat → Prop) (L : Nat → Nat × Nat × Nat) (aT aF aB : Nat → Int32) : Prop := ∀ j, D j → aT j = nI (L j).1 ∧ aF j = nI (L j).2.1 ∧ aB j = nI (L j).2.2
theorem dl_Aw {D : Nat → Prop} {L : Nat → Nat × Nat × Nat} {aT aF aB : Nat → Int32} (p : Nat) (v : Nat × Nat × Nat) (h : dl_A D L aT aF aB) : dl_A (fun j => D j ∨ j = p) (dt_w L p v) (upd aT p (nI v.1)) (upd aF p (nI v.2.1)) (upd aB p (nI v.2.2)) := by
  intro j hj
  by_cases e : j = p
  · subst e
    rw [dt_wS, pk_us, pk_us, pk_us]
    exact ⟨rfl, rfl, rfl⟩
  · rw [dt_wN e, pk_un e, pk_un e, pk_un e]
    rcases hj with hj | hj
    · exact h j hj
    · exact absurd hj e
theorem dl_Am {D D' : Nat → Prop} {L : Nat → Nat × Nat × Nat} {aT aF aB : Nat → Int32} (h : dl_A D L aT aF aB) (hD : ∀ j, D' j → D j) : dl_A D' L aT aF aB := fun j hj => h j (hD j hj)
def dl_b (T : Nat → Nat) (n : Nat) (bh : Nat → Int32) (i : Nat) : Prop := ∀ j, i ≤ j → j < n → bh j = nI (dt_q T n 1 j)
theorem dl_q2 (T : Nat → Nat) (n p : Nat) : dt_q T n 1 (dt_q T n 1 p) = dt_q T n 2 p := (dt_qadd T n p 1 1).symm
theorem dl_z : ∀ t, t < 32 → dt_ar t = 0 → t < 4 ∨ (6 < t ∧ (t < 19 ∨ 22 < t)) := by decide +kernel
theorem dx_lpS {post : SX → Prop} {ct oc rs rv rf : Int32} {op bh aT aF aB sA : Nat → Int32} {T : Nat → Nat} {n k : Nat} (ho : dt_ok T n) (hc : dt_st T n = []) (hk : k < n) (hcc : dt_c (T k) = false) (hb : dl_b T n bh 0) (hA : dl_A (dt_wr T n k) (dt_lk T n k) aT aF aB)
    (hp : ∀ aT' aF' aB', dl_A (dt_wr T n (k + 1)) (dt_lk T n (k + 1)) aT' aF' aB' → post (ct, oc, rs, rv, rf, (fun j => nI (T j)), op, bh, aT', aF', aB', sA)) : wpX_linkPartsOfStatement post (ct, oc, rs, rv, rf, (fun j => nI (T j)), op, bh, aT, aF, aB, sA) (nI k) := by
  unfold wpX_linkPartsOfStatement
  have hn := ho.1
  have ek : (nI k).toNatClampNeg = k := nI_clamp (by omega)
  have ek1 : (nI (k + 1)).toNatClampNeg = k + 1 := nI_clamp (by omega)
  have i23 : vp_in (nI k) 23 := pk_in k 23 (by omega)
  have i22 : vp_in (nI k) 22 := pk_in k 22 (by omega)
  have i1 : vp_in (nI (k + 1)) 23 := pk_in (k + 1) 23 (by omega)
  have hK := hA k (dt_wrk ho hk)
  refine ⟨i23, nm_r (e' := nI (dt_lk T n k k).1) (by rw [ek]; exact hK.1) ⟨i23, nm_r (e' := nI (dt_lk T n k k).2.2) (by rw [ek]; exact hK.2.2) (nm_r (nI_1 k) ⟨i1, fun x5 e5 => ⟨i22, nm_r (e' := nI (T k)) (by rw [ek]) ?_⟩⟩)⟩⟩
  rcases dt_tc (T k) (ho.2.1 k) with h | h | h | h | h | h | h | h
  · have ar : dt_ar (T k) = 2 := by rw [h]; rfl
    obtain ⟨c0, _⟩ := dt_c1 ho hc hk (by omega)
    have e5' : x5 = nI (dt_q T n 1 (k + 1)) := by rw [e5, ek1]; exact hb (k + 1) (Nat.zero_le _) c0
    subst e5'
    obtain ⟨_, c1, _⟩ := dt_ch ho hc (i := 1) hk (by omega)
    have hF := dl_Am (dl_Aw (dt_q T n 1 (k + 1)) ((dt_lk T n k k).1, (dt_lk T n k k).1, (dt_lk T n k k).2.2) (dl_Aw (k + 1) (dt_q T n 1 (k + 1), dt_q T n 1 (k + 1), (dt_lk T n k k).2.2) hA)) (fun j hj => dt_wr2 ar hj)
    rw [← dt_ls4 h] at hF
    have hF := hp _ _ _ hF
    rw [h]
    refine br_f (by decide) (br_f (by decide) (br_t rfl ?_))
    refine dx_lp (by omega) ?_
    exact dx_lp (by omega) hF
  · have ar : dt_ar (T k) = 3 := by rw [h]; rfl
    obtain ⟨c0, _⟩ := dt_c1 ho hc hk (by omega)
    have e5' : x5 = nI (dt_q T n 1 (k + 1)) := by rw [e5, ek1]; exact hb (k + 1) (Nat.zero_le _) c0
    subst e5'
    obtain ⟨_, c1, _⟩ := dt_ch ho hc (i := 1) hk (by omega)
    obtain ⟨_, c2, _⟩ := dt_ch ho hc (i := 2) hk (by omega)
    have eq1 : (nI (dt_q T n 1 (k + 1))).toNatClampNeg = dt_q T n 1 (k + 1) := nI_clamp (by omega)
    have eb2 : bh (dt_q T n 1 (k + 1)) = nI (dt_q T n 2 (k + 1)) := by rw [hb (dt_q T n 1 (k + 1)) (Nat.zero_le _) c1, dl_q2]
    have iq : vp_in (nI (dt_q T n 1 (k + 1))) 23 := pk_in (dt_q T n 1 (k + 1)) 23 (by omega)
    have hF := dl_Am (dl_Aw (dt_q T n 2 (k + 1)) ((dt_lk T n k k).1, (dt_lk T n k k).1, (dt_lk T n k k).2.2) (dl_Aw (dt_q T n 1 (k + 1)) ((dt_lk T n k k).1, (dt_lk T n k k).1, (dt_lk T n k k).2.2) (dl_Aw (k + 1) (dt_q T n 1 (k + 1), dt_q T n 2 (k + 1), 22) hA))) (fun j hj => dt_wr3 ar hj)
    rw [← dt_ls5 h] at hF
    have hF := hp _ _ _ hF
    rw [h]
    refine br_f (by decide) (br_f (by decide) (br_f (by decide) (br_t rfl ?_)))
    rw [eq1, eb2]
    refine ⟨iq, dx_lp (by omega) ?_⟩
    refine dx_lp (by omega) ⟨iq, ?_⟩
    dsimp only
    rw [eb2]
    exact dx_lp (by omega) hF
  · have ar : dt_ar (T k) = 2 := by rw [h]; rfl
    obtain ⟨c0, _⟩ := dt_c1 ho hc hk (by omega)
    have e5' : x5 = nI (dt_q T n 1 (k + 1)) := by rw [e5, ek1]; exact hb (k + 1) (Nat.zero_le _) c0
    subst e5'
    obtain ⟨_, c1, _⟩ := dt_ch ho hc (i := 1) hk (by omega)
    have hF := dl_Am (dl_Aw (dt_q T n 1 (k + 1)) (k, k, (dt_lk T n k k).1) (dl_Aw (k + 1) (dt_q T n 1 (k + 1), (dt_lk T n k k).1, 22) hA)) (fun j hj => dt_wr2 ar hj)
    rw [← dt_ls6 h] at hF
    have hF := hp _ _ _ hF
    rw [h]
    refine br_f (by decide) (br_f (by decide) (br_f (by decide) (br_f (by decide) (br_t rfl ?_))))
    refine dx_lp (by omega) ?_
    exact dx_lp (by omega) hF
  · rw [h] at hcc; exact absurd hcc (by decide)
  · rw [h] at hcc; exact absurd hcc (by decide)
  · rw [h] at hcc; exact absurd hcc (by decide)
  · rw [h] at hcc; exact absurd hcc (by decide)
  · have hF := hp _ _ _ (by rw [show dt_lk T n (k + 1) = dt_lk T n k from dt_ls0 h]; exact dl_Am hA (fun j hj => dt_wr0 h hj))
    have hz := dl_z (T k) (ho.2.1 k) h
    have h32 := ho.2.1 k
    exact pk_lt (T k) 4 (fun _ => hF) (fun h1 => pk_lt 6 (T k) (fun _ => hF) (fun h2 => absurd hz (by omega)))
theorem dx_lpC {post : SX → Prop} {ct oc rs rv rf : Int32} {op bh aT aF aB sA : Nat → Int32} {T : Nat → Nat} {n k : Nat} (ho : dt_ok T n) (hc : dt_st T n = []) (hk : k < n) (hcc : dt_c (T k) = true) (hb : dl_b T n bh 0) (hA : dl_A (dt_wr T n k) (dt_lk T n k) aT aF aB)
    (hp : ∀ aT' aF' aB', dl_A (dt_wr T n (k + 1)) (dt_lk T n (k + 1)) aT' aF' aB' → post (ct, oc, rs, rv, rf, (fun j => nI (T j)), op, bh, aT', aF', aB', sA)) : wpX_linkPartsOfCondition post (ct, oc, rs, rv, rf, (fun j => nI (T j)), op, bh, aT, aF, aB, sA) (nI k) := by
  unfold wpX_linkPartsOfCondition
  have hn := ho.1
  have ek : (nI k).toNatClampNeg = k := nI_clamp (by omega)
  have ek1 : (nI (k + 1)).toNatClampNeg = k + 1 := nI_clamp (by omega)
  have i23 : vp_in (nI k) 23 := pk_in k 23 (by omega)
  have i22 : vp_in (nI k) 22 := pk_in k 22 (by omega)
  have i1 : vp_in (nI (k + 1)) 23 := pk_in (k + 1) 23 (by omega)
  have hK := hA k (dt_wrk ho hk)
  refine ⟨i23, nm_r (e' := nI (dt_lk T n k k).1) (by rw [ek]; exact hK.1) ⟨i23, nm_r (e' := nI (dt_lk T n k k).2.1) (by rw [ek]; exact hK.2.1) (nm_r (nI_1 k) ⟨i1, fun x5 e5 => ⟨i22, nm_r (e' := nI (T k)) (by rw [ek]) ?_⟩⟩)⟩⟩
  rcases dt_tc (T k) (ho.2.1 k) with h | h | h | h | h | h | h | h
  · rw [h] at hcc; exact absurd hcc (by decide)
  · rw [h] at hcc; exact absurd hcc (by decide)
  · rw [h] at hcc; exact absurd hcc (by decide)
  · have ar : dt_ar (T k) = 1 := by rw [h]; rfl
    obtain ⟨c0, _⟩ := dt_c1 ho hc hk (by omega)
    have e5' : x5 = nI (dt_q T n 1 (k + 1)) := by rw [e5, ek1]; exact hb (k + 1) (Nat.zero_le _) c0
    subst e5'
    have hF := dl_Am (dl_Aw (k + 1) ((dt_lk T n k k).2.1, (dt_lk T n k k).1, 22) hA) (fun j hj => dt_wr1 ar hj)
    rw [← dt_ls19 h] at hF
    have hF := hp _ _ _ hF
    rw [h]
    refine br_f (by decide) (br_f (by decide) (br_t rfl ?_))
    exact dx_lp (by omega) hF
  · have ar : dt_ar (T k) = 2 := by rw [h]; rfl
    obtain ⟨c0, _⟩ := dt_c1 ho hc hk (by omega)
    have e5' : x5 = nI (dt_q T n 1 (k + 1)) := by rw [e5, ek1]; exact hb (k + 1) (Nat.zero_le _) c0
    subst e5'
    obtain ⟨_, c1, _⟩ := dt_ch ho hc (i := 1) hk (by omega)
    have hF := dl_Am (dl_Aw (dt_q T n 1 (k + 1)) ((dt_lk T n k k).1, (dt_lk T n k k).2.1, 22) (dl_Aw (k + 1) (dt_q T n 1 (k + 1), (dt_lk T n k k).2.1, 22) hA)) (fun j hj => dt_wr2 ar hj)
    rw [← dt_ls20 h] at hF
    have hF := hp _ _ _ hF
    rw [h]
    refine br_f (by decide) (br_f (by decide) (br_f (by decide) (br_t rfl ?_)))
    refine dx_lp (by omega) ?_
    exact dx_lp (by omega) hF
  · have ar : dt_ar (T k) = 2 := by rw [h]; rfl
    obtain ⟨c0, _⟩ := dt_c1 ho hc hk (by omega)
    have e5' : x5 = nI (dt_q T n 1 (k + 1)) := by rw [e5, ek1]; exact hb (k + 1) (Nat.zero_le _) c0
    subst e5'
    obtain ⟨_, c1, _⟩ := dt_ch ho hc (i := 1) hk (by omega)
    have hF := dl_Am (dl_Aw (dt_q T n 1 (k + 1)) ((dt_lk T n k k).1, (dt_lk T n k k).2.1, 22) (dl_Aw (k + 1) ((dt_lk T n k k).1, dt_q T n 1 (k + 1), 22) hA)) (fun j hj => dt_wr2 ar hj)
    rw [← dt_ls21 h] at hF
    have hF := hp _ _ _ hF
    rw [h]
    refine br_f (by decide) (br_f (by decide) (br_f (by decide) (br_f (by decide) (br_t rfl ?_))))
    refine dx_lp (by omega) ?_
    exact dx_lp (by omega) hF
  · have ar : dt_ar (T k) = 3 := by rw [h]; rfl
    obtain ⟨c0, _⟩ := dt_c1 ho hc hk (by omega)
    have e5' : x5 = nI (dt_q T n 1 (k + 1)) := by rw [e5, ek1]; exact hb (k + 1) (Nat.zero_le _) c0
    subst e5'
    obtain ⟨_, c1, _⟩ := dt_ch ho hc (i := 1) hk (by omega)
    obtain ⟨_, c2, _⟩ := dt_ch ho hc (i := 2) hk (by omega)
    have eq1 : (nI (dt_q T n 1 (k + 1))).toNatClampNeg = dt_q T n 1 (k + 1) := nI_clamp (by omega)
    have eb2 : bh (dt_q T n 1 (k + 1)) = nI (dt_q T n 2 (k + 1)) := by rw [hb (dt_q T n 1 (k + 1)) (Nat.zero_le _) c1, dl_q2]
    have iq : vp_in (nI (dt_q T n 1 (k + 1))) 23 := pk_in (dt_q T n 1 (k + 1)) 23 (by omega)
    have hF := dl_Am (dl_Aw (dt_q T n 2 (k + 1)) ((dt_lk T n k k).1, (dt_lk T n k k).2.1, 22) (dl_Aw (dt_q T n 1 (k + 1)) ((dt_lk T n k k).1, (dt_lk T n k k).2.1, 22) (dl_Aw (k + 1) (dt_q T n 1 (k + 1), dt_q T n 2 (k + 1), 22) hA))) (fun j hj => dt_wr3 ar hj)
    rw [← dt_ls22 h] at hF
    have hF := hp _ _ _ hF
    rw [h]
    refine br_f (by decide) (br_f (by decide) (br_f (by decide) (br_f (by decide) (br_f (by decide) (br_t rfl ?_)))))
    rw [eq1, eb2]
    refine ⟨iq, dx_lp (by omega) ?_⟩
    refine dx_lp (by omega) ⟨iq, ?_⟩
    dsimp only
    rw [eb2]
    exact dx_lp (by omega) hF
  · have hF := hp _ _ _ (by rw [show dt_lk T n (k + 1) = dt_lk T n k from dt_ls0 h]; exact dl_Am hA (fun j hj => dt_wr0 h hj))
    have hz := dl_z (T k) (ho.2.1 k) h
    have h32 := ho.2.1 k
    have h16 : 16 ≤ T k := of_decide_eq_true hcc
    exact pk_lt (T k) 19 (fun _ => hF) (fun h1 => pk_lt 22 (T k) (fun _ => hF) (fun h2 => absurd hz (by omega)))
theorem dx_28 {post : SX → Prop} {J : Int32 → (Nat → Int32) → (Nat → Int32) → (Nat → Int32) → (Nat → Int32) → (Nat → Int32) → (Nat → Int32) → (Nat → Int32) → Prop} {ct oc rs rv rf : Int32} {op bh aT aF aB sA : Nat → Int32} {T : Nat → Nat} {n i : Nat} (ho : dt_ok T n) (hc : dt_st T n = []) (hi : i < n) (hb : dl_b T n bh (i + 1))
    (hJ : J (nI i + (-1)) (fun j => nI (T j)) op (upd bh i (nI (dt_q T n 1 i))) aT aF aB sA) :
    ∀ d m, m + d = dt_ar (T i) → wX_linkParts_28 post J (nI i) (nI (dt_ar (T i))) ct oc rs rv rf (fun j => nI (T j)) op bh aT aF aB sA (d + 1) (nI (dt_q T n m (i + 1))) (nI m) := by
  have hn := ho.1
  have ha := dt_ar_le (T i) (ho.2.1 i)
  intro d
  induction d with
  | zero =>
    intro m hm
    have es : dt_q T n 1 i = dt_q T n m (i + 1) := by
      have := dt_qs (T := T) (n := n) (p := i) 0 hi
      rw [Nat.zero_add, Nat.zero_add] at this
      rw [this, ← hm, Nat.add_zero]
    refine br_t (nI_le (by omega) (by omega)) ⟨pk_in i 23 (by omega), nm_r (by rw [nI_clamp (n := i) (by omega), ← es]) (nm_e hJ)⟩
  | succ d ih =>
    intro m hm
    obtain ⟨g1, g2, _⟩ := dt_ch ho hc (i := m) hi (by omega)
    refine br_f (nI_ge (by omega) (by omega)) ⟨pk_in (dt_q T n m (i + 1)) 23 (by omega), nm_r (e' := nI (dt_q T n (m + 1) (i + 1))) ?_ (nm_r (nI_1 m) (ih (m + 1) (by omega)))⟩
    rw [nI_clamp (n := dt_q T n m (i + 1)) (by omega), hb _ (by omega) g2, dt_qadd]
theorem dx_7 {post : SX → Prop} {ct oc rs rv rf : Int32} {op aT aF aB sA : Nat → Int32} {T : Nat → Nat} {n : Nat} (ho : dt_ok T n) (hc : dt_st T n = [])
    (hp : ∀ bh', dl_b T n bh' 0 → ∃ n73 : Nat, wX_linkParts_73 post n73 0 ct oc rs rv rf (fun j => nI (T j)) op bh' (upd aT 0 22) (upd aF 0 22) (upd aB 0 22) sA) :
    ∀ (i : Nat) (bh : Nat → Int32) (x1 : Int32), i ≤ n → x1 = nI i - 1 → dl_b T n bh i → wX_linkParts_7 post ct oc rs rv rf (i + 1) x1 (fun j => nI (T j)) op bh aT aF aB sA := by
  have hn := ho.1
  intro i
  induction i with
  | zero =>
    intro bh x1 _ ex hb
    subst ex
    refine br_t (by decide) ?_
    exact dx_lp (p := 0) (by decide) (hp bh hb)
  | succ i ih =>
    intro bh x1 hi ex hb
    rw [nI_pred] at ex
    subst ex
    refine br_f (nI_pos (by omega)) (nm_r (nI_1 i) ⟨pk_in i 22 (by omega), ?_⟩)
    rw [nI_clamp (n := i) (by omega)]
    refine dx_pc (ho.2.1 i) ⟨dt_ar (T i) + 1, ?_⟩
    have h28 := dx_28 (post := post) (J := wX_linkParts_7 post ct oc rs rv rf (i + 1)) (op := op) (aT := aT) (aF := aF) (aB := aB) (sA := sA) (bh := bh) (ct := ct) (oc := oc) (rs := rs) (rv := rv) (rf := rf) ho hc (i := i) (by omega) hb
      (ih _ _ (by omega) (Int32.sub_eq_add_neg _ _).symm (by
        intro j h1 h2
        by_cases e : j = i
        · subst e; exact pk_us
        · rw [pk_un e]; exact hb j (by omega) h2)) (dt_ar (T i)) 0 (by omega)
    rw [dt_q0] at h28
    exact h28
theorem dx_73 {post : SX → Prop} {oc rs rv rf : Int32} {op bh sA : Nat → Int32} {T : Nat → Nat} {n : Nat} (ho : dt_ok T n) (hc : dt_st T n = []) (hb : dl_b T n bh 0)
    (hp : ∀ aT aF aB, dl_A (dt_wr T n n) (dt_lk T n n) aT aF aB → post (nI n, oc, rs, rv, rf, (fun j => nI (T j)), op, bh, aT, aF, aB, sA)) :
    ∀ (d k : Nat) (aT aF aB : Nat → Int32), k + d = n → dl_A (dt_wr T n k) (dt_lk T n k) aT aF aB → wX_linkParts_73 post (d + 1) (nI k) (nI n) oc rs rv rf (fun j => nI (T j)) op bh aT aF aB sA := by
  have hn := ho.1
  intro d
  induction d with
  | zero =>
    intro k aT aF aB hk hA
    obtain rfl : k = n := by omega
    exact br_t (nI_le (Nat.le_refl _) (by omega)) (hp aT aF aB hA)
  | succ d ih =>
    intro k aT aF aB hk hA
    refine br_f (nI_ge (by omega) (by omega)) ⟨pk_in k 22 (by omega), ?_⟩
    rw [nI_clamp (n := k) (by omega)]
    refine dx_ic (ho.2.1 k) ?_
    cases hcc : dt_c (T k) with
    | false =>
      refine br_t rfl ?_
      refine dx_lpS ho hc (by omega) hcc hb hA (fun aT' aF' aB' hA' => ?_)
      exact nm_r (nI_1 k) (ih (k + 1) aT' aF' aB' (by omega) hA')
    | true =>
      refine br_f (by decide) ?_
      refine dx_lpC ho hc (by omega) hcc hb hA (fun aT' aF' aB' hA' => ?_)
      exact nm_r (nI_1 k) (ih (k + 1) aT' aF' aB' (by omega) hA')
def dl_X (T : Nat → Nat) (n : Nat) (aT aF aB : Nat → Int32) : Prop := ∀ j, j < n → aT j = nI (dt_L T n j).1 ∧ aF j = nI (dt_L T n j).2.1 ∧ aB j = nI (dt_L T n j).2.2
theorem dx_linkParts {post : SX → Prop} {oc rs rv rf : Int32} {op bh aT aF aB sA : Nat → Int32} {T : Nat → Nat} {n : Nat} (ho : dt_ok T n) (hc : dt_st T n = []) (h0 : 0 < n)
    (hp : ∀ bh aT aF aB, dl_X T n aT aF aB → post (nI n, oc, rs, rv, rf, (fun j => nI (T j)), op, bh, aT, aF, aB, sA)) : wpX_linkParts post (nI n, oc, rs, rv, rf, (fun j => nI (T j)), op, bh, aT, aF, aB, sA) := by
  unfold wpX_linkParts
  refine nm_e ⟨_, dx_7 ho hc (fun bh' hb => ⟨n + 1, ?_⟩) n bh _ (Nat.le_refl n) rfl (fun j h1 h2 => absurd h2 (by omega))⟩
  refine dx_73 ho hc hb (fun aT aF aB hA => hp _ aT aF aB (fun j hj => hA j (dt_wrn ho hj))) n 0 _ _ _ (by omega) ?_
  intro j hj
  have hj : j = 0 := hj
  subst hj
  rw [pk_us, pk_us, pk_us]
  exact ⟨rfl, rfl, rfl⟩

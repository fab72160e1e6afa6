/-! the runs -/
def dr_ft (t : Nat) (rs rf : Int32) : Int32 := if (dt_use t && !(bt rs (t % 4))) = true then rf + 1 else rf
def dr_as (t a : Nat) : Nat := if dt_opn t = true then a + 1 else a
theorem dx_nv41 {post : SX → Prop} {ct oc rs rv rf : Int32} {tk op bh aT aF aB sA : Nat → Int32} {t : Nat} (ht : t < 32) (hp : post (ct, oc, dt_sv t rs, rv, rf, tk, op, bh, aT, aF, aB, sA)) : wX_noteVisit_41 post (nI t) ct oc rs rv rf tk op bh aT aF aB sA := by
  unfold wX_noteVisit_41
  refine dx_se ht ?_
  unfold dt_sv at hp
  cases hs : dt_set t with
  | false =>
    rw [hs, if_neg (by decide)] at hp
    exact br_t rfl hp
  | true =>
    rw [hs, if_pos rfl] at hp
    exact br_f (by decide) (nm_e hp)
theorem dx_nv {post : SX → Prop} {ct oc rs rv rf : Int32} {tk op bh aT aF aB sA : Nat → Int32} {t p : Nat} (ht : t < 32) (hp : post (ct, oc, dt_sv t rs, rv ||| ((1 : Int32) <<< (nI p &&& 31)), dr_ft t rs rf, tk, op, bh, aT, aF, aB, sA)) : wpX_noteVisit post (ct, oc, rs, rv, rf, tk, op, bh, aT, aF, aB, sA) (nI p) (nI t) := by
  unfold wpX_noteVisit
  refine nm_e (dx_us ht ?_)
  unfold dr_ft at hp
  cases hu : dt_use t with
  | false =>
    rw [hu, if_neg (by simp)] at hp
    exact br_t rfl (dx_nv41 ht hp)
  | true =>
    refine br_f (by decide) (br_c (fun z => ?_) (fun z => ?_))
    · rw [hu, (db_va _ ht).mp z, if_pos (by decide)] at hp
      exact nm_e (dx_nv41 ht hp)
    · rw [hu, db_f (fun y => z ((db_va _ ht).mpr y)), if_neg (by decide)] at hp
      exact dx_nv41 ht hp
theorem dx_r73 {post : Int32 → SX → Prop} {J : Int32 → Int32 → Int32 → Int32 → Int32 → Int32 → Int32 → Int32 → (Nat → Int32) → (Nat → Int32) → (Nat → Int32) → (Nat → Int32) → (Nat → Int32) → (Nat → Int32) → (Nat → Int32) → Prop} {ct oc rs rv rf : Int32} {op bh aT aF aB sA : Nat → Int32} {T : Nat → Nat} {L : Nat → Nat × Nat × Nat} {p a : Nat} {dec x2 : Int32} {o : Bool} (hT : T p < 32) (hp22 : p < 22) (hL : aT p = nI (L p).1 ∧ aF p = nI (L p).2.1 ∧ aB p = nI (L p).2.2)
    (hp : J x2 (nI (dr_as (T p) a)) (nI (dt_nx T L p o)) ct oc (dt_sv (T p) rs) (rv ||| ((1 : Int32) <<< (nI p &&& 31))) (dr_ft (T p) rs rf) (fun j => nI (T j)) op bh aT aF aB sA) : wX_run_73 post J dec x2 (nI a) (nI p) (nI (T p)) (db_i o) ct oc rs rv rf (fun j => nI (T j)) op bh aT aF aB sA := by
  unfold wX_run_73
  refine dx_un hT ?_
  unfold dr_as at hp
  cases hu : dt_opn (T p) with
  | false =>
    rw [hu, if_neg (by decide)] at hp
    refine br_t rfl ?_
    unfold wX_run_86
    exact dx_nv hT (dx_pa hT hp22 hL o hp)
  | true =>
    rw [hu, if_pos rfl] at hp
    refine br_f (by decide) (nm_r (nI_1 a) ?_)
    unfold wX_run_86
    exact dx_nv hT (dx_pa hT hp22 hL o hp)
theorem db_31 : ∀ a, a < 128 → (nI a &&& 31) = nI (a % 32) := by decide +kernel
theorem dy_r115 {post : Int32 → SY → Prop} {J : Int32 → Int32 → Int32 → Int32 → Int32 → Int32 → Prop} {sz ys yv yf : Int32} {nt ye no ou co pl : Nat → Int32} {T : Nat → Nat} {L : Nat → Nat × Nat × Nat} {p a : Nat} {dec x3 z0 : Int32} (hT : T p < 32) (htk : dt_tk (T p) = true) (hp22 : p < 22) (ha : a < 128) (hW : (dt_c (T p) = true → ye p = nI (L p).1 ∧ no p = nI (L p).2.1) ∧ (dt_c (T p) = false → nt p = nI (L p).1 ∧ ou p = nI (L p).2.2)) (hv : dt_c (T p) = false → (L p).1 = (L p).2.1)
    (hp : J (nI (dt_nx T L p (bt dec (a % 32)))) x3 (nI (dr_as (T p) a)) (dt_sv (T p) ys) yv z0) : wY_run_115 post J dec (nI p) x3 (nI a) z0 sz ys yv yf (fun j => nI (T j)) nt ye no ou co pl := by
  unfold wY_run_115
  refine dy_af hT hp22 ?_
  have h149 : ∀ o : Bool, o = bt dec (a % 32) → wY_run_149 post J dec (nI p) x3 (nI a) (db_i o) sz (dt_sv (T p) ys) yv z0 (fun j => nI (T j)) nt ye no ou co pl := by
    intro o eo
    unfold wY_run_149
    refine ⟨pk_in p 22 hp22, ?_⟩
    rw [nI_clamp (n := p) (by omega)]
    refine dy_un hT ?_
    rw [← eo] at hp
    unfold dr_as at hp
    cases hu : dt_opn (T p) with
    | false =>
      rw [hu, if_neg (by decide)] at hp
      refine br_t rfl ?_
      unfold wY_run_173
      exact dy_on hT htk hp22 hW hv o hp
    | true =>
      rw [hu, if_pos rfl] at hp
      refine br_f (by decide) ?_
      unfold wY_run_173
      refine dy_on hT htk hp22 hW hv o ?_
      rw [nI_1]
      exact hp
  rw [db_31 a ha]
  refine br_c (fun z => ?_) (fun z => ?_)
  · exact h149 true ((db_s dec (Nat.mod_lt a (by decide))).mp z).symm
  · exact h149 false (db_t (fun y => z ((db_s dec (Nat.mod_lt a (by decide))).mpr y))).symm
theorem dl_run {T : Nat → Nat} {n : Nat} {dec : Int32} {oc : Int32} {op bh aT aF aB sA : Nat → Int32} (ho : dt_ok T n) (hc : dt_st T n = []) (htk : dt_tks T n) (hX : dl_X T n aT aF aB) :
    ∀ d v, v + d = 100 → ∀ (a p : Nat) (rs rv rf : Int32), a ≤ v → dt_v n p → ∃ r rs' rv' rf' : Int32,
      (∀ post : Int32 → SX → Prop, post r (nI n, oc, rs', rv', rf', (fun j => nI (T j)), op, bh, aT, aF, aB, sA) → wX_run_31 post dec (d + 1) (nI v) (nI a) (nI p) (nI n) oc rs rv rf (fun j => nI (T j)) op bh aT aF aB sA) ∧
      (∀ nt ye no ou co pl, dl_W T n nt ye no ou → ∀ post : Int32 → SY → Prop, post r (nI n, rs', rv', rf', (fun j => nI (T j)), nt, ye, no, ou, co, pl) → wY_run_31 post dec (nI n) (fun j => nI (T j)) nt ye no ou co pl (d + 1) (nI p) (nI v) (nI a) rs rv rf) := by
  have hn := ho.1
  intro d
  induction d with
  | zero =>
    intro v hv a p rs rv rf ha hp
    obtain rfl : v = 100 := by omega
    refine ⟨nI 100, rs, rv, rf, fun post h => br_t (by decide) h, fun nt ye no ou co pl hW post h => ?_⟩
    exact br_c (fun _ => h) (fun _ => br_t (by decide) h)
  | succ d ih =>
    intro v hv a p rs rv rf ha hp
    by_cases z : p = 22
    · subst z
      refine ⟨nI v, rs, rv, rf, fun post h => br_f (nI_ge (b := 100) (by omega) (by omega)) (br_t rfl h), fun nt ye no ou co pl hW post h => br_t (by decide) h⟩
    · have hpn : p < n := by
        rcases hp with h | h
        · exact h
        · exact absurd h z
      have h22 : p < 22 := by omega
      have e32 : nI a - nI a / (32 : Int32) * (32 : Int32) = nI (a % 32) := pk_rem (d := 32) (by omega) (by decide) (by decide)
      have ha' : dr_as (T p) a ≤ v + 1 := by unfold dr_as; split <;> omega
      have hx := dt_nxv ho hc hpn (bt dec (a % 32))
      obtain ⟨r, rs', rv', rf', h1, h2⟩ := ih (v + 1) (by omega) (dr_as (T p) a) (dt_nx T (dt_L T n) p (bt dec (a % 32))) (dt_sv (T p) rs) (rv ||| ((1 : Int32) <<< (nI p &&& 31))) (dr_ft (T p) rs rf) ha' hx
      refine ⟨r, rs', rv', rf', fun post h => ?_, fun nt ye no ou co pl hW post h => ?_⟩
      · have h1 := h1 post h
        refine br_f (nI_ge (b := 100) (by omega) (by omega)) ?_
        refine pk_eq p 22 (fun y => absurd y z) (fun _ => ?_)
        refine nm_r (nI_1 v) ⟨pk_in p 22 h22, nm_r (e' := nI (T p)) (by rw [nI_clamp (n := p) (by omega)]) ⟨by decide, ?_⟩⟩
        rw [e32]
        refine br_c (fun y => ?_) (fun y => ?_)
        · rw [(db_u dec (Nat.mod_lt a (by decide))).mp y] at h1
          exact dx_r73 (o := true) (ho.2.1 p) h22 (hX p hpn) h1
        · rw [db_t (fun q => y ((db_u dec (Nat.mod_lt a (by decide))).mpr q))] at h1
          exact dx_r73 (o := false) (ho.2.1 p) h22 (hX p hpn) h1
      · have h2 := h2 nt ye no ou co pl hW post h
        refine br_f (nI_ge (b := 22) h22 (by decide)) (br_f (nI_ge (b := 100) (by omega) (by omega)) ?_)
        refine nm_r (nI_1 v) (nm_e ⟨pk_in p 22 h22, ?_⟩)
        rw [nI_clamp (n := p) (by omega)]
        refine dy_us (ho.2.1 p) ?_
        unfold dr_ft at h2
        cases hu : dt_use (T p) with
        | false =>
          rw [hu, if_neg (by simp)] at h2
          refine br_t rfl ?_
          unfold wY_run_93 wY_run_94
          exact br_t rfl (dy_r115 (ho.2.1 p) (htk p hpn) h22 (by omega) (hW p hpn) (dt_Lok ho hc hpn).2.2.2 h2)
        | true =>
          refine br_f (by decide) ⟨pk_in p 22 h22, br_c (fun y => ?_) (fun y => ?_)⟩
          · rw [hu, (db_vs0 _ (ho.2.1 p)).mp y, if_pos (by decide)] at h2
            unfold wY_run_94
            exact br_f (by decide) (dy_r115 (ho.2.1 p) (htk p hpn) h22 (by omega) (hW p hpn) (dt_Lok ho hc hpn).2.2.2 h2)
          · rw [hu, db_f (fun q => y ((db_vs0 _ (ho.2.1 p)).mpr q)), if_neg (by decide)] at h2
            unfold wY_run_93 wY_run_94
            exact br_t rfl (dy_r115 (ho.2.1 p) (htk p hpn) h22 (by omega) (hW p hpn) (dt_Lok ho hc hpn).2.2.2 h2)

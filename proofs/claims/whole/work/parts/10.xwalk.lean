/-! X follows all walks -/
theorem dx_pa {post : Int32 → Prop} {ct oc rs rv rf : Int32} {op bh aT aF aB sA : Nat → Int32} {T : Nat → Nat} {L : Nat → Nat × Nat × Nat} {k : Nat} (hT : T k < 32) (hk : k < 22) (hL : aT k = nI (L k).1 ∧ aF k = nI (L k).2.1 ∧ aB k = nI (L k).2.2) (o : Bool) (hp : post (nI (dt_nx T L k o))) : wpX_placeAfter post (ct, oc, rs, rv, rf, (fun j => nI (T j)), op, bh, aT, aF, aB, sA) (nI k) (db_i o) := by
  unfold wpX_placeAfter
  have ek : (nI k).toNatClampNeg = k := nI_clamp (by omega)
  have i23 : vp_in (nI k) 23 := pk_in k 23 (by omega)
  have i22 : vp_in (nI k) 22 := pk_in k 22 (by omega)
  have ha := dt_ar_le (T k) hT
  refine ⟨i22, nm_r (e' := nI (T k)) (by rw [ek]) (dx_pc hT ?_)⟩
  rw [ek, hL.1, hL.2.1, hL.2.2]
  unfold dt_nx at hp
  refine pk_le (dt_ar (T k)) 0 (fun z => ?_) (fun z => ?_)
  · rw [if_neg (show ¬ 0 < dt_ar (T k) by omega)] at hp
    refine pk_eq (T k) 1 (fun z1 => ⟨i23, ?_⟩) (fun z1 => ?_)
    · rw [if_pos z1] at hp; exact hp
    · rw [if_neg z1] at hp
      refine pk_eq (T k) 16 (fun z2 => ⟨i23, ?_⟩) (fun z2 => ?_)
      · rw [if_pos z2] at hp; exact hp
      · rw [if_neg z2] at hp
        refine pk_eq (T k) 17 (fun z3 => ⟨i23, ?_⟩) (fun z3 => ?_)
        · rw [if_pos z3] at hp; exact hp
        · rw [if_neg z3] at hp
          cases o with
          | false => exact br_t rfl ⟨i23, hp⟩
          | true => exact br_f (by decide) ⟨i23, hp⟩
  · rw [if_pos z] at hp
    rw [nI_1]
    exact hp
theorem dx_wv4 {post : Int32 → Prop} {m : Int32} {t : Nat} (ht : t < 32) (hs : dt_set t = true) (hp : ∀ r, (∀ i, bt r i = true ↔ ∃ s, s < 16 ∧ bt m s = true ∧ i = dt_at t s) → post r) :
    ∀ d s, s + d = 16 → ∀ r, (∀ i, bt r i = true ↔ ∃ s', s' < s ∧ bt m s' = true ∧ i = dt_at t s') → wX_withVariable_4 post m ((1 : Int32) <<< ((nI t &&& 3) &&& 31)) (d + 1) r (nI s) := by
  intro d
  induction d with
  | zero =>
    intro s h r hr
    obtain rfl : s = 16 := by omega
    exact br_t (by decide) (hp r hr)
  | succ d ih =>
    intro s h r hr
    refine br_f (nI_ge (b := 16) (by omega) (by omega)) ?_
    by_cases hb : bt m s = true
    · refine br_t ((db_u m (by omega)).mpr hb) (nm_r (by rw [db_atS t ht hs s (by omega)]) (nm_r (nI_1 s) (ih (s + 1) (by omega) _ ?_)))
      intro i
      have h16 := db_at16 t ht s (by omega)
      rw [b_or, Bool.or_eq_true, hr, db_shl (by omega), decide_eq_true_eq]
      constructor
      · intro h1
        rcases h1 with ⟨s', a, b, c⟩ | h1
        · exact ⟨s', by omega, b, c⟩
        · exact ⟨s, by omega, hb, h1⟩
      · intro ⟨s', a, b, c⟩
        by_cases z : s' = s
        · subst z; exact Or.inr c
        · exact Or.inl ⟨s', by omega, b, c⟩
    · refine br_f (fun z => hb ((db_u m (by omega)).mp z)) (nm_r (nI_1 s) (ih (s + 1) (by omega) r ?_))
      intro i
      rw [hr]
      constructor
      · intro ⟨s', a, b, c⟩
        exact ⟨s', by omega, b, c⟩
      · intro ⟨s', a, b, c⟩
        by_cases z : s' = s
        · subst z; exact absurd b hb
        · exact ⟨s', by omega, b, c⟩
theorem dx_wv {post : Int32 → Prop} {m : Int32} {t : Nat} (ht : t < 32) (hs : dt_set t = true) (hp : ∀ r, (∀ i, bt r i = true ↔ ∃ s, s < 16 ∧ bt m s = true ∧ i = dt_at t s) → post r) : wpX_withVariable post m ((1 : Int32) <<< ((nI t &&& 3) &&& 31)) := by
  unfold wpX_withVariable
  refine ⟨17, dx_wv4 ht hs hp 16 0 (by omega) 0 ?_⟩
  intro i
  rw [b_0]
  constructor
  · intro z; cases z
  · intro ⟨s', a, _⟩; omega
theorem dx_82 {post : Int32 → SX → Prop} {ct oc rs rv rf : Int32} {tk op bh aT aF aB sA : Nat → Int32} {x y : Nat} {m : Int32} {g : Bool} (hx : x < 23) (hy : y < 23) (hp : post (db_i g) (ct, oc, rs, rv, rf, tk, op, bh, aT, aF, aB, dm_p sA x y m)) : wX_passOn_82 post m (nI x) (nI y) (db_i g) ct oc rs rv rf tk op bh aT aF aB sA := by
  unfold wX_passOn_82
  have ex : (nI x).toNatClampNeg = x := nI_clamp (by omega)
  have ey : (nI y).toNatClampNeg = y := nI_clamp (by omega)
  have ix : vp_in (nI x) 23 := pk_in x 23 hx
  have iy : vp_in (nI y) 23 := pk_in y 23 hy
  refine ⟨ix, ix, nm_r (by rw [ex]) ⟨iy, iy, nm_r (e' := dm_p sA x y m) (by rw [ey]; rfl) ⟨dk_nb2 g, hp⟩⟩⟩
def dm_fl (a : Nat → Int32) (m : Int32) (nx : Nat → Bool → Nat) (k : Nat) (f : Bool) : Prop :=
  (f = false ∧ (∀ i, bt m i = true → bt (a (nx k true)) i = true) ∧ (∀ i, bt m i = true → bt (a (nx k false)) i = true)) ∨ (f = true ∧ ∃ i o, bt m i = true ∧ bt (a (nx k o)) i = false)
theorem db_nsub {m z : Int32} (h : ¬ (m &&& (z ^^^ (-1))) = 0) : ∃ i, bt m i = true ∧ bt z i = false := by
  rw [db_sub0] at h
  obtain ⟨i, hi⟩ := Classical.not_forall.mp h
  refine ⟨i, ?_, ?_⟩
  · cases e : bt m i
    · exact absurd (fun z => by rw [e] at z; cases z) hi
    · rfl
  · cases e : bt z i
    · rfl
    · exact absurd (fun _ => e) hi
theorem dx_35 {post : Int32 → SX → Prop} {ct oc rs rv rf : Int32} {op bh aT aF aB sA : Nat → Int32} {T : Nat → Nat} {L : Nat → Nat × Nat × Nat} {k : Nat} {m : Int32} (hT : T k < 32) (hk : k < 22) (hL : aT k = nI (L k).1 ∧ aF k = nI (L k).2.1 ∧ aB k = nI (L k).2.2) (hx : ∀ o, dt_nx T L k o < 23)
    (hp : ∀ f, dm_fl sA m (dt_nx T L) k f → post (db_i f) (ct, oc, rs, rv, rf, (fun j => nI (T j)), op, bh, aT, aF, aB, dm_p sA (dt_nx T L k true) (dt_nx T L k false) m)) : wX_passOn_35 post (nI k) m ct oc rs rv rf (fun j => nI (T j)) op bh aT aF aB sA := by
  unfold wX_passOn_35
  have ht := hx true
  have hf := hx false
  have ex : (nI (dt_nx T L k true)).toNatClampNeg = dt_nx T L k true := nI_clamp (by omega)
  have ey : (nI (dt_nx T L k false)).toNatClampNeg = dt_nx T L k false := nI_clamp (by omega)
  refine dx_pa (o := true) hT hk hL (dx_pa (o := false) hT hk hL ⟨pk_in (dt_nx T L k true) 23 ht, ?_⟩)
  rw [ex, ey]
  refine br_c (fun h1 => ⟨pk_in (dt_nx T L k false) 23 hf, br_c (fun h2 => ?_) (fun h2 => ?_)⟩) (fun h1 => ?_)
  · exact dx_82 (g := false) ht hf (hp false (Or.inl ⟨rfl, (db_sub0 _ _).mp h1, (db_sub0 _ _).mp h2⟩))
  · obtain ⟨i, a, b⟩ := db_nsub h2
    exact dx_82 (g := true) ht hf (hp true (Or.inr ⟨rfl, i, false, a, b⟩))
  · obtain ⟨i, a, b⟩ := db_nsub h1
    exact dx_82 (g := true) ht hf (hp true (Or.inr ⟨rfl, i, true, a, b⟩))
theorem dx_passOn {post : Int32 → SX → Prop} {ct oc rs rv rf : Int32} {op bh aT aF aB sA : Nat → Int32} {T : Nat → Nat} {L : Nat → Nat × Nat × Nat} {k : Nat} (hT : T k < 32) (hk : k < 22) (hL : aT k = nI (L k).1 ∧ aF k = nI (L k).2.1 ∧ aB k = nI (L k).2.2) (hx : ∀ o, dt_nx T L k o < 23) (hB : ∀ i, 16 ≤ i → bt (sA k) i = false)
    (hp : ∀ m f, (∀ i, bt m i = true → ∃ s, s < 16 ∧ bt (sA k) s = true ∧ i = dt_af T k s) → (∀ s, s < 16 → bt (sA k) s = true → bt m (dt_af T k s) = true) → dm_fl sA m (dt_nx T L) k f → post (db_i f) (ct, oc, rs, rv, rf, (fun j => nI (T j)), op, bh, aT, aF, aB, dm_p sA (dt_nx T L k true) (dt_nx T L k false) m)) : wpX_passOn post (ct, oc, rs, rv, rf, (fun j => nI (T j)), op, bh, aT, aF, aB, sA) (nI k) := by
  unfold wpX_passOn
  have ek : (nI k).toNatClampNeg = k := nI_clamp (by omega)
  have i23 : vp_in (nI k) 23 := pk_in k 23 (by omega)
  have i22 : vp_in (nI k) 22 := pk_in k 22 (by omega)
  refine ⟨i23, nm_r (e' := sA k) (by rw [ek]) ⟨i22, ?_⟩⟩
  rw [ek]
  refine dx_se hT ?_
  cases hs : dt_set (T k) with
  | false =>
    refine br_t rfl ?_
    have ea : ∀ s, dt_af T k s = s := fun s => if_neg (by rw [hs]; decide)
    refine dx_35 hT hk hL hx (fun f hf => hp _ f ?_ ?_ hf)
    · intro i hi
      refine ⟨i, ?_, hi, (ea i).symm⟩
      rcases Nat.lt_or_ge i 16 with z | z
      · exact z
      · rw [hB i z] at hi; cases hi
    · intro s _ h
      rw [ea]; exact h
  | true =>
    refine br_f (by decide) ⟨i22, ?_⟩
    show wpX_withVariable _ _ _
    refine dx_wv hT hs (fun r hr => ?_)
    refine dx_35 hT hk hL hx (fun f hf => hp _ f ?_ ?_ hf)
    · intro i hi
      exact (hr i).mp hi
    · intro s h16 h
      exact (hr _).mpr ⟨s, h16, h, rfl⟩
theorem db_ior (g f : Bool) : db_i g ||| db_i f = db_i (g || f) := by cases g <;> cases f <;> decide
theorem dm_stepB {n : Nat} {nx : Nat → Bool → Nat} {af : Nat → Nat → Nat} {a0 : Nat → Int32} {D D' : Nat → Nat → Prop} {a : Nat → Int32} {g f : Bool} (hx : ∀ k, k < n → ∀ o, nx k o < 23) (hn : n ≤ 22) (haf : ∀ k s, k < n → s < 16 → af k s < 16)
    (h : dm_I n nx af a0 D a (db_i g)) {k : Nat} (hk : k < n) (m : Int32) (E : Nat → Prop)
    (h1 : ∀ i, bt m i = true → ∃ s, s < 16 ∧ bt (a k) s = true ∧ i = af k s)
    (h2 : ∀ s, s < 16 → E s → bt (a k) s = true → bt m (af k s) = true)
    (hD : ∀ k' s', D' k' s' → D k' s' ∨ (k' = k ∧ E s')) (hf : dm_fl a m nx k f) :
    dm_I n nx af a0 D' (dm_p a (nx k true) (nx k false) m) (db_i (g || f)) := by
  refine dm_step hx hn haf h hk m E h1 h2 hD _ ?_
  cases g with
  | true => exact Or.inr ⟨rfl, Or.inl rfl⟩
  | false =>
    rcases hf with ⟨rfl, s1, s2⟩ | ⟨rfl, i, o, a, b⟩
    · exact Or.inl ⟨rfl, rfl, s1, s2⟩
    · exact Or.inr ⟨rfl, Or.inr ⟨i, o, a, b⟩⟩
theorem dt_af16 {T : Nat → Nat} (hT : ∀ k, T k < 32) : ∀ k s, s < 16 → dt_af T k s < 16 := fun k s hs => db_at16 (T k) (hT k) s hs
theorem dx_47 {post : SX → Prop} {J : Int32 → Int32 → Int32 → Int32 → Int32 → Int32 → Int32 → (Nat → Int32) → (Nat → Int32) → (Nat → Int32) → (Nat → Int32) → (Nat → Int32) → (Nat → Int32) → (Nat → Int32) → Prop} {oc rs rv rf : Int32} {op bh aT aF aB : Nat → Int32} {T : Nat → Nat} {n p : Nat} {a0 : Nat → Int32} (ho : dt_ok T n) (hc : dt_st T n = []) (hL : dl_X T n aT aF aB)
    (hJ : ∀ (g : Bool) sA, dm_I n (dt_nx T (dt_L T n)) (dt_af T) a0 (fun k _ => k < n) sA (db_i g) → J (db_i g) (nI (p + 1)) (nI n) oc rs rv rf (fun j => nI (T j)) op bh aT aF aB sA) :
    ∀ d i, i + d = n → ∀ (g : Bool) sA, dm_I n (dt_nx T (dt_L T n)) (dt_af T) a0 (fun k _ => k < i) sA (db_i g) → wX_followAllWalks_47 post J (nI p) (d + 1) (db_i g) (nI i) (nI n) oc rs rv rf (fun j => nI (T j)) op bh aT aF aB sA := by
  have hn := ho.1
  have hx : ∀ k, k < n → ∀ o, dt_nx T (dt_L T n) k o < 23 := fun k hk o => dt_v23 hn (dt_nxv ho hc hk o)
  intro d
  induction d with
  | zero =>
    intro i hi g sA hI
    obtain rfl : i = n := by omega
    exact br_t (nI_le (Nat.le_refl _) (by omega)) (nm_r (nI_1 p) (hJ g sA hI))
  | succ d ih =>
    intro i hi g sA hI
    refine br_f (nI_ge (by omega) (by omega)) ?_
    refine dx_passOn (L := dt_L T n) (ho.2.1 i) (by omega) (hL i (by omega)) (hx i (by omega)) (fun j hj => hI.1.2.1 i (by omega) j hj) (fun m f h1 h2 hf => ?_)
    refine nm_r (db_ior g f) (nm_r (nI_1 i) (ih (i + 1) (by omega) (g || f) _ ?_))
    refine dm_stepB hx hn (fun k s _ hs => dt_af16 ho.2.1 k s hs) hI (by omega) m (fun _ => True) h1 (fun s hs _ => h2 s hs) (fun k' s' hD => ?_) hf
    by_cases e : k' = i
    · exact Or.inr ⟨e, True.intro⟩
    · exact Or.inl (by omega)
theorem dx_32 {post : SX → Prop} {oc rs rv rf : Int32} {op bh aT aF aB : Nat → Int32} {T : Nat → Nat} {n : Nat} (ho : dt_ok T n) (hc : dt_st T n = []) (hL : dl_X T n aT aF aB)
    (hp : ∀ sA, dm_L n (dt_nx T (dt_L T n)) (dt_af T) sA → post (nI n, oc, rs, rv, rf, (fun j => nI (T j)), op, bh, aT, aF, aB, sA)) :
    ∀ d p, p + d = 369 → ∀ (g : Bool) sA, dm_O n (dt_nx T (dt_L T n)) (dt_af T) p sA (db_i g) → wX_followAllWalks_32 post (d + 1) (db_i g) (nI p) (nI n) oc rs rv rf (fun j => nI (T j)) op bh aT aF aB sA := by
  intro d
  induction d with
  | zero =>
    intro p hpp g sA hO
    obtain rfl : p = 369 := by omega
    exact br_t (by decide) (hp sA (dm_O_L hO (Or.inr (Nat.le_refl _))))
  | succ d ih =>
    intro p hpp g sA hO
    refine br_f (nI_ge (b := 369) (by omega) (by omega)) ?_
    cases g with
    | false => exact br_t rfl (hp sA (dm_O_L hO (Or.inl rfl)))
    | true =>
      refine br_f (by decide) ⟨n + 1, ?_⟩
      have hcnt : p + 1 ≤ dc_a sA := by
        rcases hO.2 with ⟨_, h⟩ | ⟨h, _⟩
        · exact h
        · exact absurd h (by decide)
      exact dx_47 ho hc hL (fun g' sA' hI => ih (p + 1) (by omega) g' sA' (dm_I_O (fun k s hk _ => hk) hcnt hI)) n 0 (by omega) false sA (dm_O_I _ (fun k s _ _ z => Nat.not_lt_zero _ z) hO.1)
theorem dx_2 {post : SX → Prop} {ct oc rs rv rf : Int32} {tk op bh aT aF aB : Nat → Int32} (hp : ∀ sA, (∀ k, k < 23 → sA k = if k = 0 then 1 else 0) → ∃ n32 : Nat, wX_followAllWalks_32 post n32 1 0 ct oc rs rv rf tk op bh aT aF aB sA) :
    ∀ d i, i + d = 23 → ∀ sA, (∀ k, k < i → sA k = 0) → wX_followAllWalks_2 post ct oc rs rv rf (d + 1) (nI i) tk op bh aT aF aB sA := by
  intro d
  induction d with
  | zero =>
    intro i hi sA h
    obtain rfl : i = 23 := by omega
    refine br_t (by decide) (nm_e (hp _ (fun k hk => ?_)))
    by_cases e : k = 0
    · subst e; rw [if_pos rfl]; exact pk_us
    · rw [pk_un e, if_neg e]; exact h k hk
  | succ d ih =>
    intro i hi sA h
    refine br_f (nI_ge (b := 23) (by omega) (by omega)) ⟨pk_in i 23 (by omega), nm_r (by rw [nI_clamp (n := i) (by omega)]) (nm_r (nI_1 i) (ih (i + 1) (by omega) _ (fun k hk => ?_)))⟩
    by_cases e : k = i
    · subst e; exact pk_us
    · rw [pk_un e]; exact h k (by omega)
theorem dx_fw {post : SX → Prop} {oc rs rv rf : Int32} {op bh aT aF aB sA : Nat → Int32} {T : Nat → Nat} {n : Nat} (ho : dt_ok T n) (hc : dt_st T n = []) (hL : dl_X T n aT aF aB)
    (hp : ∀ sA, dm_L n (dt_nx T (dt_L T n)) (dt_af T) sA → post (nI n, oc, rs, rv, rf, (fun j => nI (T j)), op, bh, aT, aF, aB, sA)) : wpX_followAllWalks post (nI n, oc, rs, rv, rf, (fun j => nI (T j)), op, bh, aT, aF, aB, sA) := by
  unfold wpX_followAllWalks
  exact ⟨24, dx_2 (fun sA' h => ⟨370, dx_32 ho hc hL hp 369 0 (by omega) true sA' (dm_init h)⟩) 23 0 (by omega) sA (fun k hk => absurd hk (Nat.not_lt_zero _))⟩

/-! Y follows all walks -/
def dt_tks (T : Nat → Nat) (n : Nat) : Prop := ∀ j, j < n → dt_tk (T j) = true
theorem dt_nop : ∀ t, t < 32 → (dt_tk t = true ∧ 16 ≤ t ∧ ¬ t = 16 ∧ dt_ar t = 0 ∧ dt_opn t = false) → t = 17 := by decide +kernel
theorem dt_nop2 : ∀ t, t < 32 → dt_opn t = true → t ≠ 1 ∧ t ≠ 16 ∧ t ≠ 17 := by decide +kernel
theorem dy_on {post : Int32 → Prop} {sz ys yv yf : Int32} {nt ye no ou co pl : Nat → Int32} {T : Nat → Nat} {L : Nat → Nat × Nat × Nat} {k : Nat} (hT : T k < 32) (htk : dt_tk (T k) = true) (hk : k < 22) (hW : (dt_c (T k) = true → ye k = nI (L k).1 ∧ no k = nI (L k).2.1) ∧ (dt_c (T k) = false → nt k = nI (L k).1 ∧ ou k = nI (L k).2.2)) (hv : dt_c (T k) = false → (L k).1 = (L k).2.1) (o : Bool) (hp : post (nI (dt_nx T L k o))) : wpY_onwards post (sz, ys, yv, yf, (fun j => nI (T j)), nt, ye, no, ou, co, pl) (nI k) (db_i o) := by
  unfold wpY_onwards
  have ek : (nI k).toNatClampNeg = k := nI_clamp (by omega)
  have i23 : vp_in (nI k) 23 := pk_in k 23 (by omega)
  have i22 : vp_in (nI k) 22 := pk_in k 22 (by omega)
  have ha := dt_ar_le (T k) hT
  refine ⟨i22, nm_r (e' := nI (T k)) (by rw [ek]) (dy_pc hT ?_)⟩
  rw [ek]
  unfold dt_nx at hp
  refine pk_le (dt_ar (T k)) 0 (fun z => ?_) (fun z => ?_)
  · rw [if_neg (show ¬ 0 < dt_ar (T k) by omega)] at hp
    refine pk_le 16 (T k) (fun z1 => ?_) (fun z1 => ?_)
    · obtain ⟨wy, wn⟩ := hW.1 (decide_eq_true z1)
      rw [wy, wn]
      rw [if_neg (show ¬ T k = 1 by omega)] at hp
      refine pk_eq (T k) 16 (fun z2 => ⟨i23, ?_⟩) (fun z2 => ?_)
      · rw [if_pos z2] at hp; exact hp
      · rw [if_neg z2] at hp
        refine dy_un hT ?_
        cases e : dt_opn (T k) with
        | false =>
          have e17 := dt_nop (T k) hT ⟨htk, z1, z2, by omega, e⟩
          rw [if_pos e17] at hp
          exact br_t rfl ⟨i23, hp⟩
        | true =>
          have e17 := (dt_nop2 (T k) hT e).2.2
          rw [if_neg e17] at hp
          refine br_f (by decide) ?_
          cases o with
          | false => exact br_t rfl ⟨i23, hp⟩
          | true => exact br_f (by decide) ⟨i23, hp⟩
    · have hcf : dt_c (T k) = false := decide_eq_false (by omega)
      obtain ⟨wt, wo⟩ := hW.2 hcf
      rw [wt, wo]
      refine pk_eq (T k) 1 (fun z2 => ⟨i23, ?_⟩) (fun z2 => ⟨i23, ?_⟩)
      · rw [if_pos z2] at hp; exact hp
      · rw [if_neg z2, if_neg (show ¬ T k = 16 by omega), if_neg (show ¬ T k = 17 by omega), ← hv hcf] at hp
        cases o <;> exact hp
  · rw [if_pos z] at hp
    rw [nI_1]
    exact hp
def dt_sv (t : Nat) (s : Int32) : Int32 := if dt_set t = true then s ||| ((1 : Int32) <<< ((nI t &&& 3) &&& 31)) else s
theorem dy_af {post : Int32 → Prop} {sz ys yv yf : Int32} {nt ye no ou co pl : Nat → Int32} {T : Nat → Nat} {k : Nat} {s : Int32} (hT : T k < 32) (hk : k < 22) (hp : post (dt_sv (T k) s)) : wpY_after post (sz, ys, yv, yf, (fun j => nI (T j)), nt, ye, no, ou, co, pl) (nI k) s := by
  unfold wpY_after
  have ek : (nI k).toNatClampNeg = k := nI_clamp (by omega)
  have i22 : vp_in (nI k) 22 := pk_in k 22 (by omega)
  have h0 : (T k < 8 ∨ 11 < T k ∧ T k < 24 ∨ 27 < T k) → post s := by
    intro z
    have e : dt_sv (T k) s = s := if_neg (by rw [show dt_set (T k) = false from decide_eq_false (by omega)]; decide)
    rw [e] at hp; exact hp
  have h1 : (8 ≤ T k ∧ T k ≤ 11 ∨ 24 ≤ T k ∧ T k ≤ 27) → post (s ||| ((1 : Int32) <<< ((nI (T k) &&& 3) &&& 31))) := by
    intro z
    have e : dt_sv (T k) s = s ||| ((1 : Int32) <<< ((nI (T k) &&& 3) &&& 31)) := if_pos (decide_eq_true z)
    rw [e] at hp; exact hp
  refine ⟨i22, nm_r (e' := nI (T k)) (by rw [ek]) ?_⟩
  refine pk_lt (T k) 8 (fun z => ?_) (fun z => pk_le (T k) 11 (fun z1 => h1 (by omega)) (fun z1 => ?_))
  · exact pk_lt (T k) 24 (fun _ => h0 (by omega)) (fun z1 => absurd z (by omega))
  · exact pk_lt (T k) 24 (fun _ => h0 (by omega)) (fun z2 => pk_lt 27 (T k) (fun z3 => h0 (by omega)) (fun z3 => h1 (by omega)))
theorem dt_svn {t s : Nat} (ht : t < 32) (hs : s < 16) : dt_sv t (nI s) = nI (dt_at t s) := by
  unfold dt_sv
  by_cases h : dt_set t = true
  · rw [if_pos h, db_atS t ht h s hs]
  · rw [if_neg h]; unfold dt_at; rw [if_neg h]
theorem dy_54 {post : Int32 → SY → Prop} {sz ys yv yf : Int32} {tk nt ye no ou co pl : Nat → Int32} {x y : Nat} {m : Int32} {g : Bool} (hx : x < 23) (hy : y < 23) (hp : post (db_i g) (sz, ys, yv, yf, tk, nt, ye, no, ou, dm_p co x y m, pl)) : wY_spread_54 post m (nI x) (nI y) (db_i g) sz ys yv yf tk nt ye no ou co pl := by
  unfold wY_spread_54
  have ex : (nI x).toNatClampNeg = x := nI_clamp (by omega)
  have ey : (nI y).toNatClampNeg = y := nI_clamp (by omega)
  have ix : vp_in (nI x) 23 := pk_in x 23 hx
  have iy : vp_in (nI y) 23 := pk_in y 23 hy
  refine ⟨ix, ix, nm_r (by rw [ex]) ⟨iy, iy, nm_r (e' := dm_p co x y m) (by rw [ey]; rfl) ⟨dk_nb2 g, hp⟩⟩⟩
theorem dy_spread {post : Int32 → SY → Prop} {sz ys yv yf : Int32} {nt ye no ou co pl : Nat → Int32} {T : Nat → Nat} {L : Nat → Nat × Nat × Nat} {k s : Nat} (hT : T k < 32) (htk : dt_tk (T k) = true) (hk : k < 22) (hs : s < 16) (hW : (dt_c (T k) = true → ye k = nI (L k).1 ∧ no k = nI (L k).2.1) ∧ (dt_c (T k) = false → nt k = nI (L k).1 ∧ ou k = nI (L k).2.2)) (hv : dt_c (T k) = false → (L k).1 = (L k).2.1) (hx : ∀ o, dt_nx T L k o < 23)
    (hp : ∀ f, dm_fl co ((1 : Int32) <<< (nI (dt_af T k s) &&& 31)) (dt_nx T L) k f → post (db_i f) (sz, ys, yv, yf, (fun j => nI (T j)), nt, ye, no, ou, dm_p co (dt_nx T L k true) (dt_nx T L k false) ((1 : Int32) <<< (nI (dt_af T k s) &&& 31)), pl)) : wpY_spread post (sz, ys, yv, yf, (fun j => nI (T j)), nt, ye, no, ou, co, pl) (nI k) (nI s) := by
  unfold wpY_spread
  have h16 : dt_af T k s < 16 := db_at16 (T k) hT s hs
  have ht := hx true
  have hf := hx false
  have ex : (nI (dt_nx T L k true)).toNatClampNeg = dt_nx T L k true := nI_clamp (by omega)
  have ey : (nI (dt_nx T L k false)).toNatClampNeg = dt_nx T L k false := nI_clamp (by omega)
  refine dy_af hT hk ?_
  rw [dt_svn hT hs]
  refine nm_e (dy_on (o := true) hT htk hk hW hv (dy_on (o := false) hT htk hk hW hv ⟨pk_in (dt_nx T L k true) 23 ht, ?_⟩))
  rw [ex, ey]
  have hm : ∀ i, bt ((1 : Int32) <<< (nI (dt_af T k s) &&& 31)) i = decide (i = dt_af T k s) := db_shl (by omega)
  have hme : bt ((1 : Int32) <<< (nI (dt_af T k s) &&& 31)) (dt_af T k s) = true := by rw [hm]; exact decide_eq_true rfl
  refine br_c (fun h1 => ?_) (fun h1 => ⟨pk_in (dt_nx T L k false) 23 hf, br_c (fun h2 => ?_) (fun h2 => ?_)⟩)
  · exact dy_54 (g := true) ht hf (hp true (Or.inr ⟨rfl, _, true, hme, (db_and0 _ (show dt_af T k s < 32 by omega)).mp h1⟩))
  · exact dy_54 (g := true) ht hf (hp true (Or.inr ⟨rfl, _, false, hme, (db_and0 _ (show dt_af T k s < 32 by omega)).mp h2⟩))
  · refine dy_54 (g := false) ht hf (hp false (Or.inl ⟨rfl, fun i hi => ?_, fun i hi => ?_⟩))
    · rw [hm, decide_eq_true_eq] at hi
      subst hi
      cases e : bt (co (dt_nx T L k true)) (dt_af T k s)
      · exact absurd ((db_and0 _ (show dt_af T k s < 32 by omega)).mpr e) h1
      · rfl
    · rw [hm, decide_eq_true_eq] at hi
      subst hi
      cases e : bt (co (dt_nx T L k false)) (dt_af T k s)
      · exact absurd ((db_and0 _ (show dt_af T k s < 32 by omega)).mpr e) h2
      · rfl
theorem dm_skip {n : Nat} {nx : Nat → Bool → Nat} {af : Nat → Nat → Nat} {a0 : Nat → Int32} {D D' : Nat → Nat → Prop} {a : Nat → Int32} {g : Int32} (h : dm_I n nx af a0 D a g) {k s : Nat} (hb : bt (a k) s = false) (hD : ∀ k' s', D' k' s' → D k' s' ∨ (k' = k ∧ s' = s)) : dm_I n nx af a0 D' a g := by
  obtain ⟨hB, mo, hc⟩ := h
  refine ⟨hB, mo, ?_⟩
  rcases hc with ⟨g0, ea, hcl⟩ | hc
  · refine Or.inl ⟨g0, ea, fun k' s' hk' hs' hd => ?_⟩
    rcases hD k' s' hd with hd | ⟨rfl, rfl⟩
    · exact hcl k' s' hk' hs' hd
    · intro z
      rw [← ea, hb] at z
      cases z
  · exact Or.inr hc
theorem dy_57 {post : Int32 → SY → Prop} {J : Int32 → Int32 → Int32 → Int32 → Int32 → Int32 → (Nat → Int32) → (Nat → Int32) → (Nat → Int32) → (Nat → Int32) → (Nat → Int32) → (Nat → Int32) → (Nat → Int32) → Prop} {ys yv yf : Int32} {nt ye no ou pl : Nat → Int32} {T : Nat → Nat} {n p : Nat} {a0 : Nat → Int32} (ho : dt_ok T n) (hc : dt_st T n = []) (htk : dt_tks T n) (hW : dl_W T n nt ye no ou)
    (hJ : ∀ (g : Bool) co, dm_I n (dt_nx T (dt_L T n)) (dt_af T) a0 (fun k s => s < 16 ∧ 16 * k + s < 16 * n) co (db_i g) → J (db_i g) (nI (p + 1)) (nI n) ys yv yf (fun j => nI (T j)) nt ye no ou co pl) :
    ∀ d c, c + d = 16 * n → ∀ (g : Bool) co, dm_I n (dt_nx T (dt_L T n)) (dt_af T) a0 (fun k s => s < 16 ∧ 16 * k + s < c) co (db_i g) → wY_explore_57 post J (nI p) (d + 1) (db_i g) (nI c) (nI n) ys yv yf (fun j => nI (T j)) nt ye no ou co pl := by
  have hn := ho.1
  have hx : ∀ k, k < n → ∀ o, dt_nx T (dt_L T n) k o < 23 := fun k hk o => dt_v23 hn (dt_nxv ho hc hk o)
  have e16 : (16 : Int32) * nI n = nI (16 * n) := pk_mul 16 n
  have ne : ¬ (16 : Int32) = 0 := by decide
  intro d
  induction d with
  | zero =>
    intro c hcd g co hI
    obtain rfl : c = 16 * n := by omega
    refine br_t (by rw [e16]; exact nI_le (Nat.le_refl _) (by omega)) (nm_r (nI_1 p) (hJ g co hI))
  | succ d ih =>
    intro c hcd g co hI
    have hk : c / 16 < n := by omega
    have hs : c % 16 < 16 := by omega
    have e1 : nI c / (16 : Int32) = nI (c / 16) := pk_div (d := 16) (by omega) (by decide) (by decide)
    have e2 : nI c - nI c / (16 : Int32) * (16 : Int32) = nI (c % 16) := pk_rem (d := 16) (by omega) (by decide) (by decide)
    have hD : ∀ k' s', (s' < 16 ∧ 16 * k' + s' < c + 1) → (s' < 16 ∧ 16 * k' + s' < c) ∨ (k' = c / 16 ∧ s' = c % 16) := by
      intro k' s' h
      by_cases z : 16 * k' + s' < c
      · exact Or.inl ⟨h.1, z⟩
      · exact Or.inr ⟨by omega, by omega⟩
    have ek : (nI (c / 16)).toNatClampNeg = c / 16 := nI_clamp (by omega)
    refine br_f (by rw [e16]; exact nI_ge (by omega) (by omega)) ⟨ne, ?_⟩
    rw [e2, e1]
    refine ⟨pk_in (c / 16) 23 (by omega), ne, ?_⟩
    rw [ek]
    by_cases hb : bt (co (c / 16)) (c % 16) = true
    · refine br_t ((db_s _ (by omega)).mpr hb) ⟨ne, ne, ?_⟩
      refine dy_spread (L := dt_L T n) (ho.2.1 _) (htk _ hk) (by omega) hs (hW _ hk) (dt_Lok ho hc hk).2.2.2 (hx _ hk) (fun f hf => ?_)
      have h16 : dt_af T (c / 16) (c % 16) < 16 := db_at16 _ (ho.2.1 _) _ hs
      have hI' := dm_stepB (D' := fun k s => s < 16 ∧ 16 * k + s < c + 1) hx hn (fun k s _ hs => dt_af16 ho.2.1 k s hs) hI hk _ (fun s' => s' = c % 16)
        (fun i hi => ⟨c % 16, hs, hb, by rw [db_shl (by omega), decide_eq_true_eq] at hi; exact hi⟩)
        (fun s' _ es _ => by rw [es, db_shl (by omega)]; exact decide_eq_true rfl) hD hf
      have hN := ih (c + 1) (by omega) (g || f) _ hI'
      cases f with
      | false =>
        refine br_t rfl ?_
        cases g with
        | false => exact br_t rfl (nm_r (nI_1 c) hN)
        | true => exact br_f (by decide) (nm_r (nI_1 c) hN)
      | true =>
        refine br_f (by decide) (nm_r (nI_1 c) ?_)
        cases g with
        | false => exact hN
        | true => exact hN
    · refine br_f (fun z => hb ((db_s _ (by omega)).mp z)) (nm_r (nI_1 c) (ih (c + 1) (by omega) g co ?_))
      exact dm_skip hI (by cases e : bt (co (c / 16)) (c % 16) <;> simp_all) hD
theorem dy_42e {post : Int32 → SY → Prop} {ys yv yf : Int32} {nt ye no ou pl : Nat → Int32} {T : Nat → Nat} {n : Nat} (ho : dt_ok T n) (hc : dt_st T n = []) (htk : dt_tks T n) (hW : dl_W T n nt ye no ou)
    (hp : ∀ co, dm_L n (dt_nx T (dt_L T n)) (dt_af T) co → post 1 (nI n, ys, yv, yf, (fun j => nI (T j)), nt, ye, no, ou, co, pl)) :
    ∀ d p, p + d = 369 → ∀ (g : Bool) co, dm_O n (dt_nx T (dt_L T n)) (dt_af T) p co (db_i g) → wY_explore_42 post (d + 1) (db_i g) (nI p) (nI n) ys yv yf (fun j => nI (T j)) nt ye no ou co pl := by
  intro d
  induction d with
  | zero =>
    intro p hpp g co hO
    obtain rfl : p = 369 := by omega
    exact br_t (by decide) (hp co (dm_O_L hO (Or.inr (Nat.le_refl _))))
  | succ d ih =>
    intro p hpp g co hO
    refine br_f (nI_ge (b := 369) (by omega) (by omega)) ?_
    cases g with
    | false => exact br_t rfl (hp co (dm_O_L hO (Or.inl rfl)))
    | true =>
      refine br_f (by decide) ⟨16 * n + 1, ?_⟩
      have hcnt : p + 1 ≤ dc_a co := by
        rcases hO.2 with ⟨_, h⟩ | ⟨h, _⟩
        · exact h
        · exact absurd h (by decide)
      exact dy_57 ho hc htk hW (fun g' co' hI => ih (p + 1) (by omega) g' co' (dm_I_O (fun k s hk hs => ⟨hs, by omega⟩) hcnt hI)) (16 * n) 0 (by omega) false co (dm_O_I _ (fun k s _ _ z => Nat.not_lt_zero _ z.2) hO.1)
theorem dy_11e {post : Int32 → SY → Prop} {sz ys yv yf : Int32} {tk nt ye no ou pl : Nat → Int32} (hp : ∀ co, (∀ k, k < 23 → co k = if k = 0 then 1 else 0) → ∃ n42 : Nat, wY_explore_42 post n42 1 0 sz ys yv yf tk nt ye no ou co pl) :
    ∀ d i, i + d = 23 → ∀ co, (∀ k, k < i → co k = if k = 0 then 1 else 0) → wY_explore_11 post sz ys yv yf (d + 1) (nI i) tk nt ye no ou co pl := by
  intro d
  induction d with
  | zero =>
    intro i hi co h
    obtain rfl : i = 23 := by omega
    exact br_t (by decide) (hp _ h)
  | succ d ih =>
    intro i hi co h
    refine br_f (nI_ge (b := 23) (by omega) (by omega)) ?_
    refine pk_eq i 0 (fun z => ⟨pk_in i 23 (by omega), nm_r (by rw [nI_clamp (n := i) (by omega)]) (nm_r (nI_1 i) (ih (i + 1) (by omega) _ (fun k hk => ?_)))⟩) (fun z => ⟨pk_in i 23 (by omega), nm_r (by rw [nI_clamp (n := i) (by omega)]) (nm_r (nI_1 i) (ih (i + 1) (by omega) _ (fun k hk => ?_)))⟩)
    · by_cases e : k = i
      · subst e; rw [if_pos z]; exact pk_us
      · rw [pk_un e]; exact h k (by omega)
    · by_cases e : k = i
      · subst e; rw [if_neg z]; exact pk_us
      · rw [pk_un e]; exact h k (by omega)
theorem dy_explore {post : Int32 → SY → Prop} {ys yv yf : Int32} {nt ye no ou co pl : Nat → Int32} {T : Nat → Nat} {n : Nat} (ho : dt_ok T n) (htk : dt_tks T n) (h0 : dt_st T n = [] → ∀ nt ye no ou co pl, dm_L n (dt_nx T (dt_L T n)) (dt_af T) co → post 1 (nI n, ys, yv, yf, (fun j => nI (T j)), nt, ye, no, ou, co, pl)) (h1 : dt_st T n ≠ [] → ∀ pl, post 0 (nI n, ys, yv, yf, (fun j => nI (T j)), nt, ye, no, ou, co, pl)) : wpY_explore post (nI n, ys, yv, yf, (fun j => nI (T j)), nt, ye, no, ou, co, pl) := by
  unfold wpY_explore
  refine dy_prepare ho (fun hc nt' ye' no' ou' pl' hW => ?_) (fun hc pl' => ?_)
  · refine br_f (by decide) ⟨24, ?_⟩
    exact dy_11e (fun co' h => ⟨370, dy_42e ho hc htk hW (h0 hc _ _ _ _ · _) 369 0 (by omega) true co' (dm_init h)⟩) 23 0 (by omega) co (fun k hk => absurd hk (Nat.not_lt_zero _))
  · exact br_t rfl (h1 hc pl')

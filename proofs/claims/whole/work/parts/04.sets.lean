/-! counting bits -/
def dc_n (f : Nat → Bool) : Nat → Nat
  | 0 => 0
  | c + 1 => dc_n f c + (if f c = true then 1 else 0)
theorem dc_le (f : Nat → Bool) : ∀ c, dc_n f c ≤ c := by
  intro c
  induction c with
  | zero => exact Nat.le_refl _
  | succ c ih =>
    show dc_n f c + (if f c = true then 1 else 0) ≤ c + 1
    split <;> omega
theorem dc_mono {f g : Nat → Bool} (h : ∀ c, f c = true → g c = true) : ∀ c, dc_n f c ≤ dc_n g c := by
  intro c
  induction c with
  | zero => exact Nat.le_refl _
  | succ c ih =>
    show dc_n f c + (if f c = true then 1 else 0) ≤ dc_n g c + (if g c = true then 1 else 0)
    by_cases z : f c = true
    · rw [if_pos z, if_pos (h c z)]; omega
    · rw [if_neg z]; omega
theorem dc_lt {f g : Nat → Bool} (h : ∀ c, f c = true → g c = true) {c0 : Nat} (h0 : f c0 = false) (h1 : g c0 = true) : ∀ c, c0 < c → dc_n f c < dc_n g c := by
  intro c
  induction c with
  | zero => intro z; omega
  | succ c ih =>
    intro hc
    show dc_n f c + (if f c = true then 1 else 0) < dc_n g c + (if g c = true then 1 else 0)
    by_cases e : c0 = c
    · subst e
      have := dc_mono h c0
      rw [h0, h1, if_pos rfl, if_neg (by decide)]
      omega
    · have := ih (by omega)
      by_cases z : f c = true
      · rw [if_pos z, if_pos (h c z)]; omega
      · rw [if_neg z]; omega
def dc_a (a : Nat → Int32) : Nat := dc_n (fun c => bt (a (c / 16)) (c % 16)) 368
theorem dc_a_le (a : Nat → Int32) : dc_a a ≤ 368 := dc_le _ 368
theorem dc_a_mono {a b : Nat → Int32} (h : ∀ k s, bt (a k) s = true → bt (b k) s = true) : dc_a a ≤ dc_a b := dc_mono (fun c => h (c / 16) (c % 16)) 368
theorem dc_a_lt {a b : Nat → Int32} (h : ∀ k s, bt (a k) s = true → bt (b k) s = true) {k s : Nat} (hk : k < 23) (hs : s < 16) (h0 : bt (a k) s = false) (h1 : bt (b k) s = true) : dc_a a < dc_a b := by
  have e1 : (16 * k + s) / 16 = k := by omega
  have e2 : (16 * k + s) % 16 = s := by omega
  refine dc_lt (c0 := 16 * k + s) (fun c => h (c / 16) (c % 16)) ?_ ?_ 368 (by omega)
  · show bt (a ((16 * k + s) / 16)) ((16 * k + s) % 16) = false
    rw [e1, e2]; exact h0
  · show bt (b ((16 * k + s) / 16)) ((16 * k + s) % 16) = true
    rw [e1, e2]; exact h1
/-! laying a mask at two places -/
def dm_p (a : Nat → Int32) (x y : Nat) (m : Int32) : Nat → Int32 := upd (upd a x (a x ||| m)) y ((upd a x (a x ||| m)) y ||| m)
theorem dm_bt (a : Nat → Int32) (x y : Nat) (m : Int32) (j i : Nat) : bt (dm_p a x y m j) i = (bt (a j) i || ((decide (j = x) || decide (j = y)) && bt m i)) := by
  unfold dm_p
  by_cases hy : j = y
  · subst hy
    rw [pk_us, b_or]
    by_cases hx : j = x
    · subst hx
      rw [pk_us, b_or]
      simp
    · rw [pk_un hx]
      simp
  · rw [pk_un hy]
    by_cases hx : j = x
    · subst hx
      rw [pk_us, b_or]
      simp
    · rw [pk_un hx]
      simp [hx, hy]
/-! the least set of places with settings -/
def dm_G (n : Nat) (nx : Nat → Bool → Nat) (af : Nat → Nat → Nat) (P : Nat → Nat → Prop) : Prop := P 0 0 ∧ ∀ k s, k < n → s < 16 → P k s → ∀ o, P (nx k o) (af k s)
def dm_cl (nx : Nat → Bool → Nat) (af : Nat → Nat → Nat) (a : Nat → Int32) (k s : Nat) : Prop := bt (a k) s = true → ∀ o, bt (a (nx k o)) (af k s) = true
def dm_B (n : Nat) (nx : Nat → Bool → Nat) (af : Nat → Nat → Nat) (a : Nat → Int32) : Prop :=
  bt (a 0) 0 = true ∧ (∀ k, k < 23 → ∀ i, 16 ≤ i → bt (a k) i = false) ∧ (∀ P, dm_G n nx af P → ∀ k s, k < 23 → s < 16 → bt (a k) s = true → P k s)
def dm_L (n : Nat) (nx : Nat → Bool → Nat) (af : Nat → Nat → Nat) (a : Nat → Int32) : Prop := dm_B n nx af a ∧ ∀ k s, k < n → s < 16 → dm_cl nx af a k s
theorem dm_sub {n : Nat} {nx : Nat → Bool → Nat} {af : Nat → Nat → Nat} {a b : Nat → Int32} (ha : dm_L n nx af a) (hb : dm_B n nx af b) : ∀ k s, k < 23 → s < 16 → bt (b k) s = true → bt (a k) s = true :=
  hb.2.2 (fun k s => bt (a k) s = true) ⟨ha.1.1, fun k s hk hs h o => ha.2 k s hk hs h o⟩
theorem dm_uniq {n : Nat} {nx : Nat → Bool → Nat} {af : Nat → Nat → Nat} {a b : Nat → Int32} (ha : dm_L n nx af a) (hb : dm_L n nx af b) : ∀ k, k < 23 → a k = b k := by
  intro k hk
  apply b_ext
  intro i _
  by_cases hi : i < 16
  · have h1 := dm_sub ha hb.1 k i hk hi
    have h2 := dm_sub hb ha.1 k i hk hi
    cases ea : bt (a k) i <;> cases eb : bt (b k) i
    · rfl
    · rw [h1 eb] at ea; cases ea
    · rw [h2 ea] at eb; cases eb
    · rfl
  · rw [ha.1.2.1 k hk i (by omega), hb.1.2.1 k hk i (by omega)]
def dm_I (n : Nat) (nx : Nat → Bool → Nat) (af : Nat → Nat → Nat) (a0 : Nat → Int32) (D : Nat → Nat → Prop) (a : Nat → Int32) (g : Int32) : Prop :=
  dm_B n nx af a ∧ (∀ k s, bt (a0 k) s = true → bt (a k) s = true) ∧ ((g = 0 ∧ a = a0 ∧ ∀ k s, k < n → s < 16 → D k s → dm_cl nx af a0 k s) ∨ (g = 1 ∧ dc_a a0 < dc_a a))
theorem dm_step {n : Nat} {nx : Nat → Bool → Nat} {af : Nat → Nat → Nat} {a0 : Nat → Int32} {D D' : Nat → Nat → Prop} {a : Nat → Int32} {g : Int32} (hx : ∀ k, k < n → ∀ o, nx k o < 23) (hn : n ≤ 22) (haf : ∀ k s, k < n → s < 16 → af k s < 16)
    (h : dm_I n nx af a0 D a g) {k : Nat} (hk : k < n) (m : Int32) (E : Nat → Prop)
    (h1 : ∀ i, bt m i = true → ∃ s, s < 16 ∧ bt (a k) s = true ∧ i = af k s)
    (h2 : ∀ s, s < 16 → E s → bt (a k) s = true → bt m (af k s) = true)
    (hD : ∀ k' s', D' k' s' → D k' s' ∨ (k' = k ∧ E s')) (g' : Int32)
    (hg : (g = 0 ∧ g' = 0 ∧ (∀ i, bt m i = true → bt (a (nx k true)) i = true) ∧ (∀ i, bt m i = true → bt (a (nx k false)) i = true)) ∨ (g' = 1 ∧ (g = 1 ∨ ∃ i o, bt m i = true ∧ bt (a (nx k o)) i = false))) :
    dm_I n nx af a0 D' (dm_p a (nx k true) (nx k false) m) g' := by
  obtain ⟨⟨b0, bh, bm⟩, mo, hc⟩ := h
  have up : ∀ j i, bt (a j) i = true → bt (dm_p a (nx k true) (nx k false) m j) i = true := by
    intro j i z
    rw [dm_bt, z]; rfl
  have m16 : ∀ i, 16 ≤ i → bt m i = false := by
    intro i hi
    cases e : bt m i
    · rfl
    · obtain ⟨s, hs, _, e2⟩ := h1 i e
      have := haf k s hk hs
      omega
  refine ⟨⟨up _ _ b0, ?_, ?_⟩, fun j i z => up j i (mo j i z), ?_⟩
  · intro j hj i hi
    rw [dm_bt, bh j hj i hi, m16 i hi]
    simp
  · intro P hP j s hj hs z
    rw [dm_bt] at z
    by_cases e : bt (a j) s = true
    · exact bm P hP j s hj hs e
    · have e' : bt (a j) s = false := by cases q : bt (a j) s <;> simp_all
      rw [e', Bool.false_or, Bool.and_eq_true, Bool.or_eq_true, decide_eq_true_eq, decide_eq_true_eq] at z
      obtain ⟨zj, zm⟩ := z
      obtain ⟨s0, hs0, hb0, rfl⟩ := h1 s zm
      have hp := hP.2 k s0 hk hs0 (bm P hP k s0 (by omega) hs0 hb0)
      rcases zj with rfl | rfl
      · exact hp true
      · exact hp false
  · rcases hg with ⟨g0, g'0, s1, s2⟩ | ⟨g'1, hh⟩
    · left
      rcases hc with ⟨_, ea, hcl⟩ | ⟨g1, _⟩
      · have e : dm_p a (nx k true) (nx k false) m = a := by
          funext j
          apply b_ext
          intro i _
          rw [dm_bt]
          cases em : bt m i
          · simp
          · by_cases e1 : j = nx k true
            · subst e1; rw [s1 i em]; rfl
            · by_cases e2 : j = nx k false
              · subst e2; rw [s2 i em]; rfl
              · simp [e1, e2]
        refine ⟨g'0, e.trans ea, ?_⟩
        intro k' s' hk' hs' hd
        rcases hD k' s' hd with hd | ⟨rfl, he⟩
        · exact hcl k' s' hk' hs' hd
        · intro z o
          rw [← ea] at z ⊢
          have := h2 s' hs' he z
          cases o
          · exact s2 _ this
          · exact s1 _ this
      · rw [g1] at g0; exact absurd g0 (by decide)
    · right
      refine ⟨g'1, ?_⟩
      rcases hc with ⟨g0, ea, _⟩ | ⟨g1, hlt⟩
      · rcases hh with g1 | ⟨i, o, em, e0⟩
        · rw [g1] at g0; exact absurd g0 (by decide)
        · rw [← ea]
          obtain ⟨s, hs, _, e2⟩ := h1 i em
          have hi := haf k s hk hs
          refine dc_a_lt up (hx k hk o) (s := i) (by omega) e0 ?_
          rw [dm_bt, em]
          cases o <;> simp
      · exact Nat.lt_of_lt_of_le hlt (dc_a_mono up)
def dm_O (n : Nat) (nx : Nat → Bool → Nat) (af : Nat → Nat → Nat) (p : Nat) (a : Nat → Int32) (g : Int32) : Prop :=
  dm_B n nx af a ∧ ((g = 1 ∧ p + 1 ≤ dc_a a) ∨ (g = 0 ∧ ∀ k s, k < n → s < 16 → dm_cl nx af a k s))
theorem dm_O_I {n : Nat} {nx : Nat → Bool → Nat} {af : Nat → Nat → Nat} {a : Nat → Int32} (D : Nat → Nat → Prop) (hD : ∀ k s, k < n → s < 16 → ¬ D k s) (h : dm_B n nx af a) : dm_I n nx af a D a 0 :=
  ⟨h, fun _ _ z => z, Or.inl ⟨rfl, rfl, fun k s hk hs z => absurd z (hD k s hk hs)⟩⟩
theorem dm_I_O {n : Nat} {nx : Nat → Bool → Nat} {af : Nat → Nat → Nat} {a0 a : Nat → Int32} {D : Nat → Nat → Prop} {g : Int32} {p : Nat} (hD : ∀ k s, k < n → s < 16 → D k s) (hp : p + 1 ≤ dc_a a0) (h : dm_I n nx af a0 D a g) : dm_O n nx af (p + 1) a g := by
  obtain ⟨hB, _, hc⟩ := h
  refine ⟨hB, ?_⟩
  rcases hc with ⟨g0, ea, hcl⟩ | ⟨g1, hlt⟩
  · subst ea
    exact Or.inr ⟨g0, fun k s hk hs => hcl k s hk hs (hD k s hk hs)⟩
  · exact Or.inl ⟨g1, by omega⟩
theorem dm_O_L {n : Nat} {nx : Nat → Bool → Nat} {af : Nat → Nat → Nat} {a : Nat → Int32} {g : Int32} {p : Nat} (h : dm_O n nx af p a g) (hg : g = 0 ∨ 369 ≤ p) : dm_L n nx af a := by
  obtain ⟨hB, hc⟩ := h
  rcases hc with ⟨g1, hlt⟩ | ⟨g0, hcl⟩
  · rcases hg with g0 | hp
    · rw [g1] at g0; exact absurd g0 (by decide)
    · have := dc_a_le a
      omega
  · exact ⟨hB, hcl⟩
theorem dm_1 : ∀ i, i < 32 → bt 1 i = decide (i = 0) := by decide +kernel
theorem dm_one (i : Nat) : bt 1 i = decide (i = 0) := by
  by_cases h : i < 32
  · exact dm_1 i h
  · rw [b_big (by omega), decide_eq_false (by omega)]
theorem dm_init {n : Nat} {nx : Nat → Bool → Nat} {af : Nat → Nat → Nat} {a : Nat → Int32} (h : ∀ k, k < 23 → a k = if k = 0 then 1 else 0) : dm_O n nx af 0 a 1 := by
  have e0 : a 0 = 1 := (h 0 (by decide)).trans (if_pos rfl)
  have hb : bt (a 0) 0 = true := by rw [e0, dm_one]; rfl
  refine ⟨⟨hb, ?_, ?_⟩, Or.inl ⟨rfl, ?_⟩⟩
  · intro k hk i hi
    rw [h k hk]
    by_cases z : k = 0
    · rw [if_pos z, dm_one, decide_eq_false (by omega)]
    · rw [if_neg z, b_0]
  · intro P hP k s hk hs z
    rw [h k hk] at z
    by_cases zk : k = 0
    · rw [if_pos zk, dm_one, decide_eq_true_eq] at z
      subst zk z
      exact hP.1
    · rw [if_neg zk, b_0] at z
      cases z
  · have h0 : dc_a (fun _ => 0) < dc_a a := dc_a_lt (k := 0) (s := 0) (fun k s z => by rw [b_0] at z; cases z) (by decide) (by decide) (b_0 0) hb
    omega

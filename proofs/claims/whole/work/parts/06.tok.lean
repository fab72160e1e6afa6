/-! the methods that read a token alone -/
theorem dk_ite {c A B : Prop} [Decidable c] : ((c → A) ∧ (¬ c → B)) ↔ (if c then A else B) := by
  by_cases h : c
  · rw [if_pos h]; exact ⟨fun z => z.1 h, fun a => ⟨fun _ => a, fun z => absurd h z⟩⟩
  · rw [if_neg h]; exact ⟨fun z => z.2 h, fun a => ⟨fun z => absurd z h, fun _ => a⟩⟩
theorem dx_pc0 : ∀ t, t < 32 → wpX_partCount (fun r => r = nI (dt_ar t)) (nI t) := by
  simp only [wpX_partCount, dk_ite]
  decide +kernel
theorem dx_pcM {P Q : Int32 → Prop} {x : Int32} (hPQ : ∀ r, P r → Q r) (h : wpX_partCount P x) : wpX_partCount Q x := by
  simp only [wpX_partCount] at h ⊢
  repeat' first
    | exact hPQ _ h
    | exact h
    | (refine And.imp (fun g z => ?_) (fun g z => ?_) h <;> (have h := g z; clear g))
theorem dx_pc {post : Int32 → Prop} {t : Nat} (ht : t < 32) (hp : post (nI (dt_ar t))) : wpX_partCount post (nI t) := dx_pcM (P := fun r => r = nI (dt_ar t)) (fun _ e => e ▸ hp) (dx_pc0 t ht)
theorem dx_ic0 : ∀ t, t < 32 → wpX_isCondition (fun r => r = db_i (dt_c t)) (nI t) := by
  simp only [wpX_isCondition, dk_ite]
  decide +kernel
theorem dx_icM {P Q : Int32 → Prop} {x : Int32} (hPQ : ∀ r, P r → Q r) (h : wpX_isCondition P x) : wpX_isCondition Q x := by
  simp only [wpX_isCondition] at h ⊢
  repeat' first
    | exact hPQ _ h
    | exact h
    | (refine And.imp (fun g z => ?_) (fun g z => ?_) h <;> (have h := g z; clear g))
theorem dx_ic {post : Int32 → Prop} {t : Nat} (ht : t < 32) (hp : post (db_i (dt_c t))) : wpX_isCondition post (nI t) := dx_icM (P := fun r => r = db_i (dt_c t)) (fun _ e => e ▸ hp) (dx_ic0 t ht)
theorem dx_tk0 : ∀ t, t < 32 → wpX_isToken (fun r => r = db_i (dt_tk t)) (nI t) := by
  simp only [wX_isToken_22, wX_isToken_27, wpX_isToken, dk_ite]
  decide +kernel
theorem dx_tkM {P Q : Int32 → Prop} {x : Int32} (hPQ : ∀ r, P r → Q r) (h : wpX_isToken P x) : wpX_isToken Q x := by
  simp only [wX_isToken_22, wX_isToken_27, wpX_isToken] at h ⊢
  repeat' first
    | exact hPQ _ h
    | exact h
    | (refine And.imp (fun g z => ?_) (fun g z => ?_) h <;> (have h := g z; clear g))
theorem dx_tk {post : Int32 → Prop} {t : Nat} (ht : t < 32) (hp : post (db_i (dt_tk t))) : wpX_isToken post (nI t) := dx_tkM (P := fun r => r = db_i (dt_tk t)) (fun _ e => e ▸ hp) (dx_tk0 t ht)
theorem dx_se0 : ∀ t, t < 32 → wpX_isSetting (fun r => r = db_i (dt_set t)) (nI t) := by
  simp only [wX_isSetting_16, wX_isSetting_17, wX_isSetting_34, wX_isSetting_35, wpX_isSetting, dk_ite]
  decide +kernel
theorem dx_seM {P Q : Int32 → Prop} {x : Int32} (hPQ : ∀ r, P r → Q r) (h : wpX_isSetting P x) : wpX_isSetting Q x := by
  simp only [wX_isSetting_16, wX_isSetting_17, wX_isSetting_34, wX_isSetting_35, wpX_isSetting] at h ⊢
  repeat' first
    | exact hPQ _ h
    | exact h
    | (refine And.imp (fun g z => ?_) (fun g z => ?_) h <;> (have h := g z; clear g))
theorem dx_se {post : Int32 → Prop} {t : Nat} (ht : t < 32) (hp : post (db_i (dt_set t))) : wpX_isSetting post (nI t) := dx_seM (P := fun r => r = db_i (dt_set t)) (fun _ e => e ▸ hp) (dx_se0 t ht)
theorem dx_us0 : ∀ t, t < 32 → wpX_isUsing (fun r => r = db_i (dt_use t)) (nI t) := by
  simp only [wX_isUsing_16, wX_isUsing_17, wX_isUsing_34, wX_isUsing_35, wpX_isUsing, dk_ite]
  decide +kernel
theorem dx_usM {P Q : Int32 → Prop} {x : Int32} (hPQ : ∀ r, P r → Q r) (h : wpX_isUsing P x) : wpX_isUsing Q x := by
  simp only [wX_isUsing_16, wX_isUsing_17, wX_isUsing_34, wX_isUsing_35, wpX_isUsing] at h ⊢
  repeat' first
    | exact hPQ _ h
    | exact h
    | (refine And.imp (fun g z => ?_) (fun g z => ?_) h <;> (have h := g z; clear g))
theorem dx_us {post : Int32 → Prop} {t : Nat} (ht : t < 32) (hp : post (db_i (dt_use t))) : wpX_isUsing post (nI t) := dx_usM (P := fun r => r = db_i (dt_use t)) (fun _ e => e ▸ hp) (dx_us0 t ht)
theorem dx_un0 : ∀ t, t < 32 → wpX_isUndecided (fun r => r = db_i (dt_opn t)) (nI t) := by
  simp only [wpX_isUndecided, dk_ite]
  decide +kernel
theorem dx_unM {P Q : Int32 → Prop} {x : Int32} (hPQ : ∀ r, P r → Q r) (h : wpX_isUndecided P x) : wpX_isUndecided Q x := by
  simp only [wpX_isUndecided] at h ⊢
  repeat' first
    | exact hPQ _ h
    | exact h
    | (refine And.imp (fun g z => ?_) (fun g z => ?_) h <;> (have h := g z; clear g))
theorem dx_un {post : Int32 → Prop} {t : Nat} (ht : t < 32) (hp : post (db_i (dt_opn t))) : wpX_isUndecided post (nI t) := dx_unM (P := fun r => r = db_i (dt_opn t)) (fun _ e => e ▸ hp) (dx_un0 t ht)
theorem dy_st0 (u : SY) : ∀ t, t < 32 → wpY_statement (fun r => r = db_i (!dt_c t && dt_tk t)) u (nI t) := by
  obtain ⟨f_size, f_ranSet, f_ranVisited, f_ranFaults, a_tokens, a_next, a_yes, a_no, a_out, a_come, a_places⟩ := u
  simp only [wY_statement_20, wpY_statement, dk_ite]
  decide +kernel
theorem dy_stM {P Q : Int32 → Prop} {u : SY} {x : Int32} (hPQ : ∀ r, P r → Q r) (h : wpY_statement P u x) : wpY_statement Q u x := by
  obtain ⟨f_size, f_ranSet, f_ranVisited, f_ranFaults, a_tokens, a_next, a_yes, a_no, a_out, a_come, a_places⟩ := u
  simp only [wY_statement_20, wpY_statement] at h ⊢
  repeat' first
    | exact hPQ _ h
    | exact h
    | (refine And.imp (fun g z => ?_) (fun g z => ?_) h <;> (have h := g z; clear g))
theorem dy_st {post : Int32 → Prop} {u : SY} {t : Nat} (ht : t < 32) (hp : post (db_i (!dt_c t && dt_tk t))) : wpY_statement post u (nI t) := dy_stM (P := fun r => r = db_i (!dt_c t && dt_tk t)) (fun _ e => e ▸ hp) (dy_st0 u t ht)
theorem dy_co0 (u : SY) : ∀ t, t < 32 → wpY_condition (fun r => r = db_i (dt_c t && dt_tk t)) u (nI t) := by
  obtain ⟨f_size, f_ranSet, f_ranVisited, f_ranFaults, a_tokens, a_next, a_yes, a_no, a_out, a_come, a_places⟩ := u
  simp only [wY_condition_12, wpY_condition, dk_ite]
  decide +kernel
theorem dy_coM {P Q : Int32 → Prop} {u : SY} {x : Int32} (hPQ : ∀ r, P r → Q r) (h : wpY_condition P u x) : wpY_condition Q u x := by
  obtain ⟨f_size, f_ranSet, f_ranVisited, f_ranFaults, a_tokens, a_next, a_yes, a_no, a_out, a_come, a_places⟩ := u
  simp only [wY_condition_12, wpY_condition] at h ⊢
  repeat' first
    | exact hPQ _ h
    | exact h
    | (refine And.imp (fun g z => ?_) (fun g z => ?_) h <;> (have h := g z; clear g))
theorem dy_co {post : Int32 → Prop} {u : SY} {t : Nat} (ht : t < 32) (hp : post (db_i (dt_c t && dt_tk t))) : wpY_condition post u (nI t) := dy_coM (P := fun r => r = db_i (dt_c t && dt_tk t)) (fun _ e => e ▸ hp) (dy_co0 u t ht)
theorem dy_pc0 (u : SY) : ∀ t, t < 32 → wpY_parts (fun r => r = nI (dt_ar t)) u (nI t) := by
  obtain ⟨f_size, f_ranSet, f_ranVisited, f_ranFaults, a_tokens, a_next, a_yes, a_no, a_out, a_come, a_places⟩ := u
  simp only [wpY_parts, dk_ite]
  decide +kernel
theorem dy_pcM {P Q : Int32 → Prop} {u : SY} {x : Int32} (hPQ : ∀ r, P r → Q r) (h : wpY_parts P u x) : wpY_parts Q u x := by
  obtain ⟨f_size, f_ranSet, f_ranVisited, f_ranFaults, a_tokens, a_next, a_yes, a_no, a_out, a_come, a_places⟩ := u
  simp only [wpY_parts] at h ⊢
  repeat' first
    | exact hPQ _ h
    | exact h
    | (refine And.imp (fun g z => ?_) (fun g z => ?_) h <;> (have h := g z; clear g))
theorem dy_pc {post : Int32 → Prop} {u : SY} {t : Nat} (ht : t < 32) (hp : post (nI (dt_ar t))) : wpY_parts post u (nI t) := dy_pcM (P := fun r => r = nI (dt_ar t)) (fun _ e => e ▸ hp) (dy_pc0 u t ht)
theorem dy_un0 (u : SY) : ∀ t, t < 32 → wpY_open (fun r => r = db_i (dt_opn t)) u (nI t) := by
  obtain ⟨f_size, f_ranSet, f_ranVisited, f_ranFaults, a_tokens, a_next, a_yes, a_no, a_out, a_come, a_places⟩ := u
  simp only [wpY_open, dk_ite]
  decide +kernel
theorem dy_unM {P Q : Int32 → Prop} {u : SY} {x : Int32} (hPQ : ∀ r, P r → Q r) (h : wpY_open P u x) : wpY_open Q u x := by
  obtain ⟨f_size, f_ranSet, f_ranVisited, f_ranFaults, a_tokens, a_next, a_yes, a_no, a_out, a_come, a_places⟩ := u
  simp only [wpY_open] at h ⊢
  repeat' first
    | exact hPQ _ h
    | exact h
    | (refine And.imp (fun g z => ?_) (fun g z => ?_) h <;> (have h := g z; clear g))
theorem dy_un {post : Int32 → Prop} {u : SY} {t : Nat} (ht : t < 32) (hp : post (db_i (dt_opn t))) : wpY_open post u (nI t) := dy_unM (P := fun r => r = db_i (dt_opn t)) (fun _ e => e ▸ hp) (dy_un0 u t ht)
theorem dy_us0 (u : SY) : ∀ t, t < 32 → wpY_uses (fun r => r = db_i (dt_use t)) u (nI t) := by
  obtain ⟨f_size, f_ranSet, f_ranVisited, f_ranFaults, a_tokens, a_next, a_yes, a_no, a_out, a_come, a_places⟩ := u
  simp only [wY_uses_12, wpY_uses, dk_ite]
  decide +kernel
theorem dy_usM {P Q : Int32 → Prop} {u : SY} {x : Int32} (hPQ : ∀ r, P r → Q r) (h : wpY_uses P u x) : wpY_uses Q u x := by
  obtain ⟨f_size, f_ranSet, f_ranVisited, f_ranFaults, a_tokens, a_next, a_yes, a_no, a_out, a_come, a_places⟩ := u
  simp only [wY_uses_12, wpY_uses] at h ⊢
  repeat' first
    | exact hPQ _ h
    | exact h
    | (refine And.imp (fun g z => ?_) (fun g z => ?_) h <;> (have h := g z; clear g))
theorem dy_us {post : Int32 → Prop} {u : SY} {t : Nat} (ht : t < 32) (hp : post (db_i (dt_use t))) : wpY_uses post u (nI t) := dy_usM (P := fun r => r = db_i (dt_use t)) (fun _ e => e ▸ hp) (dy_us0 u t ht)
theorem dy_se0 (u : SY) : ∀ t, t < 32 → wpY_sets (fun r => r = db_i (dt_set t)) u (nI t) := by
  obtain ⟨f_size, f_ranSet, f_ranVisited, f_ranFaults, a_tokens, a_next, a_yes, a_no, a_out, a_come, a_places⟩ := u
  simp only [wY_sets_12, wpY_sets, dk_ite]
  decide +kernel
theorem dy_seM {P Q : Int32 → Prop} {u : SY} {x : Int32} (hPQ : ∀ r, P r → Q r) (h : wpY_sets P u x) : wpY_sets Q u x := by
  obtain ⟨f_size, f_ranSet, f_ranVisited, f_ranFaults, a_tokens, a_next, a_yes, a_no, a_out, a_come, a_places⟩ := u
  simp only [wY_sets_12, wpY_sets] at h ⊢
  repeat' first
    | exact hPQ _ h
    | exact h
    | (refine And.imp (fun g z => ?_) (fun g z => ?_) h <;> (have h := g z; clear g))
theorem dy_se {post : Int32 → Prop} {u : SY} {t : Nat} (ht : t < 32) (hp : post (db_i (dt_set t))) : wpY_sets post u (nI t) := dy_seM (P := fun r => r = db_i (dt_set t)) (fun _ e => e ▸ hp) (dy_se0 u t ht)

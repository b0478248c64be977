/-! what is made stays made -/
theorem zm_pure {ins : Instr} {st : List Value} {K : List Value → zR} {r : zO × zH} (h : zpure ins st K = some r) : ∃ st1, K st1 = some r := by
  unfold zpure at h
  repeat' (split at h)
  all_goals first | exact ⟨_, h⟩ | cases h
theorem zm_load {ins : Instr} {L : zL} {K : Value → zR} {r : zO × zH} (h : zload ins L K = some r) : ∃ v, K v = some r := by
  unfold zload at h
  simp only [zli, zll, zla] at h
  repeat' (split at h)
  all_goals first | exact ⟨_, h⟩ | cases h
theorem zm_st {L : zL} {i : Nat} {v : Value} {K : zL → zR} {r : zO × zH} (h : zst L i v K = some r) : ∃ L1, K L1 = some r := ⟨_, (zst_spec h).2.2⟩
theorem zm_st2 {L : zL} {i : Nat} {x : Int64} {K : zL → zR} {r : zO × zH} (h : zst2 L i x K = some r) : ∃ L1, K L1 = some r := ⟨_, (zst2_spec h).2.2⟩
theorem zm_store {ins : Instr} {st : List Value} {L : zL} {K : List Value → zL → zR} {r : zO × zH} (h : zstore ins st L K = some r) : ∃ st1 L1, K st1 L1 = some r := by
  unfold zstore at h
  simp only [zsi, zsl, zsa] at h
  repeat' (split at h)
  all_goals first | (obtain ⟨L1, h1⟩ := zm_st h; exact ⟨_, L1, h1⟩) | (obtain ⟨L1, h1⟩ := zm_st2 h; exact ⟨_, L1, h1⟩) | cases h
theorem zm_storeN {ins : Instr} {st : List Value} {L : zL} {K : List Value → zL → zR} {r : zO × zH} (h : zstoreN ins st L K = some r) : ∃ st1 L1, K st1 L1 = some r := by
  unfold zstoreN at h
  simp only [zui, zua] at h
  repeat' (split at h)
  all_goals first | exact ⟨_, _, (zsu_spec h).2⟩ | cases h
theorem zm_br {ins : Instr} {st : List Value} {t f : List Value → zR} {r : zO × zH} (h : zbr ins st t f = some r) : (∃ st1, t st1 = some r) ∨ ∃ st1, f st1 = some r := by
  unfold zbr at h
  simp only [zc1, zc2] at h
  repeat' (split at h)
  all_goals first | exact Or.inl ⟨_, h⟩ | exact Or.inr ⟨_, h⟩ | cases h
theorem zm_sw {ins : Instr} {pc : Nat} {st : List Value} {K : Nat → List Value → zR} {r : zO × zH} (h : zsw ins pc st K = some r) : ∃ t st1, K t st1 = some r := by
  unfold zsw at h
  repeat' (split at h)
  all_goals first | exact ⟨_, _, h⟩ | cases h
theorem zm_gf {E : zX} {h : zH} {v : Value} {ci k : Nat} {K : Value → zR} {r : zO × zH} (h0 : zgf E h v ci k K = some r) : ∃ w, K w = some r := by
  unfold zgf at h0
  split at h0
  · split at h0
    · have h1 := (z_bif h0).2
      split at h1
      · exact ⟨_, h1⟩
      · cases h1
    · cases h0
  · split at h0
    · have h1 := (z_bif h0).2
      revert h1
      cases Nat.beq k 0
      · intro h1
        exact ⟨_, (z_bif h1).2⟩
      · intro h1
        exact ⟨_, h1⟩
    · cases h0
  · cases h0
theorem zm_pf {h : zH} {st : List Value} {ci k t : Nat} {K : List Value → zH → zR} {r : zO × zH} (h0 : zpf h st ci k t K = some r) : ∃ st1 h1, K st1 h1 = some r ∧ h1.2 = h.2 ∧ zsm h1.1 = zsm h.1 ∧ h1.1.length = h.1.length := by
  unfold zpf at h0
  split at h0
  · split at h0
    · rename_i o ho
      exact ⟨_, _, (z_bif h0).2, rfl, zsm_setk ho (by simp only [zsz, List.length_set]), by simp only [List.length_set]⟩
    · cases h0
  · cases h0
theorem zm_ald {ins : Instr} {E : zX} {h : zH} {st : List Value} {K : List Value → zR} {r : zO × zH} (h0 : zald ins E h st K = some r) : ∃ st1, K st1 = some r := by
  unfold zald at h0
  repeat' (split at h0)
  all_goals first | exact ⟨_, h0⟩ | cases h0
theorem zm_ast {ins : Instr} {h : zH} {st : List Value} {K : List Value → zH → zR} {r : zO × zH} (h0 : zast ins h st K = some r) : ∃ st1 h1, K st1 h1 = some r ∧ h1.2 = h.2 ∧ zsm h1.1 = zsm h.1 ∧ h1.1.length = h.1.length := by
  unfold zast at h0
  split at h0
  · split at h0
    · rename_i ha
      split at h0
      · cases h0
      · exact ⟨_, _, h0, rfl, zsm_setk ha rfl, by simp only [List.length_set]⟩
    · cases h0
  · split at h0
    · rename_i ha
      split at h0
      · cases h0
      · exact ⟨_, _, h0, rfl, zsm_setk ha rfl, by simp only [List.length_set]⟩
    · cases h0
  · split at h0
    · rename_i ha
      split at h0
      · cases h0
      · exact ⟨_, _, (z_bif h0).2, rfl, zsm_setk ha rfl, by simp only [List.length_set]⟩
    · cases h0
  · cases h0
theorem zm_len {E : zX} {h : zH} {st : List Value} {K : List Value → zR} {r : zO × zH} (h0 : zlenA E h st K = some r) : ∃ st1, K st1 = some r := by
  unfold zlenA at h0
  repeat' (split at h0)
  all_goals first | exact ⟨_, (z_bif h0).2⟩ | cases h0
theorem zm_newa {ins : Instr} {h : zH} {st : List Value} {K : List Value → zH → zR} {r : zO × zH} (h0 : znewa ins h st K = some r) : ∃ st1 h1, K st1 h1 = some r ∧ h1.2 = h.2 ∧ zsm h.1 ≤ zsm h1.1 ∧ h1.1.length = h.1.length + 1 := by
  unfold znewa at h0
  split at h0
  · split at h0
    · cases h0
    · split at h0
      · exact ⟨_, _, (z_bif h0).2, rfl, by rw [zsm_app]; omega, by simp⟩
      · cases h0
  · cases h0
theorem zm_cp {h : zH} {st : List Value} {K : List Value → zH → zR} {r : zO × zH} (h0 : zcp h st K = some r) : ∃ st1 h1, K st1 h1 = some r ∧ h1.2 = h.2 ∧ zsm h1.1 = zsm h.1 ∧ h1.1.length = h.1.length := by
  unfold zcp at h0
  split at h0
  · split at h0
    · rename_i ha0 ha1
      split at h0
      · cases h0
      · exact ⟨_, _, h0, rfl, zsm_setk ha1 rfl, by simp only [List.length_set]⟩
    · cases h0
  · cases h0
theorem zm_ret {ins : Instr} {t : Option FieldType} {st : List Value} {h : zH} {o : zO} {h' : zH} (h0 : zret ins t st h = some (o, h')) : h' = h := by
  unfold zret at h0
  split at h0
  · have := (z_bif h0).2
    cases this
    rfl
  · split at h0
    · cases h0; rfl
    · cases h0
  · split at h0
    · cases h0; rfl
    · cases h0
  · split at h0
    · cases h0; rfl
    · cases h0
  · cases h0
theorem z_bif2 {x : Bool} {a c : zR} {r : zO × zH} (h : (bif x then a else c) = some r) : a = some r ∨ c = some r := by
  cases x
  · exact Or.inr h
  · exact Or.inl h
def zle (h h' : zH) : Prop := h.1.length ≤ h'.1.length ∧ h.2 ≤ h'.2 ∧ zsm h.1 ≤ zsm h'.1
theorem zle_rfl (h : zH) : zle h h := ⟨Nat.le_refl _, Nat.le_refl _, Nat.le_refl _⟩
theorem zle.trans {a b c : zH} (h1 : zle a b) (h2 : zle b c) : zle a c := ⟨Nat.le_trans h1.1 h2.1, Nat.le_trans h1.2.1 h2.2.1, Nat.le_trans h1.2.2 h2.2.2⟩
set_option maxHeartbeats 4000000 in
theorem zm_run (P : Nat → Option zM) (Cd : List (List Value)) (E : zX) : ∀ (n d M pc : Nat) (L : zL) (st : List Value) (h : zH) (o : zO) (h' : zH), zrun P Cd E n d M pc L st h = some (o, h') → zle h h' := by
  intro n
  induction n with
  | zero => intro d M pc L st h o h' hr; cases hr
  | succ n ih =>
    intro d M pc L st h o h' hr
    have same : ∀ {h1 : zH}, h1.2 = h.2 ∧ zsm h1.1 = zsm h.1 ∧ h1.1.length = h.1.length → zle h1 h' → zle h h' := fun q w => zle.trans ⟨by omega, by omega, by omega⟩ w
    replace hr : zstep P Cd E (zrun P Cd E n) d M pc L st h = some (o, h') := hr
    unfold zstep at hr
    split at hr
    · cases hr
    · split at hr
      · cases hr
      · split at hr
        · obtain ⟨_, q⟩ := zm_pure hr; exact ih _ _ _ _ _ _ _ _ q
        · obtain ⟨_, q⟩ := zm_load hr; exact ih _ _ _ _ _ _ _ _ q
        · obtain ⟨_, _, q⟩ := zm_store hr; exact ih _ _ _ _ _ _ _ _ q
        · rcases zm_br hr with ⟨_, q⟩ | ⟨_, q⟩ <;> exact ih _ _ _ _ _ _ _ _ q
        · obtain ⟨_, _, q⟩ := zm_sw hr; exact ih _ _ _ _ _ _ _ _ q
        · split at hr
          · obtain ⟨_, q⟩ := zm_gf hr; exact ih _ _ _ _ _ _ _ _ q
          · cases hr
        · obtain ⟨_, _, q, w⟩ := zm_pf hr; exact same w (ih _ _ _ _ _ _ _ _ q)
        · obtain ⟨_, q⟩ := zm_ald hr; exact ih _ _ _ _ _ _ _ _ q
        · obtain ⟨_, _, q, w⟩ := zm_ast hr; exact same w (ih _ _ _ _ _ _ _ _ q)
        · obtain ⟨_, q⟩ := zm_len hr; exact ih _ _ _ _ _ _ _ _ q
        · split at hr
          · refine zle.trans ⟨?_, ?_, ?_⟩ (ih _ _ _ _ _ _ _ _ (z_bif hr).2)
            · simp
            · simp
            · rw [zsm_app]; omega
          · cases hr
        · obtain ⟨_, _, q, w1, w2, w3⟩ := zm_newa hr; exact zle.trans ⟨by omega, by omega, w2⟩ (ih _ _ _ _ _ _ _ _ q)
        · split at hr
          · cases hr
          · split at hr
            · cases hr
            · have hr := (z_bif hr).2
              split at hr
              · cases hr
              · rename_i hc
                exact zle.trans (ih _ _ _ _ _ _ _ _ hc) (ih _ _ _ _ _ _ _ _ hr)
              · rename_i hc
                split at hr
                · split at hr
                  · cases hr; exact ih _ _ _ _ _ _ _ _ hc
                  · cases hr
                · obtain ⟨_, q⟩ := zm_st hr
                  exact zle.trans (ih _ _ _ _ _ _ _ _ hc) (ih _ _ _ _ _ _ _ _ q)
        · rw [zm_ret hr]; exact zle_rfl h
        · split at hr
          · have := (z_bif hr).2
            cases this
            exact ⟨Nat.le_refl _, Nat.le_succ _, Nat.le_refl _⟩
          · cases hr
        · obtain ⟨_, _, q, w⟩ := zm_cp (z_bif hr).2; exact same w (ih _ _ _ _ _ _ _ _ q)
        · exact ih _ _ _ _ _ _ _ _ hr
        · exact ih _ _ _ _ _ _ _ _ hr
        · rcases z_bif2 hr with hr | hr <;> exact ih _ _ _ _ _ _ _ _ hr
        · split at hr
          · exact ih _ _ _ _ _ _ _ _ (z_bif hr).2
          · cases hr
        · exact ih _ _ _ _ _ _ _ _ hr
        · split at hr
          · rcases z_bif2 (z_bif hr).2 with hr | hr <;> exact ih _ _ _ _ _ _ _ _ hr
          · cases hr
        · obtain ⟨_, _, q⟩ := zm_storeN hr; exact ih _ _ _ _ _ _ _ _ q
        · cases hr

/-! WHAT THE CONSTRUCTORS MAKE: they use nothing that lies outside; so they are run by the kernel, with nothing outside -/
section ZEX
variable {E : zX}
theorem zx_gf {h : zH} {v : Value} {ci k : Nat} {K K' : Value → zR} {r : zO × zH} (hK : ∀ a, K a = some r → K' a = some r) : zgf [] h v ci k K = some r → zgf E h v ci k K' = some r := by
  cases v with
  | ref a => exact zn_gf (E := E) (v := .ref a) hK
  | float i =>
    intro h0
    unfold zgf at h0
    simp only [List.getElem?_nil] at h0
    cases h0
  | _ =>
    intro h0
    unfold zgf at h0
    cases h0
theorem zx_ald {ins : Instr} {h : zH} {st : List Value} {K K' : List Value → zR} {r : zO × zH} (hK : ∀ a, K a = some r → K' a = some r) : zald ins [] h st K = some r → zald ins E h st K' = some r := by
  intro h0
  refine zn_ald hK ?_
  unfold zald at h0 ⊢
  simp only [List.getElem?_nil] at h0
  split at h0
  · exact h0
  · cases h0
  · exact h0
  · exact h0
  · cases h0
  · cases h0
theorem zx_len {h : zH} {st : List Value} {K K' : List Value → zR} {r : zO × zH} (hK : ∀ a, K a = some r → K' a = some r) : zlenA [] h st K = some r → zlenA E h st K' = some r := by
  intro h0
  refine zn_len hK ?_
  unfold zlenA at h0 ⊢
  simp only [List.getElem?_nil] at h0
  split at h0
  · exact h0
  · cases h0
  · cases h0
theorem zx_recv {h : zH} {rc : Nat} {v : Option Value} : zrecv [] h rc v = true → zrecv E h rc v = true := by
  intro h0
  unfold zrecv at h0 ⊢
  revert h0
  cases Nat.beq rc 0
  · simp only [List.getElem?_nil, cond_false]
    intro h0
    split at h0
    · exact h0
    · rw [Bool.and_false] at h0
      cases h0
    · cases h0
  · intro _
    rfl
theorem zx_bif {x y : Bool} {a b : zR} {r : zO × zH} (hx : x = true → y = true) (h : a = some r → b = some r) : (bif x then a else none) = some r → (bif y then b else none) = some r := by
  cases x
  · intro h; cases h
  · intro g
    rw [hx rfl]
    exact h g
set_option maxHeartbeats 4000000 in
theorem zx_step {P : Nat → Option zM} {Cd : List (List Value)} {Z Z' : Nat → Nat → Nat → zL → List Value → zH → zR} (hZ : ∀ d M pc L st h r, Z d M pc L st h = some r → Z' d M pc L st h = some r) {d M pc : Nat} {L : zL} {st : List Value} {h : zH} {r : zO × zH} : zstep P Cd [] Z d M pc L st h = some r → zstep P Cd E Z' d M pc L st h = some r := by
  unfold zstep
  split
  · intro h; cases h
  · split
    · intro h; cases h
    · split
      · exact zn_pure (fun _ => hZ _ _ _ _ _ _ _)
      · exact zn_load (fun _ => hZ _ _ _ _ _ _ _)
      · exact zn_store (fun _ _ => hZ _ _ _ _ _ _ _)
      · exact zn_br (fun _ => hZ _ _ _ _ _ _ _) (fun _ => hZ _ _ _ _ _ _ _)
      · exact zn_sw (fun _ _ => hZ _ _ _ _ _ _ _)
      · split
        · exact zx_gf (fun _ => hZ _ _ _ _ _ _ _)
        · intro h; cases h
      · exact zn_pf (fun _ _ => hZ _ _ _ _ _ _ _)
      · exact zx_ald (fun _ => hZ _ _ _ _ _ _ _)
      · exact zn_ast (fun _ _ => hZ _ _ _ _ _ _ _)
      · exact zx_len (fun _ => hZ _ _ _ _ _ _ _)
      · split
        · exact zn_bif (hZ _ _ _ _ _ _ _)
        · intro h; cases h
      · exact zn_newa (fun _ _ => hZ _ _ _ _ _ _ _)
      · split
        · intro h; cases h
        · split
          · intro h; cases h
          · refine zx_bif ?_ ?_
            · intro g
              rw [Bool.and_eq_true] at g ⊢
              exact ⟨g.1, zx_recv g.2⟩
            · intro h0
              split at h0
              · cases h0
              · rename_i hc
                rw [hZ _ _ _ _ _ _ _ hc]
                exact hZ _ _ _ _ _ _ _ h0
              · rename_i hc
                rw [hZ _ _ _ _ _ _ _ hc]
                simp only
                split at h0
                · exact h0
                · exact zn_st (fun _ => hZ _ _ _ _ _ _ _) h0
      · exact id
      · exact id
      · exact zn_bif (zn_cp (fun _ _ => hZ _ _ _ _ _ _ _))
      · exact hZ _ _ _ _ _ _ _
      · exact hZ _ _ _ _ _ _ _
      · intro h0
        revert h0
        cases Nat.beq _ 0
        · exact hZ _ _ _ _ _ _ _
        · exact hZ _ _ _ _ _ _ _
      · split
        · exact zn_bif (hZ _ _ _ _ _ _ _)
        · intro h; cases h
      · exact hZ _ _ _ _ _ _ _
      · split
        · refine zn_bif ?_
          cases Nat.beq _ 0
          · exact hZ _ _ _ _ _ _ _
          · exact hZ _ _ _ _ _ _ _
        · intro h; cases h
      · exact zn_storeN (fun _ _ => hZ _ _ _ _ _ _ _)
      · exact id
theorem zx_run {P : Nat → Option zM} {Cd : List (List Value)} : ∀ (n d M pc : Nat) (L : zL) (st : List Value) (h : zH) (r : zO × zH), zrun P Cd [] n d M pc L st h = some r → zrun P Cd E n d M pc L st h = some r := by
  intro n
  induction n with
  | zero => intro d M pc L st h r hr; cases hr
  | succ n ih => intro d M pc L st h r hr; exact zx_step ih hr
end ZEX

/-! the constructors, run by the kernel -/
def y_vals : List (Nat × Nat × Int32) := [(3, 0, 4), (3, 1, 4), (3, 2, 16), (3, 3, 0), (3, 4, 0), (6, 1, 0), (8, 1, 0), (26, 0, 0), (26, 1, 0), (24, 1, 0), (24, 3, 0), (0, 8, 0), (0, 1, 0), (0, 2, -1), (2, 0, 0), (2, 1, 0), (2, 2, 0),
  (65, 1, 4), (65, 2, 4), (65, 3, 0), (65, 4, 0), (65, 5, -1), (65, 6, -1), (77, 0, 0), (65, 42, 0), (65, 53, 0), (65, 58, 0), (65, 11, 0), (65, 13, -1), (70, 0, 0), (70, 1, 0), (70, 2, 0)]
def y_okV (h : List zC) : List (Nat × Nat × Int32) → Bool
  | [] => true
  | q :: r => (y_st h q.1 q.2.1 == q.2.2) && y_okV h r
def y_okG (h : List zC) : Nat → Bool
  | 0 => true
  | c + 1 => ((y_st h 10 c == nI (c % 4)) && (y_st h 11 c == nI (c / 4))) && y_okG h c
def y_q11 : zC := .inr (11, [.null, .int 0, .int 0, .null, .null, .null, .null, .null, .int 0, .null, .null, .null, .null, .null, .null, .null])
def y_q12 : zC := .inr (12, zCd.getD 12 [])
def y_out : zC := .inl (1, 1, .inr (.inl (fun _ => 0)))
noncomputable def y_r1 : zR := zrun zP zCd [] 1000 99 140 0 [some (.ref 0)] [] ([y_q11], 0)
noncomputable def y_r2 (h : List zC) : zR := zrun zP zCd [] 1000 99 183 0 [some (.ref 65)] [] (h ++ [y_q12], 0)
def y_chk2 (r : zR) : Bool := match r with
  | some (.inl none, (h2, 0)) => Nat.beq h2.length 91 && (y_okL zSh (h2 ++ [y_out]) && (y_okV (h2 ++ [y_out]) y_vals && y_okG (h2 ++ [y_out]) 16))
  | _ => false
def y_chk (r1 : zR) (r2 : List zC → zR) : Bool := match r1 with
  | some (.inl none, (h1, 0)) => Nat.beq h1.length 65 && y_chk2 (r2 h1)
  | _ => false
theorem y_chk2_of {r : zR} (h : y_chk2 r = true) : ∃ h2 : List zC, r = some (.inl none, (h2, 0)) ∧ h2.length = 91 ∧ y_okL zSh (h2 ++ [y_out]) = true ∧ y_okV (h2 ++ [y_out]) y_vals = true ∧ y_okG (h2 ++ [y_out]) 16 = true := by
  cases r with
  | none => 
    have h : false = true := h
    cases h
  | some p =>
    obtain ⟨o, hh, m⟩ := p
    cases o with
    | inr w => 
      have h : false = true := h
      cases h
    | inl v =>
      cases v with
      | some w => 
        have h : false = true := h
        cases h
      | none =>
        cases m with
        | succ m => 
          have h : false = true := h
          cases h
        | zero =>
          have h : (Nat.beq hh.length 91 && (y_okL zSh (hh ++ [y_out]) && (y_okV (hh ++ [y_out]) y_vals && y_okG (hh ++ [y_out]) 16))) = true := h
          rw [Bool.and_eq_true, Bool.and_eq_true, Bool.and_eq_true] at h
          obtain ⟨b, c, d, e⟩ := h
          exact ⟨hh, rfl, Nat.eq_of_beq_eq_true b, c, d, e⟩
theorem y_chk_of {r1 : zR} {r2 : List zC → zR} (h : y_chk r1 r2 = true) : ∃ h1 h2 : List zC, r1 = some (.inl none, (h1, 0)) ∧ h1.length = 65 ∧ r2 h1 = some (.inl none, (h2, 0)) ∧ h2.length = 91 ∧ y_okL zSh (h2 ++ [y_out]) = true ∧ y_okV (h2 ++ [y_out]) y_vals = true ∧ y_okG (h2 ++ [y_out]) 16 = true := by
  cases r1 with
  | none => 
    have h : false = true := h
    cases h
  | some p =>
    obtain ⟨o, hh, m⟩ := p
    cases o with
    | inr w => 
      have h : false = true := h
      cases h
    | inl v =>
      cases v with
      | some w => 
        have h : false = true := h
        cases h
      | none =>
        cases m with
        | succ m => 
          have h : false = true := h
          cases h
        | zero =>
          have h : (Nat.beq hh.length 65 && y_chk2 (r2 hh)) = true := h
          rw [Bool.and_eq_true] at h
          obtain ⟨h2, g1, g2, g3, g4, g5⟩ := y_chk2_of h.2
          exact ⟨hh, h2, rfl, Nat.eq_of_beq_eq_true h.1, g1, g2, g3, g4, g5⟩

/-! WAYS: the reference lays them -/
def bes (w h q a : Nat) : Option Nat := if a = 0 then (if q < w then none else some (q - w)) else if a = 1 then (if w ≤ q % w + 1 then none else some (q + 1)) else if a = 2 then (if h ≤ q / w + 1 then none else some (q + w)) else (if q % w ≤ 0 then none else some (q - 1))
def bsb (w h q c : Nat) : Bool := decide (far w q c = 1) == (decide (bes w h q 0 = some c) || decide (bes w h q 1 = some c) || decide (bes w h q 2 = some c) || decide (bes w h q 3 = some c))
theorem bsb_t : ∀ w, w < 7 → ∀ h, h < 7 → ∀ q, q < w * h → ∀ c, c < w * h → bsb w h q c = true := by decide +kernel
theorem bes_iff {w h q c : Nat} (hw : w < 7) (hh : h < 7) (hq : q < w * h) (hc : c < w * h) : far w q c = 1 ↔ ∃ a, a < 4 ∧ bes w h q a = some c := by
  have t := bsb_t w hw h hh q hq c hc
  unfold bsb at t
  have t := eq_of_beq t
  constructor
  · intro e
    rw [decide_eq_true e] at t
    have t := t.symm
    rw [Bool.or_eq_true, Bool.or_eq_true, Bool.or_eq_true] at t
    rcases t with ((g | g) | g) | g
    · exact ⟨0, by omega, of_decide_eq_true g⟩
    · exact ⟨1, by omega, of_decide_eq_true g⟩
    · exact ⟨2, by omega, of_decide_eq_true g⟩
    · exact ⟨3, by omega, of_decide_eq_true g⟩
  · rintro ⟨a, ha, e⟩
    refine of_decide_eq_true (t.trans ?_)
    rw [Bool.or_eq_true, Bool.or_eq_true, Bool.or_eq_true]
    rcases (show a = 0 ∨ a = 1 ∨ a = 2 ∨ a = 3 by omega) with rfl | rfl | rfl | rfl
    · exact Or.inl (Or.inl (Or.inl (decide_eq_true e)))
    · exact Or.inl (Or.inl (Or.inr (decide_eq_true e)))
    · exact Or.inl (Or.inr (decide_eq_true e))
    · exact Or.inr (decide_eq_true e)
def bsl (w h q a : Nat) : Bool := match bes w h q a with
  | none => true
  | some c => decide (c < w * h)
theorem bsl_t : ∀ w, w < 7 → ∀ h, h < 7 → ∀ q, q < w * h → ∀ a, a < 4 → bsl w h q a = true := by decide +kernel
theorem bes_lt {w h q a c : Nat} (hw : w < 7) (hh : h < 7) (hq : q < w * h) (ha : a < 4) (e : bes w h q a = some c) : c < w * h := by
  have := bsl_t w hw h hh q hq a ha
  unfold bsl at this
  rw [e] at this
  exact of_decide_eq_true this
def nin : Option Nat → Int32
  | none => 9999
  | some k => nI k
theorem nin_n {k : Option Nat} (hb : ∀ j, k = some j → j < 1000) : (9999 : Int32) ≤ nin k ↔ k = none := by
  cases k with
  | none => exact ⟨fun _ => rfl, fun _ => by decide⟩
  | some j =>
    have := hb j rfl
    exact ⟨fun h => absurd h (nI_ge (b := 9999) (by omega) (by omega)), fun h => by cases h⟩
section WM
variable {l : Lnd} {A : Scn} {S : St} {E : zX} {d : Nat}
theorem e_isShut {c : Nat} {Q : Int32 → St → Prop} (hd : 1 ≤ d) (hL : LM l S) (hA : ScM l (S 77) 0 A) (hO : COk l A) (hc : c < 1000) (h1 : brd l A c → Q 1 S) (h0 : ¬ brd l A c → Q 0 S) : k_m_isShut E d S (nI c) Q := by
  have b10 := hL.ok.b10
  have c36 := hL.ok.c36
  refine w_m_isShut hd ?_
  have yes : brd l A c → ∀ k, k ≤ lb l → k_m_isShut_4 E d S (nI c) 1 k Q := fun hb => by
    refine dn (lb l) ?_ (fun k hk ih => ?_)
    · exact w_m_isShut_4 hd (ilp (lb l) hL.b (by omega) (by omega) (fun _ => ⟨Or.inr rfl, h1 hb⟩) (fun h => absurd h (Nat.lt_irrefl _)))
    · refine w_m_isShut_4 hd (ilp (lb l) hL.b (by omega) (by omega) (fun h => by omega) (fun _ => ?_))
      rw [if_neg (by decide)]
      exact ih
  refine dn (P := fun k => (∀ x, x < k → ¬ (cel A x = c ∧ ¬ A 6 x = 0)) → k_m_isShut_4 E d S (nI c) 0 k Q) (lb l) ?_ (fun k hk ih => ?_) 0 (Nat.zero_le _) (fun x hx => absurd hx (Nat.not_lt_zero x))
  · intro hn
    refine w_m_isShut_4 hd (ilp (lb l) hL.b (by omega) (by omega) (fun _ => ⟨Or.inl rfl, h0 ?_⟩) (fun h => absurd h (Nat.lt_irrefl _)))
    rintro ⟨x, x1, x2⟩
    exact hn x x1 x2
  · intro hn
    refine w_m_isShut_4 hd (ilp (lb l) hL.b (by omega) (by omega) (fun h => by omega) (fun _ => ?_))
    rw [if_pos rfl]
    obtain ⟨o1, o2⟩ := hO k hk
    have nx : ¬ (cel A k = c ∧ ¬ A 6 k = 0) → k_m_isShut_4 E d S (nI c) 0 (k + 1) Q := fun hk2 => ih (fun x hx => by
      by_cases ex : x = k
      · rw [ex]
        exact hk2
      · exact hn x (by omega))
    refine e_isWhite (o := 0) hL.ok (by omega) hA hk (izb (fun hw => ?_) (fun hw => ?_))
    · exact nx (fun hh => hh.2 hw)
    · refine ⟨by omega, ?_⟩
      rw [show S 77 (29 + k) = nI (cel A k) by rw [← o1]; have := hA 5 k (by decide) hk; rw [Nat.zero_add] at this; exact this]
      refine ife (fun e => ?_) (fun e => ?_)
      · exact yes ⟨k, hk, (nI_eq (by omega) (by omega)).mp e, hw⟩ (k + 1) (by omega)
      · exact nx (fun hh => e (by rw [hh.1]))
theorem e_beside {q a : Nat} {y : Int32} {Q : Int32 → St → Prop} (hL : LM l S) (hq : q < lw l * lh l) (hy : y = nI q) (ha : a < 4) (h : Q (oI (bes (lw l) (lh l) q a)) S) : k_m_beside E d S y (nI a) Q := by
  have c36 := hL.ok.c36
  have w1 := hL.ok.w1
  have w6 := hL.ok.w6
  have h6 : lh l ≤ 6 := hL.ok.2.2.2.1
  subst hy
  have hw : ¬ S 65 1 = 0 := by
    rw [hL.w]
    exact nI_ne0 (by omega) (by omega)
  have m1 := Nat.mod_lt q w1
  have d1 := Nat.div_le_self q (lw l)
  unfold bes at h
  refine w_m_beside ?_
  rcases (show a = 0 ∨ a = 1 ∨ a = 2 ∨ a = 3 by omega) with rfl | rfl | rfl | rfl
  · rw [if_pos rfl] at h
    rw [if_pos e00, hL.w]
    refine ilt (by omega) (by omega) (fun e => ?_) (fun e => ?_)
    · rw [if_pos e] at h
      exact h
    · rw [if_neg (by omega)] at h
      rw [pk_sub e]
      exact h
  · rw [if_neg (by decide), if_pos rfl] at h
    rw [if_neg (by decide), if_pos e11]
    refine ⟨hw, ?_⟩
    rw [hL.w]
    unfold zrem
    rw [pk_rem (by omega) (by omega) (by omega), nI_1]
    refine ilp _ rfl (by omega) (by omega) (fun e => ?_) (fun e => ?_)
    · rw [if_pos e] at h
      exact h
    · rw [if_neg (by omega)] at h
      rw [nI_1]
      exact h
  · rw [if_neg (by decide), if_neg (by decide), if_pos rfl] at h
    rw [if_neg (by decide), if_neg (by decide), if_pos e22]
    refine ⟨hw, ?_⟩
    rw [hL.w, hL.h, pk_div (by omega) (by omega) (by omega), nI_1]
    refine ilp _ rfl (by omega) (by omega) (fun e => ?_) (fun e => ?_)
    · rw [if_pos e] at h
      exact h
    · rw [if_neg (by omega)] at h
      rw [nI_add]
      exact h
  · rw [if_neg (by decide), if_neg (by decide), if_neg (by decide)] at h
    rw [if_neg (by decide), if_neg (by decide), if_neg (by decide)]
    refine ⟨hw, ?_⟩
    rw [hL.w]
    unfold zrem
    rw [pk_rem (by omega) (by omega) (by omega)]
    refine ife (fun e => ?_) (fun e => ?_)
    · have e : q % lw l ≤ 0 := Nat.le_of_not_lt (fun hh => nI_ge (a := 0) hh (by omega) e)
      rw [if_pos e] at h
      exact h
    · have e : ¬ q % lw l ≤ 0 := fun hh => e (nI_le (b := 0) hh (by omega))
      rw [if_neg e] at h
      have q1 : 1 ≤ q := by
        have := Nat.mod_le q (lw l)
        omega
      rw [show nI q - (1 : Int32) = nI (q - 1) from pk_sub (b := 1) q1]
      exact h
end WM

/-! PLANS: of those that do the fewest, and of like ones the least; to guard, all at once -/
def srch (W : Nat → Bool) : Nat → Option Nat
  | 0 => none
  | k + 1 => if W k = true then (match srch W k with
    | none => some k
    | some b => if cnt k 10 < cnt b 10 then some k else some b) else srch W k
theorem srch_0 {W : Nat → Bool} {k : Nat} (h : W k = false) : srch W (k + 1) = srch W k := by
  rw [srch, if_neg (by rw [h]; decide)]
theorem srch_n {W : Nat → Bool} {k : Nat} (h : W k = true) (e : srch W k = none) : srch W (k + 1) = some k := by
  rw [srch, if_pos h, e]
theorem srch_s {W : Nat → Bool} {k b : Nat} (h : W k = true) (e : srch W k = some b) : srch W (k + 1) = if cnt k 10 < cnt b 10 then some k else some b := by
  rw [srch, if_pos h, e]
def SOk (W : Nat → Bool) (n : Nat) : Option Nat → Prop
  | none => ∀ m, m < n → W m = false
  | some b => W b = true ∧ b < n ∧ (∀ m, m < n → W m = true → cnt b 10 ≤ cnt m 10) ∧ ∀ m, m < b → W m = true → cnt b 10 < cnt m 10
theorem srch_ok (W : Nat → Bool) : ∀ n, SOk W n (srch W n)
  | 0 => fun m hm => absurd hm (Nat.not_lt_zero m)
  | n + 1 => by
    have ih := srch_ok W n
    cases hw : W n with
    | false =>
      rw [srch_0 hw]
      cases e : srch W n with
      | none =>
        rw [e] at ih
        intro m hm
        by_cases em : m = n
        · rw [em]
          exact hw
        · exact ih m (by omega)
      | some b =>
        rw [e] at ih
        obtain ⟨a1, a2, a3, a4⟩ := ih
        refine ⟨a1, by omega, fun m hm hW => ?_, a4⟩
        by_cases em : m = n
        · rw [em, hw] at hW
          cases hW
        · exact a3 m (by omega) hW
    | true =>
      cases e : srch W n with
      | none =>
        rw [srch_n hw e]
        rw [e] at ih
        refine ⟨hw, by omega, fun m hm hW => ?_, fun m hm hW => ?_⟩
        · by_cases em : m = n
          · rw [em]
            exact Nat.le_refl _
          · rw [ih m (by omega)] at hW
            cases hW
        · rw [ih m hm] at hW
          cases hW
      | some b =>
        rw [srch_s hw e]
        rw [e] at ih
        obtain ⟨a1, a2, a3, a4⟩ := ih
        by_cases hc : cnt n 10 < cnt b 10
        · rw [if_pos hc]
          refine ⟨hw, by omega, fun m hm hW => ?_, fun m hm hW => ?_⟩
          · by_cases em : m = n
            · rw [em]
              exact Nat.le_refl _
            · have := a3 m (by omega) hW
              omega
          · have := a3 m hm hW
            omega
        · rw [if_neg hc]
          refine ⟨a1, by omega, fun m hm hW => ?_, a4⟩
          by_cases em : m = n
          · rw [em]
            omega
          · exact a3 m (by omega) hW
theorem srch_same {W W' : Nat → Bool} {n n' : Nat} (h1 : ∀ m, m < n' → W' m = true → W m = true ∧ m < n) (h2 : ∀ m, m < n → W m = true → ∃ m', W' m' = true ∧ m' < n' ∧ cnt m' 10 ≤ cnt m 10 ∧ (cnt m' 10 = cnt m 10 → m' = m)) : srch W n = srch W' n' := by
  have o1 := srch_ok W n
  have o2 := srch_ok W' n'
  cases e : srch W n with
  | none =>
    rw [e] at o1
    cases e' : srch W' n' with
    | none => rfl
    | some c =>
      rw [e'] at o2
      obtain ⟨c1, c2, c3, c4⟩ := o2
      obtain ⟨g1, g2⟩ := h1 c c2 c1
      rw [o1 c g2] at g1
      cases g1
  | some b =>
    rw [e] at o1
    obtain ⟨b1, b2, b3, b4⟩ := o1
    obtain ⟨m', m1, m2, m3, m4⟩ := h2 b b2 b1
    obtain ⟨g1, g2⟩ := h1 m' m2 m1
    have := b3 m' g2 g1
    have em := m4 (by omega)
    subst em
    cases e' : srch W' n' with
    | none =>
      rw [e'] at o2
      rw [o2 m' m2] at m1
      cases m1
    | some c =>
      rw [e'] at o2
      obtain ⟨c1, c2, c3, c4⟩ := o2
      obtain ⟨k1, k2⟩ := h1 c c2 c1
      have q1 := b3 c k2 k1
      have q2 := c3 m' m2 m1
      by_cases l1 : c < m'
      · have := b4 c l1 k1
        omega
      · by_cases l2 : m' < c
        · have := c4 m' l2 m1
          omega
        · rw [show m' = c by omega]
theorem srch_lt {W : Nat → Bool} {n b : Nat} (h : srch W n = some b) : b < n := by
  have := srch_ok W n
  rw [h] at this
  exact this.2.1
theorem cnt_eq {a b : Nat} (h : sub a b) (hb : b < 1024) (e : cnt a 10 = cnt b 10) : a = b := by
  by_cases hne : a = b
  · exact hne
  · obtain ⟨i, i1, i2, i3⟩ := sub_ne (n := 10) h hb hne
    have := cnt_lt h 10 i i1 i2 i3
    omega
theorem sdf_0 {a b : Nat} : sdf a b = 0 ↔ sub a b := by
  constructor
  · intro h i hi
    have := sdf_bit a b i
    rw [h, Nat.zero_testBit, hi, Bool.true_and] at this
    simpa using this.symm
  · intro h
    refine bits_ext (fun i => ?_)
    rw [sdf_bit, Nat.zero_testBit]
    cases e : a.testBit i with
    | false => rfl
    | true =>
      rw [h i e]
      rfl
theorem sub_lt {a b n : Nat} (h : sub a b) (hb : b < 2 ^ n) : a < 2 ^ n := bits_lt (fun i hi => by
  cases e : a.testBit i with
  | false => rfl
  | true =>
    have := h i e
    rw [bit_ge hb hi] at this
    cases this)
section PL
variable {l : Lnd} {A : Scn} {G : Gst} {S : St} {E : zX} {d : Nat} {Q : Int32 → St → Prop} {X : Nat → St → Prop}
theorem clo_bit {can s i : Nat} : (clo l A can s).testBit i = true ↔ i < lb l ∧ ∀ T : Nat → Prop, Cls l A can s T → T i := by
  unfold clo
  rw [mkN_bit, Bool.and_eq_true, decide_eq_true_eq]
  constructor
  · rintro ⟨h1, h2⟩
    exact ⟨h1, @of_decide_eq_true _ (Classical.propDecidable _) h2⟩
  · rintro ⟨h1, h2⟩
    exact ⟨h1, @decide_eq_true _ (Classical.propDecidable _) h2⟩
theorem clo_lt (can s : Nat) : clo l A can s < 2 ^ lb l := mkN_lt _ _
theorem clo_in {can s i : Nat} (hi : i < lb l) (h : s.testBit i = true) : (clo l A can s).testBit i = true := clo_bit.mpr ⟨hi, fun _ hT => hT.1 i h⟩
theorem clo_st {can s x y : Nat} (hx : (clo l A can s).testBit x = true) (hy : y < lb l) (hc : can.testBit y = true) (hr : rch l A x (cel A y) = true) : (clo l A can s).testBit y = true := clo_bit.mpr ⟨hy, fun T hT => hT.2 x y ((clo_bit.mp hx).2 T hT) (clo_bit.mp hx).1 hy hc hr⟩
theorem clo_mono {can can' s : Nat} (h : sub can can') : sub (clo l A can s) (clo l A can' s) := fun i hi => clo_bit.mpr ⟨(clo_bit.mp hi).1, fun T hT => (clo_bit.mp hi).2 T ⟨hT.1, fun x y a b c e f => hT.2 x y a b c (h y e) f⟩⟩
theorem freM_bit {i : Nat} : (freM l A).testBit i = true ↔ i < lb l ∧ ¬ A 6 i = 0 ∧ ¬ A 9 i = 1 := by
  unfold freM
  rw [sdf_bit, Bool.and_eq_true, held_bit]
  unfold grdM held
  rw [mkN_bit]
  simp only [decide_eq_true_eq, Bool.not_eq_true', Bool.and_eq_false_iff, decide_eq_false_iff_not]
  constructor
  · rintro ⟨⟨h1, h2⟩, h3⟩
    exact ⟨h1, h2, h3.elim (fun h => absurd h1 h) id⟩
  · rintro ⟨h1, h2, h3⟩
    exact ⟨⟨h1, h2⟩, Or.inr h3⟩
theorem freM_lt : freM l A < 2 ^ lb l := bits_lt (fun i hi => by
  cases e : (freM l A).testBit i with
  | false => rfl
  | true =>
    have := (freM_bit.mp e).1
    omega)
theorem pw10 (hl : LOk l) {a : Nat} (h : a < 2 ^ lb l) : a < 1024 := Nat.lt_of_lt_of_le h (Nat.pow_le_pow_right (n := 2) (by decide) hl.b10)
/-! to guard -/
noncomputable def tgW (l : Lnd) (A : Scn) (D a b : Nat) (m : Nat) : Bool := @decide (sub m D ∧ (clo l A (sdf (freM l A) m) (2 ^ a)).testBit b = false) (Classical.propDecidable _)
theorem tgW_t {D a b m : Nat} : tgW l A D a b m = true ↔ sub m D ∧ (clo l A (sdf (freM l A) m) (2 ^ a)).testBit b = false := by
  unfold tgW
  exact @decide_eq_true_iff _ (Classical.propDecidable _)
theorem tgW_f {D a b m : Nat} (h : ¬ (sub m D ∧ (clo l A (sdf (freM l A) m) (2 ^ a)).testBit b = false)) : tgW l A D a b m = false := @decide_eq_false _ (Classical.propDecidable _) h
/-- all but these two; of those that one sets off all but these two -/
def tgA (l : Lnd) (a b : Nat) : Nat := sdf (2 ^ lb l - 1) (2 ^ a ||| 2 ^ b)
noncomputable def tgD (l : Lnd) (A : Scn) (a b : Nat) : Nat := sdf (sdf (clo l A (freM l A) (2 ^ a)) (2 ^ b)) (2 ^ a)
theorem tgA_bit {a b i : Nat} : (tgA l a b).testBit i = true ↔ i < lb l ∧ ¬ i = a ∧ ¬ i = b := by
  unfold tgA
  rw [sdf_bit, Nat.testBit_two_pow_sub_one, Nat.testBit_or, Nat.testBit_two_pow, Nat.testBit_two_pow]
  simp only [Bool.and_eq_true, decide_eq_true_eq, Bool.not_eq_true', Bool.or_eq_false_iff, decide_eq_false_iff_not]
  constructor
  · rintro ⟨h1, h2, h3⟩
    exact ⟨h1, fun e => h2 e.symm, fun e => h3 e.symm⟩
  · rintro ⟨h1, h2, h3⟩
    exact ⟨h1, fun e => h2 e.symm, fun e => h3 e.symm⟩
theorem tgD_bit {a b i : Nat} : (tgD l A a b).testBit i = true ↔ (clo l A (freM l A) (2 ^ a)).testBit i = true ∧ ¬ i = a ∧ ¬ i = b := by
  unfold tgD
  rw [sdf_bit, sdf_bit, Nat.testBit_two_pow, Nat.testBit_two_pow]
  simp only [Bool.and_eq_true, Bool.not_eq_true', decide_eq_false_iff_not]
  constructor
  · rintro ⟨⟨h1, h2⟩, h3⟩
    exact ⟨h1, fun e => h3 e.symm, fun e => h2 e.symm⟩
  · rintro ⟨h1, h2, h3⟩
    exact ⟨⟨h1, fun e => h3 e.symm⟩, fun e => h2 e.symm⟩
theorem tgA_lt {a b : Nat} : tgA l a b < 2 ^ lb l := bits_lt (fun i hi => by
  cases e : (tgA l a b).testBit i with
  | false => rfl
  | true =>
    have := (tgA_bit.mp e).1
    omega)
theorem tgD_sub {a b : Nat} : sub (tgD l A a b) (tgA l a b) := fun i hi => tgA_bit.mpr ⟨(clo_bit.mp (tgD_bit.mp hi).1).1, (tgD_bit.mp hi).2⟩
/-- who isn't set off needs no guard -/
theorem tg_cut {a b m : Nat} (ha : a < lb l) (h : tgW l A (tgA l a b) a b m = true) : tgW l A (tgD l A a b) a b (m &&& clo l A (freM l A) (2 ^ a)) = true := by
  obtain ⟨h1, h2⟩ := tgW_t.mp h
  refine tgW_t.mpr ⟨fun i hi => ?_, ?_⟩
  · rw [Nat.testBit_and, Bool.and_eq_true] at hi
    exact tgD_bit.mpr ⟨hi.2, (tgA_bit.mp (h1 i hi.1)).2⟩
  · cases e : (clo l A (sdf (freM l A) (m &&& clo l A (freM l A) (2 ^ a))) (2 ^ a)).testBit b with
    | false => rfl
    | true =>
      obtain ⟨e1, e2⟩ := clo_bit.mp e
      have hc := e2 (fun i => (clo l A (sdf (freM l A) m) (2 ^ a)).testBit i = true ∧ (clo l A (freM l A) (2 ^ a)).testBit i = true) ⟨fun i hi => ?_, fun x y hx hxb hyb hyc hr => ?_⟩
      · rw [h2] at hc
        cases hc.1
      · have ei : a = i := by
          rw [Nat.testBit_two_pow] at hi
          exact of_decide_eq_true hi
        subst ei
        exact ⟨clo_in ha hi, clo_in ha hi⟩
      · rw [sdf_bit, Bool.and_eq_true] at hyc
        have hC : (clo l A (freM l A) (2 ^ a)).testBit y = true := clo_st hx.2 hyb hyc.1 hr
        have hm : m.testBit y = false := by
          have := hyc.2
          rw [Nat.testBit_and, hC, Bool.and_true] at this
          simpa using this
        refine ⟨clo_st hx.1 hyb ?_ hr, hC⟩
        rw [sdf_bit, hyc.1, hm]
        rfl
theorem tg_same {a b : Nat} (hl : LOk l) (ha : a < lb l) : srch (tgW l A (tgA l a b) a b) (2 ^ lb l) = srch (tgW l A (tgD l A a b) a b) 1024 := by
  refine srch_same (fun m hm hW => ?_) (fun m hm hW => ⟨_, tg_cut ha hW, ?_, ?_, fun e => ?_⟩)
  · obtain ⟨h1, h2⟩ := tgW_t.mp hW
    exact ⟨tgW_t.mpr ⟨fun i hi => tgD_sub i (h1 i hi), h2⟩, sub_lt (fun i hi => tgD_sub i (h1 i hi)) tgA_lt⟩
  · exact Nat.lt_of_le_of_lt Nat.and_le_left (pw10 hl hm)
  · exact cnt_mono (fun i hi => by rw [Nat.testBit_and, Bool.and_eq_true] at hi; exact hi.1) 10
  · exact cnt_eq (fun i hi => by rw [Nat.testBit_and, Bool.and_eq_true] at hi; exact hi.1) (pw10 hl hm) e
noncomputable def tgV (l : Lnd) (A : Scn) (a b : Nat) : Int32 := if A 6 a = 0 then 0 else oI (srch (tgW l A (tgA l a b) a b) (2 ^ lb l))
theorem sdf_or (h g m : Nat) : sdf h (g ||| m) = sdf (sdf h g) m := bits_ext (fun i => by
  rw [sdf_bit, sdf_bit, sdf_bit, Nat.testBit_or]
  cases h.testBit i <;> cases g.testBit i <;> cases m.testBit i <;> rfl)
theorem sdf_0r (a : Nat) : sdf a 0 = a := bits_ext (fun i => by
  rw [sdf_bit, Nat.zero_testBit]
  cases a.testBit i <;> rfl)
theorem p31 (hl : LOk l) {a : Nat} (h : a < 2 ^ lb l) : a < 2 ^ 31 := by
  have := pw10 hl h
  omega
end PL

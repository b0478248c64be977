/-! closures by passes -/
def sub (a b : Nat) : Prop := ∀ i, a.testBit i = true → b.testBit i = true
def cnt (a : Nat) : Nat → Nat
  | 0 => 0
  | n + 1 => if a.testBit n then cnt a n + 1 else cnt a n
theorem cnt_le (a : Nat) : ∀ n, cnt a n ≤ n
  | 0 => Nat.le_refl _
  | n + 1 => by
    have := cnt_le a n
    show (if a.testBit n then cnt a n + 1 else cnt a n) ≤ n + 1
    split <;> omega
theorem cnt_mono {a b : Nat} (h : sub a b) : ∀ n, cnt a n ≤ cnt b n
  | 0 => Nat.le_refl _
  | n + 1 => by
    have ih := cnt_mono h n
    show (if a.testBit n then cnt a n + 1 else cnt a n) ≤ (if b.testBit n then cnt b n + 1 else cnt b n)
    by_cases ha : a.testBit n = true
    · rw [if_pos ha, if_pos (h n ha)]
      omega
    · rw [if_neg ha]
      split <;> omega
theorem cnt_lt {a b : Nat} (h : sub a b) : ∀ n i, i < n → b.testBit i = true → a.testBit i = false → cnt a n < cnt b n
  | 0, i, hi, _, _ => absurd hi (Nat.not_lt_zero i)
  | n + 1, i, hi, hb, ha => by
    show (if a.testBit n then cnt a n + 1 else cnt a n) < (if b.testBit n then cnt b n + 1 else cnt b n)
    by_cases e : i = n
    · subst e
      have := cnt_mono h i
      rw [if_neg (by rw [ha]; decide), if_pos hb]
      omega
    · have ih := cnt_lt h n i (by omega) hb ha
      by_cases ha2 : a.testBit n = true
      · rw [if_pos ha2, if_pos (h n ha2)]
        omega
      · rw [if_neg ha2]
        split <;> omega
theorem cnt_full {a : Nat} : ∀ n, n ≤ cnt a n → ∀ i, i < n → a.testBit i = true
  | 0, _, i, hi => absurd hi (Nat.not_lt_zero i)
  | n + 1, h, i, hi => by
    have h : n + 1 ≤ (if a.testBit n then cnt a n + 1 else cnt a n) := h
    have := cnt_le a n
    by_cases ha : a.testBit n = true
    · rw [if_pos ha] at h
      by_cases e : i = n
      · rw [e]
        exact ha
      · exact cnt_full n (by omega) i (by omega)
    · rw [if_neg ha] at h
      omega
theorem bit_ge {a n i : Nat} (h : a < 2 ^ n) (hi : n ≤ i) : a.testBit i = false := Nat.testBit_lt_two_pow (Nat.lt_of_lt_of_le h (Nat.pow_le_pow_right (by decide) hi))
theorem bit_in {a n i : Nat} (h : a < 2 ^ n) (hi : a.testBit i = true) : i < n := by
  by_cases hn : i < n
  · exact hn
  · rw [bit_ge h (by omega)] at hi
    cases hi
theorem sub_ne {a b n : Nat} (h : sub a b) (hb : b < 2 ^ n) (hne : a ≠ b) : ∃ i, i < n ∧ b.testBit i = true ∧ a.testBit i = false := by
  refine Classical.byContradiction (fun hn => hne (bits_ext (fun i => ?_)))
  cases ha : a.testBit i with
  | true => exact (h i ha).symm
  | false =>
    cases hb2 : b.testBit i with
    | false => rfl
    | true => exact absurd ⟨i, bit_in hb hb2, hb2, ha⟩ hn
/-- one pass over puffballs 0 .. n - 1 -/
def pss (lk : Nat → Nat) (g : Nat) (n a : Nat) : Nat := zfo (fun x a => if a.testBit x then a ||| sdf (lk x) g else a) n a
theorem sub_or (a b : Nat) : sub a (a ||| b) := fun i h => by rw [Nat.testBit_or, h]; rfl
theorem pss_sub (lk : Nat → Nat) (g a : Nat) : ∀ n, sub a (pss lk g n a)
  | 0 => fun _ h => h
  | n + 1 => fun i h => by
    have ih := pss_sub lk g a n i h
    show (if (pss lk g n a).testBit n then _ else pss lk g n a).testBit i = true
    split
    · exact sub_or _ _ i ih
    · exact ih
theorem pss_mono (lk : Nat → Nat) (g a : Nat) {n m : Nat} (h : n ≤ m) : sub (pss lk g n a) (pss lk g m a) := by
  induction h with
  | refl => exact fun _ h => h
  | step _ ih =>
    rename_i m _
    intro i hi
    have ih := ih i hi
    show (if (pss lk g m a).testBit m then _ else pss lk g m a).testBit i = true
    split
    · exact sub_or _ _ i ih
    · exact ih
theorem pss_lt {lk : Nat → Nat} {g a B : Nat} (hk : ∀ x, x < B → lk x < 2 ^ B) (ha : a < 2 ^ B) : ∀ n, n ≤ B → pss lk g n a < 2 ^ B
  | 0, _ => ha
  | n + 1, hn => by
    have ih := pss_lt (g := g) hk ha n (by omega)
    show (if (pss lk g n a).testBit n then pss lk g n a ||| sdf (lk n) g else pss lk g n a) < 2 ^ B
    split
    · refine bits_lt (fun i hi => ?_)
      rw [Nat.testBit_or, sdf_bit, bit_ge ih hi, bit_ge (hk n (by omega)) hi]
      rfl
    · exact ih
/-- closed under the links -/
def Lcl (lk : Nat → Nat) (g B : Nat) (T : Nat → Prop) : Prop := ∀ x y, x < B → T x → (lk x).testBit y = true → g.testBit y = false → T y
theorem pss_min {lk : Nat → Nat} {g a B : Nat} {T : Nat → Prop} (hT : Lcl lk g B T) (h : ∀ i, a.testBit i = true → T i) : ∀ n, n ≤ B → ∀ i, (pss lk g n a).testBit i = true → T i
  | 0, _ => h
  | n + 1, hn => fun i hi => by
    have ih := pss_min (g := g) hT h n (by omega)
    have hi : (if (pss lk g n a).testBit n then pss lk g n a ||| sdf (lk n) g else pss lk g n a).testBit i = true := hi
    by_cases hb : (pss lk g n a).testBit n = true
    · rw [if_pos hb, Nat.testBit_or, sdf_bit] at hi
      cases h1 : (pss lk g n a).testBit i with
      | true => exact ih i h1
      | false =>
        rw [h1, Bool.false_or, Bool.and_eq_true] at hi
        exact hT n i (by omega) (ih n hb) hi.1 (by simpa using hi.2)
    · rw [if_neg hb] at hi
      exact ih i hi
theorem pss_cl {lk : Nat → Nat} {g a B : Nat} (h : pss lk g B a = a) : Lcl lk g B (fun i => a.testBit i = true) := by
  intro x y hx hax hl hg
  have hax : a.testBit x = true := hax
  have e : ∀ n, n ≤ B → pss lk g n a = a := fun n hn => bits_ext (fun i => by
    cases h1 : (pss lk g n a).testBit i with
    | true =>
      have := pss_mono lk g a hn i h1
      rw [h] at this
      exact this.symm
    | false =>
      cases h2 : a.testBit i with
      | false => rfl
      | true =>
        rw [pss_sub lk g a n i h2] at h1
        cases h1)
  have e1 := e (x + 1) (by omega)
  have e2 : (if (pss lk g x a).testBit x then pss lk g x a ||| sdf (lk x) g else pss lk g x a) = a := e1
  rw [e x (by omega), if_pos hax] at e2
  show a.testBit y = true
  rw [← e2, Nat.testBit_or, sdf_bit, hl, hg]
  simp
/-- T is the least closed set that holds s -/
def Lst (lk : Nat → Nat) (g B s t : Nat) : Prop := t < 2 ^ B ∧ sub s t ∧ Lcl lk g B (fun i => t.testBit i = true) ∧ ∀ T : Nat → Prop, Lcl lk g B T → (∀ i, s.testBit i = true → T i) → ∀ i, t.testBit i = true → T i
section CH
variable {l : Lnd} {S : St} {E : zX} {d : Nat}
theorem c_chain32 {lk : Nat → Nat} {g a bf k : Nat} {Q : Int32 → St → Prop} (hB : S 3 4 = nI (lb l)) (hl : LOk l) (hk : ∀ x, x < lb l → S 40 x = nI (lk x)) (h : k_Downs_chain_8 E d S (nI g) (nI (pss lk g (lb l) a)) (nI bf) (k + 1) Q) : k_Downs_chain_32 E d S (nI g) (nI a) (nI bf) k 0 Q := by
  have b10 := hl.b10
  refine dn (P := fun n => k_Downs_chain_32 E d S (nI g) (nI (pss lk g n a)) (nI bf) k n Q) (lb l) ?_ ?_ 0 (Nat.zero_le _)
  · exact w_Downs_chain_32 (ilp (lb l) hB (by omega) (by omega) (fun _ => h) (fun h => absurd h (Nat.lt_irrefl _)))
  · intro n hn ih
    refine w_Downs_chain_32 (ilp (lb l) hB (by omega) (by omega) (fun h => by omega) (fun _ => ?_))
    have e : pss lk g (n + 1) a = if (pss lk g n a).testBit n then pss lk g n a ||| sdf (lk n) g else pss lk g n a := rfl
    refine ife (fun hc => ?_) (fun hc => ?_)
    · rw [nI_tst (by omega)] at hc
      rw [e, if_neg (by rw [hc]; decide)] at ih
      exact ih
    · rw [nI_tst (by omega)] at hc
      rw [e, if_pos (by simpa using hc)] at ih
      refine ⟨by omega, ?_⟩
      rw [hk n hn, nI_sdf, nI_or]
      exact ih
theorem c_chain {lk : Nat → Nat} {g s : Nat} {Q : Int32 → St → Prop} (hB : S 3 4 = nI (lb l)) (hl : LOk l) (hk : ∀ x, x < lb l → S 40 x = nI (lk x)) (hk2 : ∀ x, x < lb l → lk x < 2 ^ lb l) (hs : s < 2 ^ lb l) (h : ∀ t, Lst lk g (lb l) s t → Q (nI t) S) : k_Downs_chain E d S (nI s) (nI g) Q := by
  have b10 := hl.b10
  have hp : ∀ {a : Nat}, a < 2 ^ lb l → a < 2 ^ 31 := fun h => Nat.lt_of_lt_of_le h (Nat.pow_le_pow_right (by decide) (by omega))
  refine w_Downs_chain ?_
  refine dn (P := fun k => ∀ a bf, a < 2 ^ lb l → bf < 2 ^ lb l → sub s a → (∀ T : Nat → Prop, Lcl lk g (lb l) T → (∀ i, s.testBit i = true → T i) → ∀ i, a.testBit i = true → T i) → ((k = 0 ∧ bf = 0) ∨ (a = pss lk g (lb l) bf ∧ k ≤ cnt bf (lb l))) → k_Downs_chain_8 E d S (nI g) (nI a) (nI bf) k Q) (lb l) ?_ ?_ 0 (Nat.zero_le _) s 0 hs (Nat.pow_pos (by decide)) (fun _ h => h) (fun T _ h => h) (Or.inl ⟨rfl, rfl⟩)
  · intro a bf ha hbf h1 h2 h3
    refine w_Downs_chain_8 (ilp (lb l) hB (by omega) (by omega) (fun _ => ?_) (fun h => absurd h (Nat.lt_irrefl _)))
    refine h a ⟨ha, h1, ?_, h2⟩
    intro x y hx hax hlk hg
    have hy : y < lb l := bit_in (hk2 x hx) hlk
    rcases h3 with ⟨h3, -⟩ | ⟨h3, h4⟩
    · omega
    · show a.testBit y = true
      rw [h3]
      exact pss_sub lk g bf _ y (cnt_full _ h4 y hy)
  · intro k hk' ih a bf ha hbf h1 h2 h3
    refine w_Downs_chain_8 (ilp (lb l) hB (by omega) (by omega) (fun h => by omega) (fun _ => ?_))
    refine ife (fun hc => ?_) (fun hc => ?_)
    · have hc : a = bf := (nI_eq (hp ha) (hp hbf)).mp hc
      subst hc
      refine h a ⟨ha, h1, ?_, h2⟩
      rcases h3 with ⟨-, h3⟩ | ⟨h3, -⟩
      · subst h3
        intro x y _ hax
        have hax : (0 : Nat).testBit x = true := hax
        rw [Nat.zero_testBit] at hax
        cases hax
      · exact pss_cl h3.symm
    · have hc : a ≠ bf := fun e => hc (by rw [e])
      refine c_chain32 hB hl hk ?_
      refine ih _ a (pss_lt hk2 ha _ (Nat.le_refl _)) ha (fun i hi => pss_sub lk g a _ i (h1 i hi)) (fun T hT hs' => pss_min hT (h2 T hT hs') _ (Nat.le_refl _)) (Or.inr ⟨rfl, ?_⟩)
      rcases h3 with ⟨h3, h4⟩ | ⟨h3, h4⟩
      · subst h3
        subst h4
        obtain ⟨i, hi, hi2, -⟩ := sub_ne (a := 0) (b := a) (fun i h => by rw [Nat.zero_testBit] at h; cases h) ha (Ne.symm hc)
        have := cnt_lt (a := 0) (b := a) (fun i h => by rw [Nat.zero_testBit] at h; cases h) (lb l) i hi hi2 (Nat.zero_testBit i)
        omega
      · have hsub : sub bf a := by
          rw [h3]
          exact pss_sub lk g bf _
        obtain ⟨i, hi, hi2, hi3⟩ := sub_ne hsub ha (Ne.symm hc)
        have := cnt_lt hsub (lb l) i hi hi2 hi3
        omega
end CH

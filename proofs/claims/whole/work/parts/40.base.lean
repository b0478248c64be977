/-! BASE: truth as numbers, branches, loops, bits, frames -/
def zb (p : Prop) [Decidable p] : Int32 := if p then 1 else 0
theorem zb_t {p : Prop} [Decidable p] (h : p) : zb p = 1 := if_pos h
theorem zb_f {p : Prop} [Decidable p] (h : ¬ p) : zb p = 0 := if_neg h
theorem zb01 (p : Prop) [Decidable p] : zb p = 0 ∨ zb p = 1 := by
  by_cases h : p
  · exact Or.inr (zb_t h)
  · exact Or.inl (zb_f h)
theorem zb_0 {p : Prop} [Decidable p] : zb p = 0 ↔ ¬ p := by
  by_cases h : p
  · rw [zb_t h]
    exact ⟨fun e => absurd e (by decide), fun e => absurd h e⟩
  · rw [zb_f h]
    exact ⟨fun _ => h, fun _ => rfl⟩
theorem zb_1 {p : Prop} [Decidable p] : zb p = 1 ↔ p := by
  by_cases h : p
  · rw [zb_t h]
    exact ⟨fun _ => h, fun _ => rfl⟩
  · rw [zb_f h]
    exact ⟨fun e => absurd e (by decide), fun e => absurd e h⟩
theorem zb_congr {p q : Prop} [Decidable p] [Decidable q] (h : p ↔ q) : zb p = zb q := by
  by_cases hp : p
  · rw [zb_t hp, zb_t (h.mp hp)]
  · rw [zb_f hp, zb_f (fun hq => hp (h.mpr hq))]
theorem izb {p : Prop} [Decidable p] {A B : Prop} (h1 : p → B) (h0 : ¬ p → A) : if zb p = 0 then A else B := by
  by_cases h : p
  · rw [if_neg (by rw [zb_t h]; decide)]
    exact h1 h
  · rw [if_pos (zb_f h)]
    exact h0 h
theorem ife {c A B : Prop} [Decidable c] (h1 : c → A) (h0 : ¬ c → B) : if c then A else B := by
  by_cases h : c
  · rw [if_pos h]
    exact h1 h
  · rw [if_neg h]
    exact h0 h
/-- the head of a counted loop -/
theorem ilp {A B : Prop} {x : Int32} {k : Nat} (b : Nat) (hx : x = nI b) (hb : b < 1000000) (hk : k < 1000000) (h1 : b ≤ k → A) (h0 : k < b → B) : if x ≤ nI k then A else B := by
  rw [hx]
  by_cases h : b ≤ k
  · rw [if_pos (nI_le h (by omega))]
    exact h1 h
  · rw [if_neg (nI_ge (by omega) (by omega))]
    exact h0 (by omega)
theorem dn {P : Nat → Prop} (n : Nat) (h0 : P n) (hs : ∀ k, k < n → P (k + 1) → P k) : ∀ k, k ≤ n → P k := by
  have : ∀ m k, k + m = n → P k := by
    intro m
    induction m with
    | zero =>
      intro k h
      rw [show k = n by omega]
      exact h0
    | succ m ih =>
      intro k h
      exact hs k (by omega) (ih (k + 1) (by omega))
  intro k h
  exact this (n - k) k (by omega)
/-- numbers folded from 0 on -/
def zfo {α : Type} (f : Nat → α → α) : Nat → α → α
  | 0, a => a
  | n + 1, a => f n (zfo f n a)
theorem zfo_congr {α : Type} {f g : Nat → α → α} {n : Nat} (h : ∀ k, k < n → ∀ a, f k a = g k a) (a : α) : zfo f n a = zfo g n a := by
  induction n with
  | zero => rfl
  | succ n ih =>
    show f n (zfo f n a) = g n (zfo g n a)
    rw [ih (fun k hk => h k (by omega)), h n (by omega)]
/-! sets of small numbers as bits -/
def mkN (p : Nat → Bool) : Nat → Nat
  | 0 => 0
  | k + 1 => if p k then mkN p k ||| 2 ^ k else mkN p k
theorem mkN_bit (p : Nat → Bool) (n i : Nat) : (mkN p n).testBit i = (decide (i < n) && p i) := by
  induction n with
  | zero => simp [mkN]
  | succ n ih =>
    unfold mkN
    by_cases hi : i = n
    · subst hi
      cases hp : p i
      · simp [ih, hp]
      · simp [ih, hp, Nat.testBit_or, Nat.testBit_two_pow]
    · have e : decide (i < n + 1) = decide (i < n) := by
        by_cases h : i < n
        · simp [h, show i < n + 1 by omega]
        · simp [h, show ¬ i < n + 1 by omega]
      rw [e]
      cases hp : p n
      · simp [ih]
      · simp [ih, Nat.testBit_or, Nat.testBit_two_pow, show ¬ n = i from fun h => hi h.symm]
theorem bits_lt {a n : Nat} (h : ∀ i, n ≤ i → a.testBit i = false) : a < 2 ^ n := Nat.lt_pow_two_of_testBit a h
theorem mkN_lt (p : Nat → Bool) (n : Nat) : mkN p n < 2 ^ n := bits_lt (fun i hi => by rw [mkN_bit]; simp [show ¬ i < n by omega])
theorem mkN_lt10 {p : Nat → Bool} {n : Nat} (h : n ≤ 10) : mkN p n < 1024 := Nat.lt_of_lt_of_le (mkN_lt p n) (Nat.pow_le_pow_right (by decide) h)
theorem bits_ext {a b : Nat} (h : ∀ i, a.testBit i = b.testBit i) : a = b := Nat.eq_of_testBit_eq h
theorem mkN_congr {p q : Nat → Bool} {n : Nat} (h : ∀ i, i < n → p i = q i) : mkN p n = mkN q n := bits_ext (fun i => by
  rw [mkN_bit, mkN_bit]
  by_cases hi : i < n
  · rw [h i hi]
  · simp [hi])
theorem bt_eq : ∀ k, k < 31 → bt k = nI (2 ^ k) := by decide +kernel
theorem nI_bit (a i : Nat) : (nI a).toBitVec.getLsbD i = (decide (i < 32) && a.testBit i) := by
  show (BitVec.ofNat 32 a).getLsbD i = _
  rw [BitVec.getLsbD_ofNat]
theorem i_ext {x y : Int32} (h : ∀ i, i < 32 → x.toBitVec.getLsbD i = y.toBitVec.getLsbD i) : x = y := Int32.toBitVec_inj.mp (BitVec.eq_of_getLsbD_eq (fun i hi => h i hi))
theorem nI_or (a b : Nat) : nI a ||| nI b = nI (a ||| b) := i_ext (fun i hi => by
  rw [Int32.toBitVec_or, BitVec.getLsbD_or, nI_bit, nI_bit, nI_bit, Nat.testBit_or]
  simp [hi])
theorem nI_and (a b : Nat) : nI a &&& nI b = nI (a &&& b) := i_ext (fun i hi => by
  rw [Int32.toBitVec_and, BitVec.getLsbD_and, nI_bit, nI_bit, nI_bit, Nat.testBit_and]
  simp [hi])
theorem nI_xor (a b : Nat) : nI a ^^^ nI b = nI (a ^^^ b) := i_ext (fun i hi => by
  rw [Int32.toBitVec_xor, BitVec.getLsbD_xor, nI_bit, nI_bit, nI_bit, Nat.testBit_xor]
  simp [hi])
/-- a without b -/
def sdf (a b : Nat) : Nat := a ^^^ (a &&& b)
theorem sdf_bit (a b i : Nat) : (sdf a b).testBit i = (a.testBit i && !b.testBit i) := by
  unfold sdf
  rw [Nat.testBit_xor, Nat.testBit_and]
  cases a.testBit i <;> cases b.testBit i <;> rfl
theorem m1_bit : ∀ i, i < 32 → ((-1 : Int32)).toBitVec.getLsbD i = true := by decide +kernel
theorem nI_sdf (a b : Nat) : nI a &&& (nI b ^^^ ((-1) : Int32)) = nI (sdf a b) := i_ext (fun i hi => by
  rw [Int32.toBitVec_and, BitVec.getLsbD_and, Int32.toBitVec_xor, BitVec.getLsbD_xor, nI_bit, nI_bit, nI_bit, sdf_bit, m1_bit i hi]
  simp [hi])
theorem and_p2 (a k : Nat) : a &&& 2 ^ k = if a.testBit k then 2 ^ k else 0 := bits_ext (fun i => by
  rw [Nat.testBit_and, Nat.testBit_two_pow]
  by_cases h : k = i
  · subst h
    cases hb : a.testBit k <;> simp [Nat.testBit_two_pow]
  · cases hb : a.testBit k <;> simp [h, Nat.testBit_two_pow])
theorem nI_tst {a k : Nat} (hk : k < 31) : (nI a &&& bt k = 0) ↔ a.testBit k = false := by
  rw [bt_eq k hk, nI_and, and_p2]
  cases hb : a.testBit k
  · simp [nI_0]
  · have : nI (2 ^ k) ≠ 0 := nI_ne0 (Nat.pow_pos (by decide)) (Nat.pow_lt_pow_right (by decide) hk)
    simp [this]
theorem nI_orb {a k : Nat} (hk : k < 31) : nI a ||| bt k = nI (a ||| 2 ^ k) := by rw [bt_eq k hk, nI_or]
theorem mkN_or {p : Nat → Bool} {k : Nat} (hk : k < 31) (h : p k = true) : nI (mkN p k) ||| bt k = nI (mkN p (k + 1)) := by
  rw [nI_orb hk]
  show nI (mkN p k ||| 2 ^ k) = nI (if p k then mkN p k ||| 2 ^ k else mkN p k)
  rw [if_pos h]
theorem mkN_no {p : Nat → Bool} {k : Nat} (h : p k = false) : nI (mkN p k) = nI (mkN p (k + 1)) := by
  rw [show mkN p (k + 1) = mkN p k by show (if p k then _ else _) = _; rw [h]; rfl]
theorem sh_cnt : ∀ k, k < 31 → ((nI k &&& 31).toBitVec.smod 32).toNat = k := by decide +kernel
theorem nI_shr {a k : Nat} (ha : a < 2 ^ 31) (hk : k < 31) : nI a >>> (nI k &&& 31) = nI (a / 2 ^ k) := pk_shrN ha _ k (sh_cnt k hk)
theorem nI_and1 (a : Nat) : nI a &&& (1 : Int32) = nI (a % 2) := by
  rw [show (1 : Int32) = nI (2 ^ 1 - 1) from rfl, nI_and, Nat.and_two_pow_sub_one_eq_mod]
theorem nI_sbit {a k : Nat} (ha : a < 2 ^ 31) (hk : k < 31) : (nI a >>> (nI k &&& 31)) &&& (1 : Int32) = zb (a.testBit k = true) := by
  rw [nI_shr ha hk, nI_and1]
  have : a / 2 ^ k % 2 = (a.testBit k).toNat := by rw [Nat.testBit_eq_decide_div_mod_eq]; rcases Nat.mod_two_eq_zero_or_one (a / 2 ^ k) with h | h <;> rw [h] <;> rfl
  rw [this]
  cases a.testBit k <;> rfl
/-! frames -/
/-- all cells but these are as they were -/
def Fr (l : List Nat) (S S' : St) : Prop := ∀ k, k ∉ l → S' k = S k
theorem Fr.refl (l : List Nat) (S : St) : Fr l S S := fun _ _ => rfl
theorem Fr.trans {l : List Nat} {S S1 S2 : St} (h1 : Fr l S S1) (h2 : Fr l S1 S2) : Fr l S S2 := fun k hk => (h2 k hk).trans (h1 k hk)
theorem Fr.mono {l l' : List Nat} {S S' : St} (h : Fr l S S') (hl : ∀ k, k ∈ l → k ∈ l') : Fr l' S S' := fun k hk => h k (fun hm => hk (hl k hm))
theorem Fr.up {l : List Nat} {S : St} {k : Nat} (i : Nat) (v : Int32) (hk : k ∈ l) : Fr l S (up S k i v) := fun a ha => up_ne _ _ _ (fun e => ha (e ▸ hk))
theorem Fr.set {l : List Nat} {S : St} {k : Nat} (f : Nat → Int32) (hk : k ∈ l) : Fr l S (setR S k f) := fun a ha => setR_ne _ _ (fun e => ha (e ▸ hk))
/-- which scenes there are -/
def isSc (o : Option zSq) : Bool := match o with
  | some (.inr (10, _)) => true
  | _ => false
theorem sc_all : ∀ q, q < 92 → isSc zSh[q]? = true → q ∈ [22, 25, 32, 44, 55, 57, 61] := by decide +kernel
theorem sc_in {q : Nat} (h : Sc q) : q ∈ [22, 25, 32, 44, 55, 57, 61] := by
  refine sc_all q ?_ (by rw [h.1]; rfl)
  have := (List.getElem?_eq_some_iff.mp h.1).1
  rw [sh_le] at this
  exact this
theorem sc_ge {q : Nat} (h : Sc q) : q = 22 ∨ q = 25 ∨ q = 32 ∨ q = 44 ∨ q = 55 ∨ q = 57 ∨ q = 61 := by
  have := sc_in h
  simpa using this

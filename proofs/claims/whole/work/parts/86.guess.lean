/-! GUESS: bits of a whole word; what was seen, who could be how mild -/
theorem zu_k : ∀ k, k < 32 → (((nI k).toUInt32 &&& Int32.toUInt32 31).toNat % 32) = k := by decide +kernel
theorem nI_zushr {a k : Nat} (ha : a < 2 ^ 32) (hk : k < 32) : zushr (nI a) (nI k) = nI (a >>> k) := by
  have h : ((nI a).toUInt32 >>> ((nI k).toUInt32 &&& Int32.toUInt32 31)).toNat = a >>> k := by
    rw [UInt32.toNat_shiftRight, zu_k k hk]
    congr 1
    show (BitVec.ofNat 32 a).toNat = a
    rw [BitVec.toNat_ofNat, Nat.mod_eq_of_lt ha]
  refine Int32.toBitVec_inj.mp (BitVec.eq_of_toNat_eq ?_)
  show ((nI a).toUInt32 >>> ((nI k).toUInt32 &&& Int32.toUInt32 31)).toNat = (BitVec.ofNat 32 (a >>> k)).toNat
  rw [h, BitVec.toNat_ofNat, Nat.mod_eq_of_lt]
  exact Nat.lt_of_le_of_lt (by rw [Nat.shiftRight_eq_div_pow]; exact Nat.div_le_self _ _) ha
def bY (M x : Nat) : Nat := x - ((x / 2) &&& M)
def bZ (M y : Nat) : Nat := (y &&& M) + ((y / 4) &&& M)
def bW (M z : Nat) : Nat := (z + z / 16) &&& M
theorem by_le {a M : Nat} : a &&& M ≤ a := Nat.and_le_left
theorem and_sp {a m b M : Nat} (ha : a < 256) (hm : m < 256) : (256 * b + a) &&& (256 * M + m) = 256 * (b &&& M) + (a &&& m) := by
  refine Nat.eq_of_testBit_eq (fun i => ?_)
  have e1 := Nat.testBit_two_pow_mul_add b (i := 8) ha i
  have e2 := Nat.testBit_two_pow_mul_add M (i := 8) hm i
  have e3 := Nat.testBit_two_pow_mul_add (b &&& M) (i := 8) (b := a &&& m) (Nat.lt_of_le_of_lt Nat.and_le_left ha) i
  rw [Nat.testBit_and]
  rw [show 2 ^ 8 = 256 from rfl] at e1 e2 e3
  rw [e1, e2, e3]
  by_cases h : i < 8
  · rw [if_pos h, if_pos h, if_pos h, Nat.testBit_and]
  · rw [if_neg h, if_neg h, if_neg h, Nat.testBit_and]
theorem bt_1 : ∀ c, c < 2 → ∀ a, a < 256 → (128 * c + a / 2) &&& 85 = (a / 2) &&& 85 := by decide +kernel
theorem bt_2 : ∀ c, c < 4 → ∀ a, a < 256 → (64 * c + a / 4) &&& 51 = (a / 4) &&& 51 := by decide +kernel
theorem bt_4 : ∀ a, a < 256 → bY 85 a < 256 ∧ bZ 51 (bY 85 a) % 16 ≤ 4 ∧ bZ 51 (bY 85 a) / 16 ≤ 4 ∧ bW 15 (bZ 51 (bY 85 a)) = cnt a 8 ∧ cnt a 8 ≤ 8 := by decide +kernel
theorem bY_sp {a b M : Nat} (ha : a < 256) : bY (256 * M + 85) (256 * b + a) = 256 * bY M b + bY 85 a := by
  unfold bY
  rw [show (256 * b + a) / 2 = 256 * (b / 2) + (128 * (b % 2) + a / 2) by omega, and_sp (by omega) (by omega), bt_1 (b % 2) (by omega) a ha]
  have h1 := by_le (a := b / 2) (M := M)
  have h2 := by_le (a := a / 2) (M := 85)
  omega
theorem bZ_sp {a b M : Nat} (ha : a < 256) : bZ (256 * M + 51) (256 * b + a) = 256 * bZ M b + bZ 51 a := by
  unfold bZ
  rw [show (256 * b + a) / 4 = 256 * (b / 4) + (64 * (b % 4) + a / 4) by omega, and_sp (by omega) (by omega), and_sp (by omega) (by omega), bt_2 (b % 4) (by omega) a ha]
  omega
theorem bW_sp {a b M : Nat} (h1 : a % 16 ≤ 4) (h2 : a / 16 ≤ 4) (h3 : b % 16 ≤ 4) : bW (256 * M + 15) (256 * b + a) = 256 * bW M b + bW 15 a := by
  unfold bW
  rw [show 256 * b + a + (256 * b + a) / 16 = 256 * (b + b / 16) + (16 * (b % 16) + a + a / 16) by omega, and_sp (by omega) (by omega)]
  rw [show (15 : Nat) = 2 ^ 4 - 1 from rfl, Nat.and_two_pow_sub_one_eq_mod, Nat.and_two_pow_sub_one_eq_mod]
  omega
theorem cnt_sp {a b : Nat} (ha : a < 256) : ∀ n, cnt (256 * b + a) (8 + n) = cnt a 8 + cnt b n
  | 0 => by
    have : ∀ k, k ≤ 8 → cnt (256 * b + a) k = cnt a k := fun k => by
      induction k with
      | zero => exact fun _ => rfl
      | succ k ih =>
        intro hk
        have e1 := Nat.testBit_two_pow_mul_add b (i := 8) ha k
        rw [show 2 ^ 8 = 256 from rfl, if_pos (by omega)] at e1
        show (if (256 * b + a).testBit k then cnt (256 * b + a) k + 1 else cnt (256 * b + a) k) = (if a.testBit k then cnt a k + 1 else cnt a k)
        rw [e1, ih (by omega)]
    exact this 8 (Nat.le_refl _)
  | n + 1 => by
    have e1 := Nat.testBit_two_pow_mul_add b (i := 8) ha (8 + n)
    rw [show 2 ^ 8 = 256 from rfl, if_neg (by omega), show 8 + n - 8 = n by omega] at e1
    show (if (256 * b + a).testBit (8 + n) then cnt (256 * b + a) (8 + n) + 1 else cnt (256 * b + a) (8 + n)) = cnt a 8 + (if b.testBit n then cnt b n + 1 else cnt b n)
    rw [e1, cnt_sp ha n]
    split <;> omega
theorem b4t {x : Nat} (hx : x < 2 ^ 32) : ∃ a b c e : Nat, a < 256 ∧ b < 256 ∧ c < 256 ∧ e < 256 ∧ x = 256 * (256 * (256 * e + c) + b) + a := ⟨x % 256, x / 256 % 256, x / 65536 % 256, x / 16777216, by omega, by omega, by omega, by omega, by omega⟩
theorem bc_lo {x : Nat} (hx : x < 2 ^ 32) : ∃ a b c e : Nat, a ≤ 8 ∧ b ≤ 8 ∧ c ≤ 8 ∧ e ≤ 8 ∧ bZ 858993459 (bY 1431655765 x) < 2 ^ 31 ∧ bW 252645135 (bZ 858993459 (bY 1431655765 x)) = 256 * (256 * (256 * e + c) + b) + a ∧ cnt x 32 = a + (b + (c + e)) := by
  obtain ⟨a, b, c, e, ha, hb, hc, he, rfl⟩ := b4t hx
  have fa := bt_4 a ha
  have fb := bt_4 b hb
  have fc := bt_4 c hc
  have fe := bt_4 e he
  refine ⟨cnt a 8, cnt b 8, cnt c 8, cnt e 8, fa.2.2.2.2, fb.2.2.2.2, fc.2.2.2.2, fe.2.2.2.2, ?_⟩
  have ey : bY 1431655765 (256 * (256 * (256 * e + c) + b) + a) = 256 * (256 * (256 * bY 85 e + bY 85 c) + bY 85 b) + bY 85 a := by
    rw [show 1431655765 = 256 * (256 * (256 * 85 + 85) + 85) + 85 from rfl, bY_sp ha, bY_sp hb, bY_sp hc]
  have ez : bZ 858993459 (256 * (256 * (256 * bY 85 e + bY 85 c) + bY 85 b) + bY 85 a) = 256 * (256 * (256 * bZ 51 (bY 85 e) + bZ 51 (bY 85 c)) + bZ 51 (bY 85 b)) + bZ 51 (bY 85 a) := by
    rw [show 858993459 = 256 * (256 * (256 * 51 + 51) + 51) + 51 from rfl, bZ_sp fa.1, bZ_sp fb.1, bZ_sp fc.1]
  rw [ey, ez]
  refine ⟨by omega, ?_, ?_⟩
  · rw [show 252645135 = 256 * (256 * (256 * 15 + 15) + 15) + 15 from rfl, bW_sp fa.2.1 fa.2.2.1 (by omega), bW_sp fb.2.1 fb.2.2.1 (by omega), bW_sp fc.2.1 fc.2.2.1 (by omega), fa.2.2.2.1, fb.2.2.2.1, fc.2.2.2.1, fe.2.2.2.1]
  · rw [show 32 = 8 + 24 from rfl, cnt_sp ha, show 24 = 8 + 16 from rfl, cnt_sp hb, show 16 = 8 + 8 from rfl, cnt_sp hc]
theorem bc32 {x : Nat} (hx : x < 2 ^ 32) : bcf (nI x) = nI (cnt x 32) := by
  obtain ⟨a, b, c, e, ha, hb, hc, he, hz, hw, ht⟩ := bc_lo hx
  have k1 : (1 : Int32) = nI 1 := rfl
  have k2 : (2 : Int32) = nI 2 := rfl
  have k4 : (4 : Int32) = nI 4 := rfl
  have k8 : (8 : Int32) = nI 8 := rfl
  have k16 : (16 : Int32) = nI 16 := rfl
  have m5 : (1431655765 : Int32) = nI 1431655765 := rfl
  have m3 : (858993459 : Int32) = nI 858993459 := rfl
  have mf : (252645135 : Int32) = nI 252645135 := rfl
  have m6 : (63 : Int32) = nI 63 := rfl
  have ey : nI x - ((zushr (nI x) 1) &&& (1431655765 : Int32)) = nI (bY 1431655765 x) := by
    rw [k1, nI_zushr hx (by omega), m5, nI_and, Nat.shiftRight_eq_div_pow]
    exact pk_sub (Nat.le_trans by_le (Nat.div_le_self _ _))
  have hy : bY 1431655765 x < 2 ^ 32 := Nat.lt_of_le_of_lt (Nat.sub_le _ _) hx
  have ez : (nI (bY 1431655765 x) &&& (858993459 : Int32)) + ((zushr (nI (bY 1431655765 x)) 2) &&& (858993459 : Int32)) = nI (bZ 858993459 (bY 1431655765 x)) := by
    rw [k2, nI_zushr hy (by omega), m3, nI_and, nI_and, nI_add, Nat.shiftRight_eq_div_pow]
    rfl
  have ew : (nI (bZ 858993459 (bY 1431655765 x)) + zushr (nI (bZ 858993459 (bY 1431655765 x))) 4) &&& (252645135 : Int32) = nI (256 * (256 * (256 * e + c) + b) + a) := by
    rw [k4, nI_zushr (by omega) (by omega), mf, nI_add, nI_and, Nat.shiftRight_eq_div_pow, ← hw]
    rfl
  have ev : ∀ w, w < 2 ^ 30 → nI w + zushr (nI w) 8 = nI (w + w / 256) := fun w h => by
    rw [k8, nI_zushr (by omega) (by omega), nI_add, Nat.shiftRight_eq_div_pow]
  have eu : ∀ w, w < 2 ^ 31 → (nI w + zushr (nI w) 16) &&& (63 : Int32) = nI ((w + w / 65536) % 64) := fun w h => by
    rw [k16, nI_zushr (by omega) (by omega), nI_add, Nat.shiftRight_eq_div_pow, m6, nI_and, show (63 : Nat) = 2 ^ 6 - 1 from rfl, Nat.and_two_pow_sub_one_eq_mod]
  unfold bcf
  rw [ey, ez, ew, ev _ (by omega), eu _ (by omega), ht]
  have d1 : (256 * (256 * (256 * e + c) + b) + a) / 256 = 256 * (256 * e + c) + b := by omega
  have d2 : (256 * (256 * (256 * e + c) + b) + a + (256 * (256 * e + c) + b)) / 65536 = 256 * e + (c + e) := by omega
  rw [d1, d2]
  congr 1
  omega
theorem num_add {p : Nat → Bool} {c : Nat} : ∀ n, num (fun v => p v || decide (v = c)) n = num p n + (if c < n ∧ p c = false then 1 else 0)
  | 0 => by
    rw [if_neg (by omega)]
    rfl
  | n + 1 => by
    have ih := num_add (p := p) (c := c) n
    show (if p n || decide (n = c) then num (fun v => p v || decide (v = c)) n + 1 else num (fun v => p v || decide (v = c)) n) = (if p n then num p n + 1 else num p n) + _
    rw [ih]
    by_cases e : n = c
    · subst e
      rw [decide_eq_true rfl, Bool.or_true, if_pos rfl, if_neg (fun g => absurd g.1 (Nat.lt_irrefl _))]
      cases hp : p n with
      | true =>
        rw [if_pos rfl, if_neg (fun g => by cases g.2)]
      | false =>
        rw [if_neg (by decide), if_pos ⟨Nat.lt_succ_self _, rfl⟩]
    · rw [decide_eq_false e, Bool.or_false]
      have key : (if c < n ∧ p c = false then 1 else 0) = (if c < n + 1 ∧ p c = false then 1 else 0) := by
        by_cases h : c < n ∧ p c = false
        · rw [if_pos h, if_pos ⟨by omega, h.2⟩]
        · rw [if_neg h, if_neg (fun g => h ⟨by omega, g.2⟩)]
      rw [key]
      cases p n with
      | true => exact Nat.add_right_comm _ _ _
      | false => rfl
theorem num_f : ∀ n, num (fun _ => false) n = 0
  | 0 => rfl
  | n + 1 => by
    show (if false = true then num (fun _ => false) n + 1 else num (fun _ => false) n) = 0
    rw [if_neg (by decide)]
    exact num_f n
theorem num_succ (p : Nat → Bool) (n : Nat) : num p (n + 1) = if p n then num p n + 1 else num p n := rfl
/-- how many unlike ones there are: by first ones, by values -/
theorem num_unl {u : Nat → Nat} : ∀ m, (∀ a, a < m → u a < 128) → num (fun a => decide (∀ b, b < a → ¬ u b = u a)) m = num (fun v => decide (∃ a, a < m ∧ u a = v)) 128
  | 0, _ => by
    refine (Eq.trans (num_congr (q := fun _ => false) (fun v _ => ?_)) (num_f 128)).symm
    refine decide_eq_false (fun h => ?_)
    obtain ⟨a, ha, _⟩ := h
    exact absurd ha (Nat.not_lt_zero a)
  | m + 1, h => by
    have ih := num_unl (u := u) m (fun a ha => h a (by omega))
    rw [num_succ, ih]
    have e : num (fun v => decide (∃ a, a < m + 1 ∧ u a = v)) 128 = num (fun v => decide (∃ a, a < m ∧ u a = v) || decide (v = u m)) 128 := num_congr (fun v _ => by
      by_cases g : ∃ a, a < m ∧ u a = v
      · obtain ⟨a, ha, hv⟩ := g
        rw [decide_eq_true (show ∃ a, a < m + 1 ∧ u a = v from ⟨a, by omega, hv⟩), decide_eq_true (show ∃ a, a < m ∧ u a = v from ⟨a, ha, hv⟩)]
        rfl
      · rw [decide_eq_false g]
        by_cases e : v = u m
        · rw [decide_eq_true (show ∃ a, a < m + 1 ∧ u a = v from ⟨m, by omega, e.symm⟩), decide_eq_true e]
          rfl
        · rw [decide_eq_false e, decide_eq_false (fun ⟨a, ha, hv⟩ => by
            by_cases e2 : a = m
            · rw [e2] at hv
              exact e hv.symm
            · exact g ⟨a, by omega, hv⟩)]
          rfl)
    rw [e, num_add]
    by_cases g : ∃ a, a < m ∧ u a = u m
    · rw [if_neg (by
        rw [decide_eq_true_iff]
        intro hh
        obtain ⟨a, ha, hv⟩ := g
        exact hh a ha hv), if_neg (by
        intro hh
        rw [decide_eq_true g] at hh
        cases hh.2)]
      rfl
    · rw [if_pos (by
        rw [decide_eq_true_iff]
        exact fun b hb e => g ⟨b, hb, e⟩), if_pos ⟨h m (by omega), decide_eq_false g⟩]
/-- words of 32 bits together -/
theorem num_32 {p : Nat → Bool} {w i : Nat} (h : ∀ b, b < 32 → w.testBit b = p (32 * i + b)) : num p (32 * (i + 1)) = num p (32 * i) + cnt w 32 := by
  have : ∀ n, n ≤ 32 → num p (32 * i + n) = num p (32 * i) + cnt w n := fun n => by
    induction n with
    | zero => exact fun _ => rfl
    | succ n ih =>
      intro hn
      show (if p (32 * i + n) then num p (32 * i + n) + 1 else num p (32 * i + n)) = num p (32 * i) + (if w.testBit n then cnt w n + 1 else cnt w n)
      rw [h n (by omega), ih (by omega)]
      split <;> rfl
  have := this 32 (Nat.le_refl _)
  rw [show 32 * (i + 1) = 32 * i + 32 by omega]
  exact this
theorem bt_w : ∀ k, k < 32 → ∀ i, i < 32 → ((1 : Int32) <<< (nI k &&& 31)).toBitVec.getLsbD i = decide (i = k) := by decide +kernel
theorem i_nI (x : Int32) : x = nI x.toBitVec.toNat := i_ext (fun i hi => by
  rw [nI_bit]
  simp [hi]
  rfl)
section GB
variable {S : St} {E : zX} {d : Nat}
theorem c_bitCount32 {x : Int32} {Q : Int32 → St → Prop} (h : Q (nI (cnt x.toBitVec.toNat 32)) S) : k_Integer_bitCount E d S x Q := by
  have := bc32 (x := x.toBitVec.toNat) x.toBitVec.isLt
  rw [← i_nI x] at this
  unfold bcf at this
  refine w_Integer_bitCount ?_
  rw [this]
  exact h
end GB
/-- a sight is so, if one begins so -/
def sAg (l : Lnd) (B : Scn) (s : Nat × Nat × Nat) : Prop := (dayN l B s.2.1 6 s.1 = 0 ↔ s.2.2 = 1)
def seeOk (l : Lnd) (b : Bok) (B : Scn) : Prop := ∀ j, j < b.2.2.1 → sAg l B (b.2.2.2 j)
/-- one of the guesses: who, how mild -/
def gsA (b : Bok) (g : Nat) : Scn := ua b.1 4 (g / 10) (nI (g % 10))
noncomputable def gsV (l : Lnd) (b : Bok) (g : Nat) : Bool := @decide (¬ b.1 4 (g / 10) = nI (g % 10) ∧ seeOk l b (gsA b g)) (Classical.propDecidable _)
theorem gsV_t {l : Lnd} {b : Bok} {g : Nat} : gsV l b g = true ↔ (¬ b.1 4 (g / 10) = nI (g % 10) ∧ seeOk l b (gsA b g)) := @decide_eq_true_iff _ (Classical.propDecidable _)
theorem gsV_f {l : Lnd} {b : Bok} {g : Nat} (h : ¬ (¬ b.1 4 (g / 10) = nI (g % 10) ∧ seeOk l b (gsA b g))) : gsV l b g = false := @decide_eq_false _ (Classical.propDecidable _) h
noncomputable def gsx (l : Lnd) (b : Bok) (g x : Nat) : Int32 := dayN l (gsA b g) 8 6 x
noncomputable def unl (l : Lnd) (b : Bok) (x : Nat) : Nat := num (fun v => @decide (∃ g, g < 10 * lp l ∧ gsV l b g = true ∧ gsx l b g x = nI v) (Classical.propDecidable _)) 128
theorem fstF_s {p : Nat → Bool} {n : Nat} : fstF p (n + 1) = match fstF p n with
    | some k => some k
    | none => if p n then some n else none := rfl
theorem num_0 {p : Nat → Bool} : ∀ n, num p n = 0 ↔ ∀ j, j < n → p j = false
  | 0 => ⟨fun _ j hj => absurd hj (Nat.not_lt_zero j), fun _ => rfl⟩
  | n + 1 => by
    rw [num_succ]
    constructor
    · intro h j hj
      cases hp : p n with
      | true =>
        rw [if_pos hp] at h
        omega
      | false =>
        rw [if_neg (by rw [hp]; decide)] at h
        by_cases e : j = n
        · rw [e]
          exact hp
        · exact (num_0 n).mp h j (by omega)
    · intro h
      rw [if_neg (by rw [h n (by omega)]; decide)]
      exact (num_0 n).mpr (fun j hj => h j (by omega))
theorem AOk_gsA {l : Lnd} {b : Bok} (h : AOk l b.1) (g : Nat) : AOk l (gsA b g) := by
  rw [AOk_iff] at h ⊢
  refine ⟨?_, ?_, ?_, ?_⟩
  · have e : gsA b g 5 = b.1 5 := ua_ne _ _ _ (by decide)
    rw [e]
    exact h.1
  · exact GOk_of h.2.1 (ua_ne _ _ _ (by decide))
  · exact TOk_k h.2.2.1 (by omega)
  · intro p hp
    unfold gsA
    rw [ua_same]
    by_cases e : p = g / 10
    · rw [e, upd_same]
      exact ⟨g % 10, by omega, rfl⟩
    · rw [upd_ne _ _ e]
      exact h.2.2.2 p hp
theorem gsx_ok {l : Lnd} {b : Bok} (hl : LOk l) (h : AOk l b.1) {g x : Nat} (hx : x < lb l) : ∃ v, v ≤ 99 ∧ gsx l b g x = nI v := ((AOk_dayN hl (AOk_gsA h g) 8).1 x hx).2.1
/-- the first of the most unlike -/
def bsu (u : Nat → Nat) : Nat → Option Nat
  | 0 => none
  | k + 1 => match bsu u k with
    | none => some k
    | some b => if u b < u k then some k else some b
theorem bsu_lt {u : Nat → Nat} : ∀ k b, bsu u k = some b → b < k
  | 0, _, h => by cases h
  | k + 1, b, h => by
    rw [bsu] at h
    cases e : bsu u k with
    | none =>
      rw [e] at h
      cases h
      omega
    | some y =>
      rw [e] at h
      have := bsu_lt k y e
      simp only at h
      by_cases g : u y < u k
      · rw [if_pos g] at h
        cases h
        omega
      · rw [if_neg g] at h
        cases h
        omega

/-! COUNTY in the reference: tokens -/
/-- the known words by their numbers in the reference -/
def wRf (k : Nat) : List Nat := [[109, 105, 108, 100], [116, 101, 109, 112, 101, 114], [115, 104, 111, 117, 116, 115], [104, 101, 97, 114, 100], [100, 97, 121], [104, 111, 108, 100, 115], [115, 105, 122, 101], [97, 103, 101], [110, 101, 97, 114], [100, 111, 119, 110, 115], [112, 101, 114, 115, 111, 110], [98, 97, 108, 108], [114, 105, 115, 101, 115], [98, 117, 114, 115, 116, 115], [97, 110, 100], [111, 114], [110, 111, 116]].getD k []
/-- letters as one number -/
def enF (f : Nat → Nat) : Nat → Nat
  | 0 => 0
  | n + 1 => 32 * enF f n + (f n - 96)
theorem enF_pos {f : Nat → Nat} {n : Nat} (h : ∀ i, i < n → isL (f i) = true) (hn : 0 < n) : 0 < enF f n := by
  cases n with
  | zero => omega
  | succ n =>
    have := of_decide_eq_true (h n (by omega))
    rw [enF]
    omega
theorem enF_inj {f g : Nat → Nat} : ∀ n m, (∀ i, i < n → isL (f i) = true) → (∀ i, i < m → isL (g i) = true) → enF f n = enF g m → n = m ∧ ∀ i, i < n → f i = g i
  | 0, 0, _, _, _ => ⟨rfl, fun i hi => absurd hi (Nat.not_lt_zero i)⟩
  | 0, m + 1, _, hg, e => by
    have := enF_pos hg (Nat.succ_pos m)
    have e : 0 = enF g (m + 1) := e
    omega
  | n + 1, 0, hf, _, e => by
    have := enF_pos hf (Nat.succ_pos n)
    have e : enF f (n + 1) = 0 := e
    omega
  | n + 1, m + 1, hf, hg, e => by
    have a := of_decide_eq_true (hf n (by omega))
    have b := of_decide_eq_true (hg m (by omega))
    have e : 32 * enF f n + (f n - 96) = 32 * enF g m + (g m - 96) := e
    have e1 : enF f n = enF g m := by omega
    have e2 : f n = g m := by omega
    obtain ⟨h1, h2⟩ := enF_inj n m (fun i hi => hf i (by omega)) (fun i hi => hg i (by omega)) e1
    subst h1
    refine ⟨rfl, fun i hi => ?_⟩
    by_cases e3 : i = n
    · rw [e3]
      exact e2
    · exact h2 i (by omega)
theorem enF_lt {f : Nat → Nat} : ∀ n, (∀ i, i < n → isL (f i) = true) → enF f n < 32 ^ n
  | 0, _ => Nat.one_pos
  | n + 1, h => by
    have a := of_decide_eq_true (h n (by omega))
    have ih := enF_lt n (fun i hi => h i (by omega))
    rw [enF, Nat.pow_succ]
    omega
theorem wRf_ok : ∀ k, k < 17 → (wRf k).length ≤ 6 ∧ 0 < (wRf k).length ∧ ∀ i, i < (wRf k).length → isL ((wRf k).getD i 0) = true := by decide +kernel
theorem wRf_inj : ∀ k, k < 17 → ∀ j, j < 17 → (wRf k).length = (wRf j).length → (∀ i, i < 6 → i < (wRf k).length → (wRf k).getD i 0 = (wRf j).getD i 0) → k = j := by decide +kernel
/-- a letter more -/
theorem lN_shl {a b : Nat} (ha : a < 2 ^ 50) (hb : b < 32) : (lN a <<< (Int32.toInt64 5 &&& 63)) ||| lN b = lN (32 * a + b) := by
  refine Int64.toBitVec_inj.mp (BitVec.eq_of_getLsbD_eq (fun i hi => ?_))
  rw [Int64.toBitVec_or, BitVec.getLsbD_or, Int64.toBitVec_shiftLeft]
  have e5 : ((Int32.toInt64 5 &&& 63).toBitVec.smod 64).toNat = 5 := by decide +kernel
  show (((BitVec.ofNat 64 a) <<< ((Int32.toInt64 5 &&& 63).toBitVec.smod 64)).getLsbD i || (BitVec.ofNat 64 b).getLsbD i) = (BitVec.ofNat 64 (32 * a + b)).getLsbD i
  rw [BitVec.shiftLeft_eq', e5, BitVec.getLsbD_shiftLeft, BitVec.getLsbD_ofNat, BitVec.getLsbD_ofNat, BitVec.getLsbD_ofNat]
  have tb := Nat.testBit_two_pow_mul_add a (i := 5) hb i
  rw [show (32 : Nat) = 2 ^ 5 from rfl, tb]
  by_cases h5 : i < 5
  · simp [h5, hi]
  · have : b.testBit i = false := Nat.testBit_lt_two_pow (Nat.lt_of_lt_of_le hb (Nat.pow_le_pow_right (n := 2) (by decide) (show 5 ≤ i by omega)))
    simp [h5, hi, this]
    intro _
    omega
section LT
variable {S : St} {E : zX} {d : Nat}
theorem e_letters {k : Nat} {Q : Int64 → St → Prop} (hd : 1 ≤ d) (hk : k < 17) (h : Q (lN (enF (fun i => (wRf k).getD i 0) (wRf k).length)) S) : k_m_letters E d S (nI k) Q := by
  have c : k = 0 ∨ k = 1 ∨ k = 2 ∨ k = 3 ∨ k = 4 ∨ k = 5 ∨ k = 6 ∨ k = 7 ∨ k = 8 ∨ k = 9 ∨ k = 10 ∨ k = 11 ∨ k = 12 ∨ k = 13 ∨ k = 14 ∨ k = 15 ∨ k = 16 := by omega
  rcases c with rfl | rfl | rfl | rfl | rfl | rfl | rfl | rfl | rfl | rfl | rfl | rfl | rfl | rfl | rfl | rfl | rfl
  · refine w_m_letters hd ?_
    rw [if_pos (by decide)]
    refine w_m_spelled ?_
    rw [if_neg (by decide)]
    refine w_m_spelled_32 ?_
    rw [if_neg (by decide)]
    refine w_m_spelled_48 ?_
    rw [if_pos (by decide)]
    refine w_m_spelled_66 ?_
    rw [if_pos (by decide)]
    rw [show ((((((((Int32.toInt64 109) - 96) <<< (Int32.toInt64 5 &&& 63)) ||| (Int32.toInt64 (105 - (96 : Int32)))) <<< (Int32.toInt64 5 &&& 63)) ||| (Int32.toInt64 (108 - (96 : Int32)))) <<< (Int32.toInt64 5 &&& 63)) ||| (Int32.toInt64 (100 - (96 : Int32))) : Int64) = lN (enF (fun i => (wRf 0).getD i 0) (wRf 0).length) by decide +kernel]
    exact h
  · refine w_m_letters hd ?_
    rw [if_neg (by decide), if_pos (by decide)]
    refine w_m_spelled ?_
    rw [if_neg (by decide)]
    refine w_m_spelled_32 ?_
    rw [if_neg (by decide)]
    refine w_m_spelled_48 ?_
    rw [if_neg (by decide)]
    refine w_m_spelled_66 ?_
    rw [if_neg (by decide)]
    rw [show ((((((((((((Int32.toInt64 116) - 96) <<< (Int32.toInt64 5 &&& 63)) ||| (Int32.toInt64 (101 - (96 : Int32)))) <<< (Int32.toInt64 5 &&& 63)) ||| (Int32.toInt64 (109 - (96 : Int32)))) <<< (Int32.toInt64 5 &&& 63)) ||| (Int32.toInt64 (112 - (96 : Int32)))) <<< (Int32.toInt64 5 &&& 63)) ||| (Int32.toInt64 (101 - (96 : Int32)))) <<< (Int32.toInt64 5 &&& 63)) ||| (Int32.toInt64 (114 - (96 : Int32))) : Int64) = lN (enF (fun i => (wRf 1).getD i 0) (wRf 1).length) by decide +kernel]
    exact h
  · refine w_m_letters hd ?_
    rw [if_neg (by decide), if_neg (by decide), if_pos (by decide)]
    refine w_m_spelled ?_
    rw [if_neg (by decide)]
    refine w_m_spelled_32 ?_
    rw [if_neg (by decide)]
    refine w_m_spelled_48 ?_
    rw [if_neg (by decide)]
    refine w_m_spelled_66 ?_
    rw [if_neg (by decide)]
    rw [show ((((((((((((Int32.toInt64 115) - 96) <<< (Int32.toInt64 5 &&& 63)) ||| (Int32.toInt64 (104 - (96 : Int32)))) <<< (Int32.toInt64 5 &&& 63)) ||| (Int32.toInt64 (111 - (96 : Int32)))) <<< (Int32.toInt64 5 &&& 63)) ||| (Int32.toInt64 (117 - (96 : Int32)))) <<< (Int32.toInt64 5 &&& 63)) ||| (Int32.toInt64 (116 - (96 : Int32)))) <<< (Int32.toInt64 5 &&& 63)) ||| (Int32.toInt64 (115 - (96 : Int32))) : Int64) = lN (enF (fun i => (wRf 2).getD i 0) (wRf 2).length) by decide +kernel]
    exact h
  · refine w_m_letters hd ?_
    rw [if_neg (by decide), if_neg (by decide), if_neg (by decide), if_pos (by decide)]
    refine w_m_spelled ?_
    rw [if_neg (by decide)]
    refine w_m_spelled_32 ?_
    rw [if_neg (by decide)]
    refine w_m_spelled_48 ?_
    rw [if_neg (by decide)]
    refine w_m_spelled_66 ?_
    rw [if_pos (by decide)]
    rw [show ((((((((((Int32.toInt64 104) - 96) <<< (Int32.toInt64 5 &&& 63)) ||| (Int32.toInt64 (101 - (96 : Int32)))) <<< (Int32.toInt64 5 &&& 63)) ||| (Int32.toInt64 (97 - (96 : Int32)))) <<< (Int32.toInt64 5 &&& 63)) ||| (Int32.toInt64 (114 - (96 : Int32)))) <<< (Int32.toInt64 5 &&& 63)) ||| (Int32.toInt64 (100 - (96 : Int32))) : Int64) = lN (enF (fun i => (wRf 3).getD i 0) (wRf 3).length) by decide +kernel]
    exact h
  · refine w_m_letters hd ?_
    rw [if_neg (by decide), if_neg (by decide), if_neg (by decide), if_neg (by decide), if_pos (by decide)]
    refine w_m_spelled ?_
    rw [if_neg (by decide)]
    refine w_m_spelled_32 ?_
    rw [if_pos (by decide)]
    refine w_m_spelled_48 ?_
    rw [if_pos (by decide)]
    refine w_m_spelled_66 ?_
    rw [if_pos (by decide)]
    rw [show ((((((Int32.toInt64 100) - 96) <<< (Int32.toInt64 5 &&& 63)) ||| (Int32.toInt64 (97 - (96 : Int32)))) <<< (Int32.toInt64 5 &&& 63)) ||| (Int32.toInt64 (121 - (96 : Int32))) : Int64) = lN (enF (fun i => (wRf 4).getD i 0) (wRf 4).length) by decide +kernel]
    exact h
  · refine w_m_letters hd ?_
    rw [if_neg (by decide), if_neg (by decide), if_neg (by decide), if_neg (by decide), if_neg (by decide), if_pos (by decide)]
    refine w_m_spelled ?_
    rw [if_neg (by decide)]
    refine w_m_spelled_32 ?_
    rw [if_neg (by decide)]
    refine w_m_spelled_48 ?_
    rw [if_neg (by decide)]
    refine w_m_spelled_66 ?_
    rw [if_pos (by decide)]
    rw [show ((((((((((Int32.toInt64 104) - 96) <<< (Int32.toInt64 5 &&& 63)) ||| (Int32.toInt64 (111 - (96 : Int32)))) <<< (Int32.toInt64 5 &&& 63)) ||| (Int32.toInt64 (108 - (96 : Int32)))) <<< (Int32.toInt64 5 &&& 63)) ||| (Int32.toInt64 (100 - (96 : Int32)))) <<< (Int32.toInt64 5 &&& 63)) ||| (Int32.toInt64 (115 - (96 : Int32))) : Int64) = lN (enF (fun i => (wRf 5).getD i 0) (wRf 5).length) by decide +kernel]
    exact h
  · refine w_m_letters hd ?_
    rw [if_neg (by decide), if_neg (by decide), if_neg (by decide), if_neg (by decide), if_neg (by decide), if_neg (by decide), if_pos (by decide)]
    refine w_m_spelled ?_
    rw [if_neg (by decide)]
    refine w_m_spelled_32 ?_
    rw [if_neg (by decide)]
    refine w_m_spelled_48 ?_
    rw [if_pos (by decide)]
    refine w_m_spelled_66 ?_
    rw [if_pos (by decide)]
    rw [show ((((((((Int32.toInt64 115) - 96) <<< (Int32.toInt64 5 &&& 63)) ||| (Int32.toInt64 (105 - (96 : Int32)))) <<< (Int32.toInt64 5 &&& 63)) ||| (Int32.toInt64 (122 - (96 : Int32)))) <<< (Int32.toInt64 5 &&& 63)) ||| (Int32.toInt64 (101 - (96 : Int32))) : Int64) = lN (enF (fun i => (wRf 6).getD i 0) (wRf 6).length) by decide +kernel]
    exact h
  · refine w_m_letters hd ?_
    rw [if_neg (by decide), if_neg (by decide), if_neg (by decide), if_neg (by decide), if_neg (by decide), if_neg (by decide), if_neg (by decide), if_pos (by decide)]
    refine w_m_spelled ?_
    rw [if_neg (by decide)]
    refine w_m_spelled_32 ?_
    rw [if_pos (by decide)]
    refine w_m_spelled_48 ?_
    rw [if_pos (by decide)]
    refine w_m_spelled_66 ?_
    rw [if_pos (by decide)]
    rw [show ((((((Int32.toInt64 97) - 96) <<< (Int32.toInt64 5 &&& 63)) ||| (Int32.toInt64 (103 - (96 : Int32)))) <<< (Int32.toInt64 5 &&& 63)) ||| (Int32.toInt64 (101 - (96 : Int32))) : Int64) = lN (enF (fun i => (wRf 7).getD i 0) (wRf 7).length) by decide +kernel]
    exact h
  · refine w_m_letters hd ?_
    rw [if_neg (by decide), if_neg (by decide), if_neg (by decide), if_neg (by decide), if_neg (by decide), if_neg (by decide), if_neg (by decide), if_neg (by decide), if_pos (by decide)]
    refine w_m_spelled ?_
    rw [if_neg (by decide)]
    refine w_m_spelled_32 ?_
    rw [if_neg (by decide)]
    refine w_m_spelled_48 ?_
    rw [if_pos (by decide)]
    refine w_m_spelled_66 ?_
    rw [if_pos (by decide)]
    rw [show ((((((((Int32.toInt64 110) - 96) <<< (Int32.toInt64 5 &&& 63)) ||| (Int32.toInt64 (101 - (96 : Int32)))) <<< (Int32.toInt64 5 &&& 63)) ||| (Int32.toInt64 (97 - (96 : Int32)))) <<< (Int32.toInt64 5 &&& 63)) ||| (Int32.toInt64 (114 - (96 : Int32))) : Int64) = lN (enF (fun i => (wRf 8).getD i 0) (wRf 8).length) by decide +kernel]
    exact h
  · refine w_m_letters hd ?_
    rw [if_neg (by decide), if_neg (by decide), if_neg (by decide), if_neg (by decide), if_neg (by decide), if_neg (by decide), if_neg (by decide), if_neg (by decide), if_neg (by decide), if_pos (by decide)]
    refine w_m_spelled ?_
    rw [if_neg (by decide)]
    refine w_m_spelled_32 ?_
    rw [if_neg (by decide)]
    refine w_m_spelled_48 ?_
    rw [if_neg (by decide)]
    refine w_m_spelled_66 ?_
    rw [if_pos (by decide)]
    rw [show ((((((((((Int32.toInt64 100) - 96) <<< (Int32.toInt64 5 &&& 63)) ||| (Int32.toInt64 (111 - (96 : Int32)))) <<< (Int32.toInt64 5 &&& 63)) ||| (Int32.toInt64 (119 - (96 : Int32)))) <<< (Int32.toInt64 5 &&& 63)) ||| (Int32.toInt64 (110 - (96 : Int32)))) <<< (Int32.toInt64 5 &&& 63)) ||| (Int32.toInt64 (115 - (96 : Int32))) : Int64) = lN (enF (fun i => (wRf 9).getD i 0) (wRf 9).length) by decide +kernel]
    exact h
  · refine w_m_letters hd ?_
    rw [if_neg (by decide), if_neg (by decide), if_neg (by decide), if_neg (by decide), if_neg (by decide), if_neg (by decide), if_neg (by decide), if_neg (by decide), if_neg (by decide), if_neg (by decide), if_pos (by decide)]
    refine w_m_spelled ?_
    rw [if_neg (by decide)]
    refine w_m_spelled_32 ?_
    rw [if_neg (by decide)]
    refine w_m_spelled_48 ?_
    rw [if_neg (by decide)]
    refine w_m_spelled_66 ?_
    rw [if_neg (by decide)]
    rw [show ((((((((((((Int32.toInt64 112) - 96) <<< (Int32.toInt64 5 &&& 63)) ||| (Int32.toInt64 (101 - (96 : Int32)))) <<< (Int32.toInt64 5 &&& 63)) ||| (Int32.toInt64 (114 - (96 : Int32)))) <<< (Int32.toInt64 5 &&& 63)) ||| (Int32.toInt64 (115 - (96 : Int32)))) <<< (Int32.toInt64 5 &&& 63)) ||| (Int32.toInt64 (111 - (96 : Int32)))) <<< (Int32.toInt64 5 &&& 63)) ||| (Int32.toInt64 (110 - (96 : Int32))) : Int64) = lN (enF (fun i => (wRf 10).getD i 0) (wRf 10).length) by decide +kernel]
    exact h
  · refine w_m_letters hd ?_
    rw [if_neg (by decide), if_neg (by decide), if_neg (by decide), if_neg (by decide), if_neg (by decide), if_neg (by decide), if_neg (by decide), if_neg (by decide), if_neg (by decide), if_neg (by decide), if_neg (by decide), if_pos (by decide)]
    refine w_m_spelled ?_
    rw [if_neg (by decide)]
    refine w_m_spelled_32 ?_
    rw [if_neg (by decide)]
    refine w_m_spelled_48 ?_
    rw [if_pos (by decide)]
    refine w_m_spelled_66 ?_
    rw [if_pos (by decide)]
    rw [show ((((((((Int32.toInt64 98) - 96) <<< (Int32.toInt64 5 &&& 63)) ||| (Int32.toInt64 (97 - (96 : Int32)))) <<< (Int32.toInt64 5 &&& 63)) ||| (Int32.toInt64 (108 - (96 : Int32)))) <<< (Int32.toInt64 5 &&& 63)) ||| (Int32.toInt64 (108 - (96 : Int32))) : Int64) = lN (enF (fun i => (wRf 11).getD i 0) (wRf 11).length) by decide +kernel]
    exact h
  · refine w_m_letters hd ?_
    rw [if_neg (by decide), if_neg (by decide), if_neg (by decide), if_neg (by decide), if_neg (by decide), if_neg (by decide), if_neg (by decide), if_neg (by decide), if_neg (by decide), if_neg (by decide), if_neg (by decide), if_neg (by decide), if_pos (by decide)]
    refine w_m_spelled ?_
    rw [if_neg (by decide)]
    refine w_m_spelled_32 ?_
    rw [if_neg (by decide)]
    refine w_m_spelled_48 ?_
    rw [if_neg (by decide)]
    refine w_m_spelled_66 ?_
    rw [if_pos (by decide)]
    rw [show ((((((((((Int32.toInt64 114) - 96) <<< (Int32.toInt64 5 &&& 63)) ||| (Int32.toInt64 (105 - (96 : Int32)))) <<< (Int32.toInt64 5 &&& 63)) ||| (Int32.toInt64 (115 - (96 : Int32)))) <<< (Int32.toInt64 5 &&& 63)) ||| (Int32.toInt64 (101 - (96 : Int32)))) <<< (Int32.toInt64 5 &&& 63)) ||| (Int32.toInt64 (115 - (96 : Int32))) : Int64) = lN (enF (fun i => (wRf 12).getD i 0) (wRf 12).length) by decide +kernel]
    exact h
  · refine w_m_letters hd ?_
    rw [if_neg (by decide), if_neg (by decide), if_neg (by decide), if_neg (by decide), if_neg (by decide), if_neg (by decide), if_neg (by decide), if_neg (by decide), if_neg (by decide), if_neg (by decide), if_neg (by decide), if_neg (by decide), if_neg (by decide), if_pos (by decide)]
    refine w_m_spelled ?_
    rw [if_neg (by decide)]
    refine w_m_spelled_32 ?_
    rw [if_neg (by decide)]
    refine w_m_spelled_48 ?_
    rw [if_neg (by decide)]
    refine w_m_spelled_66 ?_
    rw [if_neg (by decide)]
    rw [show ((((((((((((Int32.toInt64 98) - 96) <<< (Int32.toInt64 5 &&& 63)) ||| (Int32.toInt64 (117 - (96 : Int32)))) <<< (Int32.toInt64 5 &&& 63)) ||| (Int32.toInt64 (114 - (96 : Int32)))) <<< (Int32.toInt64 5 &&& 63)) ||| (Int32.toInt64 (115 - (96 : Int32)))) <<< (Int32.toInt64 5 &&& 63)) ||| (Int32.toInt64 (116 - (96 : Int32)))) <<< (Int32.toInt64 5 &&& 63)) ||| (Int32.toInt64 (115 - (96 : Int32))) : Int64) = lN (enF (fun i => (wRf 13).getD i 0) (wRf 13).length) by decide +kernel]
    exact h
  · refine w_m_letters hd ?_
    rw [if_neg (by decide), if_neg (by decide), if_neg (by decide), if_neg (by decide), if_neg (by decide), if_neg (by decide), if_neg (by decide), if_neg (by decide), if_neg (by decide), if_neg (by decide), if_neg (by decide), if_neg (by decide), if_neg (by decide), if_neg (by decide), if_pos (by decide)]
    refine w_m_spelled ?_
    rw [if_neg (by decide)]
    refine w_m_spelled_32 ?_
    rw [if_pos (by decide)]
    refine w_m_spelled_48 ?_
    rw [if_pos (by decide)]
    refine w_m_spelled_66 ?_
    rw [if_pos (by decide)]
    rw [show ((((((Int32.toInt64 97) - 96) <<< (Int32.toInt64 5 &&& 63)) ||| (Int32.toInt64 (110 - (96 : Int32)))) <<< (Int32.toInt64 5 &&& 63)) ||| (Int32.toInt64 (100 - (96 : Int32))) : Int64) = lN (enF (fun i => (wRf 14).getD i 0) (wRf 14).length) by decide +kernel]
    exact h
  · refine w_m_letters hd ?_
    rw [if_neg (by decide), if_neg (by decide), if_neg (by decide), if_neg (by decide), if_neg (by decide), if_neg (by decide), if_neg (by decide), if_neg (by decide), if_neg (by decide), if_neg (by decide), if_neg (by decide), if_neg (by decide), if_neg (by decide), if_neg (by decide), if_neg (by decide), if_pos (by decide)]
    refine w_m_spelled ?_
    rw [if_pos (by decide)]
    refine w_m_spelled_32 ?_
    rw [if_pos (by decide)]
    refine w_m_spelled_48 ?_
    rw [if_pos (by decide)]
    refine w_m_spelled_66 ?_
    rw [if_pos (by decide)]
    rw [show ((((Int32.toInt64 111) - 96) <<< (Int32.toInt64 5 &&& 63)) ||| (Int32.toInt64 (114 - (96 : Int32))) : Int64) = lN (enF (fun i => (wRf 15).getD i 0) (wRf 15).length) by decide +kernel]
    exact h
  · refine w_m_letters hd ?_
    rw [if_neg (by decide), if_neg (by decide), if_neg (by decide), if_neg (by decide), if_neg (by decide), if_neg (by decide), if_neg (by decide), if_neg (by decide), if_neg (by decide), if_neg (by decide), if_neg (by decide), if_neg (by decide), if_neg (by decide), if_neg (by decide), if_neg (by decide), if_neg (by decide)]
    refine w_m_spelled ?_
    rw [if_neg (by decide)]
    refine w_m_spelled_32 ?_
    rw [if_pos (by decide)]
    refine w_m_spelled_48 ?_
    rw [if_pos (by decide)]
    refine w_m_spelled_66 ?_
    rw [if_pos (by decide)]
    rw [show ((((((Int32.toInt64 110) - 96) <<< (Int32.toInt64 5 &&& 63)) ||| (Int32.toInt64 (111 - (96 : Int32)))) <<< (Int32.toInt64 5 &&& 63)) ||| (Int32.toInt64 (116 - (96 : Int32))) : Int64) = lN (enF (fun i => (wRf 16).getD i 0) (wRf 16).length) by decide +kernel]
    exact h
end LT
/-- which known word a token is -/
def kwd (t : Txt) (p : Nat) : Option Nat := fstF (fun k => isW t p (wRf k)) 17
theorem isW_two {t : Txt} {p : Nat} {k j : Nat} (hk : k < 17) (hj : j < 17) (h1 : isW t p (wRf k) = true) (h2 : isW t p (wRf j) = true) : k = j := by
  have a := of_decide_eq_true h1
  have b := of_decide_eq_true h2
  refine wRf_inj k hk j hj (by omega) (fun i _ hi => ?_)
  rw [← a.2.2 i hi, ← b.2.2 i (by omega)]
theorem kwd_iff {t : Txt} {p k : Nat} (hk : k < 17) : kwd t p = some k ↔ isW t p (wRf k) = true := by
  constructor
  · intro h
    exact (fstF_inv _ _ h).1
  · intro h
    refine fstF_some h (fun j hj => ?_) 17 hk
    cases e : isW t p (wRf j) with
    | false => rfl
    | true =>
      have := isW_two hk (by omega) h e
      omega

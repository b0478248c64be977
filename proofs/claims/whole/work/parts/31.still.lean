/-! THE STILL HEAP: when all is made, each cell's shape stays; a state tells the numbers alone. Ends by what comes behind them (wp). -/
abbrev St : Type := Nat → Nat → Int32
abbrev zSq : Type := (Nat × Nat) ⊕ (Nat × List (Nat ⊕ Nat))
def hiL (x : Int64) : Int32 := Int32.ofBitVec (x.toBitVec.extractLsb' 32 32)
def loL (x : Int64) : Int32 := Int32.ofBitVec (x.toBitVec.extractLsb' 0 32)
def catL (a b : Int32) : Int64 := Int64.ofBitVec (a.toBitVec ++ b.toBitVec)
theorem catL_eq (x : Int64) : catL (hiL x) (loL x) = x := by
  have : x.toBitVec.extractLsb' 32 32 ++ x.toBitVec.extractLsb' 0 32 = x.toBitVec := by
    apply BitVec.eq_of_getLsbD_eq
    intro i hi
    rw [BitVec.getLsbD_append]
    by_cases h : i < 32
    · simp [h]
    · simp [h]
      rw [show 32 + (i - 32) = i by omega]
      simp [show i - 32 < 32 by omega]
  show Int64.ofBitVec (x.toBitVec.extractLsb' 32 32 ++ x.toBitVec.extractLsb' 0 32) = x
  rw [this]
  rfl
/-- where the halves of a long field lie (by choice: nothing computes it) -/
noncomputable def hf (i : Nat) : Nat := Classical.choose (⟨1000 + i, rfl⟩ : ∃ n, n = 1000 + i)
noncomputable def lf (i : Nat) : Nat := Classical.choose (⟨20000 + i, rfl⟩ : ∃ n, n = 20000 + i)
theorem hf_def (i : Nat) : hf i = 1000 + i := Classical.choose_spec (⟨1000 + i, rfl⟩ : ∃ n, n = 1000 + i)
theorem lf_def (i : Nat) : lf i = 20000 + i := Classical.choose_spec (⟨20000 + i, rfl⟩ : ∃ n, n = 20000 + i)
noncomputable def mkf (S : St) (k i : Nat) : (Nat ⊕ Nat) → Value
  | .inl 0 => .int (S k i)
  | .inl 1 => .long (catL (S k (hf i)) (S k (lf i)))
  | .inl _ => .ref (S k i).toNatClampNeg
  | .inr r => .ref r
noncomputable def mkc (S : St) (k : Nat) : zSq → zC
  | .inl (1, n) => .inl (1, n, .inr (.inl (fun i => catL (S k (2 * i)) (S k (2 * i + 1)))))
  | .inl (0, n) => .inl (0, n, .inl (S k))
  | .inl (_, n) => .inl (2, n, .inl (S k))
  | .inr (ci, fs) => .inr (ci, fs.mapIdx (mkf S k))
def zSh : List zSq := [
  .inr (11, [.inr 1, .inl 0, .inl 0, .inr 2, .inr 3, .inr 12, .inr 24, .inr 31, .inl 0, .inr 25, .inr 38, .inr 43, .inr 46, .inr 50, .inr 54, .inr 60]),
  .inl (0, 700),
  .inl (0, 3),
  .inr (5, [.inl 0, .inl 0, .inl 0, .inl 0, .inl 0, .inr 4, .inr 5, .inr 6, .inr 8, .inr 10, .inr 11]),
  .inl (0, 7),
  .inl (0, 10),
  .inr (9, [.inr 7, .inl 0]),
  .inl (0, 700),
  .inr (9, [.inr 9, .inl 0]),
  .inl (0, 700),
  .inl (0, 36),
  .inl (0, 36),
  .inr (8, [.inr 13, .inr 22, .inl 0, .inl 0, .inr 1, .inl 0, .inl 0, .inl 0, .inl 0, .inl 0, .inl 0, .inl 0, .inl 2, .inl 0]),
  .inr (5, [.inl 0, .inl 0, .inl 0, .inl 0, .inl 0, .inr 14, .inr 15, .inr 16, .inr 18, .inr 20, .inr 21]),
  .inl (0, 7),
  .inl (0, 10),
  .inr (9, [.inr 17, .inl 0]),
  .inl (0, 700),
  .inr (9, [.inr 19, .inl 0]),
  .inl (0, 700),
  .inl (0, 36),
  .inl (0, 36),
  .inr (10, [.inr 23]),
  .inl (0, 70),
  .inr (0, [.inr 25, .inl 0, .inr 27, .inl 0, .inr 28, .inr 29, .inr 30]),
  .inr (10, [.inr 26]),
  .inl (0, 70),
  .inl (0, 2800),
  .inl (0, 8),
  .inl (0, 8),
  .inl (0, 8),
  .inr (0, [.inr 32, .inl 0, .inr 34, .inl 0, .inr 35, .inr 36, .inr 37]),
  .inr (10, [.inr 33]),
  .inl (0, 70),
  .inl (0, 2800),
  .inl (0, 8),
  .inl (0, 8),
  .inl (0, 8),
  .inr (2, [.inr 3, .inr 39, .inr 40, .inr 41, .inr 42]),
  .inl (0, 3),
  .inl (0, 10),
  .inl (0, 5),
  .inl (0, 40),
  .inr (3, [.inr 38, .inr 25, .inr 44]),
  .inr (10, [.inr 45]),
  .inl (0, 70),
  .inr (6, [.inr 38, .inr 3, .inr 25, .inr 47, .inr 48, .inr 49]),
  .inl (0, 10),
  .inl (0, 36),
  .inl (0, 36),
  .inr (7, [.inl 0, .inl 0, .inr 51, .inr 3, .inr 25, .inr 52, .inr 53]),
  .inl (0, 7),
  .inl (0, 7),
  .inl (0, 10),
  .inr (4, [.inl 0, .inl 0, .inr 38, .inr 3, .inr 24, .inr 55, .inr 57, .inr 59]),
  .inr (10, [.inr 56]),
  .inl (0, 70),
  .inr (10, [.inr 58]),
  .inl (0, 70),
  .inl (0, 40),
  .inr (1, [.inl 0, .inl 0, .inl 0, .inr 38, .inr 3, .inr 25, .inr 61, .inr 63, .inr 64, .inl 0]),
  .inr (10, [.inr 62]),
  .inl (0, 70),
  .inl (0, 4),
  .inl (0, 4),
  .inr (12, [.inl 0, .inl 0, .inl 0, .inl 0, .inl 0, .inl 0, .inl 0, .inr 66, .inr 67, .inr 68, .inr 69, .inl 0, .inl 0, .inl 0, .inr 70, .inl 0, .inl 0, .inl 0, .inl 0, .inl 0, .inl 0, .inl 0, .inl 1, .inl 0, .inl 0, .inl 0, .inl 0, .inl 0, .inl 0, .inl 0, .inl 0, .inl 0, .inl 0, .inl 0, .inr 71, .inr 72, .inr 73, .inr 74, .inr 75, .inr 76, .inr 77, .inr 78, .inl 0, .inr 79, .inr 80, .inl 0, .inl 0, .inl 0, .inl 0, .inr 81, .inr 82, .inr 83, .inr 84, .inl 0, .inr 85, .inr 86, .inr 87, .inl 0, .inl 0, .inl 0, .inl 0, .inr 88, .inr 89, .inr 90]),
  .inl (0, 7),
  .inl (0, 10),
  .inl (0, 1400),
  .inl (0, 700),
  .inl (0, 3),
  .inl (0, 7),
  .inl (0, 10),
  .inl (0, 79),
  .inl (0, 1400),
  .inl (0, 950),
  .inl (2, 9),
  .inl (0, 158),
  .inl (0, 3160),
  .inl (0, 9),
  .inl (0, 950),
  .inl (0, 36),
  .inl (0, 36),
  .inl (0, 8192),
  .inl (0, 7),
  .inl (0, 24),
  .inl (0, 10),
  .inl (0, 700),
  .inl (0, 79),
  .inl (0, 3160),
  .inl (0, 24),
  .inl (1, 1)]
theorem sh0 : zSh[0]? = some (.inr (11, [.inr 1, .inl 0, .inl 0, .inr 2, .inr 3, .inr 12, .inr 24, .inr 31, .inl 0, .inr 25, .inr 38, .inr 43, .inr 46, .inr 50, .inr 54, .inr 60])) := rfl
theorem sh1 : zSh[1]? = some (.inl (0, 700)) := rfl
theorem sh2 : zSh[2]? = some (.inl (0, 3)) := rfl
theorem sh3 : zSh[3]? = some (.inr (5, [.inl 0, .inl 0, .inl 0, .inl 0, .inl 0, .inr 4, .inr 5, .inr 6, .inr 8, .inr 10, .inr 11])) := rfl
theorem sh4 : zSh[4]? = some (.inl (0, 7)) := rfl
theorem sh5 : zSh[5]? = some (.inl (0, 10)) := rfl
theorem sh6 : zSh[6]? = some (.inr (9, [.inr 7, .inl 0])) := rfl
theorem sh7 : zSh[7]? = some (.inl (0, 700)) := rfl
theorem sh8 : zSh[8]? = some (.inr (9, [.inr 9, .inl 0])) := rfl
theorem sh9 : zSh[9]? = some (.inl (0, 700)) := rfl
theorem sh10 : zSh[10]? = some (.inl (0, 36)) := rfl
theorem sh11 : zSh[11]? = some (.inl (0, 36)) := rfl
theorem sh12 : zSh[12]? = some (.inr (8, [.inr 13, .inr 22, .inl 0, .inl 0, .inr 1, .inl 0, .inl 0, .inl 0, .inl 0, .inl 0, .inl 0, .inl 0, .inl 2, .inl 0])) := rfl
theorem sh13 : zSh[13]? = some (.inr (5, [.inl 0, .inl 0, .inl 0, .inl 0, .inl 0, .inr 14, .inr 15, .inr 16, .inr 18, .inr 20, .inr 21])) := rfl
theorem sh14 : zSh[14]? = some (.inl (0, 7)) := rfl
theorem sh15 : zSh[15]? = some (.inl (0, 10)) := rfl
theorem sh16 : zSh[16]? = some (.inr (9, [.inr 17, .inl 0])) := rfl
theorem sh17 : zSh[17]? = some (.inl (0, 700)) := rfl
theorem sh18 : zSh[18]? = some (.inr (9, [.inr 19, .inl 0])) := rfl
theorem sh19 : zSh[19]? = some (.inl (0, 700)) := rfl
theorem sh20 : zSh[20]? = some (.inl (0, 36)) := rfl
theorem sh21 : zSh[21]? = some (.inl (0, 36)) := rfl
theorem sh22 : zSh[22]? = some (.inr (10, [.inr 23])) := rfl
theorem sh23 : zSh[23]? = some (.inl (0, 70)) := rfl
theorem sh24 : zSh[24]? = some (.inr (0, [.inr 25, .inl 0, .inr 27, .inl 0, .inr 28, .inr 29, .inr 30])) := rfl
theorem sh25 : zSh[25]? = some (.inr (10, [.inr 26])) := rfl
theorem sh26 : zSh[26]? = some (.inl (0, 70)) := rfl
theorem sh27 : zSh[27]? = some (.inl (0, 2800)) := rfl
theorem sh28 : zSh[28]? = some (.inl (0, 8)) := rfl
theorem sh29 : zSh[29]? = some (.inl (0, 8)) := rfl
theorem sh30 : zSh[30]? = some (.inl (0, 8)) := rfl
theorem sh31 : zSh[31]? = some (.inr (0, [.inr 32, .inl 0, .inr 34, .inl 0, .inr 35, .inr 36, .inr 37])) := rfl
theorem sh32 : zSh[32]? = some (.inr (10, [.inr 33])) := rfl
theorem sh33 : zSh[33]? = some (.inl (0, 70)) := rfl
theorem sh34 : zSh[34]? = some (.inl (0, 2800)) := rfl
theorem sh35 : zSh[35]? = some (.inl (0, 8)) := rfl
theorem sh36 : zSh[36]? = some (.inl (0, 8)) := rfl
theorem sh37 : zSh[37]? = some (.inl (0, 8)) := rfl
theorem sh38 : zSh[38]? = some (.inr (2, [.inr 3, .inr 39, .inr 40, .inr 41, .inr 42])) := rfl
theorem sh39 : zSh[39]? = some (.inl (0, 3)) := rfl
theorem sh40 : zSh[40]? = some (.inl (0, 10)) := rfl
theorem sh41 : zSh[41]? = some (.inl (0, 5)) := rfl
theorem sh42 : zSh[42]? = some (.inl (0, 40)) := rfl
theorem sh43 : zSh[43]? = some (.inr (3, [.inr 38, .inr 25, .inr 44])) := rfl
theorem sh44 : zSh[44]? = some (.inr (10, [.inr 45])) := rfl
theorem sh45 : zSh[45]? = some (.inl (0, 70)) := rfl
theorem sh46 : zSh[46]? = some (.inr (6, [.inr 38, .inr 3, .inr 25, .inr 47, .inr 48, .inr 49])) := rfl
theorem sh47 : zSh[47]? = some (.inl (0, 10)) := rfl
theorem sh48 : zSh[48]? = some (.inl (0, 36)) := rfl
theorem sh49 : zSh[49]? = some (.inl (0, 36)) := rfl
theorem sh50 : zSh[50]? = some (.inr (7, [.inl 0, .inl 0, .inr 51, .inr 3, .inr 25, .inr 52, .inr 53])) := rfl
theorem sh51 : zSh[51]? = some (.inl (0, 7)) := rfl
theorem sh52 : zSh[52]? = some (.inl (0, 7)) := rfl
theorem sh53 : zSh[53]? = some (.inl (0, 10)) := rfl
theorem sh54 : zSh[54]? = some (.inr (4, [.inl 0, .inl 0, .inr 38, .inr 3, .inr 24, .inr 55, .inr 57, .inr 59])) := rfl
theorem sh55 : zSh[55]? = some (.inr (10, [.inr 56])) := rfl
theorem sh56 : zSh[56]? = some (.inl (0, 70)) := rfl
theorem sh57 : zSh[57]? = some (.inr (10, [.inr 58])) := rfl
theorem sh58 : zSh[58]? = some (.inl (0, 70)) := rfl
theorem sh59 : zSh[59]? = some (.inl (0, 40)) := rfl
theorem sh60 : zSh[60]? = some (.inr (1, [.inl 0, .inl 0, .inl 0, .inr 38, .inr 3, .inr 25, .inr 61, .inr 63, .inr 64, .inl 0])) := rfl
theorem sh61 : zSh[61]? = some (.inr (10, [.inr 62])) := rfl
theorem sh62 : zSh[62]? = some (.inl (0, 70)) := rfl
theorem sh63 : zSh[63]? = some (.inl (0, 4)) := rfl
theorem sh64 : zSh[64]? = some (.inl (0, 4)) := rfl
theorem sh65 : zSh[65]? = some (.inr (12, [.inl 0, .inl 0, .inl 0, .inl 0, .inl 0, .inl 0, .inl 0, .inr 66, .inr 67, .inr 68, .inr 69, .inl 0, .inl 0, .inl 0, .inr 70, .inl 0, .inl 0, .inl 0, .inl 0, .inl 0, .inl 0, .inl 0, .inl 1, .inl 0, .inl 0, .inl 0, .inl 0, .inl 0, .inl 0, .inl 0, .inl 0, .inl 0, .inl 0, .inl 0, .inr 71, .inr 72, .inr 73, .inr 74, .inr 75, .inr 76, .inr 77, .inr 78, .inl 0, .inr 79, .inr 80, .inl 0, .inl 0, .inl 0, .inl 0, .inr 81, .inr 82, .inr 83, .inr 84, .inl 0, .inr 85, .inr 86, .inr 87, .inl 0, .inl 0, .inl 0, .inl 0, .inr 88, .inr 89, .inr 90])) := rfl
theorem sh66 : zSh[66]? = some (.inl (0, 7)) := rfl
theorem sh67 : zSh[67]? = some (.inl (0, 10)) := rfl
theorem sh68 : zSh[68]? = some (.inl (0, 1400)) := rfl
theorem sh69 : zSh[69]? = some (.inl (0, 700)) := rfl
theorem sh70 : zSh[70]? = some (.inl (0, 3)) := rfl
theorem sh71 : zSh[71]? = some (.inl (0, 7)) := rfl
theorem sh72 : zSh[72]? = some (.inl (0, 10)) := rfl
theorem sh73 : zSh[73]? = some (.inl (0, 79)) := rfl
theorem sh74 : zSh[74]? = some (.inl (0, 1400)) := rfl
theorem sh75 : zSh[75]? = some (.inl (0, 950)) := rfl
theorem sh76 : zSh[76]? = some (.inl (2, 9)) := rfl
theorem sh77 : zSh[77]? = some (.inl (0, 158)) := rfl
theorem sh78 : zSh[78]? = some (.inl (0, 3160)) := rfl
theorem sh79 : zSh[79]? = some (.inl (0, 9)) := rfl
theorem sh80 : zSh[80]? = some (.inl (0, 950)) := rfl
theorem sh81 : zSh[81]? = some (.inl (0, 36)) := rfl
theorem sh82 : zSh[82]? = some (.inl (0, 36)) := rfl
theorem sh83 : zSh[83]? = some (.inl (0, 8192)) := rfl
theorem sh84 : zSh[84]? = some (.inl (0, 7)) := rfl
theorem sh85 : zSh[85]? = some (.inl (0, 24)) := rfl
theorem sh86 : zSh[86]? = some (.inl (0, 10)) := rfl
theorem sh87 : zSh[87]? = some (.inl (0, 700)) := rfl
theorem sh88 : zSh[88]? = some (.inl (0, 79)) := rfl
theorem sh89 : zSh[89]? = some (.inl (0, 3160)) := rfl
theorem sh90 : zSh[90]? = some (.inl (0, 24)) := rfl
theorem sh91 : zSh[91]? = some (.inl (1, 1)) := rfl
noncomputable def HpL (l : List zSq) (S : St) : zH := (l.mapIdx (mkc S), (S 1000 0).toNatClampNeg)
def setR (S : St) (k : Nat) (f : Nat → Int32) : St := fun a => if a = k then f else S a
def up (S : St) (k i : Nat) (v : Int32) : St := setR S k (upd (S k) i v)
noncomputable def upJ (S : St) (k i : Nat) (v : Int64) : St := setR S k (upd (upd (S k) (hf i) (hiL v)) (lf i) (loL v))
def upA (S : St) (a : Nat) (v : Int64) : St := setR S a (upd (upd (S a) 0 (hiL v)) 1 (loL v))
def upT (S : St) : St := up S 1000 0 (nI ((S 1000 0).toNatClampNeg + 1))
theorem HpL_get (l : List zSq) (S : St) (k : Nat) : (HpL l S).1[k]? = (l[k]?).map (mkc S k) := List.getElem?_mapIdx
theorem setR_same (S : St) (k : Nat) (f : Nat → Int32) : setR S k f k = f := if_pos rfl
theorem setR_ne (S : St) {k a : Nat} (f : Nat → Int32) (h : a ≠ k) : setR S k f a = S a := if_neg h
theorem up_same (S : St) (k i : Nat) (v : Int32) : up S k i v k = upd (S k) i v := setR_same _ _ _
theorem up_ne (S : St) {k a : Nat} (i : Nat) (v : Int32) (h : a ≠ k) : up S k i v a = S a := setR_ne _ _ h
theorem upd_same (f : Nat → Int32) (i : Nat) (v : Int32) : upd f i v i = v := if_pos rfl
theorem upd_ne (f : Nat → Int32) {i j : Nat} (v : Int32) (h : j ≠ i) : upd f i v j = f j := if_neg h
theorem mkc_ne {S : St} {k j : Nat} (f : Nat → Int32) (q : zSq) (h : j ≠ k) : mkc (setR S k f) j q = mkc S j q := by
  have e : setR S k f j = S j := setR_ne _ _ h
  have e2 : mkf (setR S k f) j = mkf S j := by
    funext i t
    unfold mkf
    rw [e]
  unfold mkc
  rw [e, e2]
/-- a change of one cell -/
theorem HpL_set {l : List zSq} {S : St} {k : Nat} {q : zSq} {c : zC} (f : Nat → Int32) (hk : k ≠ 1000) (h1 : l[k]? = some q) (hc : mkc (setR S k f) k q = c) : ((HpL l S).1.set k c, (HpL l S).2) = HpL l (setR S k f) := by
  have e2 : (HpL l S).2 = (HpL l (setR S k f)).2 := by
    show (S 1000 0).toNatClampNeg = (setR S k f 1000 0).toNatClampNeg
    rw [setR_ne _ _ (Ne.symm hk)]
  have e1 : (HpL l S).1.set k c = (HpL l (setR S k f)).1 := by
    apply List.ext_getElem?
    intro j
    rw [HpL_get]
    by_cases hj : k = j
    · subst hj
      rw [List.getElem?_set_self', HpL_get, h1]
      simp only [Option.map_some]
      rw [hc]
      rfl
    · rw [List.getElem?_set_ne hj, HpL_get]
      cases hz : l[j]? with
      | none => rw [Option.map_none, Option.map_none]
      | some q' => rw [Option.map_some, Option.map_some, mkc_ne f q' (Ne.symm hj)]
  exact Prod.ext e1 e2
theorem upTL_eq {l : List zSq} {S : St} (hl : ∀ k q, l[k]? = some q → k ≠ 1000) (hn : (S 1000 0).toNatClampNeg < 1000000) : HpL l (upT S) = ((HpL l S).1, (HpL l S).2 + 1) := by
  have e1 : (HpL l (upT S)).1 = (HpL l S).1 := by
    apply List.ext_getElem?
    intro j
    rw [HpL_get, HpL_get]
    cases hz : l[j]? with
    | none => rw [Option.map_none, Option.map_none]
    | some q => rw [Option.map_some, Option.map_some, show mkc (upT S) j q = mkc S j q from mkc_ne _ q (hl _ _ hz)]
  have e2 : (HpL l (upT S)).2 = (HpL l S).2 + 1 := by
    show (upT S 1000 0).toNatClampNeg = (S 1000 0).toNatClampNeg + 1
    unfold upT
    rw [up_same, upd_same, nI_clamp (by omega)]
  exact Prod.ext e1 e2
/-- the heap of a state: by choice, so that nothing computes it -/
noncomputable def Hp (S : St) : zH := Classical.choose (⟨HpL zSh S, rfl⟩ : ∃ h, h = HpL zSh S)
theorem Hp_def (S : St) : Hp S = HpL zSh S := Classical.choose_spec (⟨HpL zSh S, rfl⟩ : ∃ h, h = HpL zSh S)
theorem Hp_get (S : St) (k : Nat) : (Hp S).1[k]? = (zSh[k]?).map (mkc S k) := by
  rw [Hp_def]
  exact HpL_get zSh S k
theorem sh_le : zSh.length = 92 := by decide +kernel
theorem sh_lt {k : Nat} {q : zSq} (h : zSh[k]? = some q) : k ≠ 1000 := by
  have := (List.getElem?_eq_some_iff.mp h).1
  rw [sh_le] at this
  omega
theorem Hp_set {S : St} {k : Nat} {q : zSq} {c : zC} (f : Nat → Int32) (h1 : zSh[k]? = some q) (hc : mkc (setR S k f) k q = c) : ((Hp S).1.set k c, (Hp S).2) = Hp (setR S k f) := by
  rw [Hp_def, Hp_def]
  exact HpL_set f (sh_lt h1) h1 hc
theorem upT_eq {S : St} (hn : (S 1000 0).toNatClampNeg < 1000000) : Hp (upT S) = ((Hp S).1, (Hp S).2 + 1) := by
  rw [Hp_def, Hp_def]
  exact upTL_eq (fun _ _ h => sh_lt h) hn
section GF
variable {E : zX} {S : St} {o ci k : Nat} {fs : List (Nat ⊕ Nat)}
theorem gfI (h1 : zSh[o]? = some (.inr (ci, fs))) (h2 : fs[k]? = some (.inl 0)) (K : Value → zR) : zgf E (Hp S) (.ref o) ci k K = K (.int (S o k)) := by
  unfold zgf
  simp only [Hp_get, h1, Option.map_some, mkc, Nat.beq_refl, cond_true, List.getElem?_mapIdx, h2, mkf]
theorem gfR {r : Nat} (h1 : zSh[o]? = some (.inr (ci, fs))) (h2 : fs[k]? = some (.inr r)) (K : Value → zR) : zgf E (Hp S) (.ref o) ci k K = K (.ref r) := by
  unfold zgf
  simp only [Hp_get, h1, Option.map_some, mkc, Nat.beq_refl, cond_true, List.getElem?_mapIdx, h2, mkf]
theorem gfV (h1 : zSh[o]? = some (.inr (ci, fs))) (h2 : fs[k]? = some (.inl 2)) (K : Value → zR) : zgf E (Hp S) (.ref o) ci k K = K (.ref (S o k).toNatClampNeg) := by
  unfold zgf
  simp only [Hp_get, h1, Option.map_some, mkc, Nat.beq_refl, cond_true, List.getElem?_mapIdx, h2, mkf]
theorem gfJ (h1 : zSh[o]? = some (.inr (ci, fs))) (h2 : fs[k]? = some (.inl 1)) (K : Value → zR) : zgf E (Hp S) (.ref o) ci k K = K (.long (catL (S o (hf k)) (S o (lf k)))) := by
  unfold zgf
  simp only [Hp_get, h1, Option.map_some, mkc, Nat.beq_refl, cond_true, List.getElem?_mapIdx, h2, mkf]
theorem isO_of (h1 : zSh[o]? = some (.inr (ci, fs))) : isO (Hp S) o ci = true := by
  unfold isO
  simp only [Hp_get, h1, Option.map_some, mkc, Nat.beq_refl]
theorem zmap_set {f : Nat → Int32} {v : Value} {q0 : Nat ⊕ Nat} (h2 : fs[k]? = some q0) (h3 : mkf (setR S o f) o k q0 = v) (h4 : ∀ j q, fs[j]? = some q → j ≠ k → mkf (setR S o f) o j q = mkf S o j q) : fs.mapIdx (mkf (setR S o f) o) = (fs.mapIdx (mkf S o)).set k v := by
  apply List.ext_getElem?
  intro j
  rw [List.getElem?_mapIdx]
  by_cases hj : k = j
  · subst hj
    rw [List.getElem?_set_self', List.getElem?_mapIdx, h2]
    simp only [Option.map_some]
    rw [h3]
    rfl
  · rw [List.getElem?_set_ne hj, List.getElem?_mapIdx]
    cases hq : fs[j]? with
    | none => rw [Option.map_none, Option.map_none]
    | some q => rw [Option.map_some, Option.map_some, h4 j q hq (Ne.symm hj)]
theorem pf_any {v : Value} {t : Nat} {r : List Value} {f : Nat → Int32} {q0 : Nat ⊕ Nat} (h1 : zSh[o]? = some (.inr (ci, fs))) (h2 : fs[k]? = some q0) (ht : zfw t v = true) (h3 : mkf (setR S o f) o k q0 = v) (h4 : ∀ j q, fs[j]? = some q → j ≠ k → mkf (setR S o f) o j q = mkf S o j q) (K : List Value → zH → zR) : zpf (Hp S) (v :: .ref o :: r) ci k t K = K r (Hp (setR S o f)) := by
  have e : ((Hp S).1.set o (.inr (ci, (fs.mapIdx (mkf S o)).set k v)), (Hp S).2) = Hp (setR S o f) := by
    refine Hp_set f h1 ?_
    show (Sum.inr (ci, fs.mapIdx (mkf (setR S o f) o)) : zC) = _
    rw [zmap_set h2 h3 h4]
  have hk : Nat.blt k (fs.mapIdx (mkf S o)).length = true := by
    rw [List.length_mapIdx]
    exact Nat.blt_eq.mpr (List.getElem?_eq_some_iff.mp h2).1
  unfold zpf
  simp only [Hp_get, h1, Option.map_some, mkc, Nat.beq_refl, hk, ht, Bool.and_self, cond_true]
  rw [e]
/-- fields that are no longs have small numbers -/
theorem mkf_up {j : Nat} {v : Int32} {q : Nat ⊕ Nat} (hk : k < 1000) (hj : j < 1000) (h : j ≠ k) : mkf (setR S o (upd (S o) k v)) o j q = mkf S o j q := by
  unfold mkf
  split
  · rw [setR_same, upd_ne _ _ h]
  · rw [setR_same, upd_ne _ _ (by rw [hf_def]; omega), upd_ne _ _ (by rw [lf_def]; omega)]
  · rw [setR_same, upd_ne _ _ h]
  · rfl
theorem mkf_upJ {j : Nat} {v : Int64} {q : Nat ⊕ Nat} (hk : k < 1000) (hj : j < 1000) (h : j ≠ k) : mkf (setR S o (upd (upd (S o) (hf k) (hiL v)) (lf k) (loL v))) o j q = mkf S o j q := by
  unfold mkf
  split
  · rw [setR_same, upd_ne _ _ (by rw [lf_def]; omega), upd_ne _ _ (by rw [hf_def]; omega)]
  · rw [setR_same, upd_ne _ _ (by rw [hf_def, lf_def]; omega), upd_ne _ _ (by rw [hf_def, hf_def]; omega), upd_ne _ _ (by rw [lf_def, lf_def]; omega), upd_ne _ _ (by rw [lf_def, hf_def]; omega)]
  · rw [setR_same, upd_ne _ _ (by rw [lf_def]; omega), upd_ne _ _ (by rw [hf_def]; omega)]
  · rfl
theorem fs_lt {j : Nat} {q : Nat ⊕ Nat} (hl : fs.length ≤ 64) (h : fs[j]? = some q) : j < 1000 := by
  have := (List.getElem?_eq_some_iff.mp h).1
  omega
theorem pfI {v : Int32} {t : Nat} {r : List Value} (h1 : zSh[o]? = some (.inr (ci, fs))) (h2 : fs[k]? = some (.inl 0)) (hl : fs.length ≤ 64) (ht : zfw t (.int v) = true) (K : List Value → zH → zR) : zpf (Hp S) (.int v :: .ref o :: r) ci k t K = K r (Hp (up S o k v)) :=
  pf_any h1 h2 ht (by show Value.int (setR S o (upd (S o) k v) o k) = _; rw [setR_same, upd_same]) (fun _ _ hj hne => mkf_up (fs_lt hl h2) (fs_lt hl hj) hne) K
theorem pfV {a : Nat} {r : List Value} (h1 : zSh[o]? = some (.inr (ci, fs))) (h2 : fs[k]? = some (.inl 2)) (hl : fs.length ≤ 64) (ha : a < 2 ^ 31) (K : List Value → zH → zR) : zpf (Hp S) (.ref a :: .ref o :: r) ci k 3 K = K r (Hp (up S o k (nI a))) :=
  pf_any h1 h2 rfl (by show Value.ref (setR S o (upd (S o) k (nI a)) o k).toNatClampNeg = _; rw [setR_same, upd_same, nI_clamp ha]) (fun _ _ hj hne => mkf_up (fs_lt hl h2) (fs_lt hl hj) hne) K
theorem pfJ {v : Int64} {r : List Value} (h1 : zSh[o]? = some (.inr (ci, fs))) (h2 : fs[k]? = some (.inl 1)) (hl : fs.length ≤ 64) (K : List Value → zH → zR) : zpf (Hp S) (.long v :: .ref o :: r) ci k 1 K = K r (Hp (upJ S o k v)) :=
  pf_any h1 h2 rfl (by
    show Value.long (catL (setR S o _ o (hf k)) (setR S o _ o (lf k))) = _
    rw [setR_same, upd_same, upd_ne _ _ (by rw [hf_def, lf_def]; omega), upd_same, catL_eq]) (fun _ _ hj hne => mkf_upJ (fs_lt hl h2) (fs_lt hl hj) hne) K
end GF
section AR
variable {E : zX} {S : St} {a n : Nat}
theorem arr_of (h1 : zSh[a]? = some (.inl (0, n))) : arr (Hp S) a = some (n, S a) := by
  unfold arr
  simp only [Hp_get, h1, Option.map_some, mkc]
theorem arZ_of (h1 : zSh[a]? = some (.inl (2, n))) : arZ (Hp S) a = some (n, S a) := by
  unfold arZ
  simp only [Hp_get, h1, Option.map_some, mkc]
theorem arL_of (h1 : zSh[a]? = some (.inl (1, n))) : arL (Hp S) a = some (n, fun i => catL (S a (2 * i)) (S a (2 * i + 1))) := by
  unfold arL
  simp only [Hp_get, h1, Option.map_some, mkc]
/-- an index inside -/
def ix (i : Int32) (n : Nat) : Prop := ¬ (i < 0 ∨ n ≤ i.toNatClampNeg)
theorem ix_nI {c N : Nat} (h : c < N) (hN : N < 2 ^ 31) : ix (nI c) N := nI_in h hN
theorem ldX {i : Int32} (h1 : zSh[a]? = some (.inl (0, n))) (hi : ix i n) (r : List Value) (K : List Value → zR) : zald .iaload E (Hp S) (.int i :: .ref a :: r) K = K (.int (S a i.toNatClampNeg) :: r) := arr_eq (arr_of h1) hi r K
theorem ldN {i : Nat} (h1 : zSh[a]? = some (.inl (0, n))) (hn : n < 2 ^ 31) (hi : i < n) (r : List Value) (K : List Value → zR) : zald .iaload E (Hp S) (.int (nI i) :: .ref a :: r) K = K (.int (S a i) :: r) := by
  rw [ldX h1 (ix_nI hi hn), nI_clamp (by omega)]
theorem ldZX {i : Int32} (h1 : zSh[a]? = some (.inl (2, n))) (hi : ix i n) (r : List Value) (K : List Value → zR) : zald .baload E (Hp S) (.int i :: .ref a :: r) K = K (.int (S a i.toNatClampNeg) :: r) := arZ_eq (arZ_of h1) hi r K
theorem ix0 (hn : 0 < n) : ¬ ((0 : Int32) < 0 ∨ n ≤ (0 : Int32).toNatClampNeg) := by
  rw [show ((0 : Int32).toNatClampNeg) = 0 from rfl]
  intro h
  rcases h with h | h
  · exact absurd h (by decide)
  · omega
theorem ldJ0 (h1 : zSh[a]? = some (.inl (1, n))) (hn : 0 < n) (r : List Value) (K : List Value → zR) : zald .laload E (Hp S) (.int 0 :: .ref a :: r) K = K (.long (catL (S a 0) (S a 1)) :: r) := arL_eq (arL_of h1) (ix0 (by omega)) r K
theorem set_of {f : Nat → Int32} (h1 : zSh[a]? = some (.inl (0, n))) : setA (Hp S) a n f = Hp (setR S a f) := Hp_set f h1 (by show (Sum.inl (0, n, .inl (setR S a f a)) : zC) = _; rw [setR_same])
theorem setZ_of {f : Nat → Int32} (h1 : zSh[a]? = some (.inl (2, n))) : setZ (Hp S) a n f = Hp (setR S a f) := Hp_set f h1 (by show (Sum.inl (2, n, .inl (setR S a f a)) : zC) = _; rw [setR_same])
theorem stX {i x : Int32} (h1 : zSh[a]? = some (.inl (0, n))) (hi : ix i n) (r : List Value) (K : List Value → zH → zR) : zast .iastore (Hp S) (.int x :: .int i :: .ref a :: r) K = K r (Hp (up S a i.toNatClampNeg x)) := by
  rw [set_eq (arr_of h1) hi, set_of h1]
  rfl
theorem stN {i : Nat} {x : Int32} (h1 : zSh[a]? = some (.inl (0, n))) (hn : n < 2 ^ 31) (hi : i < n) (r : List Value) (K : List Value → zH → zR) : zast .iastore (Hp S) (.int x :: .int (nI i) :: .ref a :: r) K = K r (Hp (up S a i x)) := by
  rw [stX h1 (ix_nI hi hn), nI_clamp (by omega)]
theorem stZX {i x : Int32} (h1 : zSh[a]? = some (.inl (2, n))) (hi : ix i n) (hx : (x == 0 || x == 1) = true) (r : List Value) (K : List Value → zH → zR) : zast .bastore (Hp S) (.int x :: .int i :: .ref a :: r) K = K r (Hp (up S a i.toNatClampNeg x)) := by
  rw [seZ_eq (arZ_of h1) hi hx, setZ_of h1]
  rfl
theorem stJ0 {x : Int64} {r : List Value} (h1 : zSh[a]? = some (.inl (1, 1))) (K : List Value → zH → zR) : zast .lastore (Hp S) (.long x :: .int 0 :: .ref a :: r) K = K r (Hp (upA S a x)) := by
  rw [seL_eq (arL_of h1) (ix0 (by omega))]
  have e : setL (Hp S) a 1 (vp_updL (fun i => catL (S a (2 * i)) (S a (2 * i + 1))) ((0 : Int32).toNatClampNeg) x) = Hp (upA S a x) := by
    refine Hp_set _ h1 ?_
    show (Sum.inl (1, 1, .inr (.inl (fun i => catL (setR S a _ a (2 * i)) (setR S a _ a (2 * i + 1))))) : zC) = _
    rw [setR_same]
    have : (fun i => catL (upd (upd (S a) 0 (hiL x)) 1 (loL x) (2 * i)) (upd (upd (S a) 0 (hiL x)) 1 (loL x) (2 * i + 1))) = vp_updL (fun i => catL (S a (2 * i)) (S a (2 * i + 1))) ((0 : Int32).toNatClampNeg) x := by
      funext i
      unfold vp_updL
      rw [show ((0 : Int32).toNatClampNeg) = 0 from rfl]
      by_cases hi : i = 0
      · subst hi
        rw [if_pos rfl]
        exact catL_eq x
      · rw [if_neg hi, upd_ne _ _ (by omega), upd_ne _ _ (by omega), upd_ne _ _ (by omega), upd_ne _ _ (by omega)]
    rw [this]
  rw [e]
theorem lnX (h1 : zSh[a]? = some (.inl (0, n))) (r : List Value) (K : List Value → zR) : zlenA E (Hp S) (.ref a :: r) K = K (.int (nI n) :: r) := len_eq (arr_of h1) r K
theorem cpX {a0 n0 : Nat} {sp dp m : Int32} (h0 : zSh[a0]? = some (.inl (0, n0))) (h1 : zSh[a]? = some (.inl (0, n))) (hi : ¬ ((sp < 0 ∨ dp < 0 ∨ m < 0) ∨ (n0 < sp.toNatClampNeg + m.toNatClampNeg ∨ n < dp.toNatClampNeg + m.toNatClampNeg))) (r : List Value) (K : List Value → zH → zR) :
    zcp (Hp S) (.int m :: .int dp :: .ref a :: .int sp :: .ref a0 :: r) K = K r (Hp (setR S a (va_cpy (S a0) (S a) sp.toNatClampNeg dp.toNatClampNeg m.toNatClampNeg))) := by
  rw [cp_eq (arr_of h0) (arr_of h1) hi, set_of h1]
theorem cpN {a0 n0 sp dp m : Nat} (h0 : zSh[a0]? = some (.inl (0, n0))) (h1 : zSh[a]? = some (.inl (0, n))) (hn0 : n0 < 2 ^ 31) (hn : n < 2 ^ 31) (hs : sp + m ≤ n0) (hd : dp + m ≤ n) (r : List Value) (K : List Value → zH → zR) :
    zcp (Hp S) (.int (nI m) :: .int (nI dp) :: .ref a :: .int (nI sp) :: .ref a0 :: r) K = K r (Hp (setR S a (va_cpy (S a0) (S a) sp dp m))) := by
  have e := cpX (S := S) (sp := nI sp) (dp := nI dp) (m := nI m) h0 h1 (by
    rw [nI_clamp (show sp < 2 ^ 31 by omega), nI_clamp (show dp < 2 ^ 31 by omega), nI_clamp (show m < 2 ^ 31 by omega)]
    rintro ((h | h | h) | (h | h))
    · exact nI_pos (by omega) h
    · exact nI_pos (by omega) h
    · exact nI_pos (by omega) h
    · omega
    · omega) r K
  rw [nI_clamp (show sp < 2 ^ 31 by omega), nI_clamp (show dp < 2 ^ 31 by omega), nI_clamp (show m < 2 ^ 31 by omega)] at e
  exact e
theorem ldZN {i : Nat} (h1 : zSh[a]? = some (.inl (2, n))) (hn : n < 2 ^ 31) (hi : i < n) (r : List Value) (K : List Value → zR) : zald .baload E (Hp S) (.int (nI i) :: .ref a :: r) K = K (.int (S a i) :: r) := by
  rw [ldZX h1 (ix_nI hi hn), nI_clamp (by omega)]
theorem stZN {i : Nat} {x : Int32} (h1 : zSh[a]? = some (.inl (2, n))) (hn : n < 2 ^ 31) (hi : i < n) (hx : (x == 0 || x == 1) = true) (r : List Value) (K : List Value → zH → zR) : zast .bastore (Hp S) (.int x :: .int (nI i) :: .ref a :: r) K = K r (Hp (up S a i x)) := by
  rw [stZX h1 (ix_nI hi hn) hx, nI_clamp (by omega)]
end AR
/-- the run from here ends, and Q holds of its end -/
def wp (E : zX) (d M pc : Nat) (L : zL) (st : List Value) (h : zH) (Q : zO → zH → Prop) : Prop := ∃ r, zT E d M pc L st h r ∧ Q r.1 r.2
def QI (Q : Int32 → St → Prop) (o : zO) (h : zH) : Prop := ∃ v S, o = .inl (some (.int v)) ∧ h = Hp S ∧ Q v S
def QJ (Q : Int64 → St → Prop) (o : zO) (h : zH) : Prop := ∃ v S, o = .inl (some (.long v)) ∧ h = Hp S ∧ Q v S
def QR (Q : Nat → St → Prop) (o : zO) (h : zH) : Prop := ∃ v S, o = .inl (some (.ref v)) ∧ h = Hp S ∧ Q v S
def QV (Q : St → Prop) (o : zO) (h : zH) : Prop := ∃ S, o = .inl none ∧ h = Hp S ∧ Q S
/-- or it throws -/
def QX (Q : zO → zH → Prop) (X : Nat → St → Prop) (o : zO) (h : zH) : Prop := Q o h ∨ ∃ x S, o = .inr x ∧ h = Hp S ∧ X x S
abbrev zZ : Type := Nat → Nat → Nat → zL → List Value → zH → zR
/-- k instructions, then Z -/
noncomputable def zit (E : zX) : Nat → zZ → zZ
  | 0, Z => Z
  | k + 1, Z => zstep zP zCd E (zit E k Z)
theorem zit_run (E : zX) (n : Nat) : ∀ k, zrun zP zCd E (n + k) = zit E k (zrun zP zCd E n)
  | 0 => rfl
  | k + 1 => by
    show zstep zP zCd E (zrun zP zCd E (n + k)) = zstep zP zCd E (zit E k (zrun zP zCd E n))
    rw [zit_run E n k]
section WP
variable {E : zX} {d M pc pc' : Nat} {L L' : zL} {st st' : List Value} {h h' : zH} {Q : zO → zH → Prop}
theorem wp_mono {Q' : zO → zH → Prop} (hq : ∀ o h, Q o h → Q' o h) (w : wp E d M pc L st h Q) : wp E d M pc L st h Q' := by
  obtain ⟨r, h1, h2⟩ := w
  exact ⟨r, h1, hq _ _ h2⟩
theorem wp_st (k : Nat) (hk : ∀ Z : zZ, zit E k Z d M pc L st h = Z d M pc' L' st' h') (w : wp E d M pc' L' st' h' Q) : wp E d M pc L st h Q := by
  obtain ⟨r, h1, h2⟩ := w
  exact ⟨r, zT_st k (fun n => by rw [zit_run]; exact hk _) h1, h2⟩
theorem wp_ret {o : zO} (hk : ∀ Z : zZ, zit E 1 Z d M pc L st h = some (o, h')) (hq : Q o h') : wp E d M pc L st h Q := ⟨(o, h'), zT_ret 1 (hk (zrun zP zCd E 0)), hq⟩
theorem wp_call {d1 M' : Nat} {La : zL} {rest : List Value} {c : Bool} {X : zZ → Nat → zH → zR} {Q1 : zO → zH → Prop}
    (hk : ∀ Z : zZ, zit E 1 Z d M pc L st h = (bif c then (match Z d1 M' 0 La [] h with
      | none => none
      | some (.inl v, h1) => Z d M pc' L (v.toList ++ rest) h1
      | some (.inr x, h1) => X Z x h1) else none))
    (hc : c = true) (hF : wp E d1 M' 0 La [] h Q1) (hG : ∀ o h1, Q1 o h1 → ∃ v, o = .inl v ∧ wp E d M pc' L (v.toList ++ rest) h1 Q) : wp E d M pc L st h Q := by
  obtain ⟨⟨o, h1⟩, hF1, hF2⟩ := hF
  obtain ⟨v, rfl, r, g1, g2⟩ := hG _ _ hF2
  exact ⟨r, zT_call 1 (X := fun n => X (zrun zP zCd E n)) (fun n => by rw [zit_run]; exact hk _) hc hF1 g1, g2⟩
/-- a call that may throw, and nothing catches it here -/
theorem wp_callX {d1 M' : Nat} {La : zL} {rest : List Value} {c : Bool} {Q1 : zO → zH → Prop}
    (hk : ∀ Z : zZ, zit E 1 Z d M pc L st h = (bif c then (match Z d1 M' 0 La [] h with
      | none => none
      | some (.inl v, h1) => Z d M pc' L (v.toList ++ rest) h1
      | some (.inr x, h1) => some (.inr x, h1)) else none))
    (hc : c = true) (hF : wp E d1 M' 0 La [] h Q1) (hG : ∀ o h1, Q1 o h1 → (∃ v, o = .inl v ∧ wp E d M pc' L (v.toList ++ rest) h1 Q) ∨ (∃ x, o = .inr x ∧ Q (.inr x) h1)) : wp E d M pc L st h Q := by
  obtain ⟨⟨o, h1⟩, hF1, hF2⟩ := hF
  rcases hG _ _ hF2 with ⟨v, rfl, r, g1, g2⟩ | ⟨x, rfl, hq⟩
  · exact ⟨r, zT_call 1 (X := fun n x h1 => some (.inr x, h1)) (fun n => by rw [zit_run]; exact hk _) hc hF1 g1, g2⟩
  · exact ⟨(.inr x, h1), zT_callX 1 (G := fun n v h1 => zrun zP zCd E n d M pc' L (v.toList ++ rest) h1) (fun n => by rw [zit_run]; exact hk _) hc hF1, hq⟩
/-- a call whose throws are caught here -/
theorem wp_callH {d1 M' : Nat} {La : zL} {rest : List Value} {c : Bool} {X : zZ → Nat → zH → zR} {Q1 : zO → zH → Prop}
    (hk : ∀ Z : zZ, zit E 1 Z d M pc L st h = (bif c then (match Z d1 M' 0 La [] h with
      | none => none
      | some (.inl v, h1) => Z d M pc' L (v.toList ++ rest) h1
      | some (.inr x, h1) => X Z x h1) else none))
    (hc : c = true) (hF : wp E d1 M' 0 La [] h Q1) (hG : ∀ o h1, Q1 o h1 → (∃ v, o = .inl v ∧ wp E d M pc' L (v.toList ++ rest) h1 Q) ∨ (∃ x pc2 L2, o = .inr x ∧ (∀ Z : zZ, X Z x h1 = Z d M pc2 L2 [] h1) ∧ wp E d M pc2 L2 [] h1 Q)) : wp E d M pc L st h Q := by
  obtain ⟨⟨o, h1⟩, hF1, hF2⟩ := hF
  rcases hG _ _ hF2 with ⟨v, rfl, r, g1, g2⟩ | ⟨x, pc2, L2, rfl, hX, r, g1, g2⟩
  · exact ⟨r, zT_call 1 (X := fun n => X (zrun zP zCd E n)) (fun n => by rw [zit_run]; exact hk _) hc hF1 g1, g2⟩
  · exact ⟨r, zT_callH 1 (X := fun n => X (zrun zP zCd E n)) (G := fun n v h1 => zrun zP zCd E n d M pc' L (v.toList ++ rest) h1) (fun n => by rw [zit_run]; exact hk _) hc (fun n => hX _) hF1 g1, g2⟩
theorem zsw_at {dflt lo hi c : Int} {offs : Array Int} {t : Nat} {off : Int} {x : Int32} {r : List Value} {K : Nat → List Value → zR} (hx : x.toInt = c) (h1 : ¬ (c < lo ∨ hi < c)) (h2 : offs[(c - lo).toNat]? = some off) (ht : (pc : Int) + off = (t : Int)) : zsw (.tableswitch dflt lo hi offs) pc (.int x :: r) K = K t r := by
  unfold zsw
  simp only
  rw [hx, if_neg h1, h2]
  simp only
  rw [ht, if_pos (Int.natCast_nonneg t)]
  rfl
end WP
/-- a bit -/
def bt (k : Nat) : Int32 := 1 <<< (nI k &&& 31)
/-! shapes of kinds of which there are several -/
def Sc (q : Nat) : Prop := zSh[q]? = some (.inr (10, [.inr (q + 1)])) ∧ zSh[q + 1]? = some (.inl (0, 70))
def Ru (u : Nat) : Prop := zSh[u]? = some (.inr (9, [.inr (u + 1), .inl 0])) ∧ zSh[u + 1]? = some (.inl (0, 700))
def La (l : Nat) : Prop := zSh[l]? = some (.inr (5, [.inl 0, .inl 0, .inl 0, .inl 0, .inl 0, .inr (l + 1), .inr (l + 2), .inr (l + 3), .inr (l + 5), .inr (l + 7), .inr (l + 8)])) ∧ Ru (l + 3) ∧ Ru (l + 5) ∧ zSh[l + 7]? = some (.inl (0, 36)) ∧ zSh[l + 8]? = some (.inl (0, 36))
def Bo (b : Nat) : Prop := zSh[b]? = some (.inr (0, [.inr (b + 1), .inl 0, .inr (b + 3), .inl 0, .inr (b + 4), .inr (b + 5), .inr (b + 6)])) ∧ Sc (b + 1) ∧ zSh[b + 3]? = some (.inl (0, 2800)) ∧ zSh[b + 4]? = some (.inl (0, 8)) ∧ zSh[b + 5]? = some (.inl (0, 8)) ∧ zSh[b + 6]? = some (.inl (0, 8))
def Ai (a n : Nat) : Prop := zSh[a]? = some (.inl (0, n))
theorem sc22 : Sc 22 := ⟨rfl, rfl⟩
theorem sc25 : Sc 25 := ⟨rfl, rfl⟩
theorem sc32 : Sc 32 := ⟨rfl, rfl⟩
theorem sc44 : Sc 44 := ⟨rfl, rfl⟩
theorem sc55 : Sc 55 := ⟨rfl, rfl⟩
theorem sc57 : Sc 57 := ⟨rfl, rfl⟩
theorem sc61 : Sc 61 := ⟨rfl, rfl⟩
theorem ru6 : Ru 6 := ⟨rfl, rfl⟩
theorem ru8 : Ru 8 := ⟨rfl, rfl⟩
theorem ru16 : Ru 16 := ⟨rfl, rfl⟩
theorem ru18 : Ru 18 := ⟨rfl, rfl⟩
theorem la3 : La 3 := ⟨rfl, ru6, ru8, rfl, rfl⟩
theorem la13 : La 13 := ⟨rfl, ru16, ru18, rfl, rfl⟩
theorem bo24 : Bo 24 := ⟨rfl, sc25, rfl, rfl, rfl, rfl⟩
theorem bo31 : Bo 31 := ⟨rfl, sc32, rfl, rfl, rfl, rfl⟩

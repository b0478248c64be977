/-! COUNTY in the class: texts, tokens -/
def wTx (k : Nat) : List Nat := [[59, 40, 41, 43, 45, 42, 47, 60, 61], [100, 111, 119, 110, 115], [112, 101, 114, 115, 111, 110], [98, 97, 108, 108], [104, 111, 108, 100, 115], [114, 105, 115, 101, 115], [110, 111, 116], [109, 105, 108, 100], [116, 101, 109, 112, 101, 114], [115, 104, 111, 117, 116, 115], [104, 101, 97, 114, 100], [100, 97, 121], [115, 105, 122, 101], [97, 103, 101], [110, 101, 97, 114], [97, 110, 100], [111, 114], [98, 117, 114, 115, 116, 115]].getD k []
/-- the texts lie outside as they should -/
def TE (E : zX) : Prop := ∀ k, k < 18 → txt E (UInt32.ofNat (2 * k + 1)) = some (UInt32.ofNat (2 * k + 2)) ∧ isT E (UInt32.ofNat (2 * k + 1)) = true ∧ out E (UInt32.ofNat (2 * k + 2)) = some (3, (wTx k).length, fun j => (zTx.getD k []).getD j 0)
theorem zTx_w : ∀ k, k < 18 → zTx.getD k [] = (wTx k).map nI := by decide +kernel
theorem wTx_lt : ∀ k, k < 18 → (wTx k).length < 10 ∧ ∀ i, i < (wTx k).length → (wTx k).getD i 0 < 128 := by decide +kernel
theorem TE_zE (L : Nat) (xs : Nat → Int32) : TE (zE L xs) := by
  intro k hk
  have : k = 0 ∨ k = 1 ∨ k = 2 ∨ k = 3 ∨ k = 4 ∨ k = 5 ∨ k = 6 ∨ k = 7 ∨ k = 8 ∨ k = 9 ∨ k = 10 ∨ k = 11 ∨ k = 12 ∨ k = 13 ∨ k = 14 ∨ k = 15 ∨ k = 16 ∨ k = 17 := by omega
  rcases this with rfl | rfl | rfl | rfl | rfl | rfl | rfl | rfl | rfl | rfl | rfl | rfl | rfl | rfl | rfl | rfl | rfl | rfl <;> exact ⟨rfl, rfl, rfl⟩
theorem getD_map {l : List Nat} {i : Nat} (h : i < l.length) : (l.map nI).getD i 0 = nI (l.getD i 0) := by
  rw [List.getD_eq_getElem?_getD, List.getD_eq_getElem?_getD, List.getElem?_map, List.getElem?_eq_getElem h]
  rfl
theorem i2c_b : ∀ b, b < 128 → zi2c (nI b &&& (255 : Int32)) = nI b ∧ zfr (some .char) (nI b) = true := by decide +kernel
theorem sh0n : ∀ n, n < 10 → (Int32.ofNat n) >>> ((0 : Int32) &&& 31) = nI n := by decide +kernel
section TX
variable {S : St} {E : zX} {d : Nat}
theorem c_strLen {k : Nat} {u : UInt32} {Q : Int32 → St → Prop} (hd : 2 ≤ d) (hE : TE E) (hk : k < 18) (hu : u = UInt32.ofNat (2 * k + 1)) (h : Q (nI (wTx k).length) S) : k_String_length E d S u Q := by
  subst hu
  obtain ⟨h1, h2, h3⟩ := hE k hk
  refine w_String_length (by omega) ⟨_, h1, 3, _, _, h3, rfl, h2, w_String_coder ⟨h2, ?_⟩⟩
  rw [sh0n _ (wTx_lt k hk).1]
  exact h
theorem c_charAt {k i : Nat} {u : UInt32} {Q : Int32 → St → Prop} (hd : 5 ≤ d) (hE : TE E) (hk : k < 18) (hu : u = UInt32.ofNat (2 * k + 1)) (hi : i < (wTx k).length) (h : Q (nI ((wTx k).getD i 0)) S) : k_String_charAt E d S u (nI i) Q := by
  subst hu
  obtain ⟨h1, h2, h3⟩ := hE k hk
  have l10 := (wTx_lt k hk).1
  refine w_String_charAt (by omega) ⟨h2, w_String_isLatin1 ⟨h2, ?_⟩⟩
  rw [if_neg (by decide)]
  refine ⟨_, h1, w_StringLatin1_charAt (by omega) ⟨3, _, _, h3, rfl, ?_⟩⟩
  refine w_String_checkIndex (by omega) (w_Preconditions_checkIndex ?_)
  rw [if_neg (nI_pos (by omega)), if_pos (show nI i < Int32.ofNat (wTx k).length from nI_lt hi (by omega))]
  have e1 : (zTx.getD k []).getD (nI i).toNatClampNeg 0 = nI ((wTx k).getD i 0) := by
    rw [nI_clamp (by omega), zTx_w k hk]
    exact getD_map hi
  have e2 := i2c_b _ ((wTx_lt k hk).2 i hi)
  refine ⟨_, _, h3, ?_, ?_⟩
  · exact nI_in hi (by omega)
  · show zfr (some .char) (zi2c ((zTx.getD k []).getD (nI i).toNatClampNeg 0 &&& (255 : Int32))) = true ∧ (zfr (some .char) (zi2c ((zTx.getD k []).getD (nI i).toNatClampNeg 0 &&& (255 : Int32))) = true ∧ Q (zi2c ((zTx.getD k []).getD (nI i).toNatClampNeg 0 &&& (255 : Int32))) S)
    rw [e1, e2.1]
    exact ⟨e2.2, e2.2, h⟩
end TX
/-- the text in the class -/
def TxC (t : Txt) (S : St) : Prop := t.1 ≤ 700 ∧ (∀ i, i < t.1 → t.2 i < 256) ∧ S 12 5 = nI t.1 ∧ ∀ i, i < t.1 → S 1 i = nI (t.2 i)
/-- the token from p on, in the class -/
def TkC (t : Txt) (S : St) (p : Nat) : Prop := TxC t S ∧ p ≤ t.1 ∧ S 12 6 = nI (tf t p) ∧ S 12 7 = nI (te t p) ∧ S 12 8 = nI (tk t p) ∧ (tk t p = 2 → S 12 10 = zb (4 < te t p - tf t p) ∧ (¬ 4 < te t p - tf t p → S 12 9 = nI (nv t p)))
/-- a token changes these alone -/
def F12 (S S' : St) : Prop := Fr [12] S S' ∧ ∀ i, i ∉ [6, 7, 8, 9, 10] → S' 12 i = S 12 i
theorem F12.refl (S : St) : F12 S S := ⟨Fr.refl _ _, fun _ _ => rfl⟩
theorem F12.trans {S S1 S2 : St} (h1 : F12 S S1) (h2 : F12 S1 S2) : F12 S S2 := ⟨h1.1.trans h2.1, fun i hi => (h2.2 i hi).trans (h1.2 i hi)⟩
theorem F12_up {S : St} {i : Nat} (v : Int32) (h : i ∈ [6, 7, 8, 9, 10]) : F12 S (up S 12 i v) := ⟨Fr.up _ _ (by decide), fun j hj => by rw [up_same, upd_ne _ _ (fun e => hj (by rw [e]; exact h))]⟩
theorem TxC_f {t : Txt} {S S' : St} (h : TxC t S) (f : F12 S S') : TxC t S' := by
  refine ⟨h.1, h.2.1, ?_, ?_⟩
  · rw [f.2 5 (by decide)]
    exact h.2.2.1
  · rw [f.1 1 (by decide)]
    exact h.2.2.2
section TC
variable {t : Txt} {S : St} {E : zX} {d : Nat} {p : Nat}
theorem c_isLetter {c : Nat} {Q : Int32 → St → Prop} (hc : c < 256) (h : Q (zb (isL c = true)) S) : k_Reader_isLetter E d S (nI c) Q := by
  refine w_Reader_isLetter (ife (fun e => ?_) (fun e => ife (fun e2 => ?_) (fun e2 => ?_)))
  · have e : nI c < nI 97 := e
    rw [nI_ltI (by omega) (by omega)] at e
    rw [zb_f (fun g => by have := of_decide_eq_true g; omega)] at h
    exact h
  · have e2 : nI 122 < nI c := e2
    rw [nI_ltI (by omega) (by omega)] at e2
    rw [zb_f (fun g => by have := of_decide_eq_true g; omega)] at h
    exact h
  · have e : ¬ nI c < nI 97 := e
    have e2 : ¬ nI 122 < nI c := e2
    rw [nI_ltI (by omega) (by omega)] at e e2
    rw [zb_t (show isL c = true from decide_eq_true (by omega))] at h
    exact h
theorem c_isDigit {c : Nat} {Q : Int32 → St → Prop} (hc : c < 256) (h : Q (zb (isD c = true)) S) : k_Reader_isDigit E d S (nI c) Q := by
  refine w_Reader_isDigit (ife (fun e => ?_) (fun e => ife (fun e2 => ?_) (fun e2 => ?_)))
  · have e : nI c < nI 48 := e
    rw [nI_ltI (by omega) (by omega)] at e
    rw [zb_f (fun g => by have := of_decide_eq_true g; omega)] at h
    exact h
  · have e2 : nI 57 < nI c := e2
    rw [nI_ltI (by omega) (by omega)] at e2
    rw [zb_f (fun g => by have := of_decide_eq_true g; omega)] at h
    exact h
  · have e : ¬ nI c < nI 48 := e
    have e2 : ¬ nI 57 < nI c := e2
    rw [nI_ltI (by omega) (by omega)] at e e2
    rw [zb_t (show isD c = true from decide_eq_true (by omega))] at h
    exact h
/-- whether a byte is one of the signs: in the text 1 -/
theorem sgn_ix : ∀ c, c < 256 → ((∃ j, j < 9 ∧ (zTx.getD 0 []).getD j 0 = zi2b (zi2c (nI c))) ↔ c ∈ sgn9) := by decide +kernel
theorem i2c_256 : ∀ c, c < 256 → zi2c (nI c) = nI c := by decide +kernel
theorem c_indexOf {c : Nat} {Q : Int32 → St → Prop} (hd : 6 ≤ d) (hE : TE E) (hc : c < 256) (h1 : ∀ j, j < 9 → c ∈ sgn9 → Q (nI j) S) (h0 : c ∉ sgn9 → Q (-1) S) : k_String_indexOf_I E d S 1 (zi2c (nI c)) Q := by
  obtain ⟨g1, g2, g3⟩ := hE 0 (by omega)
  refine w_String_indexOf_I (by omega) ⟨g2, w_String_indexOf_II (by omega) ⟨g2, w_String_isLatin1 ⟨g2, ?_⟩⟩⟩
  rw [if_neg (by decide)]
  refine ⟨_, g1, g2, c_strLen (k := 0) (by omega) hE (by omega) rfl ?_⟩
  refine w_StringLatin1_indexOf (by omega) (w_StringLatin1_canEncode ?_)
  rw [i2c_256 c hc, if_neg (nI_pos (by omega)), if_neg (show ¬ (255 : Int32) < nI c from nI_nlt (b := c) (a := 255) (by omega) (by omega)), if_neg (by decide)]
  refine ⟨3, _, _, g3, rfl, ?_⟩
  have e1 : zmax 0 0 = (0 : Int32) := by decide
  have e2 : zmin (nI (wTx 0).length) (Int32.ofNat (wTx 0).length) = nI 9 := by decide
  rw [e1, e2, if_pos (by decide)]
  refine w_StringLatin1_indexOfChar ?_
  have sx := sgn_ix c hc
  rw [i2c_256 c hc] at sx
  refine dn (P := fun j => (∀ i, i < j → ¬ (zTx.getD 0 []).getD i 0 = zi2b (nI c)) → k_StringLatin1_indexOfChar_7 E (d - 1 - 1 - 1) S (UInt32.ofNat (2 * 0 + 2)) (nI 9) (zi2b (nI c)) (nI j) Q) 9 ?_ ?_ 0 (Nat.zero_le _) (fun i hi => absurd hi (Nat.not_lt_zero i))
  · intro hno
    refine w_StringLatin1_indexOfChar_7 ?_
    rw [if_pos (Int32.le_refl _)]
    exact h0 (fun g => by
      obtain ⟨j, hj, e⟩ := sx.mpr g
      exact hno j hj e)
  · intro j hj ih hno
    refine w_StringLatin1_indexOfChar_7 ?_
    rw [if_neg (nI_ge hj (by omega))]
    refine ⟨_, _, g3, ?_, ?_⟩
    · exact nI_in (show j < (wTx 0).length from hj) (by decide)
    · show if (zTx.getD 0 []).getD (nI j).toNatClampNeg 0 = zi2b (nI c) then _ else _
      rw [nI_clamp (by omega)]
      refine ife (fun e => ?_) (fun e => ?_)
      · exact h1 j hj (sx.mp ⟨j, hj, e⟩)
      · rw [nI_1]
        exact ih (fun i hi => by
          by_cases e2 : i = j
          · rw [e2]
            exact e
          · exact hno i (by omega))
end TC
section TC2
variable {t : Txt} {S : St} {E : zX} {d : Nat} {p : Nat}
theorem tk_1e (h : tk t p = 1) : te t p = wl t isL (tf t p) := by
  unfold te
  rw [if_neg (by omega), if_pos h]
theorem tk_of1 (h0 : tf t p < t.1) (hL : isL (t.2 (tf t p)) = true) : tk t p = 1 := tk_1.mpr ⟨h0, hL⟩
theorem tk_of2 (h0 : tf t p < t.1) (hL : isL (t.2 (tf t p)) = false) (hD : isD (t.2 (tf t p)) = true) : tk t p = 2 := by
  unfold tk
  rw [if_neg (by omega), if_neg (by rw [hL]; decide), if_pos hD]
theorem tk_of3 (h0 : tf t p < t.1) (hL : isL (t.2 (tf t p)) = false) (hD : isD (t.2 (tf t p)) = false) (hS : t.2 (tf t p) ∈ sgn9) : tk t p = 3 ∧ te t p = tf t p + 1 := by
  have e : tk t p = 3 := by
    unfold tk
    rw [if_neg (by omega), if_neg (by rw [hL]; decide), if_neg (by rw [hD]; decide), if_pos hS]
  refine ⟨e, ?_⟩
  unfold te
  rw [if_neg (by omega), if_neg (by omega), if_neg (by omega)]
theorem tk_of4 (h0 : tf t p < t.1) (hL : isL (t.2 (tf t p)) = false) (hD : isD (t.2 (tf t p)) = false) (hS : t.2 (tf t p) ∉ sgn9) : tk t p = 4 ∧ te t p = tf t p + 1 := by
  have e : tk t p = 4 := by
    unfold tk
    rw [if_neg (by omega), if_neg (by rw [hL]; decide), if_neg (by rw [hD]; decide), if_neg hS]
  refine ⟨e, ?_⟩
  unfold te
  rw [if_neg (by omega), if_neg (by omega), if_neg (by omega)]
theorem tk_of0 (h0 : ¬ tf t p < t.1) : tk t p = 0 ∧ te t p = tf t p := by
  have e : tk t p = 0 := tk_0.mpr (by omega)
  exact ⟨e, by unfold te; rw [if_pos e]⟩
theorem c_nextToken {Q : St → Prop} (hd : 8 ≤ d) (hE : TE E) (hT : TxC t S) (h7 : S 12 7 = nI p) (hp : p ≤ t.1) (h : ∀ S' : St, F12 S S' → TkC t S' p → Q S') : k_Reader_nextToken E d S Q := by
  have n7 := hT.1
  have hf := tf_le (t := t) hp
  refine w_Reader_nextToken (by omega) (fun S1 e1 => ?_)
  have f1 : F12 S S1 := by
    rw [e1]
    exact F12_up _ (by decide)
  have w6 : S1 12 6 = nI p := by
    rw [e1, up_same, upd_same]
    exact h7
  -- letters
  have l107 : ∀ q, q ≤ t.1 → ∀ S2 : St, F12 S S2 → S2 12 6 = nI (tf t p) → S2 12 7 = nI q → S2 12 8 = 1 → wl t isL q = te t p → tk t p = 1 → k_Reader_nextToken_107 E d S2 Q := by
    have fin : ∀ q, ∀ S2 : St, F12 S S2 → S2 12 6 = nI (tf t p) → S2 12 7 = nI q → S2 12 8 = 1 → te t p = q → tk t p = 1 → Q S2 := fun q S2 f2 v6 v7 v8 he hk => h S2 f2 ⟨TxC_f hT f2, hp, v6, by rw [v7, he], by rw [v8, hk]; rfl, fun g => by omega⟩
    refine dn t.1 ?_ (fun q hq ih => ?_)
    · intro S2 f2 v6 v7 v8 hw hk
      refine w_Reader_nextToken_107 (by omega) ?_
      rw [(TxC_f hT f2).2.2.1, v7, if_pos (Int32.le_refl _)]
      exact fin _ S2 f2 v6 v7 v8 (by rw [← hw, wl_e (by omega)]) hk
    · intro S2 f2 v6 v7 v8 hw hk
      have T2 := TxC_f hT f2
      refine w_Reader_nextToken_107 (by omega) ?_
      rw [T2.2.2.1, v7, if_neg (nI_ge hq (by omega))]
      refine ⟨q, rfl, by omega, ?_⟩
      rw [T2.2.2.2 q hq]
      refine c_isLetter (hT.2.1 q hq) (izb (fun g => fun S4 e4 => ?_) (fun g => ?_))
      · refine ih S4 (f2.trans (by rw [e4]; exact F12_up _ (by decide))) ?_ ?_ ?_ (by rw [← wl_s hq g]; exact hw) hk
        · rw [e4, up_same, upd_ne _ _ (by decide)]
          exact v6
        · rw [e4, up_same, upd_same, v7, nI_1]
        · rw [e4, up_same, upd_ne _ _ (by decide)]
          exact v8
      · exact fin q S2 f2 v6 v7 v8 (by rw [← hw, wl_e (fun a => g a.2)]) hk
  -- digits
  have l171 : ∀ q, q ≤ t.1 → ∀ S2 : St, F12 S S2 → S2 12 6 = nI (tf t p) → S2 12 7 = nI q → S2 12 8 = 2 → tf t p ≤ q → (q - tf t p ≤ 4 → S2 12 9 = nI (nvl t (tf t p) (q - tf t p))) → (∀ i, tf t p ≤ i → i < q → isD (t.2 i) = true) → wl t isD q = te t p → tk t p = 2 → k_Reader_nextToken_171 E d S2 Q := by
    have fin : ∀ q, q ≤ t.1 → ∀ S2 : St, F12 S S2 → S2 12 6 = nI (tf t p) → S2 12 7 = nI q → S2 12 8 = 2 → tf t p ≤ q → (q - tf t p ≤ 4 → S2 12 9 = nI (nvl t (tf t p) (q - tf t p))) → te t p = q → tk t p = 2 → k_Reader_nextToken_239 E d S2 Q := fun q hq S2 f2 v6 v7 v8 hfq v9 he hk => by
      refine w_Reader_nextToken_239 (by omega) ?_
      rw [v6, v7, pk_sub hfq]
      have upq : ∀ (v : Int32) (S3 : St), S3 = up S2 12 10 v → v = zb (4 < te t p - tf t p) → Q S3 := fun v S3 e3 hv => by
        have f3 : F12 S S3 := f2.trans (by rw [e3]; exact F12_up _ (by decide))
        refine h S3 f3 ⟨TxC_f hT f3, hp, ?_, ?_, ?_, fun _ => ⟨?_, fun h4 => ?_⟩⟩
        · rw [e3, up_same, upd_ne _ _ (by decide)]
          exact v6
        · rw [e3, up_same, upd_ne _ _ (by decide), he]
          exact v7
        · rw [e3, up_same, upd_ne _ _ (by decide), hk]
          exact v8
        · rw [e3, up_same, upd_same]
          exact hv
        · rw [e3, up_same, upd_ne _ _ (by decide)]
          unfold nv
          rw [he]
          exact v9 (by omega)
      refine ife (fun g => fun S3 e3 => upq 0 S3 e3 ?_) (fun g => fun S3 e3 => upq 1 S3 e3 ?_)
      · have g : nI (q - tf t p) ≤ nI 4 := g
        rw [nI_leI (by omega) (by omega)] at g
        exact (zb_f (by omega)).symm
      · have g : ¬ nI (q - tf t p) ≤ nI 4 := g
        rw [nI_leI (by omega) (by omega)] at g
        exact (zb_t (by omega)).symm
    refine dn t.1 ?_ (fun q hq ih => ?_)
    · intro S2 f2 v6 v7 v8 hfq v9 ha hw hk
      refine w_Reader_nextToken_171 (by omega) ?_
      rw [(TxC_f hT f2).2.2.1, v7, if_pos (Int32.le_refl _)]
      exact fin _ (Nat.le_refl _) S2 f2 v6 v7 v8 hfq v9 (by rw [← hw, wl_e (by omega)]) hk
    · intro S2 f2 v6 v7 v8 hfq v9 ha hw hk
      have T2 := TxC_f hT f2
      refine w_Reader_nextToken_171 (by omega) ?_
      rw [T2.2.2.1, v7, if_neg (nI_ge hq (by omega))]
      refine ⟨q, rfl, by omega, ?_⟩
      rw [T2.2.2.2 q hq]
      refine c_isDigit (hT.2.1 q hq) (izb (fun g => ⟨q, v7, by omega, fun S5 e5 S6 e6 => ?_⟩) (fun g => ?_))
      · have dg := of_decide_eq_true g
        have b := hT.2.1 q hq
        refine ih S6 (f2.trans ?_) ?_ ?_ ?_ (by omega) (fun h4 => ?_) (fun i h1 h2 => ?_) (by rw [← wl_s hq g]; exact hw) hk
        · have a : F12 S2 S5 := by
            rw [e5]
            exact F12_up _ (by decide)
          exact a.trans (by rw [e6]; exact F12_up _ (by decide))
        · rw [e6, up_same, upd_ne _ _ (by decide), e5, up_same, upd_ne _ _ (by decide)]
          exact v6
        · rw [e6, up_same, upd_same, e5, up_same, upd_ne _ _ (by decide), v7, nI_1]
        · rw [e6, up_same, upd_ne _ _ (by decide), e5, up_same, upd_ne _ _ (by decide)]
          exact v8
        · rw [e6, up_same, upd_ne _ _ (by decide), e5, up_same, upd_same, v9 (by omega), T2.2.2.2 q hq]
          have nl := nvl_lt (t := t) (a := tf t p) (q - tf t p) (fun i hi => ha _ (by omega) (by omega))
          have p3 : 10 ^ (q - tf t p) ≤ 10 ^ 3 := Nat.pow_le_pow_right (by decide) (by omega)
          rw [show (10 : Int32) = nI 10 from rfl, pk_mul, nI_add, show (48 : Int32) = nI 48 from rfl, pk_sub (by omega)]
          unfold zmin
          rw [if_neg (show ¬ (99999 : Int32) < nI _ from nI_nlt (a := 99999) (by omega) (by omega)), show q + 1 - tf t p = (q - tf t p) + 1 by omega, nvl, show tf t p + (q - tf t p) = q by omega]
          congr 1
          omega
        · by_cases e : i = q
          · rw [e]
            exact g
          · exact ha i h1 (by omega)
      · exact fin q (by omega) S2 f2 v6 v7 v8 hfq v9 (by rw [← hw, wl_e (fun a => g a.2)]) hk
  -- behind the gap
  have l60 : ∀ S2 : St, F12 S S2 → S2 12 6 = nI (tf t p) → k_Reader_nextToken_60 E d S2 Q := by
    intro S2 f2 v6
    refine w_Reader_nextToken_60 (by omega) (fun S3 e3 => ?_)
    have f3 : F12 S S3 := f2.trans (by rw [e3]; exact F12_up _ (by decide))
    have T3 := TxC_f hT f3
    have u6 : S3 12 6 = nI (tf t p) := by
      rw [e3, up_same, upd_ne _ _ (by decide)]
      exact v6
    have u7 : S3 12 7 = nI (tf t p) := by
      rw [e3, up_same, upd_same]
      exact v6
    rw [u6, T3.2.2.1]
    refine ife (fun e => ⟨tf t p, rfl, ?_⟩) (fun e => fun S8 e8 => ?_)
    · rw [nI_ltI (by omega) (by omega)] at e
      refine ⟨by omega, ?_⟩
      rw [T3.2.2.2 _ e]
      have b := hT.2.1 _ e
      refine c_isLetter b (izb (fun g => fun S4 e4 => ?_) (fun g => ?_))
      · have hk := tk_of1 e g
        refine l107 (tf t p) (by omega) S4 (f3.trans (by rw [e4]; exact F12_up _ (by decide))) ?_ ?_ ?_ (tk_1e hk).symm hk
        · rw [e4, up_same, upd_ne _ _ (by decide)]
          exact u6
        · rw [e4, up_same, upd_ne _ _ (by decide)]
          exact u7
        · rw [e4, up_same, upd_same]
      · have g : isL (t.2 (tf t p)) = false := by simpa using g
        refine ⟨tf t p, u6, by omega, ?_⟩
        rw [T3.2.2.2 _ e]
        refine c_isDigit b (izb (fun g2 => fun S5 e5 S6 e6 => ?_) (fun g2 => ?_))
        · have hk := tk_of2 e g g2
          have a : F12 S3 S5 := by
            rw [e5]
            exact F12_up _ (by decide)
          refine l171 (tf t p) (by omega) S6 (f3.trans (a.trans (by rw [e6]; exact F12_up _ (by decide)))) ?_ ?_ ?_ (Nat.le_refl _) (fun _ => ?_) (fun i h1 h2 => by omega) (tk_2 hk).2.2.symm hk
          · rw [e6, up_same, upd_ne _ _ (by decide), e5, up_same, upd_ne _ _ (by decide)]
            exact u6
          · rw [e6, up_same, upd_ne _ _ (by decide), e5, up_same, upd_ne _ _ (by decide)]
            exact u7
          · rw [e6, up_same, upd_ne _ _ (by decide), e5, up_same, upd_same]
          · rw [e6, up_same, upd_same, Nat.sub_self]
            rfl
        · have g2 : isD (t.2 (tf t p)) = false := by simpa using g2
          refine ⟨tf t p, u6, by omega, (hE 0 (by omega)).2.1, ?_⟩
          rw [T3.2.2.2 _ e]
          have fin : ∀ (v : Int32) (S5 S6 : St), S5 = up S3 12 8 v → S6 = up S5 12 7 (S5 12 7 + 1) → v = nI (tk t p) → te t p = tf t p + 1 → ¬ tk t p = 2 → Q S6 := fun v S5 S6 e5 e6 hv he hk => by
            have a : F12 S3 S5 := by
              rw [e5]
              exact F12_up _ (by decide)
            have f6 : F12 S S6 := f3.trans (a.trans (by rw [e6]; exact F12_up _ (by decide)))
            refine h S6 f6 ⟨TxC_f hT f6, hp, ?_, ?_, ?_, fun g => absurd g hk⟩
            · rw [e6, up_same, upd_ne _ _ (by decide), e5, up_same, upd_ne _ _ (by decide)]
              exact u6
            · rw [e6, up_same, upd_same, e5, up_same, upd_ne _ _ (by decide), u7, nI_1, he]
            · rw [e6, up_same, upd_ne _ _ (by decide), e5, up_same, upd_same]
              exact hv
          refine c_indexOf (by omega) hE b (fun j hj hs => ?_) (fun hs => ?_)
          · have k3 := tk_of3 e g g2 hs
            rw [if_neg (nI_pos (by omega))]
            exact fun S5 e5 S6 e6 => fin 3 S5 S6 e5 e6 (by rw [k3.1]; rfl) k3.2 (by omega)
          · have k4 := tk_of4 e g g2 hs
            rw [if_pos (by decide)]
            exact fun S5 e5 S6 e6 => fin 4 S5 S6 e5 e6 (by rw [k4.1]; rfl) k4.2 (by omega)
    · rw [nI_ltI (by omega) (by omega)] at e
      have k0 := tk_of0 e
      have f8 : F12 S S8 := f3.trans (by rw [e8]; exact F12_up _ (by decide))
      refine h S8 f8 ⟨TxC_f hT f8, hp, ?_, ?_, ?_, fun g => by omega⟩
      · rw [e8, up_same, upd_ne _ _ (by decide)]
        exact u6
      · rw [e8, up_same, upd_ne _ _ (by decide), u7, k0.2]
      · rw [e8, up_same, upd_same, k0.1]
        rfl
  -- the gap
  have l8 : ∀ q, q ≤ t.1 → ∀ S2 : St, F12 S S2 → S2 12 6 = nI q → wl t isP q = tf t p → k_Reader_nextToken_8 E d S2 Q := by
    refine dn t.1 ?_ (fun q hq ih => ?_)
    · intro S2 f2 v2 hw
      refine w_Reader_nextToken_8 (by omega) ?_
      rw [(TxC_f hT f2).2.2.1, v2, if_pos (Int32.le_refl _)]
      refine l60 S2 f2 ?_
      rw [v2, ← hw, wl_e (by omega)]
    · intro S2 f2 v2 hw
      have T2 := TxC_f hT f2
      have b := hT.2.1 q hq
      refine w_Reader_nextToken_8 (by omega) ?_
      rw [T2.2.2.1, v2, if_neg (nI_ge hq (by omega))]
      have next : isP (t.2 q) = true → ∀ S4 : St, S4 = up S2 12 6 (nI q + 1) → k_Reader_nextToken_8 E d S4 Q := fun g S4 e4 => ih S4 (f2.trans (by rw [e4]; exact F12_up _ (by decide))) (by rw [e4, up_same, upd_same, nI_1]) (by rw [← wl_s hq g]; exact hw)
      refine ⟨q, rfl, by omega, ?_⟩
      rw [T2.2.2.2 q hq]
      refine ife (fun e => ?_) (fun e => ⟨q, rfl, by omega, ?_⟩)
      · have e : nI (t.2 q) = nI 32 := e
        rw [nI_eq (by omega) (by omega)] at e
        exact next (decide_eq_true (Or.inl e))
      · have e : ¬ nI (t.2 q) = nI 32 := e
        rw [nI_eq (by omega) (by omega)] at e
        rw [T2.2.2.2 q hq]
        refine ife (fun e2 => ?_) (fun e2 => ?_)
        · have e2 : nI (t.2 q) = nI 10 := e2
          rw [nI_eq (by omega) (by omega)] at e2
          exact next (decide_eq_true (Or.inr e2))
        · have e2 : ¬ nI (t.2 q) = nI 10 := e2
          rw [nI_eq (by omega) (by omega)] at e2
          refine l60 S2 f2 ?_
          rw [v2, ← hw, wl_e (fun a => by have := of_decide_eq_true a.2; omega)]
  exact l8 p hp S1 f1 w6 rfl
/-- is the token this word, this sign -/
theorem c_isWord {k : Nat} {u : UInt32} {Q : Int32 → St → Prop} (hd : 7 ≤ d) (hE : TE E) (hT : TkC t S p) (hk : k < 18) (hu : u = UInt32.ofNat (2 * k + 1)) (h : Q (zb (isW t p (wTx k) = true)) S) : k_Reader_isWord E d S u Q := by
  have n7 := hT.1.1
  have g1 := te_ge (t := t) (p := p)
  have g2 := te_le (t := t) hT.2.1
  have l10 := (wTx_lt k hk).1
  refine w_Reader_isWord (by omega) ?_
  rw [hT.2.2.2.2.1]
  refine ife (fun e => ?_) (fun e => ?_)
  · have e : nI (tk t p) = nI 1 := e
    have t4 := tk_4 (t := t) (p := p)
    rw [nI_eq (by omega) (by omega)] at e
    refine ⟨by rw [hu]; exact (hE k hk).2.1, c_strLen (by omega) hE hk hu ?_⟩
    rw [hT.2.2.1, hT.2.2.2.1, pk_sub g1]
    refine ife (fun l => ?_) (fun l => ?_)
    · rw [nI_eq (by omega) (by omega)] at l
      refine dn (P := fun j => (∀ i, i < j → t.2 (tf t p + i) = (wTx k).getD i 0) → k_Reader_isWord_28 E d S u j Q) (wTx k).length ?_ ?_ 0 (Nat.zero_le _) (fun i hi => absurd hi (Nat.not_lt_zero i))
      · intro ha
        refine w_Reader_isWord_28 (by omega) ⟨by rw [hu]; exact (hE k hk).2.1, c_strLen (by omega) hE hk hu ?_⟩
        rw [if_pos (Int32.le_refl _)]
        rw [zb_t (show isW t p (wTx k) = true from decide_eq_true ⟨e, l, ha⟩)] at h
        exact h
      · intro j hj ih ha
        refine w_Reader_isWord_28 (by omega) ⟨by rw [hu]; exact (hE k hk).2.1, c_strLen (by omega) hE hk hu ?_⟩
        rw [if_neg (nI_ge hj (by omega))]
        have b := hT.1.2.1 (tf t p + j) (by omega)
        have b2 := (wTx_lt k hk).2 j hj
        refine ⟨tf t p + j, by rw [hT.2.2.1, nI_add], by omega, by rw [hu]; exact (hE k hk).2.1, c_charAt (by omega) hE hk hu hj ?_⟩
        rw [hT.1.2.2.2 (tf t p + j) (by omega)]
        refine ife (fun c => ?_) (fun c => ?_)
        · rw [nI_eq (by omega) (by omega)] at c
          exact ih (fun i hi => by
            by_cases e2 : i = j
            · rw [e2]
              exact c
            · exact ha i (by omega))
        · rw [nI_eq (by omega) (by omega)] at c
          rw [zb_f (fun g => c ((of_decide_eq_true g).2.2 j hj))] at h
          exact h
    · rw [nI_eq (by omega) (by omega)] at l
      rw [zb_f (fun g => l (of_decide_eq_true g).2.1)] at h
      exact h
  · have e : ¬ nI (tk t p) = nI 1 := e
    have t4 := tk_4 (t := t) (p := p)
    rw [nI_eq (by omega) (by omega)] at e
    rw [zb_f (fun g => e (of_decide_eq_true g).1)] at h
    exact h
theorem c_isSign {c : Nat} {Q : Int32 → St → Prop} (hT : TkC t S p) (hc : c < 256) (h : Q (zb (isS t p c = true)) S) : k_Reader_isSign E d S (nI c) Q := by
  have n7 := hT.1.1
  have t4 := tk_4 (t := t) (p := p)
  refine w_Reader_isSign ?_
  rw [hT.2.2.2.2.1]
  refine ife (fun e => ?_) (fun e => ?_)
  · have e : nI (tk t p) = nI 3 := e
    rw [nI_eq (by omega) (by omega)] at e
    have lt : tf t p < t.1 := by
      have : ¬ tk t p = 0 := by omega
      rw [tk_0] at this
      omega
    have b := hT.1.2.1 _ lt
    refine ⟨tf t p, hT.2.2.1, by omega, ?_⟩
    rw [hT.1.2.2.2 _ lt]
    refine ife (fun g => ?_) (fun g => ?_)
    · rw [nI_eq (by omega) (by omega)] at g
      rw [zb_t (show isS t p c = true from decide_eq_true ⟨e, g⟩)] at h
      exact h
    · rw [nI_eq (by omega) (by omega)] at g
      rw [zb_f (fun k => g (of_decide_eq_true k).2)] at h
      exact h
  · have e : ¬ nI (tk t p) = nI 3 := e
    rw [nI_eq (by omega) (by omega)] at e
    rw [zb_f (fun k => e (of_decide_eq_true k).1)] at h
    exact h
/-- a fault: which, where -/
theorem c_fail {v : Int32} {Q : Int32 → St → Prop} (h : ∀ S' : St, Fr [12] S S' → (∀ i, i ∉ [2, 3] → S' 12 i = S 12 i) → S' 12 3 = v → S' 12 2 = S 12 6 → Q 0 S') : k_Reader_fail E d S v Q := by
  refine w_Reader_fail (fun S1 e1 S2 e2 => ?_)
  have f1 : Fr [12] S S1 := by
    rw [e1]
    exact Fr.up _ _ (by decide)
  refine h S2 (f1.trans (by rw [e2]; exact Fr.up _ _ (by decide))) (fun i hi => ?_) ?_ ?_
  · simp only [List.mem_cons, List.not_mem_nil, or_false] at hi
    rw [e2, up_same, upd_ne _ _ (by omega), e1, up_same, upd_ne _ _ (by omega)]
  · rw [e2, up_same, upd_ne _ _ (by decide), e1, up_same, upd_same]
  · rw [e2, up_same, upd_same, e1, up_same, upd_ne _ _ (by decide)]
end TC2

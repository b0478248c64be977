/-! PLANS: all at once; the call count -/
def tgt (f : Nat → Nat) (m : Nat) : Nat → Nat
  | 0 => 0
  | k + 1 => if m.testBit k = true then tgt f m k ||| f k else tgt f m k
theorem tgt_bit {f : Nat → Nat} {m j : Nat} : ∀ n, ((tgt f m n).testBit j = true ↔ ∃ i, i < n ∧ m.testBit i = true ∧ (f i).testBit j = true)
  | 0 => by
    rw [tgt, Nat.zero_testBit]
    exact ⟨(fun h => by cases h), fun ⟨i, hi, _⟩ => absurd hi (Nat.not_lt_zero i)⟩
  | n + 1 => by
    have ih := tgt_bit (f := f) (m := m) (j := j) n
    rw [tgt]
    by_cases hm : m.testBit n = true
    · rw [if_pos hm, Nat.testBit_or, Bool.or_eq_true, ih]
      constructor
      · rintro (⟨i, h1, h2⟩ | h)
        · exact ⟨i, by omega, h2⟩
        · exact ⟨n, by omega, hm, h⟩
      · rintro ⟨i, h1, h2, h3⟩
        by_cases e : i = n
        · rw [e] at h3
          exact Or.inr h3
        · exact Or.inl ⟨i, by omega, h2, h3⟩
    · rw [if_neg hm, ih]
      constructor
      · rintro ⟨i, h1, h2⟩
        exact ⟨i, by omega, h2⟩
      · rintro ⟨i, h1, h2, h3⟩
        by_cases e : i = n
        · rw [e] at h2
          exact absurd h2 hm
        · exact ⟨i, by omega, h2, h3⟩
section PO
variable {l : Lnd} {A : Scn} {G : Gst} {S : St} {E : zX} {d : Nat} {Q : Int32 → St → Prop} {X : Nat → St → Prop}
theorem p2_bit {a i : Nat} (h : (2 ^ a).testBit i = true) : a = i := by
  rw [Nat.testBit_two_pow] at h
  exact of_decide_eq_true h
theorem tgt_clo {can m : Nat} (hm : m < 2 ^ lb l) : tgt (fun i => clo l A can (2 ^ i)) m (lb l) = clo l A can m := by
  refine clo_of (bits_lt (fun j hj => ?_)) ⟨fun i hi => ?_, fun x y hx hxb hyb hc hr => ?_⟩ (fun T hT j hj => ?_)
  · cases e : (tgt (fun i => clo l A can (2 ^ i)) m (lb l)).testBit j with
    | false => rfl
    | true =>
      obtain ⟨i, _, _, h3⟩ := (tgt_bit (lb l)).mp e
      have := (clo_bit.mp h3).1
      omega
  · have hb := bit_in hm hi
    exact (tgt_bit (lb l)).mpr ⟨i, hb, hi, clo_in hb (Nat.testBit_two_pow_self)⟩
  · obtain ⟨i, h1, h2, h3⟩ := (tgt_bit (lb l)).mp hx
    exact (tgt_bit (lb l)).mpr ⟨i, h1, h2, clo_st h3 hyb hc hr⟩
  · obtain ⟨i, h1, h2, h3⟩ := (tgt_bit (lb l)).mp hj
    refine (clo_bit.mp h3).2 T ⟨fun k hk => ?_, hT.2⟩
    rw [← p2_bit hk]
    exact hT.1 i h2
noncomputable def aoW (l : Lnd) (A : Scn) (m : Nat) : Bool := @decide (sub m (freM l A) ∧ clo l A (freM l A) m = freM l A) (Classical.propDecidable _)
theorem aoW_t {m : Nat} : aoW l A m = true ↔ sub m (freM l A) ∧ clo l A (freM l A) m = freM l A := by
  unfold aoW
  exact @decide_eq_true_iff _ (Classical.propDecidable _)
theorem aoW_f {m : Nat} (h : ¬ (sub m (freM l A) ∧ clo l A (freM l A) m = freM l A)) : aoW l A m = false := @decide_eq_false _ (Classical.propDecidable _) h
theorem ao_all : aoW l A (freM l A) = true := aoW_t.mpr ⟨fun _ h => h, (clo_of freM_lt ⟨fun _ h => h, fun x y _ _ _ hc _ => hc⟩ (fun T hT i hi => hT.1 i hi)).symm⟩
theorem ao_same (hl : LOk l) : srch (aoW l A) (2 ^ lb l) = srch (aoW l A) 1024 := by
  refine srch_same (fun m hm hW => ⟨hW, sub_lt (aoW_t.mp hW).1 freM_lt⟩) (fun m hm hW => ⟨m, hW, pw10 hl hm, Nat.le_refl _, fun _ => rfl⟩)
theorem ao_some (hl : LOk l) : ∃ b, srch (aoW l A) (2 ^ lb l) = some b := by
  have ok := srch_ok (aoW l A) (2 ^ lb l)
  cases e : srch (aoW l A) (2 ^ lb l) with
  | none =>
    rw [e] at ok
    have := ok (freM l A) freM_lt
    rw [ao_all] at this
    cases this
  | some b => exact ⟨b, rfl⟩
noncomputable def aoV (l : Lnd) (A : Scn) : Int32 := oI (srch (aoW l A) (2 ^ lb l))
theorem c_together {f : Nat → Nat} {m : Nat} (hB : S 3 4 = nI (lb l)) (hl : LOk l) (hf : ∀ x, x < lb l → m.testBit x = true → S 47 x = nI (f x)) (h : Q (nI (tgt f m (lb l))) S) : k_Plans_together E d S (nI m) Q := by
  have b10 := hl.b10
  refine w_Plans_together ?_
  refine dn (P := fun k => k_Plans_together_4 E d S (nI m) (nI (tgt f m k)) k Q) (lb l) ?_ (fun k hk ih => ?_) 0 (Nat.zero_le _)
  · exact w_Plans_together_4 (ilp (lb l) hB (by omega) (by omega) (fun _ => h) (fun h => absurd h (Nat.lt_irrefl _)))
  · refine w_Plans_together_4 (ilp (lb l) hB (by omega) (by omega) (fun h => by omega) (fun _ => ?_))
    rw [tgt] at ih
    refine ife (fun e => ?_) (fun e => ?_)
    · rw [nI_tst (by omega)] at e
      rw [if_neg (by rw [e]; decide)] at ih
      exact ih
    · rw [nI_tst (by omega)] at e
      have e : m.testBit k = true := by simpa using e
      rw [if_pos e] at ih
      refine ⟨by omega, ?_⟩
      rw [hf k hk e, nI_or]
      exact ih
theorem c_allAtOnce (hd : 5 ≤ d) (hL : LC l S) (hA : ScC l (S 26) A) (hO : COk l A) (h : ∀ S', Fr [40, 47] S S' → Q (aoV l A) S') : k_Plans_allAtOnce E d S Q := by
  have b10 := hL.ok.b10
  have f10 : freM l A < 1024 := pw10 hL.ok freM_lt
  refine w_Plans_allAtOnce (by omega) (c_link (q := 25) (by omega) hL sc25 hA hO (fun S2 f2 k2 => ?_))
  have f2 : Fr [40, 47] S S2 := f2.mono (fun k hk => by simp only [List.mem_cons, List.not_mem_nil, or_false] at hk ⊢; omega)
  -- the search
  have fin : ∀ S3, Fr [40, 47] S S3 → (∀ x, x < lb l → (freM l A).testBit x = true → S3 47 x = nI (clo l A (freM l A) (2 ^ x))) → k_Plans_allAtOnce_76 E d S3 (nI (freM l A)) (nI (freM l A)) 0 Q := by
    intro S3 f3 t3
    have hB : S3 3 4 = nI (lb l) := by
      rw [f3 3 (by decide)]
      exact hL.b
    have go : ∀ k, k ≤ 1024 → k_Plans_allAtOnce_76 E d S3 (nI (freM l A)) (nI ((srch (aoW l A) k).getD (freM l A))) k Q := by
      refine dn 1024 ?_ (fun k hk ih => ?_)
      · refine w_Plans_allAtOnce_76 (by omega) ?_
        rw [if_pos (nI_le (Nat.le_refl 1024) (by omega))]
        have h := h S3 f3
        unfold aoV at h
        obtain ⟨b, hb⟩ := ao_some (A := A) hL.ok
        rw [← ao_same hL.ok, hb]
        rw [hb] at h
        exact h
      · refine w_Plans_allAtOnce_76 (by omega) ?_
        rw [if_neg (nI_ge hk (by omega)), nI_sdf]
        refine ife (fun e1 => ?_) (fun e1 => ?_)
        · rw [sdf_is0 hk] at e1
          have blt : (srch (aoW l A) k).getD (freM l A) < 1024 := by
            cases es : srch (aoW l A) k with
            | none => exact f10
            | some c =>
              have := srch_lt es
              show c < 1024
              omega
          generalize hb : (srch (aoW l A) k).getD (freM l A) = b at *
          refine c_bitCount hk (c_bitCount blt ?_)
          have := cnt_le k 10
          have := cnt_le b 10
          refine ife (fun e3 => ?_) (fun e3 => ?_)
          · have nl : ¬ cnt k 10 < cnt b 10 := fun hh => nI_ge hh (by omega) e3
            cases w1 : aoW l A k with
            | false =>
              rw [srch_0 w1, hb] at ih
              exact ih
            | true =>
              cases es : srch (aoW l A) k with
              | none =>
                rw [es] at hb
                have hb : freM l A = b := hb
                have := cnt_mono e1 10
                have ek := cnt_eq e1 f10 (by rw [hb] at this ⊢; omega)
                rw [srch_n w1 es] at ih
                have ih : k_Plans_allAtOnce_76 E d S3 (nI (freM l A)) (nI k) (k + 1) Q := ih
                rw [← hb]
                rw [show nI k = nI (freM l A) by rw [ek]] at ih
                exact ih
              | some c =>
                rw [es] at hb
                have hb : c = b := hb
                rw [srch_s w1 es, hb, if_neg nl] at ih
                exact ih
          · have nl : cnt k 10 < cnt b 10 := Nat.lt_of_not_le (fun hh => e3 (nI_le hh (by omega)))
            have hk2 : k < 2 ^ lb l := sub_lt e1 freM_lt
            refine c_together (f := fun x => clo l A (freM l A) (2 ^ x)) hB hL.ok (fun x hx hm => t3 x hx (e1 x hm)) ?_
            rw [tgt_clo hk2]
            refine ife (fun e4 => ?_) (fun e4 => ?_)
            · have e4 := (nI_eq (p31 hL.ok (clo_lt _ _)) (by omega)).mp e4
              have w1 : aoW l A k = true := aoW_t.mpr ⟨e1, e4⟩
              cases es : srch (aoW l A) k with
              | none =>
                rw [srch_n w1 es] at ih
                exact ih
              | some c =>
                rw [es] at hb
                have hb : c = b := hb
                rw [srch_s w1 es, hb, if_pos nl] at ih
                exact ih
            · rw [srch_0 (aoW_f (fun hh => e4 (by rw [hh.2]))), hb] at ih
              exact ih
        · rw [srch_0 (aoW_f (fun hh => e1 ((sdf_is0 hk).mpr hh.1)))] at ih
          exact ih
    exact go 0 (by omega)
  have loose : mkN (fun x => decide (¬ A 6 x = 0 ∧ ¬ A 9 x = 1)) (lb l) = freM l A := bits_ext (fun i => by
    rw [Bool.eq_iff_iff, freM_bit, mkN_bit, Bool.and_eq_true, decide_eq_true_eq, decide_eq_true_eq])
  have go : ∀ k, k ≤ lb l → ∀ S3 : St, Fr [40, 47] S S3 → (∀ x, x < lb l → S3 40 x = nI (lnk l A x)) → (∀ x, x < k → (freM l A).testBit x = true → S3 47 x = nI (clo l A (freM l A) (2 ^ x))) → k_Plans_allAtOnce_15 E d S3 (nI (mkN (fun x => decide (¬ A 6 x = 0 ∧ ¬ A 9 x = 1)) k)) (nI k) Q := by
    refine dn (lb l) ?_ (fun k hk ih => ?_)
    · intro S3 f3 k3 t3
      have hB : S3 3 4 = nI (lb l) := by
        rw [f3 3 (by decide)]
        exact hL.b
      refine w_Plans_allAtOnce_15 (by omega) (ilp (lb l) hB (by omega) (by omega) (fun _ => ?_) (fun h => absurd h (Nat.lt_irrefl _)))
      rw [loose]
      exact fin S3 f3 t3
    · intro S3 f3 k3 t3
      have L3 : LC l S3 := LC_fr hL (fun j a b => f3 j (by simp only [List.mem_cons, List.not_mem_nil, or_false]; omega))
      have A3 : ScC l (S3 (25 + 1)) A := by
        rw [f3 26 (by decide)]
        exact hA
      refine w_Plans_allAtOnce_15 (by omega) (ilp (lb l) L3.b (by omega) (by omega) (fun h => by omega) (fun _ => c_guards sc25 A3 ?_))
      rw [show (1 : Int32) <<< (nI k &&& 31) = bt k from rfl, bt_eq k (by omega)]
      refine c_chain (lk := lnk l A) L3.b L3.ok k3 (fun x _ => lnk_lt x) (Nat.pow_lt_pow_right (by decide) hk) (fun t ht => ⟨k, rfl, by omega, fun S5 e5 => ?_⟩)
      have f5 : Fr [40, 47] S S5 := by
        rw [e5]
        exact f3.trans (Fr.up _ _ (by decide))
      have A5 : ScC l (S5 (25 + 1)) A := by
        rw [f5 26 (by decide)]
        exact hA
      have k5 : ∀ x, x < lb l → S5 40 x = nI (lnk l A x) := fun x hx => by
        rw [e5, up_ne _ _ _ (by decide)]
        exact k3 x hx
      have t5 : ∀ x, x < k + 1 → (freM l A).testBit x = true → S5 47 x = nI (clo l A (freM l A) (2 ^ x)) := fun x hx hm => by
        rw [e5, up_same]
        by_cases ex : x = k
        · subst ex
          rw [upd_same, Lst_clo (sub_p2 hk (freM_bit.mp hm).2.1) ht]
          rfl
        · rw [upd_ne _ _ ex]
          exact t3 x (by omega) hm
      have ih := ih S5 f5 k5 t5
      rw [← nI_1 k] at ih
      refine c_isLoose (by omega) hL.ok sc25 A5 hk (izb (fun hl => ?_) (fun hl => ?_))
      · rw [← bt_eq k (by omega), mkN_or (by omega) (decide_eq_true hl)]
        exact ih
      · rw [mkN_no (decide_eq_false hl)]
        exact ih
  exact go 0 (Nat.zero_le _) S2 f2 k2 (fun x hx => absurd hx (Nat.not_lt_zero x))
theorem e_allAtOnce (hd : 5 ≤ d) (hL : LM l S) (hA : ScM l (S 77) 0 A) (hO : COk l A) (hGo : GOk l A) (h : Q (aoV l A) S) : k_m_allAtOnce E d S Q := by
  have b10 := hL.ok.b10
  have p10 : 2 ^ lb l ≤ 1024 := Nat.pow_le_pow_right (n := 2) (by decide) b10
  have f10 : freM l A < 1024 := pw10 hL.ok freM_lt
  have e4 : (1 : Int32) <<< (S 65 4 &&& 31) = nI (2 ^ lb l) := by
    rw [hL.b, ← bt_eq (lb l) (by omega)]
    rfl
  refine w_m_allAtOnce (by omega) (e_free (o := 0) (by omega) hL (by omega) hA hGo ?_)
  have go : ∀ k, k ≤ 2 ^ lb l → k_m_allAtOnce_10 E d S (nI (freM l A)) (oI (srch (aoW l A) k)) k Q := by
    refine dn (2 ^ lb l) ?_ (fun k hk ih => ?_)
    · refine w_m_allAtOnce_10 (by omega) ?_
      rw [e4, if_pos (nI_le (Nat.le_refl _) (by omega))]
      exact h
    · refine w_m_allAtOnce_10 (by omega) ?_
      rw [e4, if_neg (nI_ge hk (by omega)), nI_sdf]
      have go44 : (∀ c, srch (aoW l A) k = some c → cnt k 10 < cnt c 10) → sub k (freM l A) → k_m_allAtOnce_44 E d S (nI (freM l A)) (oI (srch (aoW l A) k)) k Q := by
        intro hc hk2
        refine w_m_allAtOnce_44 (by omega) (e_setOff (o := 0) (by omega) hL (by omega) hA hO hk (by omega) ?_)
        refine ife (fun e2 => ?_) (fun e2 => ?_)
        · have e2 := (nI_eq (p31 hL.ok (clo_lt _ _)) (by omega)).mp e2
          have w1 : aoW l A k = true := aoW_t.mpr ⟨hk2, e2⟩
          cases es : srch (aoW l A) k with
          | none =>
            rw [srch_n w1 es] at ih
            exact ih
          | some c =>
            rw [srch_s w1 es, if_pos (hc c es)] at ih
            exact ih
        · rw [srch_0 (aoW_f (fun hh => e2 (by rw [hh.2])))] at ih
          exact ih
      refine ife (fun e1 => ?_) (fun e1 => ?_)
      · rw [sdf_is0 (by omega)] at e1
        cases es : srch (aoW l A) k with
        | none =>
          rw [es] at go44
          rw [if_pos (show oI none = -1 from rfl)]
          exact go44 (fun c hc => by cases hc) e1
        | some c =>
          have lc := srch_lt es
          rw [es] at go44
          rw [if_neg (show ¬ oI (some c) = -1 from oI_ne (by omega))]
          refine e_bits (by omega) (e_bits (m := c) (by omega) ?_)
          have := cnt_le k 10
          have := cnt_le c 10
          refine ife (fun e3 => ?_) (fun e3 => ?_)
          · have nl : ¬ cnt k 10 < cnt c 10 := fun hh => nI_ge hh (by omega) e3
            cases w1 : aoW l A k with
            | false =>
              rw [srch_0 w1, es] at ih
              exact ih
            | true =>
              rw [srch_s w1 es, if_neg nl] at ih
              exact ih
          · refine go44 (fun c' hc => ?_) e1
            cases hc
            exact Nat.lt_of_not_le (fun hh => e3 (nI_le hh (by omega)))
      · rw [srch_0 (aoW_f (fun hh => e1 ((sdf_is0 (by omega)).mpr hh.1)))] at ih
        exact ih
  exact go 0 (Nat.zero_le _)
/-! the call -/
noncomputable def vCount (G : Gst) (a : Int32) : Int32 := if a = 0 then nI (lp (gl G)) else if a = 1 then nI (lb (gl G)) else if a = 2 then nI (lw (gl G)) else if a = 3 then nI (lh (gl G)) else if a = 4 then gA G 0 0 else if a = 5 then nI (whtM (gl G) (gA G)) else if a = 6 then nI (grdM (gl G) (gA G)) else if a = 7 then smK (gA G) 6 (lb (gl G)) else if a = 8 then smK (gA G) 1 (lp (gl G)) else if a = 9 then smK (gA G) 2 (lp (gl G)) else if a = 10 then aoV (gl G) (gA G) else if a = 11 then nI (gb G).2.1.1 else if a = 12 then nI (gb G).2.2.1 else if a = 13 then nI (gtn G) else if a = 14 then gr G 0 else if a = 15 then gr G 1 else gr G 2
def cCount (a : Int32) : Nat := cd3 (ng 17 a) false false
theorem x_count {a : Int32} (hd : 20 ≤ d) (hG : GInv G) (hR : RelC G S) (hn : (S 1000 0).toNatClampNeg < 1000000) (h : cCount a = 0 → ∀ S', QC S S' → Q (vCount G a) S') (hX : ∀ k, cCount a = k + 1 → X k (upT S)) : k_x_count E d S a Q X := by
  refine w_x_count (by omega) ?_
  have hL := hR.lc
  have hA : ScC (gl G) (S (25 + 1)) (gA G) := hR.sc
  have ok : ∀ {v : Int32} {j : Nat}, j < 17 → a = nI j → vCount G a = v → (∀ S', QC S S' → Q v S') := fun hj e ev => by
    rw [← ev]
    exact h (by rw [e]; unfold cCount cd3; rw [ng_f (by omega) hj]; rfl)
  refine ife (fun e => ?_) (fun n0 => ?_)
  · have H := ok (j := 0) (by omega) e (by unfold vCount; rw [if_pos e])
    rw [hL.p]
    exact H S (QC.refl S)
  refine ife (fun e => ?_) (fun n1 => ?_)
  · have H := ok (j := 1) (by omega) e (by unfold vCount; rw [if_neg n0, if_pos e])
    rw [hL.b]
    exact H S (QC.refl S)
  refine ife (fun e => ?_) (fun n2 => ?_)
  · have H := ok (j := 2) (by omega) e (by unfold vCount; rw [if_neg n0, if_neg n1, if_pos e])
    rw [hL.w]
    exact H S (QC.refl S)
  refine ife (fun e => ?_) (fun n3 => ?_)
  · have H := ok (j := 3) (by omega) e (by unfold vCount; rw [if_neg n0, if_neg n1, if_neg n2, if_pos e])
    rw [show S 3 1 = nI (lh (gl G)) from hL.2.2.1]
    exact H S (QC.refl S)
  refine ife (fun e => ?_) (fun n4 => ?_)
  · have H := ok (j := 4) (by omega) e (by unfold vCount; rw [if_neg n0, if_neg n1, if_neg n2, if_neg n3, if_pos e])
    exact c_day sc25 hA (H S (QC.refl S))
  refine ife (fun e => ?_) (fun n5 => ?_)
  · have H := ok (j := 5) (by omega) e (by unfold vCount; rw [if_neg n0, if_neg n1, if_neg n2, if_neg n3, if_neg n4, if_pos e])
    exact c_whites (q := 25) (by omega) hL sc25 hA (H S (QC.refl S))
  refine ife (fun e => ?_) (fun n6 => ?_)
  · have H := ok (j := 6) (by omega) e (by unfold vCount; rw [if_neg n0, if_neg n1, if_neg n2, if_neg n3, if_neg n4, if_neg n5, if_pos e])
    exact c_guards sc25 hA (H S (QC.refl S))
  refine ife (fun e => ?_) (fun n7 => ?_)
  · have H := ok (j := 7) (by omega) e (by unfold vCount; rw [if_neg n0, if_neg n1, if_neg n2, if_neg n3, if_neg n4, if_neg n5, if_neg n6, if_pos e])
    exact c_heldByAll (q := 25) (by omega) hL sc25 hA (H S (QC.refl S))
  refine ife (fun e => ?_) (fun n8 => ?_)
  · have H := ok (j := 8) (by omega) e (by unfold vCount; rw [if_neg n0, if_neg n1, if_neg n2, if_neg n3, if_neg n4, if_neg n5, if_neg n6, if_neg n7, if_pos e])
    exact c_temperOfAll (q := 25) (by omega) hL sc25 hA (H S (QC.refl S))
  refine ife (fun e => ?_) (fun n9 => ?_)
  · have H := ok (j := 9) (by omega) e (by unfold vCount; rw [if_neg n0, if_neg n1, if_neg n2, if_neg n3, if_neg n4, if_neg n5, if_neg n6, if_neg n7, if_neg n8, if_pos e])
    exact c_shoutedByAll (q := 25) (by omega) hL sc25 hA (H S (QC.refl S))
  refine ife (fun e => ?_) (fun n10 => ?_)
  · have H := ok (j := 10) (by omega) e (by unfold vCount; rw [if_neg n0, if_neg n1, if_neg n2, if_neg n3, if_neg n4, if_neg n5, if_neg n6, if_neg n7, if_neg n8, if_neg n9, if_pos e])
    exact c_allAtOnce (by omega) hL hR.sc hG.cok (fun S' f => H S' (QC_fr f (fun k hk => by (simp only [List.mem_cons, List.not_mem_nil, or_false] at hk);omega)))
  refine ife (fun e => ?_) (fun n11 => ?_)
  · have H := ok (j := 11) (by omega) e (by unfold vCount; rw [if_neg n0, if_neg n1, if_neg n2, if_neg n3, if_neg n4, if_neg n5, if_neg n6, if_neg n7, if_neg n8, if_neg n9, if_neg n10, if_pos e])
    rw [show S 24 1 = nI (gb G).2.1.1 from hR.bk.2.1]
    exact H S (QC.refl S)
  refine ife (fun e => ?_) (fun n12 => ?_)
  · have H := ok (j := 12) (by omega) e (by unfold vCount; rw [if_neg n0, if_neg n1, if_neg n2, if_neg n3, if_neg n4, if_neg n5, if_neg n6, if_neg n7, if_neg n8, if_neg n9, if_neg n10, if_neg n11, if_pos e])
    rw [show S 24 3 = nI (gb G).2.2.1 from hR.bk.2.2.2.1]
    exact H S (QC.refl S)
  refine ife (fun e => ?_) (fun n13 => ?_)
  · have H := ok (j := 13) (by omega) e (by unfold vCount; rw [if_neg n0, if_neg n1, if_neg n2, if_neg n3, if_neg n4, if_neg n5, if_neg n6, if_neg n7, if_neg n8, if_neg n9, if_neg n10, if_neg n11, if_neg n12, if_pos e])
    rw [hR.2.2.2.2.1]
    exact H S (QC.refl S)
  refine ife (fun e => ?_) (fun n14 => ?_)
  · have H := ok (j := 14) (by omega) e (by unfold vCount; rw [if_neg n0, if_neg n1, if_neg n2, if_neg n3, if_neg n4, if_neg n5, if_neg n6, if_neg n7, if_neg n8, if_neg n9, if_neg n10, if_neg n11, if_neg n12, if_neg n13, if_pos e])
    rw [hR.2.2.2.2.2.2.2 0 (by omega)]
    exact H S (QC.refl S)
  refine ife (fun e => ?_) (fun n15 => ?_)
  · have H := ok (j := 15) (by omega) e (by unfold vCount; rw [if_neg n0, if_neg n1, if_neg n2, if_neg n3, if_neg n4, if_neg n5, if_neg n6, if_neg n7, if_neg n8, if_neg n9, if_neg n10, if_neg n11, if_neg n12, if_neg n13, if_neg n14, if_pos e])
    rw [hR.2.2.2.2.2.2.2 1 (by omega)]
    exact H S (QC.refl S)
  refine ife (fun e => ?_) (fun n16 => ?_)
  · have H := ok (j := 16) (by omega) e (by unfold vCount; rw [if_neg n0, if_neg n1, if_neg n2, if_neg n3, if_neg n4, if_neg n5, if_neg n6, if_neg n7, if_neg n8, if_neg n9, if_neg n10, if_neg n11, if_neg n12, if_neg n13, if_neg n14, if_neg n15])
    rw [hR.2.2.2.2.2.2.2 2 (by omega)]
    exact H S (QC.refl S)
  refine ⟨hn, hX 0 ?_⟩
  have : ng 17 a = true := by
    rcases pk_ix a (n := 17) (by omega) with g | g | ⟨x, hx, rfl⟩
    · exact ng_t (Or.inl g)
    · exact ng_t (Or.inr g)
    · exfalso
      have hh : x = 0 ∨ x = 1 ∨ x = 2 ∨ x = 3 ∨ x = 4 ∨ x = 5 ∨ x = 6 ∨ x = 7 ∨ x = 8 ∨ x = 9 ∨ x = 10 ∨ x = 11 ∨ x = 12 ∨ x = 13 ∨ x = 14 ∨ x = 15 ∨ x = 16 := by omega
      rcases hh with rfl | rfl | rfl | rfl | rfl | rfl | rfl | rfl | rfl | rfl | rfl | rfl | rfl | rfl | rfl | rfl | rfl
      · exact n0 rfl
      · exact n1 rfl
      · exact n2 rfl
      · exact n3 rfl
      · exact n4 rfl
      · exact n5 rfl
      · exact n6 rfl
      · exact n7 rfl
      · exact n8 rfl
      · exact n9 rfl
      · exact n10 rfl
      · exact n11 rfl
      · exact n12 rfl
      · exact n13 rfl
      · exact n14 rfl
      · exact n15 rfl
      · exact n16 rfl
  unfold cCount cd3
  rw [this]
  rfl
theorem m_count {a : Int32} (hd : 20 ≤ d) (hG : GInv G) (hR : RelM G S) (h : ∀ S' v, QM S S' → S' 65 0 = nI (cCount a) → (cCount a = 0 → v = vCount G a) → Q v S') : k_m_count E d S a Q := by
  refine w_m_count (by omega) (fun S1 e1 => ?_)
  have q1 : QM S S1 := by
    rw [e1]
    exact QM_up _ (by decide)
  have t1 : S1 65 0 = 0 := by rw [e1, up_same, upd_same]
  have R1 := RelM_qm hR q1
  have hL := R1.lm
  have hA := R1.sc
  have hbk := R1.bk
  have n1 : ¬ (1 : Int32) = 0 := by decide
  refine e_within (fun g1 g2 => e_rightT t1 ?_) (fun g => e_rightF t1 (by decide) ?_)
  · rw [if_neg n1]
    have hm : ∃ x, x < 17 ∧ a = nI x := by
      rcases pk_ix a (n := 17) (by omega) with g | g | ⟨y, hy, rfl⟩
      · exact absurd g g1
      · exact absurd ((lt_le (n := 16) (by omega)).mpr g) g2
      · exact ⟨y, hy, rfl⟩
    obtain ⟨x, hx, ex⟩ := hm
    have c0 : cCount a = 0 := by
      rw [ex]
      unfold cCount cd3
      rw [ng_f (by omega) hx]
      rfl
    have ok : ∀ {v : Int32}, vCount G a = v → Q v S1 := fun ev => h S1 _ q1 (by rw [t1, c0]; rfl) (fun _ => ev.symm)
    refine ife (fun e => ?_) (fun n0 => ?_)
    · have H := ok (by unfold vCount; rw [if_pos e])
      rw [hL.p]
      exact H
    refine ife (fun e => ?_) (fun m1 => ?_)
    · have H := ok (by unfold vCount; rw [if_neg n0, if_pos e])
      rw [hL.b]
      exact H
    refine ife (fun e => ?_) (fun n2 => ?_)
    · have H := ok (by unfold vCount; rw [if_neg n0, if_neg m1, if_pos e])
      rw [hL.w]
      exact H
    refine ife (fun e => ?_) (fun n3 => ?_)
    · have H := ok (by unfold vCount; rw [if_neg n0, if_neg m1, if_neg n2, if_pos e])
      rw [hL.h]
      exact H
    refine ife (fun e => ?_) (fun n4 => ?_)
    · have H := ok (by unfold vCount; rw [if_neg n0, if_neg m1, if_neg n2, if_neg n3, if_pos e])
      rw [show S1 77 0 = gA G 0 0 from hA 0 0 (by decide) (show 0 < 1 by decide)]
      exact H
    refine ife (fun e => ?_) (fun n5 => ?_)
    · have H := ok (by unfold vCount; rw [if_neg n0, if_neg m1, if_neg n2, if_neg n3, if_neg n4, if_pos e])
      refine e_heldOnes (o := 0) (by omega) hL (by omega) hA ?_
      rw [hL.b, wht_of hG.1]
      exact H
    refine ife (fun e => ?_) (fun n6 => ?_)
    · have H := ok (by unfold vCount; rw [if_neg n0, if_neg m1, if_neg n2, if_neg n3, if_neg n4, if_neg n5, if_pos e])
      exact e_guardedOnes (o := 0) hL (by omega) hA hG.gok H
    refine ife (fun e => ?_) (fun n7 => ?_)
    · have H := ok (by unfold vCount; rw [if_neg n0, if_neg m1, if_neg n2, if_neg n3, if_neg n4, if_neg n5, if_neg n6, if_pos e])
      exact e_sumOf (o := 0) (k := 6) (by omega) hA hG.1 (by decide) (Nat.le_refl _) hL.b H
    refine ife (fun e => ?_) (fun n8 => ?_)
    · have H := ok (by unfold vCount; rw [if_neg n0, if_neg m1, if_neg n2, if_neg n3, if_neg n4, if_neg n5, if_neg n6, if_neg n7, if_pos e])
      exact e_sumOf (o := 0) (k := 1) (by omega) hA hG.1 (by decide) (Nat.le_refl _) hL.p H
    refine ife (fun e => ?_) (fun n9 => ?_)
    · have H := ok (by unfold vCount; rw [if_neg n0, if_neg m1, if_neg n2, if_neg n3, if_neg n4, if_neg n5, if_neg n6, if_neg n7, if_neg n8, if_pos e])
      exact e_sumOf (o := 0) (k := 2) (by omega) hA hG.1 (by decide) (Nat.le_refl _) hL.p H
    refine ife (fun e => ?_) (fun n10 => ?_)
    · have H := ok (by unfold vCount; rw [if_neg n0, if_neg m1, if_neg n2, if_neg n3, if_neg n4, if_neg n5, if_neg n6, if_neg n7, if_neg n8, if_neg n9, if_pos e])
      exact e_allAtOnce (by omega) hL hA hG.cok hG.gok H
    refine ife (fun e => ?_) (fun n11 => ?_)
    · have H := ok (by unfold vCount; rw [if_neg n0, if_neg m1, if_neg n2, if_neg n3, if_neg n4, if_neg n5, if_neg n6, if_neg n7, if_neg n8, if_neg n9, if_neg n10, if_pos e])
      rw [hbk.2.1]
      exact H
    refine ife (fun e => ?_) (fun n12 => ?_)
    · have H := ok (by unfold vCount; rw [if_neg n0, if_neg m1, if_neg n2, if_neg n3, if_neg n4, if_neg n5, if_neg n6, if_neg n7, if_neg n8, if_neg n9, if_neg n10, if_neg n11, if_pos e])
      rw [hbk.2.2.2.1]
      exact H
    refine ife (fun e => ?_) (fun n13 => ?_)
    · have H := ok (by unfold vCount; rw [if_neg n0, if_neg m1, if_neg n2, if_neg n3, if_neg n4, if_neg n5, if_neg n6, if_neg n7, if_neg n8, if_neg n9, if_neg n10, if_neg n11, if_neg n12, if_pos e])
      rw [R1.2.2.2.2.1]
      exact H
    subst ex
    have hh : x = 0 ∨ x = 1 ∨ x = 2 ∨ x = 3 ∨ x = 4 ∨ x = 5 ∨ x = 6 ∨ x = 7 ∨ x = 8 ∨ x = 9 ∨ x = 10 ∨ x = 11 ∨ x = 12 ∨ x = 13 ∨ x = 14 ∨ x = 15 ∨ x = 16 := by omega
    rcases hh with rfl | rfl | rfl | rfl | rfl | rfl | rfl | rfl | rfl | rfl | rfl | rfl | rfl | rfl | rfl | rfl | rfl
    · exact absurd rfl n0
    · exact absurd rfl m1
    · exact absurd rfl n2
    · exact absurd rfl n3
    · exact absurd rfl n4
    · exact absurd rfl n5
    · exact absurd rfl n6
    · exact absurd rfl n7
    · exact absurd rfl n8
    · exact absurd rfl n9
    · exact absurd rfl n10
    · exact absurd rfl n11
    · exact absurd rfl n12
    · exact absurd rfl n13
    · refine ⟨0, by decide, by omega, ?_⟩
      rw [R1.2.2.2.2.2.2.2 0 (by omega)]
      exact ok (by unfold vCount; rw [if_neg (by decide), if_neg (by decide), if_neg (by decide), if_neg (by decide), if_neg (by decide), if_neg (by decide), if_neg (by decide), if_neg (by decide), if_neg (by decide), if_neg (by decide), if_neg (by decide), if_neg (by decide), if_neg (by decide), if_neg (by decide), if_pos (by decide)])
    · refine ⟨1, by decide, by omega, ?_⟩
      rw [R1.2.2.2.2.2.2.2 1 (by omega)]
      exact ok (by unfold vCount; rw [if_neg (by decide), if_neg (by decide), if_neg (by decide), if_neg (by decide), if_neg (by decide), if_neg (by decide), if_neg (by decide), if_neg (by decide), if_neg (by decide), if_neg (by decide), if_neg (by decide), if_neg (by decide), if_neg (by decide), if_neg (by decide), if_neg (by decide), if_pos (by decide)])
    · refine ⟨2, by decide, by omega, ?_⟩
      rw [R1.2.2.2.2.2.2.2 2 (by omega)]
      exact ok (by unfold vCount; rw [if_neg (by decide), if_neg (by decide), if_neg (by decide), if_neg (by decide), if_neg (by decide), if_neg (by decide), if_neg (by decide), if_neg (by decide), if_neg (by decide), if_neg (by decide), if_neg (by decide), if_neg (by decide), if_neg (by decide), if_neg (by decide), if_neg (by decide), if_neg (by decide)])
  · rw [if_pos rfl]
    have c1 : cCount a = 1 := by
      unfold cCount cd3
      rw [ng_t (n := 17) (g.elim Or.inl (fun g => Or.inr ((lt_le (n := 16) (by omega)).mp g)))]
      rfl
    exact h _ _ (q1.trans (QM_up _ (by decide))) (by rw [up_same, upd_same, c1]; rfl) (fun hh => by rw [hh] at c1; cases c1)
end PO

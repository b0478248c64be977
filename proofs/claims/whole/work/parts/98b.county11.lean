noncomputable def wM (S : St) : Int64 := catL (S 65 (hf 22)) (S 65 (lf 22))
theorem wM_j (S : St) (v : Int64) : wM (upJ S 65 22 v) = v := by
  unfold wM upJ
  rw [setR_same, upd_same, upd_ne _ _ (by rw [hf_def, lf_def]; omega), upd_same]
  exact catL_eq v
theorem j_lo (S : St) (v : Int64) {i : Nat} (h : i < 1000) : upJ S 65 22 v 65 i = S 65 i := by
  unfold upJ
  rw [setR_same, upd_ne _ _ (by rw [lf_def]; omega), upd_ne _ _ (by rw [hf_def]; omega)]
theorem wM_up {S : St} {i : Nat} (v : Int32) (h : i < 1000) : wM (up S 65 i v) = wM S := by
  unfold wM
  rw [up_same, upd_ne _ _ (by rw [hf_def]; omega), upd_ne _ _ (by rw [lf_def]; omega)]
/-- the text in the reference -/
def TxM (t : Txt) (S : St) : Prop := t.1 ≤ 700 ∧ (∀ i, i < t.1 → t.2 i < 256) ∧ S 65 15 = nI t.1 ∧ (∀ i, i < t.1 → S 69 i = nI (t.2 i)) ∧ S 65 13 = -1
/-- the token from p on -/
def TkM (t : Txt) (S : St) (p : Nat) : Prop := TxM t S ∧ p ≤ t.1 ∧ S 65 16 = nI (te t p) ∧ S 65 17 = nI (tk t p) ∧ S 65 18 = nI (tf t p) ∧ S 65 19 = nI (te t p - tf t p) ∧ (tk t p = 2 → ¬ 4 < te t p - tf t p → S 65 20 = nI (nv t p)) ∧ (tk t p = 3 → S 65 21 = nI (t.2 (tf t p))) ∧ (tk t p = 1 → te t p - tf t p ≤ 6 → wM S = lN (enF (fun i => t.2 (tf t p + i)) (te t p - tf t p)))
/-- a token changes these alone -/
def FT (S S' : St) : Prop := Fr [65] S S' ∧ ∀ i, i < 16 ∨ (22 ≤ i ∧ i < 1000) → S' 65 i = S 65 i
theorem FT.refl (S : St) : FT S S := ⟨Fr.refl _ _, fun _ _ => rfl⟩
theorem FT.trans {S S1 S2 : St} (h1 : FT S S1) (h2 : FT S1 S2) : FT S S2 := ⟨h1.1.trans h2.1, fun i hi => (h2.2 i hi).trans (h1.2 i hi)⟩
theorem FT_up {S : St} {i : Nat} (v : Int32) (h : 16 ≤ i ∧ i < 22) : FT S (up S 65 i v) := ⟨Fr.up _ _ (by decide), fun j hj => by rw [up_same, upd_ne _ _ (by omega)]⟩
theorem FT_j {S : St} (v : Int64) : FT S (upJ S 65 22 v) := ⟨Fr.set _ (by decide), fun j hj => j_lo _ _ (by omega)⟩
theorem TxM_f {t : Txt} {S S' : St} (h : TxM t S) (f : FT S S') : TxM t S' := by
  refine ⟨h.1, h.2.1, ?_, ?_⟩
  · rw [f.2 15 (by omega)]
    exact h.2.2.1
  · rw [f.1 69 (by decide), f.2 13 (by omega)]
    exact h.2.2.2
section TM
variable {t : Txt} {S : St} {E : zX} {d : Nat} {p : Nat}
def bA (t : Txt) (q : Nat) : Nat := if q < t.1 then t.2 q else 0
theorem e_byteAt {q : Nat} {v : Int32} {Q : Int32 → St → Prop} (hT : TxM t S) (hv : v = nI q) (hq : q ≤ t.1) (h : Q (nI (bA t q)) S) : k_m_byteAt E d S v Q := by
  subst hv
  have n7 := hT.1
  refine w_m_byteAt ?_
  rw [hT.2.2.1]
  unfold bA at h
  refine ife (fun e => ?_) (fun e => ⟨?_, ?_⟩)
  · rw [nI_leI (by omega) (by omega)] at e
    rw [if_neg (by omega)] at h
    exact h
  · rw [nI_leI (by omega) (by omega)] at e
    omega
  · rw [nI_leI (by omega) (by omega)] at e
    rw [if_pos (by omega)] at h
    rw [hT.2.2.2.1 q (by omega)]
    exact h
theorem bA_lt (hT : TxM t S) (q : Nat) : bA t q < 256 := by
  unfold bA
  split
  · rename_i h
    exact hT.2.1 q h
  · decide
theorem e_isLetter {c : Nat} {Q : Int32 → St → Prop} (hc : c < 256) (h : Q (zb (isL c = true)) S) : k_m_isLetter E d S (nI c) Q := by
  refine w_m_isLetter (ife (fun e => ?_) (fun e => ife (fun e2 => ?_) (fun e2 => ?_)))
  · have e : nI c < nI 97 := e
    rw [nI_ltI (by omega) (by omega)] at e
    rw [zb_f (fun g => by have := of_decide_eq_true g; omega)] at h
    exact h
  · have e2 : nI 122 < nI c := e2
    rw [nI_ltI (by omega) (by omega)] at e2
    rw [zb_f (fun g => by have := of_decide_eq_true g; omega)] at h
    exact h
  · have e : ¬ nI c < nI 97 := e
    have e2 : ¬ nI 122 < nI c := e2
    rw [nI_ltI (by omega) (by omega)] at e e2
    rw [zb_t (show isL c = true from decide_eq_true (by omega))] at h
    exact h
theorem e_isDigit {c : Nat} {Q : Int32 → St → Prop} (hc : c < 256) (h : Q (zb (isD c = true)) S) : k_m_isDigit E d S (nI c) Q := by
  refine w_m_isDigit (ife (fun e => ?_) (fun e => ife (fun e2 => ?_) (fun e2 => ?_)))
  · have e : nI c < nI 48 := e
    rw [nI_ltI (by omega) (by omega)] at e
    rw [zb_f (fun g => by have := of_decide_eq_true g; omega)] at h
    exact h
  · have e2 : nI 57 < nI c := e2
    rw [nI_ltI (by omega) (by omega)] at e2
    rw [zb_f (fun g => by have := of_decide_eq_true g; omega)] at h
    exact h
  · have e : ¬ nI c < nI 48 := e
    have e2 : ¬ nI 57 < nI c := e2
    rw [nI_ltI (by omega) (by omega)] at e e2
    rw [zb_t (show isD c = true from decide_eq_true (by omega))] at h
    exact h
theorem bA_q {q : Nat} {f : Nat → Bool} (h0 : f 0 = false) : (f (bA t q) = true) ↔ (q < t.1 ∧ f (t.2 q) = true) := by
  unfold bA
  by_cases h : q < t.1
  · rw [if_pos h]
    exact ⟨fun g => ⟨h, g⟩, fun g => g.2⟩
  · rw [if_neg h, h0]
    exact ⟨(fun g => by cases g), fun g => absurd g.1 h⟩
theorem c_96 : ∀ c, c < 256 → isL c = true → Int32.toInt64 (nI c - (96 : Int32)) = lN (c - 96) := by decide +kernel
theorem e_goes {Q : St → Prop} (hd : 2 ≤ d) (hT : TxM t S) (h16 : S 65 16 = nI p) (hp : p ≤ t.1) (h : ∀ S' : St, FT S S' → TkM t S' p → Q S') : k_m_goes E d S Q := by
  have n7 := hT.1
  have hff := tf_le (t := t) hp
  have he := te_le (t := t) hp
  refine w_m_goes (by omega) ?_
  -- letters
  have l108 : ∀ q, q ≤ t.1 → ∀ S2 : St, FT S S2 → S2 65 18 = nI (tf t p) → S2 65 16 = nI q → tf t p ≤ q → (q - tf t p ≤ 6 → wM S2 = lN (enF (fun i => t.2 (tf t p + i)) (q - tf t p))) → (∀ i, tf t p ≤ i → i < q → isL (t.2 i) = true) → wl t isL q = te t p → tk t p = 1 → k_m_goes_108 E d S2 Q := by
    have fin : ∀ q, q ≤ t.1 → ∀ S2 : St, FT S S2 → S2 65 18 = nI (tf t p) → S2 65 16 = nI q → tf t p ≤ q → (q - tf t p ≤ 6 → wM S2 = lN (enF (fun i => t.2 (tf t p + i)) (q - tf t p))) → te t p = q → tk t p = 1 → ∀ S5, S5 = up S2 65 17 1 → ∀ S6, S6 = up S5 65 19 ((S5 65 16) - (S5 65 18)) → Q S6 := fun q hq S2 f2 v18 v16 hfq vw hte hk S5 e5 S6 e6 => by
      have f5 : FT S S5 := f2.trans (by rw [e5]; exact FT_up _ (by omega))
      have f6 : FT S S6 := f5.trans (by rw [e6]; exact FT_up _ (by omega))
      have u16 : S5 65 16 = nI q := by rw [e5, up_same, upd_ne _ _ (by decide)]; exact v16
      have u18 : S5 65 18 = nI (tf t p) := by rw [e5, up_same, upd_ne _ _ (by decide)]; exact v18
      refine h S6 f6 ⟨TxM_f hT f6, hp, ?_, ?_, ?_, ?_, fun g => by omega, fun g => by omega, fun _ h6 => ?_⟩
      · rw [e6, up_same, upd_ne _ _ (by decide), u16, hte]
      · rw [e6, up_same, upd_ne _ _ (by decide), e5, up_same, upd_same, hk]
        rfl
      · rw [e6, up_same, upd_ne _ _ (by decide), u18]
      · rw [e6, up_same, upd_same, u16, u18, pk_sub hfq, hte]
      · rw [e6, wM_up _ (by decide), e5, wM_up _ (by decide), hte]
        exact vw (by omega)
    have main : ∀ q, q ≤ t.1 → (∀ S2 : St, FT S S2 → S2 65 18 = nI (tf t p) → S2 65 16 = nI q → tf t p ≤ q → (q - tf t p ≤ 6 → wM S2 = lN (enF (fun i => t.2 (tf t p + i)) (q - tf t p))) → (∀ i, tf t p ≤ i → i < q → isL (t.2 i) = true) → wl t isL q = te t p → tk t p = 1 → k_m_goes_108 E d S2 Q) := by
      have step : ∀ q, q ≤ t.1 → (q < t.1 → ∀ S2 : St, FT S S2 → S2 65 18 = nI (tf t p) → S2 65 16 = nI (q + 1) → tf t p ≤ q + 1 → (q + 1 - tf t p ≤ 6 → wM S2 = lN (enF (fun i => t.2 (tf t p + i)) (q + 1 - tf t p))) → (∀ i, tf t p ≤ i → i < q + 1 → isL (t.2 i) = true) → wl t isL (q + 1) = te t p → tk t p = 1 → k_m_goes_108 E d S2 Q) → ∀ S2 : St, FT S S2 → S2 65 18 = nI (tf t p) → S2 65 16 = nI q → tf t p ≤ q → (q - tf t p ≤ 6 → wM S2 = lN (enF (fun i => t.2 (tf t p + i)) (q - tf t p))) → (∀ i, tf t p ≤ i → i < q → isL (t.2 i) = true) → wl t isL q = te t p → tk t p = 1 → k_m_goes_108 E d S2 Q := by
        intro q hq nx S2 f2 v18 v16 hfq vw ha hw hk
        have T2 := TxM_f hT f2
        refine w_m_goes_108 (by omega) (e_byteAt T2 v16 hq (e_isLetter (bA_lt T2 q) (izb (fun g => ?_) (fun g => ?_))))
        · have g := (bA_q (f := isL) rfl).mp g
          have ha2 : ∀ i, tf t p ≤ i → i < q + 1 → isL (t.2 i) = true := fun i h1 h2 => by
            by_cases e : i = q
            · rw [e]
              exact g.2
            · exact ha i h1 (by omega)
          rw [v16, v18, pk_sub hfq]
          refine ife (fun l => fun S7 e7 => ?_) (fun l => ?_)
          · have l : nI 6 ≤ nI (q - tf t p) := l
            rw [nI_leI (by omega) (by omega)] at l
            refine nx g.1 S7 (f2.trans (by rw [e7]; exact FT_up _ (by omega))) ?_ ?_ (by omega) (fun h6 => by omega) ha2 (by rw [← wl_s g.1 g.2]; exact hw) hk
            · rw [e7, up_same, upd_ne _ _ (by decide)]
              exact v18
            · rw [e7, up_same, upd_same, nI_1]
          · have l : ¬ nI 6 ≤ nI (q - tf t p) := l
            rw [nI_leI (by omega) (by omega)] at l
            refine e_byteAt T2 rfl hq (fun S10 e10 S11 e11 => ?_)
            have hb : bA t q = t.2 q := if_pos g.1
            have b2 := hT.2.1 q g.1
            have l6 := enF_lt (f := fun i => t.2 (tf t p + i)) (q - tf t p) (fun i hi => ha _ (by omega) (by omega))
            have p5 : 32 ^ (q - tf t p) ≤ 32 ^ 5 := Nat.pow_le_pow_right (by decide) (by omega)
            have dg := of_decide_eq_true g.2
            have vw2 : wM S10 = lN (enF (fun i => t.2 (tf t p + i)) (q + 1 - tf t p)) := by
              rw [e10, wM_j, show catL (S2 65 (hf 22)) (S2 65 (lf 22)) = wM S2 from rfl, vw (by omega), hb, c_96 _ b2 g.2, lN_shl (by omega) (by omega), show q + 1 - tf t p = (q - tf t p) + 1 by omega, enF, show tf t p + (q - tf t p) = q by omega]
            have f10 : FT S S10 := f2.trans (by rw [e10]; exact FT_j _)
            have u16 : S10 65 16 = nI q := by rw [e10, j_lo _ _ (by decide)]; exact v16
            refine nx g.1 S11 (f10.trans (by rw [e11]; exact FT_up _ (by omega))) ?_ ?_ (by omega) (fun h6 => ?_) ha2 (by rw [← wl_s g.1 g.2]; exact hw) hk
            · rw [e11, up_same, upd_ne _ _ (by decide), e10, j_lo _ _ (by decide)]
              exact v18
            · rw [e11, up_same, upd_same, u16, nI_1]
            · rw [e11, wM_up _ (by decide)]
              exact vw2
        · have g : ¬ (q < t.1 ∧ isL (t.2 q) = true) := fun k => g ((bA_q (f := isL) rfl).mpr k)
          exact fin q hq S2 f2 v18 v16 hfq vw (by rw [← hw, wl_e g]) hk
      refine dn t.1 ?_ (fun q hq ih => ?_)
      · exact step t.1 (Nat.le_refl _) (fun hh => absurd hh (Nat.lt_irrefl _))
      · exact step q (by omega) (fun _ => ih)
    exact main
  -- digits
  have l187 : ∀ q, q ≤ t.1 → ∀ S2 : St, FT S S2 → S2 65 18 = nI (tf t p) → S2 65 16 = nI q → tf t p ≤ q → (q - tf t p ≤ 4 → S2 65 20 = nI (nvl t (tf t p) (q - tf t p))) → (∀ i, tf t p ≤ i → i < q → isD (t.2 i) = true) → wl t isD q = te t p → tk t p = 2 → k_m_goes_187 E d S2 Q := by
    have fin : ∀ q, q ≤ t.1 → ∀ S2 : St, FT S S2 → S2 65 18 = nI (tf t p) → S2 65 16 = nI q → tf t p ≤ q → (q - tf t p ≤ 4 → S2 65 20 = nI (nvl t (tf t p) (q - tf t p))) → te t p = q → tk t p = 2 → ∀ S5, S5 = up S2 65 17 2 → ∀ S6, S6 = up S5 65 19 ((S5 65 16) - (S5 65 18)) → Q S6 := fun q hq S2 f2 v18 v16 hfq v20 hte hk S5 e5 S6 e6 => by
      have f5 : FT S S5 := f2.trans (by rw [e5]; exact FT_up _ (by omega))
      have f6 : FT S S6 := f5.trans (by rw [e6]; exact FT_up _ (by omega))
      have u16 : S5 65 16 = nI q := by rw [e5, up_same, upd_ne _ _ (by decide)]; exact v16
      have u18 : S5 65 18 = nI (tf t p) := by rw [e5, up_same, upd_ne _ _ (by decide)]; exact v18
      refine h S6 f6 ⟨TxM_f hT f6, hp, ?_, ?_, ?_, ?_, fun _ h4 => ?_, fun g => by omega, fun g => by omega⟩
      · rw [e6, up_same, upd_ne _ _ (by decide), u16, hte]
      · rw [e6, up_same, upd_ne _ _ (by decide), e5, up_same, upd_same, hk]
        rfl
      · rw [e6, up_same, upd_ne _ _ (by decide), u18]
      · rw [e6, up_same, upd_same, u16, u18, pk_sub hfq, hte]
      · rw [e6, up_same, upd_ne _ _ (by decide), e5, up_same, upd_ne _ _ (by decide)]
        unfold nv
        rw [hte]
        exact v20 (by omega)
    have step : ∀ q, q ≤ t.1 → (q < t.1 → ∀ S2 : St, FT S S2 → S2 65 18 = nI (tf t p) → S2 65 16 = nI (q + 1) → tf t p ≤ q + 1 → (q + 1 - tf t p ≤ 4 → S2 65 20 = nI (nvl t (tf t p) (q + 1 - tf t p))) → (∀ i, tf t p ≤ i → i < q + 1 → isD (t.2 i) = true) → wl t isD (q + 1) = te t p → tk t p = 2 → k_m_goes_187 E d S2 Q) → ∀ S2 : St, FT S S2 → S2 65 18 = nI (tf t p) → S2 65 16 = nI q → tf t p ≤ q → (q - tf t p ≤ 4 → S2 65 20 = nI (nvl t (tf t p) (q - tf t p))) → (∀ i, tf t p ≤ i → i < q → isD (t.2 i) = true) → wl t isD q = te t p → tk t p = 2 → k_m_goes_187 E d S2 Q := by
      intro q hq nx S2 f2 v18 v16 hfq v20 ha hw hk
      have T2 := TxM_f hT f2
      refine w_m_goes_187 (by omega) (e_byteAt T2 v16 hq (e_isDigit (bA_lt T2 q) (izb (fun g => ?_) (fun g => ?_))))
      · have g := (bA_q (f := isD) rfl).mp g
        have ha2 : ∀ i, tf t p ≤ i → i < q + 1 → isD (t.2 i) = true := fun i h1 h2 => by
          by_cases e : i = q
          · rw [e]
            exact g.2
          · exact ha i h1 (by omega)
        rw [v16, v18, pk_sub hfq]
        refine ife (fun l => fun S7 e7 => ?_) (fun l => ?_)
        · have l : nI 4 ≤ nI (q - tf t p) := l
          rw [nI_leI (by omega) (by omega)] at l
          refine nx g.1 S7 (f2.trans (by rw [e7]; exact FT_up _ (by omega))) ?_ ?_ (by omega) (fun h6 => by omega) ha2 (by rw [← wl_s g.1 g.2]; exact hw) hk
          · rw [e7, up_same, upd_ne _ _ (by decide)]
            exact v18
          · rw [e7, up_same, upd_same, nI_1]
        · have l : ¬ nI 4 ≤ nI (q - tf t p) := l
          rw [nI_leI (by omega) (by omega)] at l
          refine e_byteAt T2 rfl hq (fun S10 e10 S11 e11 => ?_)
          have hb : bA t q = t.2 q := if_pos g.1
          have b2 := hT.2.1 q g.1
          have dg := of_decide_eq_true g.2
          have f10 : FT S S10 := f2.trans (by rw [e10]; exact FT_up _ (by omega))
          have u16 : S10 65 16 = nI q := by rw [e10, up_same, upd_ne _ _ (by decide)]; exact v16
          refine nx g.1 S11 (f10.trans (by rw [e11]; exact FT_up _ (by omega))) ?_ ?_ (by omega) (fun h6 => ?_) ha2 (by rw [← wl_s g.1 g.2]; exact hw) hk
          · rw [e11, up_same, upd_ne _ _ (by decide), e10, up_same, upd_ne _ _ (by decide)]
            exact v18
          · rw [e11, up_same, upd_same, u16, nI_1]
          · rw [e11, up_same, upd_ne _ _ (by decide), e10, up_same, upd_same, v20 (by omega), hb, show (10 : Int32) = nI 10 from rfl, pk_mul, nI_add, show (48 : Int32) = nI 48 from rfl, pk_sub (by omega), show q + 1 - tf t p = (q - tf t p) + 1 by omega, nvl, show tf t p + (q - tf t p) = q by omega]
            congr 1
            omega
      · have g : ¬ (q < t.1 ∧ isD (t.2 q) = true) := fun k => g ((bA_q (f := isD) rfl).mpr k)
        exact fin q hq S2 f2 v18 v16 hfq v20 (by rw [← hw, wl_e g]) hk
    refine dn t.1 ?_ (fun q hq ih => ?_)
    · exact step t.1 (Nat.le_refl _) (fun hh => absurd hh (Nat.lt_irrefl _))
    · exact step q (by omega) (fun _ => ih)
  -- behind the gap
  have l50 : ∀ S2 : St, FT S S2 → S2 65 16 = nI (tf t p) → k_m_goes_50 E d S2 Q := by
    intro S2 f2 v16
    refine w_m_goes_50 (by omega) (fun S3 e3 S4 e4 S5 e5 => ?_)
    have f3 : FT S S3 := f2.trans (by rw [e3]; exact FT_up _ (by omega))
    have f4 : FT S S4 := f3.trans (by rw [e4]; exact FT_j _)
    have f5 : FT S S5 := f4.trans (by rw [e5]; exact FT_up _ (by omega))
    have w16 : S5 65 16 = nI (tf t p) := by
      rw [e5, up_same, upd_ne _ _ (by decide), e4, j_lo _ _ (by decide), e3, up_same, upd_ne _ _ (by decide)]
      exact v16
    have w18 : S5 65 18 = nI (tf t p) := by
      rw [e5, up_same, upd_ne _ _ (by decide), e4, j_lo _ _ (by decide), e3, up_same, upd_same]
      exact v16
    have w20 : S5 65 20 = 0 := by rw [e5, up_same, upd_same]
    have ww : wM S5 = lN 0 := by
      rw [e5, wM_up _ (by decide), e4, wM_j]
      rfl
    have T5 := TxM_f hT f5
    refine e_byteAt T5 w16 hff (fun S6 e6 => ?_)
    have f6 : FT S S6 := f5.trans (by rw [e6]; exact FT_up _ (by omega))
    have T6 := TxM_f hT f6
    have x16 : S6 65 16 = nI (tf t p) := by rw [e6, up_same, upd_ne _ _ (by decide)]; exact w16
    have x18 : S6 65 18 = nI (tf t p) := by rw [e6, up_same, upd_ne _ _ (by decide)]; exact w18
    have x20 : S6 65 20 = 0 := by rw [e6, up_same, upd_ne _ _ (by decide)]; exact w20
    have x21 : S6 65 21 = nI (bA t (tf t p)) := by rw [e6, up_same, upd_same]
    have xw : wM S6 = lN 0 := by rw [e6, wM_up _ (by decide)]; exact ww
    rw [x16, T6.2.2.1]
    refine ife (fun e => ?_) (fun e => fun S8 e8 S9 e9 => ?_)
    · rw [nI_ltI (by omega) (by omega)] at e
      have hb : bA t (tf t p) = t.2 (tf t p) := if_pos e
      have b := hT.2.1 _ e
      rw [hb] at x21 ⊢
      refine e_isLetter b (izb (fun g => ?_) (fun g => ?_))
      · have hk := tk_of1 e g
        exact l108 (tf t p) hff S6 f6 x18 x16 (Nat.le_refl _) (fun _ => by rw [Nat.sub_self]; exact xw) (fun i h1 h2 => by omega) (tk_1e hk).symm hk
      · have g : isL (t.2 (tf t p)) = false := by simpa using g
        refine e_isDigit b (izb (fun g2 => ?_) (fun g2 => ?_))
        · have hk := tk_of2 e g g2
          exact l187 (tf t p) hff S6 f6 x18 x16 (Nat.le_refl _) (fun _ => by rw [Nat.sub_self]; exact x20) (fun i h1 h2 => by omega) (tk_2 hk).2.2.symm hk
        · have g2 : isD (t.2 (tf t p)) = false := by simpa using g2
          refine fun S7 e7 => ?_
          have f7 : FT S S7 := f6.trans (by rw [e7]; exact FT_up _ (by omega))
          have y16 : S7 65 16 = nI (tf t p + 1) := by rw [e7, up_same, upd_same, x16, nI_1]
          have y18 : S7 65 18 = nI (tf t p) := by rw [e7, up_same, upd_ne _ _ (by decide)]; exact x18
          have y21 : S7 65 21 = nI (t.2 (tf t p)) := by rw [e7, up_same, upd_ne _ _ (by decide)]; exact x21
          have fin : ∀ (v : Int32) (S8 S9 : St), S8 = up S7 65 17 v → S9 = up S8 65 19 ((S8 65 16) - (S8 65 18)) → v = nI (tk t p) → te t p = tf t p + 1 → ¬ tk t p = 1 → ¬ tk t p = 2 → Q S9 := fun v S8 S9 e8 e9 hv hte n1 n2 => by
            have f8 : FT S S8 := f7.trans (by rw [e8]; exact FT_up _ (by omega))
            have f9 : FT S S9 := f8.trans (by rw [e9]; exact FT_up _ (by omega))
            have z16 : S8 65 16 = nI (tf t p + 1) := by rw [e8, up_same, upd_ne _ _ (by decide)]; exact y16
            have z18 : S8 65 18 = nI (tf t p) := by rw [e8, up_same, upd_ne _ _ (by decide)]; exact y18
            refine h S9 f9 ⟨TxM_f hT f9, hp, ?_, ?_, ?_, ?_, fun g => absurd g n2, fun _ => ?_, fun g => absurd g n1⟩
            · rw [e9, up_same, upd_ne _ _ (by decide), z16, hte]
            · rw [e9, up_same, upd_ne _ _ (by decide), e8, up_same, upd_same]
              exact hv
            · rw [e9, up_same, upd_ne _ _ (by decide), z18]
            · rw [e9, up_same, upd_same, z16, z18, pk_sub (by omega), hte]
            · rw [e9, up_same, upd_ne _ _ (by decide), e8, up_same, upd_ne _ _ (by decide)]
              exact y21
          have sig : t.2 (tf t p) ∈ sgn9 → k_m_goes_323 E d S7 Q := fun hs => by
            have k3 := tk_of3 e g g2 hs
            exact w_m_goes_323 (by omega) (fun S8 e8 S9 e9 => fin 3 S8 S9 e8 e9 (by rw [k3.1]; rfl) k3.2 (by omega) (by omega))
          have no : ∀ c, c < 256 → ¬ nI (t.2 (tf t p)) = nI c → ¬ t.2 (tf t p) = c := fun c hc hne e => hne (by rw [e])
          have ye : ∀ c, c < 256 → nI (t.2 (tf t p)) = nI c → t.2 (tf t p) = c := fun c hc he => (nI_eq (by omega) (by omega)).mp he
          refine ife (fun c => sig (by rw [ye 59 (by omega) c]; decide)) (fun c1 => ?_)
          refine ife (fun c => sig (by rw [ye 40 (by omega) c]; decide)) (fun c2 => ?_)
          refine ife (fun c => sig (by rw [ye 41 (by omega) c]; decide)) (fun c3 => ?_)
          refine ife (fun c => sig (by rw [ye 43 (by omega) c]; decide)) (fun c4 => ?_)
          refine ife (fun c => sig (by rw [ye 45 (by omega) c]; decide)) (fun c5 => ?_)
          refine ife (fun c => sig (by rw [ye 42 (by omega) c]; decide)) (fun c6 => ?_)
          refine ife (fun c => sig (by rw [ye 47 (by omega) c]; decide)) (fun c7 => ?_)
          refine ife (fun c => sig (by rw [ye 60 (by omega) c]; decide)) (fun c8 => ?_)
          refine ife (fun c => sig (by rw [ye 61 (by omega) c]; decide)) (fun c9 => ?_)
          have hs : t.2 (tf t p) ∉ sgn9 := fun hm => by
            have n1 := no 59 (by omega) c1
            have n2 := no 40 (by omega) c2
            have n3 := no 41 (by omega) c3
            have n4 := no 43 (by omega) c4
            have n5 := no 45 (by omega) c5
            have n6 := no 42 (by omega) c6
            have n7 := no 47 (by omega) c7
            have n8 := no 60 (by omega) c8
            have n9 := no 61 (by omega) c9
            unfold sgn9 at hm
            simp only [List.mem_cons, List.not_mem_nil, or_false] at hm
            omega
          have k4 := tk_of4 e g g2 hs
          exact fun S8 e8 S9 e9 => fin 4 S8 S9 e8 e9 (by rw [k4.1]; rfl) k4.2 (by omega) (by omega)
    · rw [nI_ltI (by omega) (by omega)] at e
      have k0 := tk_of0 e
      have f8 : FT S S8 := f6.trans (by rw [e8]; exact FT_up _ (by omega))
      have f9 : FT S S9 := f8.trans (by rw [e9]; exact FT_up _ (by omega))
      have z16 : S8 65 16 = nI (tf t p) := by rw [e8, up_same, upd_ne _ _ (by decide)]; exact x16
      have z18 : S8 65 18 = nI (tf t p) := by rw [e8, up_same, upd_ne _ _ (by decide)]; exact x18
      refine h S9 f9 ⟨TxM_f hT f9, hp, ?_, ?_, ?_, ?_, fun g => by omega, fun g => by omega, fun g => by omega⟩
      · rw [e9, up_same, upd_ne _ _ (by decide), z16, k0.2]
      · rw [e9, up_same, upd_ne _ _ (by decide), e8, up_same, upd_same, k0.1]
        rfl
      · rw [e9, up_same, upd_ne _ _ (by decide), z18]
      · rw [e9, up_same, upd_same, z16, z18, pk_sub (Nat.le_refl _), k0.2]
  -- the gap
  have l0 : ∀ q, q ≤ t.1 → ∀ S2 : St, FT S S2 → S2 65 16 = nI q → wl t isP q = tf t p → k_m_goes_0 E d S2 Q := by
    refine dn t.1 ?_ (fun q hq ih => ?_)
    · intro S2 f2 v2 hw
      refine w_m_goes_0 (by omega) ?_
      rw [(TxM_f hT f2).2.2.1, v2, if_pos (Int32.le_refl _)]
      refine l50 S2 f2 ?_
      rw [v2, ← hw, wl_e (by omega)]
    · intro S2 f2 v2 hw
      have T2 := TxM_f hT f2
      have b := hT.2.1 q hq
      have hb : bA t q = t.2 q := if_pos hq
      refine w_m_goes_0 (by omega) ?_
      rw [T2.2.2.1, v2, if_neg (nI_ge hq (by omega))]
      have next : isP (t.2 q) = true → ∀ S4 : St, S4 = up S2 65 16 (nI q + 1) → k_m_goes_0 E d S4 Q := fun g S4 e4 => ih S4 (f2.trans (by rw [e4]; exact FT_up _ (by omega))) (by rw [e4, up_same, upd_same, nI_1]) (by rw [← wl_s hq g]; exact hw)
      refine e_byteAt T2 rfl (by omega) ?_
      rw [hb]
      refine ife (fun e => ?_) (fun e => ?_)
      · have e : nI (t.2 q) = nI 32 := e
        rw [nI_eq (by omega) (by omega)] at e
        rw [v2]
        exact next (decide_eq_true (Or.inl e))
      · have e : ¬ nI (t.2 q) = nI 32 := e
        rw [nI_eq (by omega) (by omega)] at e
        refine e_byteAt T2 v2 (by omega) ?_
        rw [hb]
        refine ife (fun e2 => ?_) (fun e2 => ?_)
        · have e2 : nI (t.2 q) = nI 10 := e2
          rw [nI_eq (by omega) (by omega)] at e2
          rw [v2]
          exact next (decide_eq_true (Or.inr e2))
        · have e2 : ¬ nI (t.2 q) = nI 10 := e2
          rw [nI_eq (by omega) (by omega)] at e2
          refine l50 S2 f2 ?_
          rw [v2, ← hw, wl_e (fun a => by have := of_decide_eq_true a.2; omega)]
  exact l0 p hp S (FT.refl _) h16 rfl
theorem e_nextM {Q : St → Prop} (hd : 2 ≤ d) (hT : TkM t S p) (h : ∀ S' : St, FT S S' → TkM t S' (te t p) → Q S') : k_m_goes E d S Q := e_goes hd hT.1 hT.2.2.1 (te_le hT.2.1) h
theorem e_isSignM {c : Nat} {Q : Int32 → St → Prop} (hT : TkM t S p) (hc : c < 256) (h : Q (zb (isS t p c = true)) S) : k_m_isSign E d S (nI c) Q := by
  have n7 := hT.1.1
  have t4 := tk_4 (t := t) (p := p)
  refine w_m_isSign ?_
  rw [hT.2.2.2.1]
  refine ife (fun e => ?_) (fun e => ?_)
  · have e : nI (tk t p) = nI 3 := e
    rw [nI_eq (by omega) (by omega)] at e
    have lt : tf t p < t.1 := by
      have : ¬ tk t p = 0 := by omega
      rw [tk_0] at this
      omega
    have b := hT.1.2.1 _ lt
    rw [hT.2.2.2.2.2.2.2.1 e]
    refine ife (fun g => ?_) (fun g => ?_)
    · rw [nI_eq (by omega) (by omega)] at g
      rw [zb_t (show isS t p c = true from decide_eq_true ⟨e, g⟩)] at h
      exact h
    · rw [nI_eq (by omega) (by omega)] at g
      rw [zb_f (fun k => g (of_decide_eq_true k).2)] at h
      exact h
  · have e : ¬ nI (tk t p) = nI 3 := e
    rw [nI_eq (by omega) (by omega)] at e
    rw [zb_f (fun k => e (of_decide_eq_true k).1)] at h
    exact h
theorem lg0 (x y : Int64) : lg_cmp x y = 0 ↔ x = y := by
  unfold lg_cmp
  constructor
  · intro h
    split at h
    · cases h
    · split at h
      · assumption
      · cases h
  · intro h
    subst h
    rw [if_neg (Int64.lt_irrefl), if_pos rfl]
theorem lN_inj {a b : Nat} (ha : a < 2 ^ 50) (hb : b < 2 ^ 50) (h : lN a = lN b) : a = b := by
  have e := congrArg (fun x : Int64 => x.toBitVec.toNat) h
  have e : (BitVec.ofNat 64 a).toNat = (BitVec.ofNat 64 b).toNat := e
  rw [BitVec.toNat_ofNat, BitVec.toNat_ofNat, Nat.mod_eq_of_lt (by omega), Nat.mod_eq_of_lt (by omega)] at e
  exact e
theorem e_knownWord {Q : Int32 → St → Prop} (hd : 2 ≤ d) (hT : TkM t S p) (h : Q (oI (kwd t p)) S) : k_m_knownWord E d S Q := by
  have n7 := hT.1.1
  have t4 := tk_4 (t := t) (p := p)
  have he := te_le (t := t) hT.2.1
  have none : (∀ k, k < 17 → isW t p (wRf k) = false) → Q (-1) S := fun hn => by
    have : kwd t p = Option.none := fstF_none 17 hn
    rw [this] at h
    exact h
  refine w_m_knownWord (by omega) ?_
  rw [hT.2.2.2.1]
  refine ife (fun e => ?_) (fun e => ?_)
  · have e : nI (tk t p) = nI 1 := e
    rw [nI_eq (by omega) (by omega)] at e
    rw [hT.2.2.2.2.2.1]
    refine ife (fun l => ?_) (fun l => ?_)
    · have l : nI (te t p - tf t p) ≤ nI 6 := l
      rw [nI_leI (by omega) (by omega)] at l
      have ew := hT.2.2.2.2.2.2.2.2 e l
      have lets : ∀ i, i < te t p - tf t p → isL (t.2 (tf t p + i)) = true := fun i hi => by
        have e2 := tk_1e e
        refine wl_all (p := tf t p) (by omega) ?_
        rw [← e2]
        omega
      have lt1 := enF_lt (f := fun i => t.2 (tf t p + i)) _ lets
      have p6 : 32 ^ (te t p - tf t p) ≤ 32 ^ 6 := Nat.pow_le_pow_right (by decide) l
      refine dn (P := fun k => (∀ j, j < k → isW t p (wRf j) = false) → k_m_knownWord_21 E d S k Q) 17 ?_ ?_ 0 (Nat.zero_le _) (fun j hj => absurd hj (Nat.not_lt_zero j))
      · intro hn
        refine w_m_knownWord_21 (by omega) ?_
        rw [if_pos (Int32.le_refl _)]
        exact none hn
      · intro k hk ih hn
        refine w_m_knownWord_21 (by omega) ?_
        rw [if_neg (nI_ge hk (by omega))]
        have wk := wRf_ok k hk
        have lt2 := enF_lt (f := fun i => (wRf k).getD i 0) _ wk.2.2
        have p62 : 32 ^ (wRf k).length ≤ 32 ^ 6 := Nat.pow_le_pow_right (by decide) wk.1
        refine e_letters (by omega) hk ?_
        rw [show catL (S 65 (hf 22)) (S 65 (lf 22)) = wM S from rfl, ew]
        refine ife (fun c => ?_) (fun c => ?_)
        · rw [lg0] at c
          have ce := lN_inj (by omega) (by omega) c
          obtain ⟨c1, c2⟩ := enF_inj _ _ wk.2.2 lets ce
          have hw : isW t p (wRf k) = true := decide_eq_true ⟨e, c1.symm, fun i hi => (c2 i hi).symm⟩
          rw [(kwd_iff hk).mpr hw] at h
          exact h
        · rw [lg0] at c
          refine ih (fun j hj => ?_)
          by_cases e2 : j = k
          · rw [e2]
            refine decide_eq_false (fun g => c ?_)
            have : enF (fun i => (wRf k).getD i 0) (wRf k).length = enF (fun i => t.2 (tf t p + i)) (te t p - tf t p) := by
              rw [g.2.1]
              have : ∀ m, m ≤ (wRf k).length → enF (fun i => (wRf k).getD i 0) m = enF (fun i => t.2 (tf t p + i)) m := fun m => by
                induction m with
                | zero => exact fun _ => rfl
                | succ m ihm =>
                  intro hm
                  rw [enF, enF, ihm (by omega), g.2.2 m (by omega)]
              exact this _ (Nat.le_refl _)
            rw [this]
          · exact hn j (by omega)
    · have l : ¬ nI (te t p - tf t p) ≤ nI 6 := l
      rw [nI_leI (by omega) (by omega)] at l
      exact none (fun k hk => decide_eq_false (fun g => by have := (wRf_ok k hk).1; omega))
  · have e : ¬ nI (tk t p) = nI 1 := e
    rw [nI_eq (by omega) (by omega)] at e
    exact none (fun k hk => decide_eq_false (fun g => e g.1))
end TM

section CTM
variable {t : Txt} {S : St} {E : zX} {d : Nat} {Q : Int32 → St → Prop}
theorem e_162F {g : Nat × Nat} (hd : 1 ≤ d) (F : FaN S g) (h : k_m_county_183 E d S Q) : k_m_county_162 E d S Q := by
  refine w_m_county_162 hd (e_badN F ?_)
  rw [if_pos rfl]
  exact h
/-- all lines -/
theorem e_lns (hd : 13 ≤ d) : ∀ (n p : Nat) (K : Kst) (top : Nat) (S : St), t.1 ≤ p + n → KOk K → KM t S p K top → (∀ (S' : St) (q : Nat) (K' : Kst) (top' : Nat), lns t n p K = .inr K' → KOk K' → FLn S S' → KM t S' q K' top' → k_m_county_183 E d S' Q) → (∀ (S' : St) (g : Nat × Nat), lns t n p K = .inl g → FLn S S' → FaN S' g → k_m_county_183 E d S' Q) → k_m_county_162 E d S Q
  | 0, p, K, top, S, hn, hK, hR, h1, h0 => by
    refine w_m_county_162 (by omega) (e_okN hR.2.1 ?_)
    have e0 : tk t p = 0 := Decidable.byContradiction (fun g => by
      have := step_p hR.1.2.1 g
      omega)
    rw [if_neg (by decide), hR.1.2.2.2.1, e0, if_pos (show nI 0 = (0 : Int32) from rfl)]
    exact h1 S p K top rfl hK (FLn.refl S) hR
  | n + 1, p, K, top, S, hn, hK, hR, h1, h0 => by
    have t4 := tk_4 (t := t) (p := p)
    refine w_m_county_162 (by omega) (e_okN hR.2.1 ?_)
    rw [if_neg (by decide), hR.1.2.2.2.1]
    by_cases e0 : tk t p = 0
    · rw [e0, if_pos (show nI 0 = (0 : Int32) from rfl)]
      exact h1 S p K top (by unfold lns; rw [if_pos e0]) hK (FLn.refl S) hR
    · rw [if_neg (nI_ne0 (by omega) (by omega))]
      refine e_line (by omega) hK hR (fun S' a top' ea fl R' => ?_) (fun S' g eg fl F => ?_)
      · have r := pLine_ok hR.1.2.1 hR.1.1.1 hK ea
        have el : lns t (n + 1) p K = lns t n a.1 a.2 := by
          rw [lns, if_neg e0, ea]
        exact e_lns hd n a.1 a.2 top' S' (by omega) r.2.2 R' (fun S2 q K' top2 e2 k2 f2 R2 => h1 S2 q K' top2 (el.trans e2) k2 (fl.trans f2) R2) (fun S2 g e2 f2 F2 => h0 S2 g (el.trans e2) (fl.trans f2) F2)
      · exact e_162F (by omega) F (h0 S' g (by rw [lns, if_neg e0, eg]) fl F)
/-- a whole text -/
theorem KM_0 (hT : TkM t S 0) (hg : S 65 12 = 0) (h23 : S 65 23 = 4) (h24 : S 65 24 = 4) (h25 : S 65 25 = 0) (h26 : S 65 26 = 0) (h27 : S 65 27 = -1) (h28 : S 65 28 = -1) (h29 : S 65 29 = 0) (hz : ∀ i, i < 79 → S 73 i = 0) : KM t S 0 (l0, fun _ _ => 0) 0 := by
  refine ⟨hT, hg, ⟨h23, h24, h25, h26, fun i hi => absurd hi (Nat.not_lt_zero i), fun i hi => absurd hi (Nat.not_lt_zero i), ⟨fun _ => h27, fun g => absurd g (Nat.lt_irrefl _)⟩, ⟨fun _ => h28, fun g => absurd g (Nat.lt_irrefl _)⟩, h29⟩, ⟨fun k i hk h8 hi => ?_, fun x hx => absurd hx (Nat.not_lt_zero x)⟩, Nat.le_refl _⟩
  have hl : ∀ k, k < 10 → offM k + cap k ≤ 79 := by decide
  have := hl k hk
  rw [hz _ (by omega)]
  unfold sK
  rw [if_neg h8]
  split <;> rfl
theorem KM_ms {w h' p q top : Nat} {X : Xst} {S' : St} (hR : KM t S p (l0, X) top) (T : TkM t S' q) (hq : p ≤ q) (o : ∀ k, k ≠ 65 → S' k = S k) (u : ∀ i, i ≠ 23 → i ≠ 24 → (i < 16 ∨ (22 ≤ i ∧ i < 1000)) → S' 65 i = S 65 i) (h23 : S' 65 23 = nI w) (h24 : S' 65 24 = nI h') : KM t S' q (lMs l0 w h', X) top := by
  obtain ⟨hT, hg, ⟨l23, l24, l25, l26, l71, l72, lr, lu, l29⟩, hX, ht⟩ := hR
  refine ⟨T, ?_, ⟨h23, h24, ?_, ?_, fun i hi => absurd hi (Nat.not_lt_zero i), fun i hi => absurd hi (Nat.not_lt_zero i), ?_, ?_, ?_⟩, ?_, by omega⟩
  · rw [u 12 (by omega) (by omega) (by omega)]
    exact hg
  · rw [u 25 (by omega) (by omega) (by omega)]
    exact l25
  · rw [u 26 (by omega) (by omega) (by omega)]
    exact l26
  · rw [u 27 (by omega) (by omega) (by omega), o 74 (by decide)]
    exact lr
  · rw [u 28 (by omega) (by omega) (by omega), o 74 (by decide)]
    exact lu
  · rw [u 29 (by omega) (by omega) (by omega)]
    exact l29
  · rw [o 73 (by decide)]
    exact hX
end CTM

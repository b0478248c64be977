/-! COUNTY in the reference: parts, operands, expressions -/
theorem wvl_rf : ∀ k, k < 5 → wvl true k = wRf k ∧ wvl false k = wRf (encV true k) ∧ encV false k = k ∧ encV true k < 9 ∧ 4 ≤ encV true k := by decide +kernel
theorem vlu_some {t : Txt} {pe : Bool} {p k : Nat} (h : vlu t pe p = some k) : kwd t p = some (encV (!pe) k) ∧ (if pe then 0 else 4) ≤ encV (!pe) k ∧ encV (!pe) k ≤ (if pe then 4 else 8) := by
  have i := fstF_inv _ _ h
  have w := wvl_rf k i.2.1
  cases pe with
  | true =>
    have e : encV (!true) k = k := w.2.2.1
    rw [e]
    refine ⟨(kwd_iff (by omega)).mpr (by rw [← w.1]; exact i.1), Nat.zero_le _, by show k ≤ 4; omega⟩
  | false =>
    have e : encV (!false) k = encV true k := rfl
    rw [e]
    refine ⟨(kwd_iff (by omega)).mpr (by rw [← w.2.1]; exact i.1), w.2.2.2.2, by show encV true k ≤ 8; omega⟩
theorem vlu_none {t : Txt} {pe : Bool} {p : Nat} (h : vlu t pe p = none) (k : Nat) (hk : kwd t p = some k) : ¬ ((if pe then 0 else 4) ≤ k ∧ k ≤ (if pe then 4 else 8)) := by
  have a := fstF_noneI _ h
  have b := fstF_inv _ _ hk
  have k17 := b.2.1
  intro g
  cases pe with
  | true =>
    have g2 : k ≤ 4 := g.2
    have := a k (by omega)
    rw [(wvl_rf k (by omega)).1, b.1] at this
    cases this
  | false =>
    have g1 : 4 ≤ k := g.1
    have g2 : k ≤ 8 := g.2
    have cs : k = 4 ∨ k = 5 ∨ k = 6 ∨ k = 7 ∨ k = 8 := by omega
    rcases cs with rfl | rfl | rfl | rfl | rfl
    · have := a 4 (by omega)
      rw [show wvl false 4 = wRf 4 from rfl, b.1] at this
      cases this
    · have := a 0 (by omega)
      rw [show wvl false 0 = wRf 5 from rfl, b.1] at this
      cases this
    · have := a 1 (by omega)
      rw [show wvl false 1 = wRf 6 from rfl, b.1] at this
      cases this
    · have := a 2 (by omega)
      rw [show wvl false 2 = wRf 7 from rfl, b.1] at this
      cases this
    · have := a 3 (by omega)
      rw [show wvl false 3 = wRf 8 from rfl, b.1] at this
      cases this
section PT
variable {t : Txt} {pe : Bool} {base : Nat} {od : Nat → Int32} {S : St} {E : zX} {d : Nat} {p : Nat} {c : List Tok} {W : List Nat} {dep : Nat} {Q : St → Prop}
/-- two numbers are laid -/
theorem e_put2 {a bv : Int32} {b : St → Int32} {tp : Nat} (h29 : S 65 29 = nI tp) (hbv : ∀ S2 : St, (∀ i, i ≠ 29 → S2 65 i = S 65 i) → b S2 = bv) (htp : tp + 1 < 1400) (h : ∀ S' : St, (∀ k, k ≠ 65 → k ≠ 74 → S' k = S k) → (∀ i, i ≠ 29 → S' 65 i = S 65 i) → S' 65 29 = nI (tp + 2) → S' 74 = upd (upd (S 74) tp a) (tp + 1) bv → Q S') : k_m_puts E d S a (fun S2 => k_m_puts E d S2 (b S2) Q) := by
  refine w_m_puts ⟨tp, h29, by omega, fun S1 e1 S2 e2 => ?_⟩
  have v29 : S2 65 29 = nI (tp + 1) := by rw [e2, up_same, upd_same, e1, up_ne _ _ _ (by decide), h29, nI_1]
  rw [hbv S2 (fun i x => by rw [e2, up_same, upd_ne _ _ x, e1, up_ne _ _ _ (by decide)])]
  refine w_m_puts ⟨tp + 1, v29, by omega, fun S3 e3 S4 e4 => ?_⟩
  refine h S4 (fun k x y => by rw [e4, up_ne _ _ _ x, e3, up_ne _ _ _ y, e2, up_ne _ _ _ x, e1, up_ne _ _ _ y]) (fun i x => by rw [e4, up_same, upd_ne _ _ x, e3, up_ne _ _ _ (by decide), e2, up_same, upd_ne _ _ x, e1, up_ne _ _ _ (by decide)]) ?_ ?_
  · rw [e4, up_same, upd_same, e3, up_ne _ _ _ (by decide), v29, nI_1]
  · rw [e4, up_ne _ _ _ (by decide), e3, up_same, e2, up_ne _ _ _ (by decide), e1, up_same]
theorem e_partR {ex : Nat → Rs} (hd : 4 ≤ d) (hR : RM t pe base od S p c W dep) (hn : ¬ isS t p 40 = true) (h1 : ∀ (S' : St) (r : Nat × List Tok), pPart t pe ex p = .inr r → FR 100 S S' → S' 76 = S 76 → RM t pe base od S' r.1 (c ++ r.2) W dep → Q S') (h0 : ∀ (S' : St) (g : Nat × Nat), pPart t pe ex p = .inl g → FR 100 S S' → FaM S' g → Q S') : k_m_part E d S Q := by
  have hR' := hR
  obtain ⟨hT, h2, h3, h4, h5, h6, h7, h8, h9, h10, h11⟩ := hR
  have n7 := hT.1.1
  have t4 := tk_4 (t := t) (p := p)
  have g2 := tf_ge (t := t) (p := p)
  have g3 := te_le (t := t) hT.2.1
  -- laid, and on
  have good : ∀ (x : Tok) (a bv : Int32) (b : St → Int32), (∀ S2 : St, (∀ i, i ≠ 29 → S2 65 i = S 65 i) → b S2 = bv) → ¬ tk t p = 0 → x.1 ≤ 1 → TokAt (!pe) (fun i => if i = base + ofL c then a else bv) (base + ofL c) x → pPart t pe ex p = .inr (te t p, [x]) → k_m_puts E (d - 1) S a (fun S2 => k_m_puts E (d - 1) S2 (b S2) (fun S4 => k_m_isGood E (d - 1) S4 (fun x5 S6 => if x5 = 0 then Q S6 else k_m_goes E (d - 1) S6 (fun S8 => Q S8)))) := fun x a bv b hb hk hx hat hP => by
    have g1 := te_gt (t := t) (p := p) hk
    refine e_put2 h3 hb (by omega) (fun S4 o u v29 v74 => ?_)
    have T4 : TkM t S4 p := TkM_k hT (fun i hi => u i (fun e => hi (by rw [e]; decide))) (o 69 (by decide) (by decide))
    refine w_m_isGood ?_
    rw [u 12 (by decide), h2, if_pos rfl, if_neg (by decide)]
    have sz : szT x = 2 := by
      unfold szT
      rw [if_pos hx]
    have eo : ofL (c ++ [x]) = ofL c + 2 := by
      rw [ofL_app]
      show ofL c + (szT x + 0) = _
      rw [sz]
    have f4 : FR 100 S S4 := ⟨fun k hk => o k (fun e => hk (by rw [e]; decide)) (fun e => hk (by rw [e]; decide)), fun i hi => u i (by omega), fun j _ => by rw [o 76 (by decide) (by decide)]⟩
    refine e_nextM (by omega) T4 (fun S' f T' => h1 S' _ hP (f4.trans (FR_ft f)) (by rw [f.1 76 (by decide), o 76 (by decide) (by decide)]) ⟨T', ?_, ?_, ?_, ?_, ?_, ?_, ?_, ?_, by rw [eo]; show _ ≤ 2 * te t p; omega, by show W.length ≤ te t p; omega⟩)
    · rw [f.2 12 (by omega), u 12 (by decide)]
      exact h2
    · rw [f.2 29 (by omega), v29, eo, Nat.add_assoc]
    · rw [f.1 74 (by decide), v74]
      refine ⟨CodeAt_app c base (CodeAt_of c base h4.1 (fun i a1 a2 => by rw [upd_ne _ _ (by omega), upd_ne _ _ (by omega)])) (TokAt_of hat (fun i a1 a2 => ?_)), fun i hi => by rw [upd_ne _ _ (by omega), upd_ne _ _ (by omega)]; exact h4.2 i hi⟩
      by_cases e : i = base + ofL c
      · rw [e, upd_ne _ _ (by omega), upd_same, if_pos rfl]
      · rw [show i = base + ofL c + 1 by omega, upd_same, if_neg (by omega)]
    · rw [f.2 32 (by omega), u 32 (by decide)]
      exact h5
    · rw [f.1 75 (by decide), o 75 (by decide) (by decide)]
      exact h6
    · rw [f.2 33 (by omega), u 33 (by decide)]
      exact h7
    · rw [f.2 30 (by omega), u 30 (by decide)]
      exact h8
    · rw [f.2 31 (by omega), u 31 (by decide)]
      exact h9
  -- laid in a fault
  have bad : ∀ (v : Nat) (a : Int32) (b : St → Int32) (S1 : St), (∃ bv, ∀ S2 : St, (∀ i, i ≠ 29 → S2 65 i = S1 65 i) → b S2 = bv) → ¬ tk t p = 0 → FR 100 S S1 → FaM S1 (v, tf t p) → (∀ i, i ≠ 12 → i ≠ 13 → S1 65 i = S 65 i) → pPart t pe ex p = .inl (v, tf t p) → k_m_puts E (d - 1) S1 a (fun S2 => k_m_puts E (d - 1) S2 (b S2) (fun S4 => k_m_isGood E (d - 1) S4 (fun x5 S6 => if x5 = 0 then Q S6 else k_m_goes E (d - 1) S6 (fun S8 => Q S8)))) := fun v a b S1 hb hk f1 hF u1 hP => by
    obtain ⟨bv, hb⟩ := hb
    have g1 := te_gt (t := t) (p := p) hk
    have v29 : S1 65 29 = nI (base + ofL c) := by rw [u1 29 (by decide) (by decide)]; exact h3
    have v32 : S1 65 32 = nI W.length := by rw [u1 32 (by decide) (by decide)]; exact h5
    refine e_put2 v29 hb (by omega) (fun S4 o u w29 _ => ?_)
    have F4 : FaM S4 (v, tf t p) := by
      obtain ⟨q1, q2, q3, q4, _⟩ := hF
      refine ⟨?_, ?_, q3, q4, base + ofL c + 2, W.length, w29, ?_, by omega, by omega⟩
      · rw [u 12 (by decide)]
        exact q1
      · rw [u 13 (by decide)]
        exact q2
      · rw [u 32 (by decide)]
        exact v32
    refine e_badG F4 ?_
    rw [if_pos rfl]
    exact h0 S4 _ hP (f1.trans ⟨fun k hk => o k (fun e => hk (by rw [e]; decide)) (fun e => hk (by rw [e]; decide)), fun i hi => u i (by omega), fun j _ => by rw [o 76 (by decide) (by decide)]⟩) F4
  refine w_m_part (by omega) (RM_good hR' ?_)
  rw [if_neg (by decide), hT.2.2.2.1]
  refine ife (fun e => ?_) (fun e => ?_)
  · have e : nI (tk t p) = nI 2 := e
    rw [nI_eq (by omega) (by omega)] at e
    rw [hT.2.2.2.2.2.1]
    refine ife (fun l => ?_) (fun l => ?_)
    · have l : nI (te t p - tf t p) ≤ nI 4 := l
      rw [nI_leI (by omega) (by omega)] at l
      have v20 := hT.2.2.2.2.2.2.1 e (by omega)
      refine w_m_part_29 (by omega) ?_
      exact good (0, nv t p) 1 (nI (nv t p)) (fun S2 => S2 65 20) (fun S2 g => by show S2 65 20 = _; rw [g 20 (by decide)]; exact v20) (by omega) (by show 0 ≤ 1; omega) ⟨fun _ => ⟨if_pos rfl, if_neg (by omega)⟩, fun g => absurd g (by show ¬ 0 = 1; omega), fun g => absurd g (by show ¬ 2 ≤ 0; omega)⟩ (by unfold pPart; rw [if_pos e, if_neg (by omega)])
    · have l : ¬ nI (te t p - tf t p) ≤ nI 4 := l
      rw [nI_leI (by omega) (by omega)] at l
      refine e_wrongR (v := 2) hR' (by omega) (fun S1 f1 F1 u1 o1 => ?_)
      refine w_m_part_29 (by omega) ?_
      exact bad 2 1 (fun S2 => S2 65 20) S1 ⟨S1 65 20, fun S2 g => g 20 (by decide)⟩ (by omega) f1 F1 u1 (by unfold pPart; rw [if_pos e, if_pos (by omega)])
  · have e : ¬ nI (tk t p) = nI 2 := e
    rw [nI_eq (by omega) (by omega)] at e
    refine ife (fun e1 => ?_) (fun e1 => ?_)
    · have e1 : nI (tk t p) = nI 1 := e1
      rw [nI_eq (by omega) (by omega)] at e1
      have eP : pPart t pe ex p = match vlu t pe p with
          | none => .inl (3, tf t p)
          | some k => .inr (te t p, [(1, k)]) := by
        unfold pPart
        rw [if_neg e, if_pos e1]
        rfl
      refine e_knownWord (by omega) hT ?_
      rw [h8, h9]
      have wr : pPart t pe ex p = .inl (3, tf t p) → k_m_wrong E (d - 1) S 3 (fun S8 => k_m_part_79 E d S8 (oI (kwd t p)) Q) := fun hP => e_wrongR (v := 3) hR' (by omega) (fun S1 f1 F1 u1 o1 => w_m_part_79 (by omega) (bad 3 2 (fun _ => oI (kwd t p)) S1 ⟨_, fun _ _ => rfl⟩ (by omega) f1 F1 u1 hP))
      have lo8 : (if pe then 0 else 4) ≤ 4 := by split <;> omega
      have hi8 : (if pe then 4 else 8) ≤ 8 := by split <;> omega
      cases hv : vlu t pe p with
      | none =>
        rw [hv] at eP
        cases hk : kwd t p with
        | none =>
          rw [hk] at wr
          rw [if_pos (Int32.lt_of_lt_of_le (show oI none < 0 by decide) (nI_pos' (by omega)))]
          exact wr eP
        | some k =>
          have no := vlu_none hv k hk
          have k17 := (fstF_inv _ _ hk).2.1
          rw [hk] at wr
          refine ife (fun _ => wr eP) (fun a => ife (fun b => ?_) (fun _ => wr eP))
          exfalso
          have a : ¬ nI k < nI (if pe then 0 else 4) := a
          have b : nI k ≤ nI (if pe then 4 else 8) := b
          rw [nI_ltI (by omega) (by omega)] at a
          rw [nI_leI (by omega) (by omega)] at b
          exact no ⟨by omega, b⟩
      | some k =>
        rw [hv] at eP
        obtain ⟨k1, k2, k3⟩ := vlu_some hv
        rw [k1, show oI (some (encV (!pe) k)) = nI (encV (!pe) k) from rfl]
        rw [if_neg (show ¬ nI (encV (!pe) k) < nI (if pe then 0 else 4) from nI_nlt k2 (by omega)), if_pos (show nI (encV (!pe) k) ≤ nI (if pe then 4 else 8) from nI_le k3 (by omega))]
        refine w_m_part_79 (by omega) ?_
        exact good (1, k) 2 (nI (encV (!pe) k)) (fun _ => nI (encV (!pe) k)) (fun _ _ => rfl) (by omega) (by show 1 ≤ 1; omega) ⟨fun g => absurd g (by show ¬ 1 = 0; omega), fun _ => ⟨if_pos rfl, if_neg (by omega)⟩, fun g => absurd g (by show ¬ 2 ≤ 1; omega)⟩ eP
    · have e1 : ¬ nI (tk t p) = nI 1 := e1
      rw [nI_eq (by omega) (by omega)] at e1
      refine e_wrongR (v := 1) hR' (by omega) (fun S1 f1 F1 u1 o1 => e_badG F1 ?_)
      rw [if_pos rfl]
      refine h0 S1 _ ?_ f1 F1
      unfold pPart
      rw [if_neg e, if_neg e1, if_neg hn]
end PT

/-! WAYS: the reference's queue -/
section WN
variable {l : Lnd} {A : Scn} {S : St} {E : zX} {d : Nat}
theorem e_laysFar {t : Nat} {Q : St → Prop} (hd : 3 ≤ d) (hL : LM l S) (hA : ScM l (S 77) 0 A) (hO : COk l A) (ht : t < lw l * lh l) (h : ∀ S' f, (∀ k, k ≠ 81 → k ≠ 82 → S' k = S k) → Dst (lw l * lh l) (fun _ => True) (fun c => ¬ brd l A c) (fun x c => far (lw l) x c = 1) t f → f t = some 0 → (∀ c, c < lw l * lh l → S' 81 c = nin (f c)) → (∀ c k, c < lw l * lh l → f c = some k → k < 1000) → Q S') : k_m_laysFar E d S (nI t) Q := by
  have c36 := hL.ok.c36
  have w6 := hL.ok.w6
  have h6 : lh l ≤ 6 := hL.ok.2.2.2.1
  have bi := fun {q c : Nat} (hq : q < lw l * lh l) (hc : c < lw l * lh l) => bes_iff (w := lw l) (h := lh l) (q := q) (c := c) (by omega) (by omega) hq hc
  have bl := fun {q a c : Nat} (hq : q < lw l * lh l) (ha : a < 4) (e : bes (lw l) (lh l) q a = some c) => bes_lt (w := lw l) (h := lh l) (by omega) (by omega) hq ha e
  have lmS : ∀ S1 : St, (∀ k, k ≠ 81 → k ≠ 82 → S1 k = S k) → LM l S1 := fun S1 f => LM_of hL (fun i _ _ => by rw [f 65 (by decide) (by decide)]) (f 66 (by decide) (by decide)) (f 67 (by decide) (by decide)) (f 68 (by decide) (by decide))
  have aS : ∀ S1 : St, (∀ k, k ≠ 81 → k ≠ 82 → S1 k = S k) → ScM l (S1 77) 0 A := fun S1 f => by
    rw [f 77 (by decide) (by decide)]
    exact hA
  have be : ∀ {S1 : St} {q a : Nat} {y : Int32} {Q : Int32 → St → Prop}, (∀ k, k ≠ 81 → k ≠ 82 → S1 k = S k) → q < lw l * lh l → y = nI q → a < 4 → Q (oI (bes (lw l) (lh l) q a)) S1 → k_m_beside E (d - 1) S1 y (nI a) Q := fun f hq hy ha h => e_beside (lmS _ f) hq hy ha h
  generalize hn : lw l * lh l = n at *
  have outer : ∀ h, h ≤ n → ∀ (S1 : St) (f : Nat → Option Nat) (q : Nat → Nat) (m : Nat), Que n (fun _ => True) (fun c => ¬ brd l A c) (fun x c => far (lw l) x c = 1) t f q m h → Bd n f q m h → (∀ k, k ≠ 81 → k ≠ 82 → S1 k = S k) → (∀ c, c < n → S1 81 c = nin (f c)) → (∀ i, i < m → S1 82 i = nI (q i)) → k_m_laysFar_51 E d S1 h m Q := by
    refine dn n ?_ (fun hh hhn ih => ?_)
    · intro S1 f q m Z B f1 g1 g2
      have mle := Z.2.2.2.2.2.2.2
      have cle := csn_le f n
      refine w_m_laysFar_51 (by omega) ?_
      rw [if_pos (nI_le (show m ≤ n by omega) (by omega))]
      exact h S1 f f1 (Z.dst (by omega)) Z.1 g1 (fun c k hc e => by have := B.1 c k hc e; omega)
    · intro S1 f q m Z B f1 g1 g2
      have mle := Z.2.2.2.2.2.2.2
      have cle := csn_le f n
      refine w_m_laysFar_51 (by omega) ?_
      by_cases hm : m ≤ hh
      · rw [if_pos (nI_le hm (by omega))]
        exact h S1 f f1 (Z.dst hm) Z.1 g1 (fun c k hc e => by have := B.1 c k hc e; omega)
      · rw [if_neg (nI_ge (by omega) (by omega))]
        refine ⟨by omega, ?_⟩
        rw [g2 hh (by omega)]
        have inner : ∀ a, a ≤ 4 → ∀ (S1 : St) (f : Nat → Option Nat) (q' : Nat → Nat) (m : Nat), q' hh = q hh → hh < m → Que n (fun _ => True) (fun c => ¬ brd l A c) (fun x c => far (lw l) x c = 1) t f q' m hh → Bd n f q' m hh → (∀ k, k ≠ 81 → k ≠ 82 → S1 k = S k) → (∀ c, c < n → S1 81 c = nin (f c)) → (∀ i, i < m → S1 82 i = nI (q' i)) → (∀ b c, b < a → bes (lw l) (lh l) (q hh) b = some c → ¬ f c = none) → k_m_laysFar_70 E d S1 (hh + 1) m (nI (q hh)) a Q := by
          refine dn 4 ?_ (fun a ha iha => ?_)
          · intro S1 f q' m eq hm Z B f1 g1 g2 hp
            refine w_m_laysFar_70 (by omega) ?_
            rw [if_pos (nI_le (Nat.le_refl 4) (by omega))]
            obtain ⟨qn, _, _⟩ := Z.2.2.1 hh hm
            refine ih S1 f q' m (Z.nxt hm (fun k ek c hc hac _ => ?_)) (Bd.nxt Z B hm) f1 g1 g2
            rw [eq] at hac qn
            obtain ⟨b, b1, b2⟩ := (bi qn hc).mp hac
            cases e : f c with
            | none => exact absurd e (hp b c b1 b2)
            | some j => exact ⟨j, rfl, B.2 c k j hm hc ek e⟩
          · intro S1 f q' m eq hm Z B f1 g1 g2 hp
            obtain ⟨qn, qo, v, qv⟩ := Z.2.2.1 hh hm
            have vb := B.1 (q' hh) v qn qv
            have cle := csn_le f n
            have qn' := qn
            rw [eq] at qn'
            refine w_m_laysFar_70 (by omega) ?_
            rw [if_neg (nI_ge ha (by omega))]
            refine be f1 qn' rfl ha ?_
            have sk : (∀ c, bes (lw l) (lh l) (q hh) a = some c → ¬ f c = none) → k_m_laysFar_70 E d S1 (hh + 1) m (nI (q hh)) (a + 1) Q := fun hs => iha S1 f q' m eq hm Z B f1 g1 g2 (fun b c hb e => by
              by_cases eb : b = a
              · rw [eb] at e
                exact hs c e
              · exact hp b c (by omega) e)
            cases eb : bes (lw l) (lh l) (q hh) a with
            | none =>
              rw [if_pos (show oI none = -1 from rfl)]
              exact sk (fun c e => by rw [eb] at e; cases e)
            | some c =>
              have hc : c < n := bl qn' ha eb
              have bd : ∀ j, f c = some j → j < 1000 := fun j e => by have := B.1 c j hc e; omega
              rw [if_neg (show ¬ oI (some c) = -1 from oI_ne (by omega))]
              refine ⟨c, rfl, by omega, ?_⟩
              rw [g1 c hc]
              refine ife (fun e => ?_) (fun e => ?_)
              · have e := (nin_n bd).mp e
                refine ⟨q hh, rfl, by omega, c, rfl, by omega, fun S5 e5 => ?_⟩
                have x81 : S5 81 = upd (S1 81) c (nI (v + 1)) := by
                  rw [e5, up_same, ← eq, g1 (q' hh) qn, qv]
                  show upd (S1 81) c (nI v + 1) = _
                  rw [nI_1]
                have f5 : ∀ k, k ≠ 81 → k ≠ 82 → S5 k = S k := fun k k1 k2 => by
                  rw [e5, up_ne _ _ _ k1]
                  exact f1 k k1 k2
                have g5 : ∀ x, x < n → S5 81 x = nin (fse f c (v + 1) x) := fun x hx => by
                  rw [x81]
                  by_cases ex : x = c
                  · rw [ex, upd_same, fse_at]
                    rfl
                  · rw [upd_ne _ _ ex, fse_ne ex]
                    exact g1 x hx
                have had : far (lw l) (q' hh) c = 1 := by
                  rw [eq]
                  exact (bi qn' hc).mpr ⟨a, ha, eb⟩
                have hp' : ∀ b x, b < a + 1 → bes (lw l) (lh l) (q hh) b = some x → ¬ fse f c (v + 1) x = none := fun b x hb e2 => by
                  by_cases ex : x = c
                  · rw [ex, fse_at]
                    intro hx
                    cases hx
                  · rw [fse_ne ex]
                    by_cases ebb : b = a
                    · rw [ebb, eb] at e2
                      exact absurd (Option.some.inj e2).symm ex
                    · exact hp b x (by omega) e2
                refine e_isShut (by omega) (lmS S5 f5) (aS S5 f5) hO (by omega) (fun hb1 => ?_) (fun hb0 => ?_)
                · rw [if_neg (by decide)]
                  refine iha S5 (fse f c (v + 1)) q' m eq hm (Z.lay hm qv hc had trivial e (fun hh => hh hb1)) (Bd.up Z B hm qv hc e rfl) f5 g5 (fun i hi => ?_) hp'
                  rw [e5, up_ne _ _ _ (by decide)]
                  exact g2 i hi
                · rw [if_pos rfl]
                  have room := Z.room hc e
                  refine ⟨by omega, fun S9 e9 => ?_⟩
                  refine iha S9 (fse f c (v + 1)) (fun i => if i = m then c else q' i) (m + 1) ?_ (by omega) (Z.psh hm qv hc had trivial e hb0) (Bd.up Z B hm qv hc e (if_neg (by omega))) (fun k k1 k2 => ?_) (fun x hx => ?_) (fun i hi => ?_) hp'
                  · show (if hh = m then c else q' hh) = q hh
                    rw [if_neg (by omega)]
                    exact eq
                  · rw [e9, up_ne _ _ _ k2]
                    exact f5 k k1 k2
                  · rw [e9, up_ne _ _ _ (by decide)]
                    exact g5 x hx
                  · rw [e9, up_same]
                    by_cases ei : i = m
                    · rw [ei, upd_same, if_pos rfl]
                      rfl
                    · rw [upd_ne _ _ ei, if_neg ei, e5, up_ne _ _ _ (by decide)]
                      exact g2 i (by omega)
              · exact sk (fun c' e2 hx => e ((nin_n bd).mpr (by rw [eb] at e2; rw [Option.some.inj e2]; exact hx)))
        exact inner 0 (Nat.zero_le _) S1 f q m rfl (by omega) Z B f1 g1 g2 (fun b c hb => absurd hb (Nat.not_lt_zero b))
  refine w_m_laysFar (by omega) ?_
  have init : ∀ k, k ≤ 36 → ∀ S1 : St, (∀ k, k ≠ 81 → k ≠ 82 → S1 k = S k) → (∀ c, c < k → S1 81 c = 9999) → k_m_laysFar_2 E d S1 t k Q := by
    refine dn 36 ?_ (fun k hk ih => ?_)
    · intro S1 f1 g1
      refine w_m_laysFar_2 (by omega) ?_
      rw [if_pos (nI_le (Nat.le_refl 36) (by omega))]
      refine ⟨by omega, fun S2 e2 => ?_⟩
      have f2 : ∀ k, k ≠ 81 → k ≠ 82 → S2 k = S k := fun k k1 k2 => by
        rw [e2, up_ne _ _ _ k1]
        exact f1 k k1 k2
      have f0 : ∀ c k, fse (fun _ => none) t 0 c = some k → c = t ∧ k = 0 := fun c k e => by
        by_cases ec : c = t
        · rw [ec, fse_at] at e
          exact ⟨ec, (Option.some.inj e).symm⟩
        · rw [fse_ne ec] at e
          cases e
      have cs : csn (fse (fun _ => none) t 0) n = csn (fun _ => none) n + 1 := csn_up rfl n ht
      have g2 : ∀ c, c < n → S2 81 c = nin (fse (fun _ => none) t 0 c) := fun c hc => by
        rw [e2, up_same]
        by_cases ec : c = t
        · rw [ec, upd_same, fse_at]
          rfl
        · rw [upd_ne _ _ ec, fse_ne ec]
          exact g1 c (by omega)
      refine e_isShut (by omega) (lmS S2 f2) (aS S2 f2) hO (by omega) (fun hb1 => ?_) (fun hb0 => ?_)
      · rw [if_neg (by decide)]
        refine outer 0 (Nat.zero_le _) S2 (fse (fun _ => none) t 0) (fun _ => t) 0 ⟨fse_at, fun c k _ e => Or.inl (f0 c k e), fun i hi => absurd hi (Nat.not_lt_zero i), fun i j a b _ hj => absurd hj (Nat.not_lt_zero j), fun j a b hj => absurd hj (Nat.lt_irrefl 0), fun i k hi => absurd hi (Nat.not_lt_zero i), fun c k _ hop e => ?_, Nat.zero_le _⟩ ⟨fun c k _ e => ?_, fun c a b hj => absurd hj (Nat.lt_irrefl 0)⟩ f2 g2 (fun i hi => absurd hi (Nat.not_lt_zero i))
        · rw [(f0 c k e).1] at hop
          exact absurd hb1 hop
        · have := (f0 _ _ e).2
          omega
      · rw [if_pos rfl]
        intro S4 e4
        refine outer 0 (Nat.zero_le _) S4 (fse (fun _ => none) t 0) (fun _ => t) 1 ⟨fse_at, fun c k _ e => Or.inl (f0 c k e), fun i _ => ⟨ht, hb0, 0, fse_at⟩, fun i j a b _ _ ea eb => ?_, fun j a b _ _ ea eb => ?_, fun i k hi => absurd hi (Nat.not_lt_zero i), fun c k _ _ e => ⟨0, by omega, (f0 c k e).1.symm⟩, by omega⟩ ⟨fun c k _ e => ?_, fun c a b _ _ ea eb => ?_⟩ (fun k k1 k2 => ?_) (fun c hc => ?_) (fun i hi => ?_)
        · have := (f0 _ _ ea).2
          omega
        · have := (f0 _ _ eb).2
          omega
        · have := (f0 _ _ e).2
          omega
        · have := (f0 _ _ eb).2
          omega
        · rw [e4, up_ne _ _ _ k2]
          exact f2 k k1 k2
        · rw [e4, up_ne _ _ _ (by decide)]
          exact g2 c hc
        · rw [e4, up_same, show i = 0 by omega, upd_same]
    · intro S1 f1 g1
      refine w_m_laysFar_2 (by omega) ?_
      rw [if_neg (nI_ge hk (by omega))]
      refine ⟨hk, fun S2 e2 => ih S2 (fun j k1 k2 => by rw [e2, up_ne _ _ _ k1]; exact f1 j k1 k2) (fun c hc => ?_)⟩
      rw [e2, up_same]
      by_cases ec : c = k
      · rw [ec, upd_same]
      · rw [upd_ne _ _ ec]
        exact g1 c (by omega)
  exact init 0 (Nat.zero_le _) S (fun _ _ _ => rfl) (fun c hc => absurd hc (Nat.not_lt_zero c))
end WN

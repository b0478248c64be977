/-! WAYS: the reference tells the first step -/
theorem adf_c (a b : Nat) : adf a b = adf b a := by
  unfold adf
  split <;> split <;> omega
theorem far_c (w a b : Nat) : far w a b = far w b a := by
  unfold far
  rw [adf_c (a % w), adf_c (a / w)]
section WT
variable {l : Lnd} {A : Scn} {S : St} {E : zX} {d : Nat}
theorem e_sides {o t s : Nat} {Q : Int32 → St → Prop} (hd : 3 ≤ d) (hL : LM l S) (hA : ScM l (S 77) 0 A) (hO : COk l A) (ho : o < lw l * lh l) (hs : wy l A t o = some (s + 1)) (hs1 : s < 999) (hf : ∀ c, c < lw l * lh l → S 81 c = nin (wy l A t c)) (hb : ∀ c k, c < lw l * lh l → wy l A t c = some k → k < 1000) (h : ∀ v, fsV l A o t v → Q v S) : k_m_pram_70 E d S (nI o) (-1) 0 Q := by
  have c36 := hL.ok.c36
  have w6 := hL.ok.w6
  have h6 : lh l ≤ 6 := hL.ok.2.2.2.1
  have eo : S 81 o = nI (s + 1) := by
    rw [hf o ho, hs]
    rfl
  have go : ∀ a, a ≤ 4 → ∀ cur : Option Nat, (∀ c, cur = some c → c < lw l * lh l ∧ fsP l A o t s c) → (∀ b c, b < a → bes (lw l) (lh l) o b = some c → fsP l A o t s c → ∃ c0, cur = some c0 ∧ c0 ≤ c) → k_m_pram_70 E d S (nI o) (oI cur) a Q := by
    refine dn 4 ?_ (fun a ha ih => ?_)
    · intro cur g1 g2
      refine w_m_pram_70 (by omega) ?_
      rw [if_pos (nI_le (Nat.le_refl 4) (by omega))]
      have all : ∀ c, c < lw l * lh l → fsP l A o t s c → ∃ c0, cur = some c0 ∧ c0 ≤ c := fun c hc hp => by
        have h1 := hp.1
        rw [far_c] at h1
        obtain ⟨b, b1, b2⟩ := (bes_iff (h := lh l) (by omega) (by omega) ho hc).mp h1
        exact g2 b c b1 b2 hp
      refine h _ ?_
      cases ec : cur with
      | none =>
        refine Or.inr ⟨rfl, fun s' hs' c hc hp => ?_⟩
        rw [hs] at hs'
        have es := Option.some.inj hs'
        rw [show s' = s by omega] at hp
        obtain ⟨c0, c1, _⟩ := all c hc hp
        rw [ec] at c1
        cases c1
      | some c =>
        obtain ⟨k1, k2⟩ := g1 c ec
        refine Or.inl ⟨s, c, hs, k1, k2, fun j hj hp => ?_, rfl⟩
        obtain ⟨c0, c1, c2⟩ := all j (by omega) hp
        rw [ec] at c1
        have := Option.some.inj c1
        omega
    · intro cur g1 g2
      refine w_m_pram_70 (by omega) ?_
      rw [if_neg (nI_ge ha (by omega))]
      refine ⟨o, rfl, by omega, ?_⟩
      rw [eo, if_neg (show ¬ nI (s + 1) ≤ (0 : Int32) from nI_ge (a := 0) (by omega) (by omega))]
      refine ⟨o, rfl, by omega, ?_⟩
      rw [eo, if_neg (show ¬ (9999 : Int32) ≤ nI (s + 1) from nI_ge (b := 9999) (by omega) (by omega))]
      refine e_beside hL ho rfl ha ?_
      have sk : (∀ c, bes (lw l) (lh l) o a = some c → ¬ fsP l A o t s c) → k_m_pram_70 E d S (nI o) (oI cur) (a + 1) Q := fun hn => ih cur g1 (fun b c hb e hp => by
        by_cases eb : b = a
        · rw [eb] at e
          exact absurd hp (hn c e)
        · exact g2 b c (by omega) e hp)
      cases eb : bes (lw l) (lh l) o a with
      | none =>
        rw [if_pos (show oI none = -1 from rfl)]
        exact sk (fun c e => by rw [eb] at e; cases e)
      | some c =>
        have hc : c < lw l * lh l := bes_lt (by omega) (by omega) ho ha eb
        have fc : far (lw l) c o = 1 := by
          rw [far_c]
          exact (bes_iff (h := lh l) (by omega) (by omega) ho hc).mpr ⟨a, ha, eb⟩
        have on : ∀ c', bes (lw l) (lh l) o a = some c' → c' = c := fun c' e => by
          rw [eb] at e
          exact (Option.some.inj e).symm
        rw [if_neg (show ¬ oI (some c) = -1 from oI_ne (by omega))]
        refine e_isShut (by omega) hL hA hO (by omega) (fun hb1 => ?_) (fun hb0 => ?_)
        · rw [if_neg (by decide)]
          exact sk (fun c' e hp => hp.2.1 (by rw [on c' e]; exact hb1))
        · rw [if_pos rfl]
          refine ⟨c, rfl, by omega, o, rfl, by omega, ?_⟩
          rw [eo, show nI (s + 1) - (1 : Int32) = nI s from pk_sub (a := s + 1) (b := 1) (by omega), hf c hc]
          refine ife (fun e => ?_) (fun e => ?_)
          · have ew : wy l A t c = some s := by
              cases ek : wy l A t c with
              | none =>
                rw [ek] at e
                exact absurd ((nI_eq (a := 9999) (by omega) (by omega)).mp e) (by omega)
              | some k =>
                have := hb c k hc ek
                rw [ek] at e
                rw [(nI_eq (by omega) (by omega)).mp e]
            have hp : fsP l A o t s c := ⟨fc, hb0, ew⟩
            cases ec : cur with
            | none =>
              rw [if_pos (show oI none = -1 from rfl)]
              refine ih (some c) (fun c' e' => by rw [← Option.some.inj e']; exact ⟨hc, hp⟩) (fun b c' hb' e' hp' => ?_)
              by_cases ebb : b = a
              · rw [ebb] at e'
                exact ⟨c, rfl, by rw [on c' e']; exact Nat.le_refl c⟩
              · obtain ⟨c0, c1, _⟩ := g2 b c' (by omega) e' hp'
                rw [ec] at c1
                cases c1
            | some c0 =>
              obtain ⟨k1, k2⟩ := g1 c0 ec
              rw [if_neg (show ¬ oI (some c0) = -1 from oI_ne (by omega))]
              have old : ∀ b c', b < a + 1 → bes (lw l) (lh l) o b = some c' → fsP l A o t s c' → c' = c ∨ c0 ≤ c' := fun b c' hb' e' hp' => by
                by_cases ebb : b = a
                · rw [ebb] at e'
                  exact Or.inl (on c' e')
                · obtain ⟨x, x1, x2⟩ := g2 b c' (by omega) e' hp'
                  rw [ec] at x1
                  have := Option.some.inj x1
                  exact Or.inr (by omega)
              refine w_m_lesser (ilp c rfl (by omega) (by omega) (fun e3 => ?_) (fun e3 => ?_))
              · refine ih (some c) (fun c' e' => by rw [← Option.some.inj e']; exact ⟨hc, hp⟩) (fun b c' hb' e' hp' => ⟨c, rfl, ?_⟩)
                rcases old b c' hb' e' hp' with g | g
                · omega
                · omega
              · refine ih (some c0) (fun c' e' => by rw [← Option.some.inj e']; exact ⟨k1, k2⟩) (fun b c' hb' e' hp' => ⟨c0, rfl, ?_⟩)
                rcases old b c' hb' e' hp' with g | g
                · omega
                · omega
          · exact sk (fun c' e' hp => e (by rw [← on c' e', hp.2.2]; rfl))
  exact go 0 (Nat.zero_le _) none (fun c e => by cases e) (fun b c hb => absurd hb (Nat.not_lt_zero b))
end WT

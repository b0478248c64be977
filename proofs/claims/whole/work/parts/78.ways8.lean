/-! WAYS: the class tells the first step -/
section WS
variable {l : Lnd} {A : Scn} {S : St} {E : zX} {d : Nat}
/-- the least beside o that is open and one nearer -/
def fsP (l : Lnd) (A : Scn) (o t s c : Nat) : Prop := far (lw l) c o = 1 ∧ ¬ brd l A c ∧ wy l A t c = some s
/-- v is that first step, or none -/
def fsV (l : Lnd) (A : Scn) (o t : Nat) (v : Int32) : Prop := (∃ s c, wy l A t o = some (s + 1) ∧ c < lw l * lh l ∧ fsP l A o t s c ∧ (∀ j, j < c → ¬ fsP l A o t s j) ∧ v = nI c) ∨ (v = -1 ∧ ∀ s, wy l A t o = some (s + 1) → ∀ c, c < lw l * lh l → ¬ fsP l A o t s c)
theorem fsV_one {o t : Nat} {v w : Int32} (hv : fsV l A o t v) (hw : fsV l A o t w) : v = w := by
  rcases hv with ⟨s, c, h1, h2, h3, h4, h5⟩ | ⟨h1, h2⟩
  · rcases hw with ⟨s', c', g1, g2, g3, g4, g5⟩ | ⟨g1, g2⟩
    · rw [h1] at g1
      have es := Option.some.inj g1
      have es : s = s' := by omega
      subst es
      by_cases l1 : c < c'
      · exact absurd h3 (g4 c l1)
      · by_cases l2 : c' < c
        · exact absurd g3 (h4 c' l2)
        · rw [h5, g5, show c = c' by omega]
    · exact absurd h3 (g2 s h1 c h2)
  · rcases hw with ⟨s', c', g1, g2, g3, g4, g5⟩ | ⟨g1, g2⟩
    · exact absurd g3 (h2 s' g1 c' g2)
    · rw [h1, g1]
theorem c_firstStep {o t : Nat} {Q : Int32 → St → Prop} (hd : 5 ≤ d) (hL : LC l S) (hA : ScC l (S 26) A) (hO : COk l A) (ho : o < lw l * lh l) (ht : t < lw l * lh l) (h : ∀ S' v, Fr [48, 49] S S' → fsV l A o t v → Q v S') : k_Plans_firstStep E d S (nI o) (nI t) Q := by
  have c36 := hL.ok.c36
  refine w_Plans_firstStep (by omega) (c_steps (by omega) hL hA hO ho ht (fun S2 f2 st => ?_))
  cases e : wy l A t o with
  | none =>
    rw [if_neg (by decide)]
    exact h S2 (-1) f2 (Or.inr ⟨rfl, fun s hs => by rw [e] at hs; cases hs⟩)
  | some k =>
    cases k with
    | zero =>
      rw [if_neg (by decide)]
      exact h S2 (-1) f2 (Or.inr ⟨rfl, fun s hs => by rw [e] at hs; cases hs⟩)
    | succ s =>
      obtain ⟨s1, st⟩ := st s e
      rw [show oI (some (s + 1)) = nI (s + 1) from rfl, if_pos (show (1 : Int32) ≤ nI (s + 1) from nI_le (a := 1) (by omega) (by omega))]
      have L2 : LC l S2 := LC_fr hL (fun j a b => f2 j (by simp only [List.mem_cons, List.not_mem_nil, or_false]; omega))
      refine dn (P := fun k => (∀ j, j < k → ¬ fsP l A o t s j) → k_Plans_firstStep_17 E d S2 o (nI (s + 1)) k Q) (lw l * lh l) ?_ (fun k hk ih => ?_) 0 (Nat.zero_le _) (fun j hj => absurd hj (Nat.not_lt_zero j))
      · intro hn
        refine w_Plans_firstStep_17 (by omega) (ilp _ L2.cells (by omega) (by omega) (fun _ => ?_) (fun h => absurd h (Nat.lt_irrefl _)))
        exact h S2 (-1) f2 (Or.inr ⟨rfl, fun s' hs c hc => by
          rw [e] at hs
          have es := Option.some.inj hs
          have es : s = s' := by omega
          rw [← es]
          exact hn c hc⟩)
      · intro hn
        refine w_Plans_firstStep_17 (by omega) (ilp _ L2.cells (by omega) (by omega) (fun h => by omega) (fun _ => ?_))
        have nx : ¬ fsP l A o t s k → k_Plans_firstStep_17 E d S2 o (nI (s + 1)) (k + 1) Q := fun hk2 => ih (fun j hj => by
          by_cases ej : j = k
          · rw [ej]
            exact hk2
          · exact hn j (by omega))
        have fl := hL.ok.far hk ho
        refine c_far L2 rfl rfl hk ho (ife (fun e1 => ?_) (fun e1 => ?_))
        · have e1 : far (lw l) k o = 1 := (nI_eq (b := 1) (by omega) (by omega)).mp e1
          have hne : ¬ k = o := fun hh => by
            rw [hh, far_s] at e1
            cases e1
          refine ⟨by omega, ?_⟩
          rw [show nI (s + 1) - (1 : Int32) = nI s from pk_sub (a := s + 1) (b := 1) (by omega)]
          refine ife (fun e2 => ?_) (fun e2 => ?_)
          · obtain ⟨q1, q2⟩ := (st k hk hne).mp e2
            exact h S2 (nI k) f2 (Or.inl ⟨s, k, e, hk, ⟨e1, q1, q2⟩, hn, rfl⟩)
          · exact nx (fun hh => e2 ((st k hk hne).mpr ⟨hh.2.1, hh.2.2⟩))
        · exact nx (fun hh => e1 (by rw [hh.1]; rfl))
end WS

/-! WAYS: the class tells how many steps -/
section WR
variable {l : Lnd} {A : Scn} {S : St} {E : zX} {d : Nat}
noncomputable def wy (l : Lnd) (A : Scn) (t c : Nat) : Option Nat := lvf (lw l * lh l) (fun c => ¬ brd l A c) (fun x c => far (lw l) x c = 1) t c
theorem c_steps {o t : Nat} {Q : Int32 → St → Prop} (hd : 4 ≤ d) (hL : LC l S) (hA : ScC l (S 26) A) (hO : COk l A) (ho : o < lw l * lh l) (ht : t < lw l * lh l) (h : ∀ S', Fr [48, 49] S S' → (∀ s, wy l A t o = some (s + 1) → s < 1000 ∧ ∀ c, c < lw l * lh l → ¬ c = o → (S' 48 c = nI s ↔ ¬ brd l A c ∧ wy l A t c = some s)) → Q (oI (wy l A t o)) S') : k_Plans_stepsBetween E d S (nI o) (nI t) Q := by
  have c36 := hL.ok.c36
  refine w_Plans_stepsBetween (by omega) ?_
  have hf : Dst (lw l * lh l) (fun _ => True) (fun c => ¬ brd l A c) (fun x c => far (lw l) x c = 1) t (wy l A t) := lvf_dst
  have f0 : wy l A t t = some 0 := lvf_t
  refine ife (fun e => ?_) (fun e => ?_)
  · have e := (nI_eq (by omega) (by omega)).mp e
    have h := h S (Fr.refl _ _)
    rw [e, f0] at h
    exact h (fun s hs => by cases hs)
  · have e : ¬ o = t := fun hh => e (by rw [hh])
    refine c_isBarred (by omega) hL hA hO (by omega) (fun hb => ?_) (fun hb => ?_)
    · rw [if_neg (by decide)]
      have z : wy l A t o = none := by
        cases ez : wy l A t o with
        | none => rfl
        | some k => exact absurd (dst_shut hf (fun g => g hb) k o ho ez) e
      have h := h S (Fr.refl _ _)
      rw [z] at h
      exact h (fun s hs => by cases hs)
    · rw [if_pos rfl]
      refine c_walkBack (by omega) hL hA hO ht ho hb (fun S' g f1 hg g0 g1 gb => ⟨by omega, ?_⟩)
      rw [g1 o ho, ← dst_at ho hf hg f0 g0]
      refine h S' f1 (fun s hs => ?_)
      have gs : g o = some (s + 1) := by
        rw [← dst_at ho hf hg f0 g0]
        exact hs
      have sb := gb o (s + 1) ho gs
      refine ⟨by omega, fun c hc hne => ?_⟩
      have gi : g c = some s ↔ S' 48 c = nI s := by
        rw [g1 c hc]
        cases ec : g c with
        | none => exact ⟨(fun hh => by cases hh), fun hh => absurd hh.symm (oI_ne (by omega))⟩
        | some k =>
          have kb := gb c k hc ec
          exact ⟨(fun hh => by rw [Option.some.inj hh]; rfl), fun hh => by rw [(nI_eq (by omega) (by omega)).mp hh]⟩
      rw [← gi]
      by_cases hbc : brd l A c
      · refine ⟨fun hh => ?_, fun hh => absurd hbc hh.1⟩
        rcases hg.1 c s hc hh with ⟨q1, _⟩ | ⟨q, k', _, _, _, q4, _, _⟩
        · rw [q1] at hbc
          exact absurd hbc hb
        · exact absurd q4 (fun q4 => q4.elim (fun q => q hbc) hne)
      · rw [← dst_near (k := s) (s := s + 1) hc hbc gs (by omega) hf hg f0 g0]
        exact ⟨fun hh => ⟨hbc, hh⟩, fun hh => hh.2⟩
end WR

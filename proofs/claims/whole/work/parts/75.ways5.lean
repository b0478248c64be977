/-! WAYS: how far, from where to where -/
section WP
variable {n t : Nat} {op : Nat → Prop} {ad : Nat → Nat → Prop} {f g : Nat → Option Nat}
theorem dst_ff (hf : Dst n (fun _ => True) op ad t f) (hg : Dst n (fun _ => True) op ad t g) (g0 : g t = some 0) : ∀ k c, c < n → f c = some k → ∃ j, g c = some j ∧ j ≤ k := by
  intro k
  induction k with
  | zero =>
    intro c hc e
    rcases hf.1 c 0 hc e with ⟨h1, _⟩ | ⟨q, k', _, _, _, _, _, h6⟩
    · rw [h1]
      exact ⟨0, g0, Nat.le_refl 0⟩
    · omega
  | succ k ih =>
    intro c hc e
    rcases hf.1 c (k + 1) hc e with ⟨_, h2⟩ | ⟨q, k', h1, h2, h3, _, h5, h6⟩
    · omega
    · obtain ⟨j, j1, j2⟩ := ih q h1 (by rw [h5, show k' = k by omega])
      obtain ⟨i, i1, i2⟩ := hg.2 q j h1 h2 j1 c hc h3 trivial
      exact ⟨i, i1, by omega⟩
theorem dst_same (hf : Dst n (fun _ => True) op ad t f) (hg : Dst n (fun _ => True) op ad t g) (f0 : f t = some 0) (g0 : g t = some 0) {c : Nat} (hc : c < n) : f c = g c := by
  cases ef : f c with
  | none =>
    cases eg : g c with
    | none => rfl
    | some k =>
      obtain ⟨j, j1, _⟩ := dst_ff hg hf f0 k c hc eg
      rw [ef] at j1
      cases j1
  | some k =>
    obtain ⟨j, j1, j2⟩ := dst_ff hf hg g0 k c hc ef
    obtain ⟨i, i1, i2⟩ := dst_ff hg hf f0 j c hc j1
    rw [ef] at i1
    have := Option.some.inj i1
    rw [j1, show j = k by omega]
theorem dst_shut (hf : Dst n (fun _ => True) op ad t f) (ht : ¬ op t) : ∀ k c, c < n → f c = some k → c = t := by
  intro k
  induction k with
  | zero =>
    intro c hc e
    rcases hf.1 c 0 hc e with ⟨h1, _⟩ | ⟨q, k', _, _, _, _, _, h6⟩
    · exact h1
    · omega
  | succ k ih =>
    intro c hc e
    rcases hf.1 c (k + 1) hc e with ⟨h1, _⟩ | ⟨q, k', h1, h2, h3, _, h5, h6⟩
    · exact h1
    · have := ih q h1 (by rw [h5, show k' = k by omega])
      rw [this] at h2
      exact absurd h2 ht
/-- how far each is from t -/
noncomputable def dF (n : Nat) (op : Nat → Prop) (ad : Nat → Nat → Prop) (t c : Nat) : Option Nat := @dite _ (∃ f, Dst n (fun _ => True) op ad t f ∧ f t = some 0) (Classical.propDecidable _) (fun h => Classical.choose h c) (fun _ => none)
theorem dF_eq (hf : Dst n (fun _ => True) op ad t f) (f0 : f t = some 0) {c : Nat} (hc : c < n) : dF n op ad t c = f c := by
  have h : ∃ f, Dst n (fun _ => True) op ad t f ∧ f t = some 0 := ⟨f, hf, f0⟩
  unfold dF
  rw [dif_pos h]
  exact dst_same (Classical.choose_spec h).1 hf (Classical.choose_spec h).2 f0 hc
end WP

/-! WAYS: there is one that tells how far -/
section WQ
variable {n t : Nat} {op : Nat → Prop} {ad : Nat → Nat → Prop}
def lv (n : Nat) (op : Nat → Prop) (ad : Nat → Nat → Prop) (t : Nat) : Nat → Nat → Prop
  | 0, c => c = t
  | k + 1, c => ∃ q, q < n ∧ op q ∧ ad q c ∧ lv n op ad t k q
theorem lv_min {c : Nat} : ∀ k, lv n op ad t k c → ∃ j, j ≤ k ∧ lv n op ad t j c ∧ ∀ i, i < j → ¬ lv n op ad t i c := by
  intro k
  induction k using Nat.strongRecOn with
  | _ k ih =>
    intro h
    by_cases hx : ∃ i, i < k ∧ lv n op ad t i c
    · obtain ⟨i, i1, i2⟩ := hx
      obtain ⟨j, j1, j2⟩ := ih i i1 i2
      exact ⟨j, by omega, j2⟩
    · exact ⟨k, Nat.le_refl k, h, fun i hi hl => hx ⟨i, hi, hl⟩⟩
noncomputable def lvf (n : Nat) (op : Nat → Prop) (ad : Nat → Nat → Prop) (t c : Nat) : Option Nat := @dite _ (∃ j, lv n op ad t j c ∧ ∀ i, i < j → ¬ lv n op ad t i c) (Classical.propDecidable _) (fun h => some (Classical.choose h)) (fun _ => none)
theorem lvf_iff {c k : Nat} : lvf n op ad t c = some k ↔ lv n op ad t k c ∧ ∀ i, i < k → ¬ lv n op ad t i c := by
  unfold lvf
  by_cases h : ∃ j, lv n op ad t j c ∧ ∀ i, i < j → ¬ lv n op ad t i c
  · rw [dif_pos h]
    have sp := Classical.choose_spec h
    constructor
    · intro e
      rw [← Option.some.inj e]
      exact sp
    · rintro ⟨h1, h2⟩
      congr 1
      by_cases l1 : Classical.choose h < k
      · exact absurd sp.1 (h2 _ l1)
      · by_cases l2 : k < Classical.choose h
        · exact absurd h1 (sp.2 _ l2)
        · omega
  · rw [dif_neg h]
    exact ⟨(fun e => by cases e), fun g => absurd ⟨k, g⟩ h⟩
theorem lvf_dst : Dst n (fun _ => True) op ad t (lvf n op ad t) := by
  refine ⟨fun c k hc e => ?_, fun q k hq ho e c hc ha _ => ?_⟩
  · obtain ⟨e1, e2⟩ := lvf_iff.mp e
    cases k with
    | zero => exact Or.inl ⟨e1, rfl⟩
    | succ k =>
      obtain ⟨q, q1, q2, q3, q4⟩ := e1
      exact Or.inr ⟨q, k, q1, q2, q3, trivial, lvf_iff.mpr ⟨q4, fun i hi hl => e2 (i + 1) (by omega) ⟨q, q1, q2, q3, hl⟩⟩, rfl⟩
  · obtain ⟨e1, e2⟩ := lvf_iff.mp e
    obtain ⟨j, j1, j2, j3⟩ := lv_min (k + 1) (show lv n op ad t (k + 1) c from ⟨q, hq, ho, ha, e1⟩)
    exact ⟨j, lvf_iff.mpr ⟨j2, j3⟩, j1⟩
theorem lvf_t : lvf n op ad t t = some 0 := lvf_iff.mpr ⟨rfl, fun i hi => absurd hi (Nat.not_lt_zero i)⟩
end WQ

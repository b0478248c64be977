/-! THE LAW: its loop, case by case -/
def LI (S : St) (m : Nat) : Prop := ∃ G, GInv G ∧ RelC G S ∧ RelM G S ∧ (S 1000 0).toNatClampNeg ≤ m
theorem RelM_c {G : Gst} {S S' : St} (h : RelM G S) (e : ∀ k, 65 ≤ k → k < 91 → S' k = S k) : RelM G S' := by
  refine RelM_of h (fun i _ => by rw [e 65 (by omega) (by omega)]) (fun k hk => e k ?_ ?_) (fun i _ => by rw [e 77 (by omega) (by omega)])
  · simp only [List.mem_cons, List.not_mem_nil, or_false] at hk
    omega
  · simp only [List.mem_cons, List.not_mem_nil, or_false] at hk
    omega
/-- both have acted -/
theorem LI_act {G G' : Gst} {S S1 S2 : St} {m : Nat} (hG : GInv G') (hc : CE G' S S1) (hm : ME G' S1 S2) (hn : (S 1000 0).toNatClampNeg ≤ m) : LI S2 m := ⟨G', hG, RelC_of hc.1 (fun k hk => hm.2 k (by omega)), hm.1, by rw [hm.2 1000 (by omega), hc.2 1000 (by omega)]; exact hn⟩
section LW
variable {S : St} {E : zX} {d : Nat} {a0 : UInt32} {a4 n m : Nat} {f : Nat → Int32} {Q : Int32 → St → Prop}
theorem l_fault (hd : 25 ≤ d) (hI : LI S m) (h : ∀ S', LI S' m → k_law_law_2231 E d S' a0 a4 Q) : k_law_law_325 E d S a0 a4 Q := by
  obtain ⟨G, hG, hC, hM, hn⟩ := hI
  refine w_law_law_325 (by omega) (x_fault hC (m_fault hM (fun S' q => ?_)))
  rw [if_pos rfl]
  have me := ME_qm hM q
  exact h S' ⟨G, hG, RelC_of hC (fun k hk => me.2 k (by omega)), me.1, by rw [me.2 1000 (by omega)]; exact hn⟩
theorem l_feed (hd : 25 ≤ d) (hO : out E a0 = some (0, n, f)) (hl : a4 + 5 < n) (h31 : n < 2 ^ 31) (hI : LI S m) (h : ∀ S', LI S' m → k_law_law_2231 E d S' a0 a4 Q) : k_law_law_196 E d S a0 a4 Q := by
  obtain ⟨G, hG, hC, hM, hn⟩ := hI
  have i : ∀ j, j ≤ 5 → ix (nI (a4 + j)) n := fun j hj => ix_nI (by omega) h31
  refine w_law_law_196 (by omega) ⟨n, f, hO, i 1 (by omega), n, f, hO, i 2 (by omega), n, f, hO, i 3 (by omega), n, f, hO, i 4 (by omega), n, f, hO, i 5 (by omega), ?_⟩
  refine x_feed (by omega) hG hC (fun S1 c1 => ?_)
  refine ⟨n, f, hO, i 1 (by omega), n, f, hO, i 2 (by omega), n, f, hO, i 3 (by omega), n, f, hO, i 4 (by omega), n, f, hO, i 5 (by omega), ?_⟩
  refine m_feed (by omega) hG (RelM_c hM (fun k a _ => c1.2 k a)) (fun S2 m2 _ => ?_)
  rw [if_pos rfl]
  exact h S2 (LI_act (G := G) (i_feed hG) c1 m2 hn)
end LW

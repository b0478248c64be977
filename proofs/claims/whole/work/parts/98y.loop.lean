section LL
theorem l_cmp {n a : Nat} (hn : n ≤ 3072) (ha : a ≤ 4000) : ((Int32.ofNat n) - (6 : Int32)) < nI a ↔ n < a + 6 := by
  show (nI n - nI 6) < nI a ↔ n < a + 6
  have e5 := Int32.toInt_sub (nI n) (nI 6)
  rw [nI_tI (n := n) (by omega), nI_tI (n := 6) (by omega)] at e5
  rw [Int.bmod_eq_of_le (by omega) (by omega)] at e5
  rw [Int32.lt_iff_toInt_lt, e5, nI_tI (n := a) (by omega)]
  omega
variable {E : zX} {d : Nat} {a0 : UInt32} {n : Nat} {f : Nat → Int32}
set_option maxRecDepth 4000 in
theorem l_loop (hE : TE E) (hd : 96 ≤ d) (hO : out E a0 = some (0, n, f)) (hn : n ≤ 3072) : ∀ (c a4 m : Nat) (S : St), n < a4 + 6 * c → a4 ≤ 4000 → m + c ≤ 1024 → LI S m → k_law_law_23 E d S a0 a4 (fun v S' => v = 1 ∧ LI S' 1024) := by
  intro c
  induction c with
  | zero =>
    intro a4 m S h1 h2 h3 hI
    refine w_law_law_23 (by omega) ⟨0, n, f, hO, rfl, ?_⟩
    rw [if_pos ((l_cmp hn h2).mpr (by omega))]
    exact ⟨rfl, LI_mono hI (by omega)⟩
  | succ c ih =>
    intro a4 m S h1 h2 h3 hI
    refine w_law_law_23 (by omega) ⟨0, n, f, hO, rfl, ife (fun _ => ⟨rfl, LI_mono hI (by omega)⟩) (fun e => ⟨n, f, hO, ?_⟩)⟩
    have hl : ¬ n < a4 + 6 := fun g => e ((l_cmp hn h2).mpr g)
    have h31 : n < 2 ^ 31 := by omega
    have h0 : ∀ S', LI S' (m + 1) → k_law_law_2231 E d S' a0 a4 (fun v S' => v = 1 ∧ LI S' 1024) := fun S' hI' => w_law_law_2231 (by omega) (ih (a4 + 6) (m + 1) S' (by omega) (by omega) (by omega) hI')
    have h00 : ∀ S', LI S' m → k_law_law_2231 E d S' a0 a4 (fun v S' => v = 1 ∧ LI S' 1024) := fun S' hI' => h0 S' (LI_mono hI' (by omega))
    refine ⟨ix_nI (by omega) h31, ?_⟩
    refine ife (fun _ => l_feed (by omega) hO (by omega) h31 hI h00) (fun _ => ?_)
    refine ife (fun _ => l_county (by omega) hE (by omega) hO (by omega) h31 hI h0) (fun _ => ?_)
    refine ife (fun _ => l_fault (by omega) hI h00) (fun _ => ?_)
    refine ife (fun _ => l_count (by omega) (by omega) hO (by omega) h31 hI h0) (fun _ => ?_)
    refine ife (fun _ => l_person (by omega) (by omega) hO (by omega) h31 hI h0) (fun _ => ?_)
    refine ife (fun _ => l_ball (by omega) (by omega) hO (by omega) h31 hI h0) (fun _ => ?_)
    refine ife (fun _ => l_days (by omega) hO (by omega) h31 hI h00) (fun _ => ?_)
    refine ife (fun _ => l_tread (by omega) (by omega) hO (by omega) h31 hI h0) (fun _ => ?_)
    refine ife (fun _ => l_carry (by omega) (by omega) hO (by omega) h31 hI h0) (fun _ => ?_)
    refine ife (fun _ => l_guard (by omega) (by omega) hO (by omega) h31 hI h0) (fun _ => ?_)
    refine ife (fun _ => l_soothe (by omega) (by omega) hO (by omega) h31 hI h0) (fun _ => ?_)
    refine ife (fun _ => l_undo (by omega) hI h00) (fun _ => ?_)
    refine ife (fun _ => l_then (by omega) (by omega) hO (by omega) h31 hI h0) (fun _ => ?_)
    refine ife (fun _ => l_mood (by omega) (by omega) hO (by omega) h31 hI h0) (fun _ => ?_)
    refine ife (fun _ => l_off (by omega) (by omega) hO (by omega) h31 hI h0) (fun _ => ?_)
    refine ife (fun _ => l_first (by omega) hI h00) (fun _ => ?_)
    refine ife (fun _ => l_later (by omega) (by omega) hO (by omega) h31 hI h0) (fun _ => ?_)
    refine ife (fun _ => l_toGuard (by omega) (by omega) hO (by omega) h31 hI h0) (fun _ => ?_)
    refine ife (fun _ => l_fire (by omega) (by omega) hO (by omega) h31 hI h0) (fun _ => ?_)
    refine ife (fun _ => l_pram (by omega) (by omega) hO (by omega) h31 hI h0) (fun _ => ?_)
    refine ife (fun _ => l_putBy (by omega) (by omega) hO (by omega) h31 hI h0) (fun _ => ?_)
    refine ife (fun _ => l_put (by omega) (by omega) hO (by omega) h31 hI h0) (fun _ => ?_)
    refine ife (fun _ => l_see (by omega) (by omega) hO (by omega) h31 hI h0) (fun _ => ?_)
    refine ife (fun _ => l_forget (by omega) hI h00) (fun _ => ?_)
    refine ife (fun _ => l_milder (by omega) (by omega) hO (by omega) h31 hI h0) (fun _ => ?_)
    refine ife (fun _ => l_look (by omega) (by omega) hO (by omega) h31 hI h0) (fun _ => ?_)
    refine ife (fun _ => l_boys (by omega) (by omega) hO (by omega) h31 hI h0) (fun _ => ?_)
    refine ife (fun _ => l_game (by omega) (by omega) hO (by omega) h31 hI h0) (fun _ => ?_)
    refine ife (fun _ => l_years (by omega) (by omega) hO (by omega) h31 hI h0) (fun _ => ?_)
    refine ife (fun _ => l_cell (by omega) (by omega) hO (by omega) h31 hI h0) (fun _ => ?_)
    refine ife (fun _ => l_when (by omega) (by omega) hO (by omega) h31 hI h0) (fun _ => ?_)
    refine ife (fun _ => l_ahead (by omega) (by omega) hO (by omega) h31 hI h0) (fun _ => ?_)
    refine ife (fun _ => l_stays (by omega) (by omega) hO (by omega) h31 hI h0) (fun _ => ?_)
    refine ife (fun _ => l_image (by omega) hI h00) (fun _ => ?_)
    refine ife (fun _ => l_restore (by omega) hI h00) (fun _ => ?_)
    exact h00 S hI
end LL

/-! RUNS THAT END (layer 2): fuel is monotone; steps, branches, calls; heap by fields and rows -/
section ZMON
theorem zn_pure {ins : Instr} {st : List Value} {K K' : List Value → zR} {r : zO × zH} (hK : ∀ a, K a = some r → K' a = some r) : zpure ins st K = some r → zpure ins st K' = some r := by
  unfold zpure
  repeat' split
  all_goals first | exact hK _ | (intro h; cases h)
theorem zn_load {ins : Instr} {L : zL} {K K' : Value → zR} {r : zO × zH} (hK : ∀ a, K a = some r → K' a = some r) : zload ins L K = some r → zload ins L K' = some r := by
  unfold zload
  simp only [zli, zll, zla]
  repeat' split
  all_goals first | exact hK _ | (intro h; cases h)
theorem zn_st {L : zL} {i : Nat} {v : Value} {K K' : zL → zR} {r : zO × zH} (hK : ∀ a, K a = some r → K' a = some r) : zst L i v K = some r → zst L i v K' = some r := by
  unfold zst
  cases Nat.blt i L.length
  · intro h; cases h
  · cases zlg L i
    · exact hK _
    · intro h; cases h
theorem zn_st2 {L : zL} {i : Nat} {x : Int64} {K K' : zL → zR} {r : zO × zH} (hK : ∀ a, K a = some r → K' a = some r) : zst2 L i x K = some r → zst2 L i x K' = some r := by
  unfold zst2
  cases Nat.blt (i + 1) L.length
  · intro h; cases h
  · cases zlg L i
    · exact hK _
    · intro h; cases h
theorem zn_su {L : zL} {i : Nat} {v : Value} {K K' : zL → zR} {r : zO × zH} (hK : ∀ a, K a = some r → K' a = some r) : zsu L i v K = some r → zsu L i v K' = some r := by
  unfold zsu
  cases Nat.blt i L.length
  · intro h; cases h
  · exact hK _
theorem zn_store {ins : Instr} {st : List Value} {L : zL} {K K' : List Value → zL → zR} {r : zO × zH} (hK : ∀ a b, K a b = some r → K' a b = some r) : zstore ins st L K = some r → zstore ins st L K' = some r := by
  unfold zstore
  simp only [zsi, zsl, zsa]
  repeat' split
  all_goals first | exact zn_st (hK _) | exact zn_st2 (hK _) | (intro h; cases h)
theorem zn_storeN {ins : Instr} {st : List Value} {L : zL} {K K' : List Value → zL → zR} {r : zO × zH} (hK : ∀ a b, K a b = some r → K' a b = some r) : zstoreN ins st L K = some r → zstoreN ins st L K' = some r := by
  unfold zstoreN
  simp only [zui, zua]
  repeat' split
  all_goals first | exact zn_su (hK _) | (intro h; cases h)
theorem zn_br {ins : Instr} {st : List Value} {t t' f f' : List Value → zR} {r : zO × zH} (ht : ∀ a, t a = some r → t' a = some r) (hf : ∀ a, f a = some r → f' a = some r) : zbr ins st t f = some r → zbr ins st t' f' = some r := by
  unfold zbr
  simp only [zc1, zc2]
  repeat' split
  all_goals first | exact ht _ | exact hf _ | (intro h; cases h)
theorem zn_sw {ins : Instr} {pc : Nat} {st : List Value} {K K' : Nat → List Value → zR} {r : zO × zH} (hK : ∀ a b, K a b = some r → K' a b = some r) : zsw ins pc st K = some r → zsw ins pc st K' = some r := by
  unfold zsw
  repeat' split
  all_goals first | exact hK _ _ | (intro h; cases h)
theorem zn_bif {x : Bool} {a b : zR} {r : zO × zH} (h : a = some r → b = some r) : (bif x then a else none) = some r → (bif x then b else none) = some r := by
  cases x
  · intro h; cases h
  · exact h
theorem zn_gf {E : zX} {h : zH} {v : Value} {ci k : Nat} {K K' : Value → zR} {r : zO × zH} (hK : ∀ a, K a = some r → K' a = some r) : zgf E h v ci k K = some r → zgf E h v ci k K' = some r := by
  unfold zgf
  split
  · split
    · refine zn_bif ?_
      split
      · exact hK _
      · intro h; cases h
    · intro h; cases h
  · split
    · refine zn_bif ?_
      cases Nat.beq k 0
      · exact zn_bif (hK _)
      · exact hK _
    · intro h; cases h
  · intro h; cases h
theorem zn_pf {h : zH} {st : List Value} {ci k t : Nat} {K K' : List Value → zH → zR} {r : zO × zH} (hK : ∀ a b, K a b = some r → K' a b = some r) : zpf h st ci k t K = some r → zpf h st ci k t K' = some r := by
  unfold zpf
  split
  · split
    · exact zn_bif (hK _ _)
    · intro h; cases h
  · intro h; cases h
theorem zn_ald {ins : Instr} {E : zX} {h : zH} {st : List Value} {K K' : List Value → zR} {r : zO × zH} (hK : ∀ a, K a = some r → K' a = some r) : zald ins E h st K = some r → zald ins E h st K' = some r := by
  unfold zald
  repeat' split
  all_goals first | exact hK _ | (intro h; cases h)
theorem zn_ast {ins : Instr} {h : zH} {st : List Value} {K K' : List Value → zH → zR} {r : zO × zH} (hK : ∀ a b, K a b = some r → K' a b = some r) : zast ins h st K = some r → zast ins h st K' = some r := by
  unfold zast
  repeat' split
  all_goals first | exact hK _ _ | exact zn_bif (hK _ _) | (intro h; cases h)
theorem zn_len {E : zX} {h : zH} {st : List Value} {K K' : List Value → zR} {r : zO × zH} (hK : ∀ a, K a = some r → K' a = some r) : zlenA E h st K = some r → zlenA E h st K' = some r := by
  unfold zlenA
  repeat' split
  all_goals first | exact zn_bif (hK _) | (intro h; cases h)
theorem zn_newa {ins : Instr} {h : zH} {st : List Value} {K K' : List Value → zH → zR} {r : zO × zH} (hK : ∀ a b, K a b = some r → K' a b = some r) : znewa ins h st K = some r → znewa ins h st K' = some r := by
  unfold znewa
  repeat' split
  all_goals first | exact zn_bif (hK _ _) | (intro h; cases h)
theorem zn_cp {h : zH} {st : List Value} {K K' : List Value → zH → zR} {r : zO × zH} (hK : ∀ a b, K a b = some r → K' a b = some r) : zcp h st K = some r → zcp h st K' = some r := by
  unfold zcp
  repeat' split
  all_goals first | exact hK _ _ | (intro h; cases h)
set_option maxHeartbeats 4000000 in
theorem zn_step {P : Nat → Option zM} {Cd : List (List Value)} {E : zX} {Z Z' : Nat → Nat → Nat → zL → List Value → zH → zR} (hZ : ∀ d M pc L st h r, Z d M pc L st h = some r → Z' d M pc L st h = some r) {d M pc : Nat} {L : zL} {st : List Value} {h : zH} {r : zO × zH} : zstep P Cd E Z d M pc L st h = some r → zstep P Cd E Z' d M pc L st h = some r := by
  unfold zstep
  split
  · intro h; cases h
  · split
    · intro h; cases h
    · split
      · exact zn_pure (fun _ => hZ _ _ _ _ _ _ _)
      · exact zn_load (fun _ => hZ _ _ _ _ _ _ _)
      · exact zn_store (fun _ _ => hZ _ _ _ _ _ _ _)
      · exact zn_br (fun _ => hZ _ _ _ _ _ _ _) (fun _ => hZ _ _ _ _ _ _ _)
      · exact zn_sw (fun _ _ => hZ _ _ _ _ _ _ _)
      · split
        · exact zn_gf (fun _ => hZ _ _ _ _ _ _ _)
        · intro h; cases h
      · exact zn_pf (fun _ _ => hZ _ _ _ _ _ _ _)
      · exact zn_ald (fun _ => hZ _ _ _ _ _ _ _)
      · exact zn_ast (fun _ _ => hZ _ _ _ _ _ _ _)
      · exact zn_len (fun _ => hZ _ _ _ _ _ _ _)
      · split
        · exact zn_bif (hZ _ _ _ _ _ _ _)
        · intro h; cases h
      · exact zn_newa (fun _ _ => hZ _ _ _ _ _ _ _)
      · split
        · intro h; cases h
        · split
          · intro h; cases h
          · refine zn_bif ?_
            intro h0
            split at h0
            · cases h0
            · rename_i hc
              rw [hZ _ _ _ _ _ _ _ hc]
              exact hZ _ _ _ _ _ _ _ h0
            · rename_i hc
              rw [hZ _ _ _ _ _ _ _ hc]
              simp only
              split at h0
              · exact h0
              · exact zn_st (fun _ => hZ _ _ _ _ _ _ _) h0
      · exact id
      · exact id
      · exact zn_bif (zn_cp (fun _ _ => hZ _ _ _ _ _ _ _))
      · exact hZ _ _ _ _ _ _ _
      · exact hZ _ _ _ _ _ _ _
      · intro h0
        revert h0
        cases Nat.beq _ 0
        · exact hZ _ _ _ _ _ _ _
        · exact hZ _ _ _ _ _ _ _
      · split
        · exact zn_bif (hZ _ _ _ _ _ _ _)
        · intro h; cases h
      · exact hZ _ _ _ _ _ _ _
      · split
        · refine zn_bif ?_
          cases Nat.beq _ 0
          · exact hZ _ _ _ _ _ _ _
          · exact hZ _ _ _ _ _ _ _
        · intro h; cases h
      · exact zn_storeN (fun _ _ => hZ _ _ _ _ _ _ _)
      · exact id
theorem zn_run {P : Nat → Option zM} {Cd : List (List Value)} {E : zX} : ∀ (n d M pc : Nat) (L : zL) (st : List Value) (h : zH) (r : zO × zH), zrun P Cd E n d M pc L st h = some r → zrun P Cd E (n + 1) d M pc L st h = some r := by
  intro n
  induction n with
  | zero => intro d M pc L st h r hr; cases hr
  | succ n ih => intro d M pc L st h r hr; exact zn_step ih hr
theorem zn_le {P : Nat → Option zM} {Cd : List (List Value)} {E : zX} {n n' : Nat} (hn : n ≤ n') {d M pc : Nat} {L : zL} {st : List Value} {h : zH} {r : zO × zH} (hr : zrun P Cd E n d M pc L st h = some r) : zrun P Cd E n' d M pc L st h = some r := by
  induction hn with
  | refl => exact hr
  | step _ ih => exact zn_run _ _ _ _ _ _ _ _ ih
end ZMON
/-- the run from here ends with r -/
def zT (E : zX) (d M pc : Nat) (L : zL) (st : List Value) (h : zH) (r : zO × zH) : Prop := ∃ n, zrun zP zCd E n d M pc L st h = some r
section ZTR
variable {E : zX} {d M pc pc' : Nat} {L L' : zL} {st st' : List Value} {h h' : zH} {r : zO × zH}
/-- k instructions on -/
theorem zT_st (k : Nat) (hk : ∀ n, zrun zP zCd E (n + k) d M pc L st h = zrun zP zCd E n d M pc' L' st' h') (ht : zT E d M pc' L' st' h' r) : zT E d M pc L st h r := by
  obtain ⟨n, hn⟩ := ht
  exact ⟨n + k, by rw [hk]; exact hn⟩
/-- the end -/
theorem zT_ret (k : Nat) (hk : zrun zP zCd E k d M pc L st h = some r) : zT E d M pc L st h r := ⟨k, hk⟩
/-- a call that returns -/
theorem zT_call (k : Nat) {d1 M' : Nat} {La : zL} {rest : List Value} {v : Option Value} {h1 : zH} {c : Bool} {X : Nat → Nat → zH → zR}
    (hk : ∀ n, zrun zP zCd E (n + k) d M pc L st h = (bif c then (match zrun zP zCd E n d1 M' 0 La [] h with
      | none => none
      | some (.inl v, h1) => zrun zP zCd E n d M pc' L (v.toList ++ rest) h1
      | some (.inr x, h1) => X n x h1) else none))
    (hc : c = true) (hF : zT E d1 M' 0 La [] h (.inl v, h1)) (hG : zT E d M pc' L (v.toList ++ rest) h1 r) : zT E d M pc L st h r := by
  obtain ⟨a, ha⟩ := hF
  obtain ⟨b, hb⟩ := hG
  refine ⟨(a + b) + k, ?_⟩
  rw [hk, hc, zn_le (Nat.le_add_right a b) ha]
  exact zn_le (Nat.le_add_left b a) hb
/-- a call that throws, and nothing catches it here -/
theorem zT_callX (k : Nat) {d1 M' : Nat} {La : zL} {x : Nat} {h1 : zH} {c : Bool} {G : Nat → Option Value → zH → zR}
    (hk : ∀ n, zrun zP zCd E (n + k) d M pc L st h = (bif c then (match zrun zP zCd E n d1 M' 0 La [] h with
      | none => none
      | some (.inl v, h1) => G n v h1
      | some (.inr x, h1) => some (.inr x, h1)) else none))
    (hc : c = true) (hF : zT E d1 M' 0 La [] h (.inr x, h1)) : zT E d M pc L st h (.inr x, h1) := by
  obtain ⟨a, ha⟩ := hF
  refine ⟨a + k, ?_⟩
  rw [hk, hc, ha]
  rfl
end ZTR
/-! the heap: fields and rows -/
def fld (h : zH) (o ci k : Nat) : Option Value := match h.1[o]? with
  | some (.inr q) => bif Nat.beq q.1 ci then q.2[k]? else none
  | _ => none
def arr (h : zH) (a : Nat) : Option (Nat × (Nat → Int32)) := match h.1[a]? with
  | some (.inl (0, n, .inl f)) => some (n, f)
  | _ => none
/-- an object of this class -/
def isO (h : zH) (o ci : Nat) : Bool := match h.1[o]? with
  | some (.inr q) => Nat.beq (q.1 + 1) (ci + 1)
  | _ => false
def setA (h : zH) (a n : Nat) (f : Nat → Int32) : zH := (h.1.set a (.inl (0, n, .inl f)), h.2)
def setF (h : zH) (o k : Nat) (v : Value) : zH := match h.1[o]? with
  | some (.inr q) => (h.1.set o (.inr (q.1, q.2.set k v)), h.2)
  | _ => h
theorem fld_eq {E : zX} {h : zH} {o ci k : Nat} {v : Value} (e : fld h o ci k = some v) (K : Value → zR) : zgf E h (.ref o) ci k K = K v := by
  unfold fld at e
  unfold zgf
  split at e
  · rename_i q hq
    simp only [hq]
    cases hb : Nat.beq q.1 ci with
    | true =>
      rw [hb] at e
      simp only [cond_true] at e ⊢
      rw [e]
    | false => rw [hb] at e; cases e
  · cases e
theorem arr_eq {E : zX} {h : zH} {a n : Nat} {f : Nat → Int32} {i : Int32} (e : arr h a = some (n, f)) (hi : ¬ (i < 0 ∨ n ≤ i.toNatClampNeg)) (r : List Value) (K : List Value → zR) : zald .iaload E h (.int i :: .ref a :: r) K = K (.int (f i.toNatClampNeg) :: r) := by
  unfold arr at e
  unfold zald
  split at e
  · rename_i n' f' hq
    cases e
    simp only [hq]
    rw [if_neg hi]
  · cases e
theorem set_eq {h : zH} {a n : Nat} {f : Nat → Int32} {i x : Int32} (e : arr h a = some (n, f)) (hi : ¬ (i < 0 ∨ n ≤ i.toNatClampNeg)) (r : List Value) (K : List Value → zH → zR) : zast .iastore h (.int x :: .int i :: .ref a :: r) K = K r (setA h a n (upd f i.toNatClampNeg x)) := by
  unfold arr at e
  unfold zast
  split at e
  · rename_i n' f' hq
    cases e
    simp only [hq]
    rw [if_neg hi]
    rfl
  · cases e
theorem len_eq {E : zX} {h : zH} {a n : Nat} {f : Nat → Int32} (e : arr h a = some (n, f)) (r : List Value) (K : List Value → zR) : zlenA E h (.ref a :: r) K = K (.int (Int32.ofNat n) :: r) := by
  unfold arr at e
  unfold zlenA
  split at e
  · rename_i n' f' hq
    cases e
    simp only [hq]
    rfl
  · cases e
theorem put_eq {h : zH} {o ci k t : Nat} {v w : Value} (e : fld h o ci k = some w) (ht : zfw t v = true) (r : List Value) (K : List Value → zH → zR) : zpf h (v :: .ref o :: r) ci k t K = K r (setF h o k v) := by
  unfold fld at e
  unfold zpf setF
  split at e
  · rename_i q hq
    simp only [hq]
    cases hb : Nat.beq q.1 ci with
    | true =>
      rw [hb] at e
      simp only [cond_true] at e
      have hk : Nat.blt k q.2.length = true := by
        have := (List.getElem?_eq_some_iff.mp e).1
        simpa using this
      simp only [hk, ht, Bool.and_true, cond_true]
    | false => rw [hb] at e; cases e
  · cases e
/-! words of the rows that are written by program -/
def zushr (x y : Int32) : Int32 := (x.toUInt32 >>> (y.toUInt32 &&& Int32.toUInt32 31)).toInt32
def zrem (x y : Int32) : Int32 := x - x / y * y
def zmin (x y : Int32) : Int32 := if y < x then y else x
def zmax (x y : Int32) : Int32 := if x < y then y else x
def zi2b (x : Int32) : Int32 := x.toInt8.toInt32
def zi2c (x : Int32) : Int32 := (x.toUInt32 % 65536).toInt32
theorem cp_eq {h : zH} {a0 a n0 n1 : Nat} {f g : Nat → Int32} {sp dp n : Int32} (e0 : arr h a0 = some (n0, f)) (e1 : arr h a = some (n1, g)) (hi : ¬ ((sp < 0 ∨ dp < 0 ∨ n < 0) ∨ (n0 < sp.toNatClampNeg + n.toNatClampNeg ∨ n1 < dp.toNatClampNeg + n.toNatClampNeg))) (r : List Value) (K : List Value → zH → zR) :
    zcp h (.int n :: .int dp :: .ref a :: .int sp :: .ref a0 :: r) K = K r (setA h a n1 (va_cpy f g sp.toNatClampNeg dp.toNatClampNeg n.toNatClampNeg)) := by
  unfold arr at e0 e1
  unfold zcp
  split at e0
  · rename_i n' f' hq
    cases e0
    split at e1
    · rename_i n'' f'' hq'
      cases e1
      simp only [hq, hq']
      rw [if_neg hi]
      rfl
    · cases e1
  · cases e0
theorem zsw_in {ins : Instr} {pc : Nat} {x c : Int32} {k : Nat} {r : List Value} {K : Nat → List Value → zR} {z : zR} (hx : x = c) (h : zsw ins pc (.int c :: r) K = z) : zsw ins pc (.int x :: r) K = z := by rw [hx]; exact h
theorem zsw_out {dflt lo hi : Int} {offs : Array Int} {pc t : Nat} {x : Int32} {r : List Value} {K : Nat → List Value → zR} (hx : x.toInt < lo ∨ hi < x.toInt) (ht : (pc : Int) + dflt = (t : Int)) : zsw (.tableswitch dflt lo hi offs) pc (.int x :: r) K = K t r := by
  unfold zsw
  simp only
  rw [if_pos hx, ht, if_pos (Int.natCast_nonneg t)]
  rfl
theorem zout {x : Int32} {n : Nat} (hn : n < 1000) (h : ∀ k, k < n → ¬ x = Int32.ofNat k) : x.toInt < 0 ∨ ((n : Int) - 1) < x.toInt := by
  by_cases h0 : x.toInt < 0
  · exact Or.inl h0
  · refine Or.inr ?_
    by_cases h1 : ((n : Int) - 1) < x.toInt
    · exact h1
    · exfalso
      have hlt : x.toInt.toNat < n := by omega
      refine h _ hlt (Int32.toInt_inj.mp ?_)
      have e : (Int32.ofNat x.toInt.toNat).toInt = (x.toInt.toNat : Int) := nI_toInt (by omega)
      rw [e]
      omega
/-! rows of booleans, of longs; texts and rows outside; a throw that is caught -/
def arZ (h : zH) (a : Nat) : Option (Nat × (Nat → Int32)) := match h.1[a]? with
  | some (.inl (2, n, .inl f)) => some (n, f)
  | _ => none
def arL (h : zH) (a : Nat) : Option (Nat × (Nat → Int64)) := match h.1[a]? with
  | some (.inl (1, n, .inr (.inl f))) => some (n, f)
  | _ => none
def setZ (h : zH) (a n : Nat) (f : Nat → Int32) : zH := (h.1.set a (.inl (2, n, .inl f)), h.2)
def setL (h : zH) (a n : Nat) (f : Nat → Int64) : zH := (h.1.set a (.inl (1, n, .inr (.inl f))), h.2)
def txt (E : zX) (u : UInt32) : Option UInt32 := match E[u.toNat]? with
  | some (.inl j) => some j
  | _ => none
/-- a row outside: 0 ints, 3 bytes -/
def out (E : zX) (u : UInt32) : Option (Nat × Nat × (Nat → Int32)) := match E[u.toNat]? with
  | some (.inr x) => some x
  | _ => none
def isT (E : zX) (u : UInt32) : Bool := match E[u.toNat]? with
  | some (.inl _) => true
  | _ => false
theorem arZ_eq {E : zX} {h : zH} {a n : Nat} {f : Nat → Int32} {i : Int32} (e : arZ h a = some (n, f)) (hi : ¬ (i < 0 ∨ n ≤ i.toNatClampNeg)) (r : List Value) (K : List Value → zR) : zald .baload E h (.int i :: .ref a :: r) K = K (.int (f i.toNatClampNeg) :: r) := by
  unfold arZ at e
  unfold zald
  split at e
  · rename_i n' f' hq
    cases e
    simp only [hq]
    rw [if_neg hi]
  · cases e
theorem arL_eq {E : zX} {h : zH} {a n : Nat} {f : Nat → Int64} {i : Int32} (e : arL h a = some (n, f)) (hi : ¬ (i < 0 ∨ n ≤ i.toNatClampNeg)) (r : List Value) (K : List Value → zR) : zald .laload E h (.int i :: .ref a :: r) K = K (.long (f i.toNatClampNeg) :: r) := by
  unfold arL at e
  unfold zald
  split at e
  · rename_i n' f' hq
    cases e
    simp only [hq]
    rw [if_neg hi]
  · cases e
theorem seZ_eq {h : zH} {a n : Nat} {f : Nat → Int32} {i x : Int32} (e : arZ h a = some (n, f)) (hi : ¬ (i < 0 ∨ n ≤ i.toNatClampNeg)) (hx : (x == 0 || x == 1) = true) (r : List Value) (K : List Value → zH → zR) : zast .bastore h (.int x :: .int i :: .ref a :: r) K = K r (setZ h a n (upd f i.toNatClampNeg x)) := by
  unfold arZ at e
  unfold zast
  split at e
  · rename_i n' f' hq
    cases e
    simp only [hq]
    rw [if_neg hi, hx]
    rfl
  · cases e
theorem seL_eq {h : zH} {a n : Nat} {f : Nat → Int64} {i : Int32} {x : Int64} (e : arL h a = some (n, f)) (hi : ¬ (i < 0 ∨ n ≤ i.toNatClampNeg)) (r : List Value) (K : List Value → zH → zR) : zast .lastore h (.long x :: .int i :: .ref a :: r) K = K r (setL h a n (vp_updL f i.toNatClampNeg x)) := by
  unfold arL at e
  unfold zast
  split at e
  · rename_i n' f' hq
    cases e
    simp only [hq]
    rw [if_neg hi]
    rfl
  · cases e
theorem txtV_eq {E : zX} {h : zH} {u j : UInt32} (e : txt E u = some j) (K : Value → zR) : zgf E h (.float u) 100 0 K = K (.float j) := by
  unfold txt at e
  unfold zgf
  split at e
  · rename_i q hq
    cases e
    simp only [hq]
    rfl
  · cases e
theorem txtC_eq {E : zX} {h : zH} {u : UInt32} (e : isT E u = true) (K : Value → zR) : zgf E h (.float u) 100 1 K = K (.int 0) := by
  unfold isT at e
  unfold zgf
  split at e
  · rename_i q hq
    simp only [hq]
    rfl
  · cases e
theorem outB_eq {E : zX} {h : zH} {u : UInt32} {n : Nat} {f : Nat → Int32} {i : Int32} (e : out E u = some (3, n, f)) (hi : ¬ (i < 0 ∨ n ≤ i.toNatClampNeg)) (r : List Value) (K : List Value → zR) : zald .baload E h (.int i :: .float u :: r) K = K (.int (f i.toNatClampNeg) :: r) := by
  unfold out at e
  unfold zald
  split at e
  · rename_i q hq
    cases e
    simp only [hq]
    rw [if_neg hi]
  · cases e
theorem outI_eq {E : zX} {h : zH} {u : UInt32} {n : Nat} {f : Nat → Int32} {i : Int32} (e : out E u = some (0, n, f)) (hi : ¬ (i < 0 ∨ n ≤ i.toNatClampNeg)) (r : List Value) (K : List Value → zR) : zald .iaload E h (.int i :: .float u :: r) K = K (.int (f i.toNatClampNeg) :: r) := by
  unfold out at e
  unfold zald
  split at e
  · rename_i q hq
    cases e
    simp only [hq]
    rw [if_neg hi]
  · cases e
theorem outL_eq {E : zX} {h : zH} {u : UInt32} {t n : Nat} {f : Nat → Int32} (e : out E u = some (t, n, f)) (ht : (Nat.beq t 0 || Nat.beq t 3) = true) (r : List Value) (K : List Value → zR) : zlenA E h (.float u :: r) K = K (.int (Int32.ofNat n) :: r) := by
  unfold out at e
  unfold zlenA
  split at e
  · rename_i q hq
    cases e
    simp only [hq]
    rw [ht]
    rfl
  · cases e
theorem zT_callH (k : Nat) {E : zX} {d M pc pc' : Nat} {L L' : zL} {st : List Value} {h : zH} {r : zO × zH} {d1 M' : Nat} {La : zL} {x : Nat} {h1 : zH} {c : Bool} {G : Nat → Option Value → zH → zR} {X : Nat → Nat → zH → zR}
    (hk : ∀ n, zrun zP zCd E (n + k) d M pc L st h = (bif c then (match zrun zP zCd E n d1 M' 0 La [] h with
      | none => none
      | some (.inl v, h1) => G n v h1
      | some (.inr x, h1) => X n x h1) else none))
    (hc : c = true) (hX : ∀ n, X n x h1 = zrun zP zCd E n d M pc' L' [] h1) (hF : zT E d1 M' 0 La [] h (.inr x, h1)) (hG : zT E d M pc' L' [] h1 r) : zT E d M pc L st h r := by
  obtain ⟨a, ha⟩ := hF
  obtain ⟨b, hb⟩ := hG
  refine ⟨(a + b) + k, ?_⟩
  rw [hk, hc, zn_le (Nat.le_add_right a b) ha]
  show X (a + b) x h1 = some r
  rw [hX]
  exact zn_le (Nat.le_add_left b a) hb
theorem zoutG {x : Int32} {lo hi : Int} {n : Nat} (h0 : -1000 ≤ lo) (h1 : lo + (n : Int) = hi + 1) (h2 : hi < 1000) (h : ∀ k, k < n → ¬ x = Int32.ofInt (lo + (k : Int))) : x.toInt < lo ∨ hi < x.toInt := by
  by_cases ha : x.toInt < lo
  · exact Or.inl ha
  · refine Or.inr ?_
    by_cases hb : hi < x.toInt
    · exact hb
    · exfalso
      refine h (x.toInt - lo).toNat (by omega) ?_
      rw [show lo + ((x.toInt - lo).toNat : Int) = x.toInt by omega]
      exact (Int32.ofInt_toInt x).symm

/-! SOUNDNESS, piece by piece: the heap -/
def z_c (b : Nat) (ex : Nat → Value) (cA : Nat → ClassId) : zC → va_E
  | .inl a => .inl (cA a.1, a.2)
  | .inr o => .inr (o.1, o.2.map (z_v b ex))
def z_ws (b : Nat) (ex : Nat → Value) (cA : Nat → ClassId) (h : List zC) : va_W := h.mapIdx (fun k q => (b + k, z_c b ex cA q))
def z_A (b : Nat) : Nat → Prop := fun q => b ≤ q
def z_tys (cA : Nat → ClassId) : List (ClassId × FieldType) := [(cA 0, .int), (cA 1, .long), (cA 2, .boolean)]
theorem z_ws_get {b : Nat} {ex : Nat → Value} {cA : Nat → ClassId} {h : List zC} {k : Nat} {q : zC} (hk : h[k]? = some q) : (z_ws b ex cA h)[k]? = some (b + k, z_c b ex cA q) := by
  unfold z_ws
  rw [List.getElem?_mapIdx, hk]
  rfl
theorem z_ws_of {b : Nat} {ex : Nat → Value} {cA : Nat → ClassId} {h : List zC} {k : Nat} {x : Nat × va_E} (hk : (z_ws b ex cA h)[k]? = some x) : ∃ q, h[k]? = some q ∧ x = (b + k, z_c b ex cA q) := by
  unfold z_ws at hk
  rw [List.getElem?_mapIdx] at hk
  cases hq : h[k]? with
  | none => rw [hq] at hk; cases hk
  | some q =>
    rw [hq] at hk
    cases hk
    exact ⟨q, rfl, rfl⟩
theorem z_ws_len {b : Nat} {ex : Nat → Value} {cA : Nat → ClassId} (h : List zC) : (z_ws b ex cA h).length = h.length := by
  unfold z_ws
  rw [List.length_mapIdx]
theorem z_ws_set {b : Nat} {ex : Nat → Value} {cA : Nat → ClassId} (h : List zC) (k : Nat) (q : zC) : z_ws b ex cA (h.set k q) = (z_ws b ex cA h).set k (b + k, z_c b ex cA q) := by
  unfold z_ws
  rw [List.mapIdx_set]
theorem z_ws_app {b : Nat} {ex : Nat → Value} {cA : Nat → ClassId} (h : List zC) (q : zC) : z_ws b ex cA (h ++ [q]) = z_ws b ex cA h ++ [(b + h.length, z_c b ex cA q)] := by
  unfold z_ws
  rw [List.mapIdx_concat]
theorem z_D {b : Nat} {ex : Nat → Value} {cA : Nat → ClassId} {h : List zC} : va_D (z_A b) (z_ws b ex cA h) := by
  constructor
  · intro i j p q hi hj hpq
    obtain ⟨x, -, rfl⟩ := z_ws_of hi
    obtain ⟨y, -, rfl⟩ := z_ws_of hj
    have : b + i = b + j := hpq
    omega
  · intro k q hk
    obtain ⟨x, -, rfl⟩ := z_ws_of hk
    exact Nat.le_add_right b k
def zsz : zC → Nat
  | .inl a => a.2.1
  | .inr o => o.2.length
/-- how many fields and elements all cells have -/
def zsm (h : List zC) : Nat := (h.map zsz).sum
theorem zsm_set {q q' : zC} (hz : zsz q' = zsz q) : ∀ (h : List zC) (k : Nat), h[k]? = some q → zsm (h.set k q') = zsm h
  | [], k, hk => by simp at hk
  | a :: t, 0, hk => by
    simp only [List.getElem?_cons_zero, Option.some.injEq] at hk
    subst hk
    simp only [zsm, List.set_cons_zero, List.map_cons, List.sum_cons, hz]
  | a :: t, k + 1, hk => by
    simp only [List.getElem?_cons_succ] at hk
    have := zsm_set hz t k hk
    simp only [zsm, List.set_cons_succ, List.map_cons, List.sum_cons] at this ⊢
    rw [this]
theorem zsm_setk {q q' : zC} {h : List zC} {k : Nat} (hk : h[k]? = some q) (hz : zsz q' = zsz q) : zsm (h.set k q') = zsm h := zsm_set hz h k hk
theorem zsm_app (h : List zC) (q : zC) : zsm (h ++ [q]) = zsm h + zsz q := by
  simp only [zsm, List.map_append, List.sum_append, List.map_cons, List.map_nil, List.sum_cons, List.sum_nil, Nat.add_zero]
theorem z_bif {x : Bool} {a : zR} {r : zO × zH} (h : (bif x then a else none) = some r) : x = true ∧ a = some r := by
  cases x
  · cases h
  · exact ⟨rfl, h⟩
/-- what lies outside: texts and arrays, never written -/
def z_E (E : zX) (ex : Nat → Value) (A : Nat → Prop) (U : State) (H : Heap) : Prop := ∀ (i : Nat) (q : UInt32 ⊕ (Nat × Nat × (Nat → Int32))), E[i]? = some q → match q with
  | .inl j => ∃ a t : Nat, ex i = .ref a ∧ ex j.toNat = .ref t ∧ va_O "java/lang/String" a A U H ∧ va_OF "java/lang/String" "coder" "B" (.int 0) a A U H ∧ va_OF "java/lang/String" "value" "[B" (.ref t) a A U H
  | .inr x => ∃ a : Nat, ex i = .ref a ∧ va_T (if x.1 = 0 then .int else .byte) a x.2.1 (fun j => .int (x.2.2 j)) A U H
def z_okG (cl : List vw_C) (Ts : List Cond) (own : String) (idx ci k : Nat) : Prop :=
  (∃ (C : String) (T : u_T) (N : Nat), cl[ci]? = some (C, T, N) ∧ k < N ∧ (∀ w ∈ u_ws C T N, w ∈ Ts) ∧ Cond.fieldLink own idx (T k).1 (T k).2.1 (T k).2.2.1 ∈ Ts) ∨
  (ci = 100 ∧ ((k = 0 ∧ Cond.fieldLink own idx "java/lang/String" "value" "[B" ∈ Ts) ∨ (k = 1 ∧ Cond.fieldLink own idx "java/lang/String" "coder" "B" ∈ Ts)))
section ZH
variable {p : Program} {l : Launch} {e : Env} {R : Room} {s : State} {m : MethodId} {args : Array Value} {below : List Frame} {meth : Method} {c : Code} {H : Heap} {locs : List Loc} {cells slots : Nat} {Q : State → Prop}
variable {cc : ByteArray} {pc : Nat} {ls : Array Slot} {b : Nat} {ex : Nat → Value} {cA : Nat → ClassId} {D : va_G} {cl : List vw_C} {E : zX} {Ts : List Cond} {own : String} {st : List Value} {h : zH} {r : zO × zH}
set_option maxHeartbeats 4000000 in
theorem zs_get (hx : p.tables.exec = Jvm.exec) (hb : c.code = cc) (hts : ∀ w ∈ Ts, w.before args s = true) (hown : s.vm.findClass own = some m.cls) (hK : va_K D cl (z_tys cA) s) (hP : va_P D cl (z_ws b ex cA h.1) H) (hS : va_S (z_A b) s.heap H locs) (hE : z_E E ex (z_A b) s s.heap) (hcl : cl[100]? = none)
    {idx ci k : Nat} (hok : z_okG cl Ts own idx ci k) (hd : decode cc pc = .ok (.getfield idx, 3)) {v : Value} {K : Value → zR} (h0 : zgf E h v ci k K = some r)
    (kk : ∀ w, K w = some r → W p l e R s m args below meth c H locs cells slots Q (F0 m (pc + 3) ls ((w :: st).map (z_v b ex)))) : W p l e R s m args below meth c H locs cells slots Q (F0 m pc ls ((v :: st).map (z_v b ex))) := by
  unfold zgf at h0
  split at h0
  · rename_i a
    split at h0
    · rename_i o ho
      have hz := z_bif h0
      clear h0
      obtain ⟨h1, h0⟩ := hz
      have h1 : o.1 = ci := Nat.eq_of_beq_eq_true h1
      subst h1
      split at h0
      · rename_i w hw
        have hg := z_ws_get (b := b) (ex := ex) (cA := cA) ho
        rcases hok with ⟨C, T, N, hc, hk, hin, hl⟩ | ⟨h1, -⟩
        · refine va_get hx hb hts hin hown hK hP a hg hc k hk (hts _ hl) (fun _ h9 => h9) (v := z_v b ex w) ?_ hd (kk w h0)
          rw [List.getElem?_map, hw]
          rfl
        · exfalso
          obtain ⟨r9, h2, -⟩ := hP a _ hg
          rw [h1, hcl] at h2
          cases h2
      · cases h0
    · cases h0
  · rename_i i
    split at h0
    · rename_i j hj
      have hz := z_bif h0
      clear h0
      obtain ⟨h1, h0⟩ := hz
      have h1 : ci = 100 := Nat.eq_of_beq_eq_true h1
      subst h1
      obtain ⟨a, t, e1, e2, -, hco, hva⟩ := hE _ _ hj
      have e3 : z_v b ex (.float i) = .ref a := e1
      rcases hok with ⟨C, T, N, hc, -⟩ | ⟨-, ⟨rfl, hl⟩ | ⟨rfl, hl⟩⟩
      · rw [hcl] at hc; cases hc
      · have h2 := kk _ h0
        simp only [List.map] at h2 ⊢
        have e4 : z_v b ex (.float j) = .ref t := e2
        rw [e4] at h2
        rw [e3]
        exact vk_getf hx hb hva hS hown (hts _ hl) (fun _ h9 => h9) hd h2
      · have h2 := kk _ h0
        simp only [List.map] at h2 ⊢
        rw [e3]
        exact vk_getf hx hb hco hS hown (hts _ hl) (fun _ h9 => h9) hd h2
    · cases h0
  · cases h0
/-- the kind of a field's type -/
def z_kd (t : Nat) (ty : FieldType) : Bool := match t, ty with
  | 0, .int => true
  | 1, .long => true
  | 2, .boolean => true
  | 3, .object _ => true
  | 3, .array _ => true
  | _, _ => false
theorem z_fit {t : Nat} {ty : FieldType} {v : Value} (h1 : z_kd t ty = true) (h2 : zfw t v = true) : narrow ty (z_v b ex v) = z_v b ex v ∧ fits ty (z_v b ex v) = true := by
  unfold zfw at h2
  split at h2
  · cases ty <;> simp [z_kd] at h1
    exact ⟨rfl, rfl⟩
  · cases ty <;> simp [z_kd] at h1
    exact ⟨rfl, rfl⟩
  · cases ty <;> simp [z_kd] at h1
    rename_i x
    simp only [Bool.or_eq_true, beq_iff_eq] at h2
    rcases h2 with rfl | rfl
    · exact ⟨rfl, rfl⟩
    · exact ⟨rfl, rfl⟩
  · cases ty <;> simp [z_kd] at h1
    · exact ⟨rfl, rfl⟩
    · exact ⟨rfl, rfl⟩
  · cases h2
def z_okP (cl : List vw_C) (Ts : List Cond) (own nm : String) (idx ci k t : Nat) : Prop :=
  ∃ (C : String) (T : u_T) (N : Nat) (ty0 : Nat → FieldType), cl[ci]? = some (C, T, N) ∧ k < N ∧ (∀ w ∈ u_ws C T N, w ∈ Ts) ∧ Cond.fieldLink own idx (T k).1 (T k).2.1 (T k).2.2.1 ∈ Ts ∧
    (∀ k, k < N → parseFieldDescriptor (T k).2.2.1 = some (ty0 k)) ∧ (∀ a, a < N → ∀ b, b < N → a ≠ b → (T a).2.1 ≠ (T b).2.1) ∧ z_kd t (ty0 k) = true ∧ ((T k).2.2.2 = false ∨ ((T k).2.2.2 = true ∧ nm = "<init>" ∧ (T k).1 = own))
set_option maxHeartbeats 4000000 in
theorem zs_put (hx : p.tables.exec = Jvm.exec) (hb : c.code = cc) (hts : ∀ w ∈ Ts, w.before args s = true) (hown : s.vm.findClass own = some m.cls) (hK : va_K D cl (z_tys cA) s) (hP : va_P D cl (z_ws b ex cA h.1) H) (hS : va_S (z_A b) s.heap H locs)
    {idx ci k t : Nat} (hok : z_okP cl Ts own meth.name idx ci k t) (hd : decode cc pc = .ok (.putfield idx, 3)) {K : List Value → zH → zR} (h0 : zpf h st ci k t K = some r)
    (kk : ∀ st1 h1 H1 locs1, K st1 h1 = some r → h1.2 = h.2 → (zsm h1.1 = zsm h.1 ∧ h1.1.length = h.1.length) → va_P D cl (z_ws b ex cA h1.1) H1 → va_S (z_A b) s.heap H1 locs1 → W p l e R s m args below meth c H1 locs1 cells slots Q (F0 m (pc + 3) ls (st1.map (z_v b ex)))) : W p l e R s m args below meth c H locs cells slots Q (F0 m pc ls (st.map (z_v b ex))) := by
  unfold zpf at h0
  split at h0
  · rename_i v a r0
    split at h0
    · rename_i o ho
      have hz := z_bif h0
      clear h0
      obtain ⟨h1, h0⟩ := hz
      simp only [Bool.and_eq_true] at h1
      obtain ⟨⟨h1, h2⟩, h3⟩ := h1
      have h1 : o.1 = ci := Nat.eq_of_beq_eq_true h1
      have h2 : k < o.2.length := by simpa using h2
      subst h1
      have hg := z_ws_get (b := b) (ex := ex) (cA := cA) ho
      obtain ⟨C, T, N, ty0, hc, hk, hin, hl, hty, hnm, hkd, hfin⟩ := hok
      obtain ⟨f1, f2⟩ := z_fit (b := b) (ex := ex) hkd h3
      have hln : k < (o.2.map (z_v b ex)).length := by rw [List.length_map]; exact h2
      have go : ∀ (H1 : Heap) (locs1 : List Loc), va_P D cl ((z_ws b ex cA h.1).set a (b + a, .inr (o.1, (o.2.map (z_v b ex)).set k (z_v b ex v)))) H1 → va_D (z_A b) ((z_ws b ex cA h.1).set a (b + a, .inr (o.1, (o.2.map (z_v b ex)).set k (z_v b ex v)))) → va_S (z_A b) s.heap H1 locs1 → W p l e R s m args below meth c H1 locs1 cells slots Q (F0 m (pc + 3) ls (r0.map (z_v b ex))) := by
        intro H1 locs1 q1 q2 q3
        refine kk r0 (h.1.set a (.inr (o.1, o.2.set k v)), h.2) H1 locs1 h0 rfl ⟨zsm_setk ho (by simp only [zsz, List.length_set]), by simp only [List.length_set]⟩ ?_ q3
        show va_P D cl (z_ws b ex cA (List.set _ _ _)) H1
        rw [z_ws_set]
        show va_P D cl ((z_ws b ex cA h.1).set a (b + a, .inr (o.1, (o.2.set k v).map (z_v b ex)))) H1
        rw [List.map_set]
        exact q1
      rcases hfin with hf | ⟨hf, hi, hown2⟩
      · exact va_put hx hb hts hin ty0 hty hnm hown hK hP z_D hS a hg hc k hk (hts _ hl) (fun _ h9 => h9) hf (hty k hk) f1 f2 hln hd go
      · exact va_putF hx hb hts hin ty0 hty hnm hown hK hP z_D hS a hg hc k hk (hts _ hl) (fun _ h9 => h9) hf hi hown2 (hty k hk) f1 f2 hln hd go
    · cases h0
  · cases h0
theorem z_vin {i : Int32} {n : Nat} (h : ¬ (i < 0 ∨ n ≤ i.toNatClampNeg)) : vp_in i n := h
set_option maxHeartbeats 4000000 in
theorem zs_ald (hx : p.tables.exec = Jvm.exec) (hb : c.code = cc) (hK : va_K D cl (z_tys cA) s) (hP : va_P D cl (z_ws b ex cA h.1) H) (hS : va_S (z_A b) s.heap H locs) (hE : z_E E ex (z_A b) s s.heap)
    {ins : Instr} (hd : decode cc pc = .ok (ins, 1)) {K : List Value → zR} (h0 : zald ins E h st K = some r)
    (kk : ∀ st1, K st1 = some r → W p l e R s m args below meth c H locs cells slots Q (F0 m (pc + 1) ls (st1.map (z_v b ex)))) : W p l e R s m args below meth c H locs cells slots Q (F0 m pc ls (st.map (z_v b ex))) := by
  unfold zald at h0
  split at h0
  · split at h0
    · rename_i ha
      split at h0
      · cases h0
      · exact va_iald hx hb hK hP _ 0 (z_ws_get ha) rfl (z_vin ‹_›) hd (kk _ h0)
    · cases h0
  · rename_i i a r0
    split at h0
    · rename_i n f ha
      split at h0
      · cases h0
      · obtain ⟨q, e1, hT⟩ := hE _ _ ha
        have e3 : z_v b ex (.float a) = .ref q := e1
        have h2 := kk _ h0
        simp only [List.map] at h2 ⊢
        rw [e3]
        exact va_ti hx hb hT hS (z_vin ‹_›) rfl hd h2
    · cases h0
  · split at h0
    · rename_i ha
      split at h0
      · cases h0
      · exact va_lald hx hb hK hP _ 1 (z_ws_get ha) rfl (z_vin ‹_›) hd (kk _ h0)
    · cases h0
  · split at h0
    · rename_i ha
      split at h0
      · cases h0
      · exact va_zald hx hb hK hP _ 2 (z_ws_get ha) rfl (z_vin ‹_›) hd (kk _ h0)
    · cases h0
  · rename_i i a r0
    split at h0
    · rename_i n f ha
      split at h0
      · cases h0
      · obtain ⟨q, e1, hT⟩ := hE _ _ ha
        have e3 : z_v b ex (.float a) = .ref q := e1
        have h2 := kk _ h0
        simp only [List.map] at h2 ⊢
        rw [e3]
        exact va_tb hx hb hT hS (z_vin ‹_›) rfl hd h2
    · cases h0
  · cases h0
theorem z_nar {x : Int32} (h : (x == 0 || x == 1) = true) : vp_nar .boolean x = x := by
  simp only [Bool.or_eq_true, beq_iff_eq] at h
  rcases h with rfl | rfl <;> rfl
set_option maxHeartbeats 4000000 in
theorem zs_ast (hx : p.tables.exec = Jvm.exec) (hb : c.code = cc) (hK : va_K D cl (z_tys cA) s) (hP : va_P D cl (z_ws b ex cA h.1) H) (hS : va_S (z_A b) s.heap H locs)
    {ins : Instr} (hd : decode cc pc = .ok (ins, 1)) {K : List Value → zH → zR} (h0 : zast ins h st K = some r)
    (kk : ∀ st1 h1 H1 locs1, K st1 h1 = some r → h1.2 = h.2 → (zsm h1.1 = zsm h.1 ∧ h1.1.length = h.1.length) → va_P D cl (z_ws b ex cA h1.1) H1 → va_S (z_A b) s.heap H1 locs1 → W p l e R s m args below meth c H1 locs1 cells slots Q (F0 m (pc + 1) ls (st1.map (z_v b ex)))) : W p l e R s m args below meth c H locs cells slots Q (F0 m pc ls (st.map (z_v b ex))) := by
  unfold zast at h0
  split at h0
  · split at h0
    · rename_i ha
      split at h0
      · cases h0
      · refine va_iast hx hb hK hP z_D hS _ 0 (z_ws_get ha) rfl (z_vin ‹_›) hd (fun H1 locs1 q1 q2 q3 => kk _ (_, h.2) H1 locs1 h0 rfl ⟨zsm_setk ha rfl, by simp only [List.length_set]⟩ ?_ q3)
        show va_P D cl (z_ws b ex cA (List.set _ _ _)) H1
        rw [z_ws_set]
        exact q1
    · cases h0
  · split at h0
    · rename_i ha
      split at h0
      · cases h0
      · refine va_last hx hb hK hP z_D hS _ 1 (z_ws_get ha) rfl (z_vin ‹_›) hd (fun H1 locs1 q1 q2 q3 => kk _ (_, h.2) H1 locs1 h0 rfl ⟨zsm_setk ha rfl, by simp only [List.length_set]⟩ ?_ q3)
        show va_P D cl (z_ws b ex cA (List.set _ _ _)) H1
        rw [z_ws_set]
        exact q1
    · cases h0
  · split at h0
    · rename_i ha
      split at h0
      · cases h0
      · obtain ⟨h1, h0⟩ := z_bif h0
        refine va_zast hx hb hK hP z_D hS _ 2 (z_ws_get ha) rfl (z_vin ‹_›) hd (fun H1 locs1 q1 q2 q3 => kk _ (_, h.2) H1 locs1 h0 rfl ⟨zsm_setk ha rfl, by simp only [List.length_set]⟩ ?_ q3)
        show va_P D cl (z_ws b ex cA (List.set _ _ _)) H1
        rw [z_ws_set]
        rw [z_nar h1] at q1
        exact q1
    · cases h0
  · cases h0
theorem zs_len (hx : p.tables.exec = Jvm.exec) (hb : c.code = cc) (hK : va_K D cl (z_tys cA) s) (hP : va_P D cl (z_ws b ex cA h.1) H) (hS : va_S (z_A b) s.heap H locs) (hE : z_E E ex (z_A b) s s.heap)
    (hd : decode cc pc = .ok (.arraylength, 1)) {K : List Value → zR} (h0 : zlenA E h st K = some r)
    (kk : ∀ st1, K st1 = some r → W p l e R s m args below meth c H locs cells slots Q (F0 m (pc + 1) ls (st1.map (z_v b ex)))) : W p l e R s m args below meth c H locs cells slots Q (F0 m pc ls (st.map (z_v b ex))) := by
  unfold zlenA at h0
  split at h0
  · split at h0
    · rename_i x ha
      have hz := z_bif h0
      clear h0
      obtain ⟨h1, h0⟩ := hz
      have h1 : x.1 < 3 := by simpa using h1
      obtain ⟨t, y⟩ := x
      have ht : ∃ ty, (z_tys cA)[t]? = some (cA t, ty) := by
        have : t = 0 ∨ t = 1 ∨ t = 2 := by simp only at h1; omega
        rcases this with rfl | rfl | rfl
        · exact ⟨_, rfl⟩
        · exact ⟨_, rfl⟩
        · exact ⟨_, rfl⟩
      obtain ⟨ty, ht⟩ := ht
      exact va_alen hx hb hK hP _ t (z_ws_get ha) ht rfl hd (kk _ h0)
    · cases h0
  · rename_i a r0
    split at h0
    · rename_i x ha
      have hz := z_bif h0
      clear h0
      obtain ⟨h1, h0⟩ := hz
      obtain ⟨q, e1, hT⟩ := hE _ _ ha
      have e3 : z_v b ex (.float a) = .ref q := e1
      have h2 := kk _ h0
      simp only [List.map] at h2 ⊢
      rw [e3]
      exact va_tlen hx hb hT hS rfl hd h2
    · cases h0
  · cases h0
end ZH

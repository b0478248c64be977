/-! THE WORLD at a method's entry, and what is asked of the tables, an instruction each -/
def z_wb : Cond → Bool
  | .declares _ => true
  | .castable _ _ => true
  | .methodLinkNest _ _ _ _ => true
  | _ => false
theorem z_wb_on {w : Cond} (h : z_wb w = true) : w.onTables = true := by
  unfold z_wb at h
  split at h
  · rfl
  · rfl
  · rfl
  · cases h
theorem z_nw {w : Cond} (hw : z_wb w = true) {s U : State} (hW : s.WarmedH U.vm) (h : va_Nw w s) : va_Nw w U := by
  have hvm := hW.alike
  have tr : ∀ {c : Cond}, c.onTables = true → c.before #[] (s.setVm U.vm) = true → c.before #[] U = true := fun hc h => va_tabs hc (rfl : (s.setVm U.vm).vm = U.vm) h
  unfold z_wb at hw
  split at hw
  · exact tr rfl (by rw [Cond.declares_setVm hvm]; exact h)
  · exact tr rfl (by rw [Cond.castable_setVm hvm]; exact h)
  · exact va_Nw.warmM hW h
  · cases hw
theorem z_E.kept {E : zX} {ex : Nat → Value} {A : Nat → Prop} {U : State} {H H1 : Heap} (h : z_E E ex A U H) (hq : ∀ a : Nat, a < H.size → ¬ A a → H1[a]? = H[a]?) : z_E E ex A U H1 := by
  intro i q hi
  have h1 := h i q hi
  cases q with
  | inl j =>
    obtain ⟨a, t, e1, e2, h2, h3, h4⟩ := h1
    exact ⟨a, t, e1, e2, h2.kept hq, h3.kept hq, h4.kept hq⟩
  | inr x =>
    obtain ⟨a, e1, h2⟩ := h1
    exact ⟨a, e1, h2.kept hq⟩
theorem z_E.moved {E : zX} {ex : Nat → Value} {A : Nat → Prop} {u U : State} {H : Heap} (hvm : u.vm.Alike U.vm) (h : z_E E ex A u H) : z_E E ex A U H := by
  intro i q hi
  have h1 := h i q hi
  cases q with
  | inl j =>
    obtain ⟨a, t, e1, e2, h2, h3, h4⟩ := h1
    exact ⟨a, t, e1, e2, h2.moved hvm, h3.moved hvm, h4.moved hvm⟩
  | inr x =>
    obtain ⟨a, e1, h2⟩ := h1
    exact ⟨a, e1, h2.moved hvm⟩
def z_Wd (b : Nat) (ex : Nat → Value) (cA : Nat → ClassId) (D : va_G) (cl : List vw_C) (E : zX) (SX : List (String × Nat × String × Nat)) (WB : List Cond) (NC : List (String × String)) (fm : Nat) (U : State) : Prop :=
  va_K D cl (z_tys cA) U ∧ z_E E ex (z_A b) U U.heap ∧ va_Z "java/lang/String" "COMPACT_STRINGS" "Z" (.int 1) (z_A b) U U.heap ∧ va_Z "jdk/internal/util/Preconditions" "SIOOBE_FORMATTER" "Ljava/util/function/BiFunction;" (ex fm) (z_A b) U U.heap ∧
  vx_Zq Bundle.tN "UNASSIGNED_STACK" Bundle.steD (z_A b) U U.heap ∧ vx_Zq Bundle.tN "SUPPRESSED_SENTINEL" Bundle.listD (z_A b) U U.heap ∧
  (∀ q ∈ SX, ∃ sa, ex q.2.2.2 = .ref sa ∧ vk_R q.1 q.2.1 q.2.2.1 sa U) ∧ (∀ w ∈ WB, z_wb w = true ∧ va_Nw w U) ∧ (∀ q ∈ NC, va_Nc q.1 q.2 U) ∧ b ≤ U.heap.size
theorem z_Wd.to {b : Nat} {ex : Nat → Value} {cA : Nat → ClassId} {D : va_G} {cl : List vw_C} {E : zX} {SX : List (String × Nat × String × Nat)} {WB : List Cond} {NC : List (String × String)} {fm : Nat} {u U : State}
    (h : z_Wd b ex cA D cl E SX WB NC fm u) (hW : u.WarmedH U.vm) (hz : u.heap.size ≤ U.heap.size) (hk : ∀ q : Nat, q < u.heap.size → ¬ z_A b q → U.heap[q]? = u.heap[q]?) : z_Wd b ex cA D cl E SX WB NC fm U := by
  obtain ⟨h1, h2, h3, h4, h5, h6, h7, h8, h9, h10⟩ := h
  refine ⟨h1.moved hW.alike, (h2.moved hW.alike).kept hk, (h3.moved hW.alike).kept hk, (h4.moved hW.alike).kept hk, (h5.moved hW.alike).kept hk, (h6.moved hW.alike).kept hk, fun q hq => ?_, fun w hw => ⟨(h8 w hw).1, z_nw (h8 w hw).1 hW (h8 w hw).2⟩, fun q hq => (h9 q hq).moved hW.alike, Nat.le_trans h10 hz⟩
  obtain ⟨sa, e1, e2⟩ := h7 q hq
  exact ⟨sa, e1, e2.warm hW⟩
def zEN : Nat → String
  | 0 => "java/util/NoSuchElementException"
  | _ => "java/lang/IllegalArgumentException"
def zcn (h : zH) : Nat := h.1.length + h.2
def zsn (h : zH) : Nat := zsm h.1 + 6 * h.2
def z_room (d mc ms : Nat) : Room := { frames := d, cells := mc, slots := ms, locals := 64 * d }
section ZD
variable (b : Nat) (ex : Nat → Value) (cA : Nat → ClassId) (D : va_G) (cl : List vw_C) (E : zX) (SX : List (String × Nat × String × Nat)) (WB : List Cond) (NC : List (String × String)) (fm : Nat)
def z_Pc (As : List Value) (h : zH) : Array Value → State → Prop := fun v U => v = (As.map (z_v b ex)).toArray ∧ va_P D cl (z_ws b ex cA h.1) U.heap ∧ z_Wd b ex cA D cl E SX WB NC fm U ∧ b + h.1.length ≤ U.heap.size ∧ (h.2 = 0 → U.heap.size = b + h.1.length)
def z_End (h : zH) (st t : State) : Prop := va_P D cl (z_ws b ex cA h.1) t.heap ∧ va_F (z_A b) st t ∧ b + h.1.length ≤ t.heap.size ∧ (h.2 = 0 → t.heap.size = b + h.1.length)
def z_Qc (o : zO) (h : zH) : Array Value → State → Outcome → State → Prop := fun _ st oc t => (∃ v : Option Value, o = .inl v ∧ oc = .returned (v.map (z_v b ex))) ∧ z_End b ex cA D cl h st t
def z_XC (o : zO) (h : zH) : String → State → State → Prop := fun En st t => (∃ x, o = .inr x ∧ zEN x = En) ∧ z_End b ex cA D cl h st t
end ZD
section ZO
variable (P : Nat → Option zM) (Cd : List (List Value)) (SX : List (String × Nat × String × Nat)) (WB : List Cond) (NC : List (String × String)) (fm : Nat) (cl : List vw_C) (Ts : List Cond) (Y : Nat → MethodName) (B : Nat → ByteArray) (HH : Nat → List (Nat × Nat × Nat × Nat))
/-- a call: virtual, static, static with a table, of a constructor -/
def z_okC (M pc r1 r2 r3 : Nat) (ct : zM) : Prop := ∃ idx : Nat, (Y r1).cls ≠ "java/lang/invoke/MethodHandle" ∧ (Y r1).cls ≠ "java/lang/invoke/VarHandle" ∧ Cond.initialized (Y r1).cls ∈ Ts ∧
  ((HH r1 = [] ∧ decode (B M) pc = .ok (.invokevirtual idx, 3) ∧ Cond.methodLink (Y M).cls idx (Y r1) ∈ Ts ∧ Cond.instanceMethod (Y r1) ∈ Ts ∧ (∃ n, r2 = n + 1 ∧ (parseMethodDescriptor (Y r1).desc).map (fun d => d.parameters.length) = some n) ∧
      ∃ C : String, Cond.selects C (Y r1) (Y r1) ∈ Ts ∧ ((r3 = 101 ∧ C = "java/lang/String") ∨ ∃ (q : Nat) (T : u_T) (N : Nat), r3 = q + 1 ∧ q < 90 ∧ cl[q]? = some (C, T, N))) ∨
   (HH r1 = [] ∧ decode (B M) pc = .ok (.invokestatic idx, 3) ∧ Cond.methodLink (Y M).cls idx (Y r1) ∈ Ts ∧ Cond.static (Y r1) ∈ Ts ∧ (parseMethodDescriptor (Y r1).desc).map (fun d => d.parameters.length) = some r2) ∨
   (HH r1 ≠ [] ∧ decode (B M) pc = .ok (.invokestatic idx, 3) ∧ Cond.methodLink (Y M).cls idx (Y r1) ∈ Ts ∧ Cond.static (Y r1) ∈ Ts ∧ (parseMethodDescriptor (Y r1).desc).map (fun d => d.parameters.length) = some r2) ∨
   (HH r1 = [] ∧ decode (B M) pc = .ok (.invokespecial idx, 3) ∧ r3 = 99 ∧ (Y r1).name = "<init>" ∧ ct.2.2.1 = none ∧ Cond.instanceMethod (Y r1) ∈ Ts ∧ (∃ n, r2 = n + 1 ∧ (parseMethodDescriptor (Y r1).desc).map (fun d => d.parameters.length) = some n) ∧
      (Cond.methodLink (Y M).cls idx (Y r1) ∈ Ts ∨ ∃ host, Cond.methodLinkNest (Y M).cls idx (Y r1) host ∈ WB)))
/-- a new exception that is thrown -/
def z_okX (M pc r1 : Nat) : Prop := HH M = [] ∧ ∃ (ik is ic ix : Nat) (bz : ByteArray) (Yn text : String) (names : List String) (i : Nat),
  decode (B M) pc = .ok (.new ik, 3) ∧ decode (B M) (pc + 3) = .ok (.dup, 1) ∧ ((decode (B M) (pc + 4) = .ok (.ldc is, 2) ∧ decode (B M) (pc + 6) = .ok (.invokespecial ic, 3) ∧ decode (B M) (pc + 9) = .ok (.athrow, 1)) ∨ (decode (B M) (pc + 4) = .ok (.ldc_w is, 3) ∧ decode (B M) (pc + 7) = .ok (.invokespecial ic, 3) ∧ decode (B M) (pc + 10) = .ok (.athrow, 1))) ∧
  decode bz 0 = .ok (.aload_n 0, 1) ∧ decode bz 1 = .ok (.aload_n 1, 1) ∧ decode bz 2 = .ok (.invokespecial ix, 3) ∧ decode bz 5 = .ok (.return_, 1) ∧
  Bundle.fit (zEN r1) = true ∧ Bundle.fit Yn = true ∧ (∀ n ∈ names, Bundle.fit n = true) ∧ names.length ≤ 2 ∧ Cond.classLink (Y M).cls ik (zEN r1) ∈ Ts ∧ Cond.initialized (zEN r1) ∈ Ts ∧ ((Y M).cls, is, text, i) ∈ SX ∧
  ∀ w ∈ (z_own (Y M).cls ic (zEN r1) Yn ix bz names).filter vx_no, w ∈ Ts ∨ w ∈ WB
def z_okI (M pc : Nat) (j : zJ) : Prop := match j with
  | (kd, ins, r1, r2, r3) => match kd with
    | 0 => decode (B M) pc = .ok (ins, zlen ins)
    | 1 => decode (B M) pc = .ok (ins, zlen ins)
    | 2 => decode (B M) pc = .ok (ins, zlen ins) ∧ (Y M).name = "spelled"
    | 3 => decode (B M) pc = .ok (ins, zlen ins) ∧ ∀ off : Int, (ins = .goto off ∨ (∃ q, ins = .ifCond q off) ∨ ∃ q, ins = .if_icmp q off) → (pc : Int) + off = (r1 : Int)
    | 4 => ∃ len, decode (B M) pc = .ok (ins, len)
    | 5 => ∃ idx, decode (B M) pc = .ok (.getfield idx, 3) ∧ z_okG cl Ts (Y M).cls idx r1 r2
    | 6 => ∃ idx, decode (B M) pc = .ok (.putfield idx, 3) ∧ z_okP cl Ts (Y M).cls (Y M).name idx r1 r2 r3
    | 7 => decode (B M) pc = .ok (ins, 1)
    | 8 => decode (B M) pc = .ok (ins, 1)
    | 9 => decode (B M) pc = .ok (.arraylength, 1)
    | 10 => ∃ idx, decode (B M) pc = .ok (.new idx, 3) ∧ ∀ fs, Cd[r1]? = some fs → z_okN cl Ts (Y M).cls idx r1 fs
    | 11 => decode (B M) pc = .ok (ins, 2) ∧ ∀ t, ins = .newarray t → Cond.arrayClass (newarray.typeOf t) ∈ Ts
    | 12 => ∀ ct, P r1 = some ct → z_okC WB cl Ts Y B HH M pc r1 r2 r3 ct
    | 13 => decode (B M) pc = .ok (ins, 1)
    | 14 => z_okX SX WB Ts Y B HH M pc r1
    | 15 => ∃ idx, decode (B M) pc = .ok (.invokestatic idx, 3) ∧ Cond.methodLink (Y M).cls idx arraycopyName ∈ Ts ∧ Cond.native arraycopyName ∈ Ts ∧ Cond.static arraycopyName ∈ Ts ∧ Cond.initialized "java/lang/System" ∈ Ts
    | 16 => decode (B M) pc = .ok (ins, zlen ins) ∧ ∃ idx, (ins = .ldc idx ∨ ins = .ldc_w idx) ∧ Cond.constant (Y M).cls idx (Int32.ofNat r1) ∈ Ts
    | 17 => ∃ (idx : Nat) (text : String), ins = .ldc idx ∧ decode (B M) pc = .ok (.ldc idx, 2) ∧ ((Y M).cls, idx, text, (UInt32.ofNat r1).toNat) ∈ SX
    | 18 => ∃ idx, decode (B M) pc = .ok (.getstatic idx, 3) ∧ ((r1 = 0 ∧ Cond.fieldLink (Y M).cls idx "java/lang/String" "COMPACT_STRINGS" "Z" ∈ Ts) ∨ (r1 ≠ 0 ∧ (UInt32.ofNat r2).toNat = fm ∧ Cond.fieldLink (Y M).cls idx "jdk/internal/util/Preconditions" "SIOOBE_FORMATTER" "Ljava/util/function/BiFunction;" ∈ Ts))
    | 19 => ∃ idx, decode (B M) pc = .ok (.invokespecial idx, 3) ∧ Cond.methodLink (Y M).cls idx Lib.objectInit ∈ Ts ∧ Cond.instanceMethod Lib.objectInit ∈ Ts ∧ Cond.code Lib.objectInit ⟨#[0xb1]⟩ 1 none ∈ Ts
    | 20 => ∃ idx, decode (B M) pc = .ok (.ldc2_w idx, 3) ∧ Cond.constantLong (Y M).cls idx (Int64.ofNat r1) ∈ Ts
    | 21 => ∃ idx, decode (B M) pc = .ok (.invokestatic idx, 3) ∧ Cond.initialized "java/lang/Math" ∈ Ts ∧ ((r1 = 0 ∧ Cond.methodLink (Y M).cls idx Lib.Math.min.name ∈ Ts ∧ Cond.static Lib.Math.min.name ∈ Ts ∧ Cond.code Lib.Math.min.name Lib.Math.min.code 2 (some .int) ∈ Ts) ∨ (r1 ≠ 0 ∧ Cond.methodLink (Y M).cls idx Lib.Math.max.name ∈ Ts ∧ Cond.static Lib.Math.max.name ∈ Ts ∧ Cond.code Lib.Math.max.name Lib.Math.max.code 2 (some .int) ∈ Ts))
    | 22 => decode (B M) pc = .ok (ins, zlen ins) ∧ (Y M).name ≠ "spelled"
    | _ => True
def z_cw (M : Nat) (mt : zM) : Cond := match HH M with
  | [] => .code (Y M) (B M) mt.2.1 mt.2.2.1
  | q :: r => .codeWith (Y M) (B M) mt.2.1 mt.2.2.1 (q :: r)
/-- a row of the catching: by the table's rows pre, x; what is thrown is put into a local -/
def z_okH (M pc x lo tg : Nat) : Prop := ∃ (pre : List ExceptionTableEntry) (y : ExceptionTableEntry) (suf : List ExceptionTableEntry) (name : String), tableOf (HH M) = pre ++ y :: suf ∧
  (∀ z ∈ pre, covers z pc = false ∨ (z.catchType ≠ 0 ∧ ∃ nm : String, Cond.classLink (Y M).cls z.catchType nm ∈ Ts ∧ (zEN x, nm) ∈ NC)) ∧ covers y pc = true ∧ y.catchType ≠ 0 ∧ Cond.classLink (Y M).cls y.catchType name ∈ Ts ∧ Cond.castable (zEN x) name ∈ WB ∧
  ((∃ k : Fin 4, decode (B M) y.handlerPc = .ok (.astore_n k, 1) ∧ (k : Nat) = lo ∧ tg = y.handlerPc + 1) ∨ (decode (B M) y.handlerPc = .ok (.astore lo, 2) ∧ tg = y.handlerPc + 2))
def z_okM (M : Nat) (mt : zM) : Prop := plainName (Y M).cls = true ∧ z_cw Y B HH M mt ∈ Ts ∧ mt.2.1 ≤ 40 ∧ (mt.2.2.2 = [] → HH M = []) ∧ (∀ pc x lo tg, zhnd mt.2.2.2 pc x = some (lo, tg) → z_okH WB NC Ts Y B HH M pc x lo tg) ∧
  ∀ (pc : Nat) (j : zJ), zat mt.1 pc = some j → z_okI P Cd SX WB fm cl Ts Y B HH M pc j
end ZO

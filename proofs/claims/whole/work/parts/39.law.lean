def k_law_law (E : zX) (d : Nat) (S : St) (a0 : UInt32) (Q : Int32 → St → Prop) : Prop := wp E d m_law_law 0 [some (.float a0), none, none, none, none, none, none] [] (Hp S) (QI Q)
def k_law_law_23 (E : zX) (d : Nat) (S : St) (a0 : UInt32) (a4 : Nat) (Q : Int32 → St → Prop) : Prop := ∀ (j5 : Option Value) (j6 : Option Value), wp E d m_law_law 23 [some (.float a0), some (.ref 0), some (.ref 65), some (.ref 91), some (.int (nI a4)), j5, j6] [] (Hp S) (QI Q)
def k_law_law_196 (E : zX) (d : Nat) (S : St) (a0 : UInt32) (a4 : Nat) (Q : Int32 → St → Prop) : Prop := ∀ (j5 : Option Value) (j6 : Option Value), wp E d m_law_law 196 [some (.float a0), some (.ref 0), some (.ref 65), some (.ref 91), some (.int (nI a4)), j5, j6] [] (Hp S) (QI Q)
def k_law_law_269 (E : zX) (d : Nat) (S : St) (a0 : UInt32) (a4 : Nat) (Q : Int32 → St → Prop) : Prop := ∀ (j5 : Option Value) (j6 : Option Value), wp E d m_law_law 269 [some (.float a0), some (.ref 0), some (.ref 65), some (.ref 91), some (.int (nI a4)), j5, j6] [] (Hp S) (QI Q)
def k_law_law_325 (E : zX) (d : Nat) (S : St) (a0 : UInt32) (a4 : Nat) (Q : Int32 → St → Prop) : Prop := ∀ (j5 : Option Value) (j6 : Option Value), wp E d m_law_law 325 [some (.float a0), some (.ref 0), some (.ref 65), some (.ref 91), some (.int (nI a4)), j5, j6] [] (Hp S) (QI Q)
def k_law_law_338 (E : zX) (d : Nat) (S : St) (a0 : UInt32) (a4 : Nat) (Q : Int32 → St → Prop) : Prop := ∀ (j5 : Option Value) (j6 : Option Value), wp E d m_law_law 338 [some (.float a0), some (.ref 0), some (.ref 65), some (.ref 91), some (.int (nI a4)), j5, j6] [] (Hp S) (QI Q)
def k_law_law_394 (E : zX) (d : Nat) (S : St) (a0 : UInt32) (a4 : Nat) (Q : Int32 → St → Prop) : Prop := ∀ (j5 : Option Value) (j6 : Option Value), wp E d m_law_law 394 [some (.float a0), some (.ref 0), some (.ref 65), some (.ref 91), some (.int (nI a4)), j5, j6] [] (Hp S) (QI Q)
def k_law_law_462 (E : zX) (d : Nat) (S : St) (a0 : UInt32) (a4 : Nat) (Q : Int32 → St → Prop) : Prop := ∀ (j5 : Option Value) (j6 : Option Value), wp E d m_law_law 462 [some (.float a0), some (.ref 0), some (.ref 65), some (.ref 91), some (.int (nI a4)), j5, j6] [] (Hp S) (QI Q)
def k_law_law_530 (E : zX) (d : Nat) (S : St) (a0 : UInt32) (a4 : Nat) (Q : Int32 → St → Prop) : Prop := ∀ (j5 : Option Value) (j6 : Option Value), wp E d m_law_law 530 [some (.float a0), some (.ref 0), some (.ref 65), some (.ref 91), some (.int (nI a4)), j5, j6] [] (Hp S) (QI Q)
def k_law_law_555 (E : zX) (d : Nat) (S : St) (a0 : UInt32) (a4 : Nat) (Q : Int32 → St → Prop) : Prop := ∀ (j5 : Option Value) (j6 : Option Value), wp E d m_law_law 555 [some (.float a0), some (.ref 0), some (.ref 65), some (.ref 91), some (.int (nI a4)), j5, j6] [] (Hp S) (QI Q)
def k_law_law_611 (E : zX) (d : Nat) (S : St) (a0 : UInt32) (a4 : Nat) (Q : Int32 → St → Prop) : Prop := ∀ (j5 : Option Value) (j6 : Option Value), wp E d m_law_law 611 [some (.float a0), some (.ref 0), some (.ref 65), some (.ref 91), some (.int (nI a4)), j5, j6] [] (Hp S) (QI Q)
def k_law_law_679 (E : zX) (d : Nat) (S : St) (a0 : UInt32) (a4 : Nat) (Q : Int32 → St → Prop) : Prop := ∀ (j5 : Option Value) (j6 : Option Value), wp E d m_law_law 679 [some (.float a0), some (.ref 0), some (.ref 65), some (.ref 91), some (.int (nI a4)), j5, j6] [] (Hp S) (QI Q)
def k_law_law_700 (E : zX) (d : Nat) (S : St) (a0 : UInt32) (a4 : Nat) (s1 : Int32) (s2 : Int32) (Q : Int32 → St → Prop) : Prop := ∀ (j5 : Option Value) (j6 : Option Value), wp E d m_law_law 700 [some (.float a0), some (.ref 0), some (.ref 65), some (.ref 91), some (.int (nI a4)), j5, j6] [.int s2, .int s1, .ref 0] (Hp S) (QI Q)
def k_law_law_727 (E : zX) (d : Nat) (S : St) (a0 : UInt32) (a4 : Nat) (a5 : Int32) (s1 : Int32) (s2 : Int32) (Q : Int32 → St → Prop) : Prop := ∀ (j6 : Option Value), wp E d m_law_law 727 [some (.float a0), some (.ref 0), some (.ref 65), some (.ref 91), some (.int (nI a4)), some (.int a5), j6] [.int s2, .int s1, .ref 65] (Hp S) (QI Q)
def k_law_law_770 (E : zX) (d : Nat) (S : St) (a0 : UInt32) (a4 : Nat) (Q : Int32 → St → Prop) : Prop := ∀ (j5 : Option Value) (j6 : Option Value), wp E d m_law_law 770 [some (.float a0), some (.ref 0), some (.ref 65), some (.ref 91), some (.int (nI a4)), j5, j6] [] (Hp S) (QI Q)
def k_law_law_838 (E : zX) (d : Nat) (S : St) (a0 : UInt32) (a4 : Nat) (Q : Int32 → St → Prop) : Prop := ∀ (j5 : Option Value) (j6 : Option Value), wp E d m_law_law 838 [some (.float a0), some (.ref 0), some (.ref 65), some (.ref 91), some (.int (nI a4)), j5, j6] [] (Hp S) (QI Q)
def k_law_law_851 (E : zX) (d : Nat) (S : St) (a0 : UInt32) (a4 : Nat) (Q : Int32 → St → Prop) : Prop := ∀ (j5 : Option Value) (j6 : Option Value), wp E d m_law_law 851 [some (.float a0), some (.ref 0), some (.ref 65), some (.ref 91), some (.int (nI a4)), j5, j6] [] (Hp S) (QI Q)
def k_law_law_931 (E : zX) (d : Nat) (S : St) (a0 : UInt32) (a4 : Nat) (Q : Int32 → St → Prop) : Prop := ∀ (j5 : Option Value) (j6 : Option Value), wp E d m_law_law 931 [some (.float a0), some (.ref 0), some (.ref 65), some (.ref 91), some (.int (nI a4)), j5, j6] [] (Hp S) (QI Q)
def k_law_law_1011 (E : zX) (d : Nat) (S : St) (a0 : UInt32) (a4 : Nat) (Q : Int32 → St → Prop) : Prop := ∀ (j5 : Option Value) (j6 : Option Value), wp E d m_law_law 1011 [some (.float a0), some (.ref 0), some (.ref 65), some (.ref 91), some (.int (nI a4)), j5, j6] [] (Hp S) (QI Q)
def k_law_law_1067 (E : zX) (d : Nat) (S : St) (a0 : UInt32) (a4 : Nat) (Q : Int32 → St → Prop) : Prop := ∀ (j5 : Option Value) (j6 : Option Value), wp E d m_law_law 1067 [some (.float a0), some (.ref 0), some (.ref 65), some (.ref 91), some (.int (nI a4)), j5, j6] [] (Hp S) (QI Q)
def k_law_law_1080 (E : zX) (d : Nat) (S : St) (a0 : UInt32) (a4 : Nat) (Q : Int32 → St → Prop) : Prop := ∀ (j5 : Option Value) (j6 : Option Value), wp E d m_law_law 1080 [some (.float a0), some (.ref 0), some (.ref 65), some (.ref 91), some (.int (nI a4)), j5, j6] [] (Hp S) (QI Q)
def k_law_law_1148 (E : zX) (d : Nat) (S : St) (a0 : UInt32) (a4 : Nat) (Q : Int32 → St → Prop) : Prop := ∀ (j5 : Option Value) (j6 : Option Value), wp E d m_law_law 1148 [some (.float a0), some (.ref 0), some (.ref 65), some (.ref 91), some (.int (nI a4)), j5, j6] [] (Hp S) (QI Q)
def k_law_law_1216 (E : zX) (d : Nat) (S : St) (a0 : UInt32) (a4 : Nat) (Q : Int32 → St → Prop) : Prop := ∀ (j5 : Option Value) (j6 : Option Value), wp E d m_law_law 1216 [some (.float a0), some (.ref 0), some (.ref 65), some (.ref 91), some (.int (nI a4)), j5, j6] [] (Hp S) (QI Q)
def k_law_law_1284 (E : zX) (d : Nat) (S : St) (a0 : UInt32) (a4 : Nat) (Q : Int32 → St → Prop) : Prop := ∀ (j5 : Option Value) (j6 : Option Value), wp E d m_law_law 1284 [some (.float a0), some (.ref 0), some (.ref 65), some (.ref 91), some (.int (nI a4)), j5, j6] [] (Hp S) (QI Q)
def k_law_law_1364 (E : zX) (d : Nat) (S : St) (a0 : UInt32) (a4 : Nat) (Q : Int32 → St → Prop) : Prop := ∀ (j5 : Option Value) (j6 : Option Value), wp E d m_law_law 1364 [some (.float a0), some (.ref 0), some (.ref 65), some (.ref 91), some (.int (nI a4)), j5, j6] [] (Hp S) (QI Q)
def k_law_law_1420 (E : zX) (d : Nat) (S : St) (a0 : UInt32) (a4 : Nat) (Q : Int32 → St → Prop) : Prop := ∀ (j5 : Option Value) (j6 : Option Value), wp E d m_law_law 1420 [some (.float a0), some (.ref 0), some (.ref 65), some (.ref 91), some (.int (nI a4)), j5, j6] [] (Hp S) (QI Q)
def k_law_law_1476 (E : zX) (d : Nat) (S : St) (a0 : UInt32) (a4 : Nat) (Q : Int32 → St → Prop) : Prop := ∀ (j5 : Option Value) (j6 : Option Value), wp E d m_law_law 1476 [some (.float a0), some (.ref 0), some (.ref 65), some (.ref 91), some (.int (nI a4)), j5, j6] [] (Hp S) (QI Q)
def k_law_law_1503 (E : zX) (d : Nat) (S : St) (a0 : UInt32) (a4 : Nat) (s1 : Int32) (s2 : Int32) (s3 : Int32) (Q : Int32 → St → Prop) : Prop := ∀ (j5 : Option Value) (j6 : Option Value), wp E d m_law_law 1503 [some (.float a0), some (.ref 0), some (.ref 65), some (.ref 91), some (.int (nI a4)), j5, j6] [.int s3, .int s2, .int s1, .ref 0] (Hp S) (QI Q)
def k_law_law_1536 (E : zX) (d : Nat) (S : St) (a0 : UInt32) (a4 : Nat) (a5 : Int32) (s1 : Int32) (s2 : Int32) (s3 : Int32) (Q : Int32 → St → Prop) : Prop := ∀ (j6 : Option Value), wp E d m_law_law 1536 [some (.float a0), some (.ref 0), some (.ref 65), some (.ref 91), some (.int (nI a4)), some (.int a5), j6] [.int s3, .int s2, .int s1, .ref 65] (Hp S) (QI Q)
def k_law_law_1572 (E : zX) (d : Nat) (S : St) (a0 : UInt32) (a4 : Nat) (Q : Int32 → St → Prop) : Prop := ∀ (j5 : Option Value) (j6 : Option Value), wp E d m_law_law 1572 [some (.float a0), some (.ref 0), some (.ref 65), some (.ref 91), some (.int (nI a4)), j5, j6] [] (Hp S) (QI Q)
def k_law_law_1583 (E : zX) (d : Nat) (S : St) (a0 : UInt32) (a4 : Nat) (Q : Int32 → St → Prop) : Prop := ∀ (j5 : Option Value) (j6 : Option Value), wp E d m_law_law 1583 [some (.float a0), some (.ref 0), some (.ref 65), some (.ref 91), some (.int (nI a4)), j5, j6] [] (Hp S) (QI Q)
def k_law_law_1639 (E : zX) (d : Nat) (S : St) (a0 : UInt32) (a4 : Nat) (Q : Int32 → St → Prop) : Prop := ∀ (j5 : Option Value) (j6 : Option Value), wp E d m_law_law 1639 [some (.float a0), some (.ref 0), some (.ref 65), some (.ref 91), some (.int (nI a4)), j5, j6] [] (Hp S) (QI Q)
def k_law_law_1695 (E : zX) (d : Nat) (S : St) (a0 : UInt32) (a4 : Nat) (Q : Int32 → St → Prop) : Prop := ∀ (j5 : Option Value) (j6 : Option Value), wp E d m_law_law 1695 [some (.float a0), some (.ref 0), some (.ref 65), some (.ref 91), some (.int (nI a4)), j5, j6] [] (Hp S) (QI Q)
def k_law_law_1775 (E : zX) (d : Nat) (S : St) (a0 : UInt32) (a4 : Nat) (Q : Int32 → St → Prop) : Prop := ∀ (j5 : Option Value) (j6 : Option Value), wp E d m_law_law 1775 [some (.float a0), some (.ref 0), some (.ref 65), some (.ref 91), some (.int (nI a4)), j5, j6] [] (Hp S) (QI Q)
def k_law_law_1855 (E : zX) (d : Nat) (S : St) (a0 : UInt32) (a4 : Nat) (Q : Int32 → St → Prop) : Prop := ∀ (j5 : Option Value) (j6 : Option Value), wp E d m_law_law 1855 [some (.float a0), some (.ref 0), some (.ref 65), some (.ref 91), some (.int (nI a4)), j5, j6] [] (Hp S) (QI Q)
def k_law_law_1935 (E : zX) (d : Nat) (S : St) (a0 : UInt32) (a4 : Nat) (Q : Int32 → St → Prop) : Prop := ∀ (j5 : Option Value) (j6 : Option Value), wp E d m_law_law 1935 [some (.float a0), some (.ref 0), some (.ref 65), some (.ref 91), some (.int (nI a4)), j5, j6] [] (Hp S) (QI Q)
def k_law_law_2003 (E : zX) (d : Nat) (S : St) (a0 : UInt32) (a4 : Nat) (Q : Int32 → St → Prop) : Prop := ∀ (j5 : Option Value) (j6 : Option Value), wp E d m_law_law 2003 [some (.float a0), some (.ref 0), some (.ref 65), some (.ref 91), some (.int (nI a4)), j5, j6] [] (Hp S) (QI Q)
def k_law_law_2071 (E : zX) (d : Nat) (S : St) (a0 : UInt32) (a4 : Nat) (Q : Int32 → St → Prop) : Prop := ∀ (j5 : Option Value) (j6 : Option Value), wp E d m_law_law 2071 [some (.float a0), some (.ref 0), some (.ref 65), some (.ref 91), some (.int (nI a4)), j5, j6] [] (Hp S) (QI Q)
def k_law_law_2139 (E : zX) (d : Nat) (S : St) (a0 : UInt32) (a4 : Nat) (Q : Int32 → St → Prop) : Prop := ∀ (j5 : Option Value) (j6 : Option Value), wp E d m_law_law 2139 [some (.float a0), some (.ref 0), some (.ref 65), some (.ref 91), some (.int (nI a4)), j5, j6] [] (Hp S) (QI Q)
def k_law_law_2207 (E : zX) (d : Nat) (S : St) (a0 : UInt32) (a4 : Nat) (Q : Int32 → St → Prop) : Prop := ∀ (j5 : Option Value) (j6 : Option Value), wp E d m_law_law 2207 [some (.float a0), some (.ref 0), some (.ref 65), some (.ref 91), some (.int (nI a4)), j5, j6] [] (Hp S) (QI Q)
def k_law_law_2218 (E : zX) (d : Nat) (S : St) (a0 : UInt32) (a4 : Nat) (Q : Int32 → St → Prop) : Prop := ∀ (j5 : Option Value) (j6 : Option Value), wp E d m_law_law 2218 [some (.float a0), some (.ref 0), some (.ref 65), some (.ref 91), some (.int (nI a4)), j5, j6] [] (Hp S) (QI Q)
def k_law_law_2231 (E : zX) (d : Nat) (S : St) (a0 : UInt32) (a4 : Nat) (Q : Int32 → St → Prop) : Prop := ∀ (j5 : Option Value) (j6 : Option Value), wp E d m_law_law 2231 [some (.float a0), some (.ref 0), some (.ref 65), some (.ref 91), some (.int (nI a4)), j5, j6] [] (Hp S) (QI Q)
set_option maxRecDepth 4000 in
theorem w_law_law_23 {E : zX} {d : Nat} {S : St} {a0 : UInt32} {a4 : Nat} {Q : Int32 → St → Prop} (hd : 1 ≤ d) 
    (hw : ∃ (t3 : Nat) (n1 : Nat) (f2 : Nat → Int32), out E a0 = some (t3, n1, f2) ∧ (Nat.beq t3 0 || Nat.beq t3 3) = true ∧
    if ((Int32.ofNat n1) - (6 : Int32)) < (nI a4) then (
      Q (1 : Int32) S)
    else (
      ∃ (n4 : Nat) (f5 : Nat → Int32), out E a0 = some (0, n4, f5) ∧ ix (nI a4) n4 ∧
      if ((f5 (nI a4).toNatClampNeg) &&& (63 : Int32)) = 0 then (
        k_law_law_196 E d S a0 a4 Q)
      else if ((f5 (nI a4).toNatClampNeg) &&& (63 : Int32)) = 1 then (
        k_law_law_269 E d S a0 a4 Q)
      else if ((f5 (nI a4).toNatClampNeg) &&& (63 : Int32)) = 2 then (
        k_law_law_325 E d S a0 a4 Q)
      else if ((f5 (nI a4).toNatClampNeg) &&& (63 : Int32)) = 3 then (
        k_law_law_338 E d S a0 a4 Q)
      else if ((f5 (nI a4).toNatClampNeg) &&& (63 : Int32)) = 4 then (
        k_law_law_394 E d S a0 a4 Q)
      else if ((f5 (nI a4).toNatClampNeg) &&& (63 : Int32)) = 5 then (
        k_law_law_462 E d S a0 a4 Q)
      else if ((f5 (nI a4).toNatClampNeg) &&& (63 : Int32)) = 6 then (
        k_law_law_530 E d S a0 a4 Q)
      else if ((f5 (nI a4).toNatClampNeg) &&& (63 : Int32)) = 7 then (
        k_law_law_555 E d S a0 a4 Q)
      else if ((f5 (nI a4).toNatClampNeg) &&& (63 : Int32)) = 8 then (
        k_law_law_611 E d S a0 a4 Q)
      else if ((f5 (nI a4).toNatClampNeg) &&& (63 : Int32)) = 9 then (
        k_law_law_679 E d S a0 a4 Q)
      else if ((f5 (nI a4).toNatClampNeg) &&& (63 : Int32)) = 10 then (
        k_law_law_770 E d S a0 a4 Q)
      else if ((f5 (nI a4).toNatClampNeg) &&& (63 : Int32)) = 11 then (
        k_law_law_838 E d S a0 a4 Q)
      else if ((f5 (nI a4).toNatClampNeg) &&& (63 : Int32)) = 12 then (
        k_law_law_851 E d S a0 a4 Q)
      else if ((f5 (nI a4).toNatClampNeg) &&& (63 : Int32)) = 13 then (
        k_law_law_931 E d S a0 a4 Q)
      else if ((f5 (nI a4).toNatClampNeg) &&& (63 : Int32)) = 14 then (
        k_law_law_1011 E d S a0 a4 Q)
      else if ((f5 (nI a4).toNatClampNeg) &&& (63 : Int32)) = 15 then (
        k_law_law_1067 E d S a0 a4 Q)
      else if ((f5 (nI a4).toNatClampNeg) &&& (63 : Int32)) = 16 then (
        k_law_law_1080 E d S a0 a4 Q)
      else if ((f5 (nI a4).toNatClampNeg) &&& (63 : Int32)) = 17 then (
        k_law_law_1148 E d S a0 a4 Q)
      else if ((f5 (nI a4).toNatClampNeg) &&& (63 : Int32)) = 18 then (
        k_law_law_1216 E d S a0 a4 Q)
      else if ((f5 (nI a4).toNatClampNeg) &&& (63 : Int32)) = 19 then (
        k_law_law_1284 E d S a0 a4 Q)
      else if ((f5 (nI a4).toNatClampNeg) &&& (63 : Int32)) = 20 then (
        k_law_law_1364 E d S a0 a4 Q)
      else if ((f5 (nI a4).toNatClampNeg) &&& (63 : Int32)) = 21 then (
        k_law_law_1420 E d S a0 a4 Q)
      else if ((f5 (nI a4).toNatClampNeg) &&& (63 : Int32)) = 22 then (
        k_law_law_1476 E d S a0 a4 Q)
      else if ((f5 (nI a4).toNatClampNeg) &&& (63 : Int32)) = 23 then (
        k_law_law_1572 E d S a0 a4 Q)
      else if ((f5 (nI a4).toNatClampNeg) &&& (63 : Int32)) = 24 then (
        k_law_law_1583 E d S a0 a4 Q)
      else if ((f5 (nI a4).toNatClampNeg) &&& (63 : Int32)) = 25 then (
        k_law_law_1639 E d S a0 a4 Q)
      else if ((f5 (nI a4).toNatClampNeg) &&& (63 : Int32)) = 26 then (
        k_law_law_1695 E d S a0 a4 Q)
      else if ((f5 (nI a4).toNatClampNeg) &&& (63 : Int32)) = 27 then (
        k_law_law_1775 E d S a0 a4 Q)
      else if ((f5 (nI a4).toNatClampNeg) &&& (63 : Int32)) = 28 then (
        k_law_law_1855 E d S a0 a4 Q)
      else if ((f5 (nI a4).toNatClampNeg) &&& (63 : Int32)) = 29 then (
        k_law_law_1935 E d S a0 a4 Q)
      else if ((f5 (nI a4).toNatClampNeg) &&& (63 : Int32)) = 30 then (
        k_law_law_2003 E d S a0 a4 Q)
      else if ((f5 (nI a4).toNatClampNeg) &&& (63 : Int32)) = 31 then (
        k_law_law_2071 E d S a0 a4 Q)
      else if ((f5 (nI a4).toNatClampNeg) &&& (63 : Int32)) = 32 then (
        k_law_law_2139 E d S a0 a4 Q)
      else if ((f5 (nI a4).toNatClampNeg) &&& (63 : Int32)) = 33 then (
        k_law_law_2207 E d S a0 a4 Q)
      else if ((f5 (nI a4).toNatClampNeg) &&& (63 : Int32)) = 34 then (
        k_law_law_2218 E d S a0 a4 Q)
      else (
        k_law_law_2231 E d S a0 a4 Q))) :
    k_law_law_23 E d S a0 a4 Q := by
  obtain ⟨d, rfl⟩ := Nat.exists_eq_add_of_le' hd
  intro j5 j6
  show wp E (d + 1) m_law_law 23 [some (.float a0), some (.ref 0), some (.ref 65), some (.ref 91), some (.int (nI a4)), j5, j6] [] (Hp S) (QI Q)
  refine wp_st (pc' := 26) (L' := [some (.float a0), some (.ref 0), some (.ref 65), some (.ref 91), some (.int (nI a4)), j5, j6]) (st' := [.float a0, .int (nI a4)]) (h' := Hp S) 2 (fun Z => rfl) ?_
  obtain ⟨t3, n1, f2, e, hz, hw⟩ := hw
  refine wp_st (pc' := 27) (L' := [some (.float a0), some (.ref 0), some (.ref 65), some (.ref 91), some (.int (nI a4)), j5, j6]) (st' := [.int (Int32.ofNat n1), .int (nI a4)]) (h' := Hp S) 1 (fun Z => outL_eq (E := E) (h := Hp S) e hz [.int (nI a4)] (fun st => Z (d + 1) m_law_law 27 [some (.float a0), some (.ref 0), some (.ref 65), some (.ref 91), some (.int (nI a4)), j5, j6] st (Hp S))) ?_
  refine wp_st (pc' := 30) (L' := [some (.float a0), some (.ref 0), some (.ref 65), some (.ref 91), some (.int (nI a4)), j5, j6]) (st' := [.int ((Int32.ofNat n1) - (6 : Int32)), .int (nI a4)]) (h' := Hp S) 2 (fun Z => rfl) ?_
  by_cases hc : ((Int32.ofNat n1) - (6 : Int32)) < (nI a4)
  · rw [if_pos hc] at hw
    refine wp_st (pc' := 2237) (L' := [some (.float a0), some (.ref 0), some (.ref 65), some (.ref 91), some (.int (nI a4)), j5, j6]) (st' := []) (h' := Hp S) 1 (fun Z => if_pos hc) ?_
    refine wp_st (pc' := 2238) (L' := [some (.float a0), some (.ref 0), some (.ref 65), some (.ref 91), some (.int (nI a4)), j5, j6]) (st' := [.int 1]) (h' := Hp S) 1 (fun Z => rfl) ?_
    exact wp_ret (fun Z => rfl) ⟨_, _, rfl, rfl, hw⟩
  · rw [if_neg hc] at hw
    refine wp_st (pc' := 33) (L' := [some (.float a0), some (.ref 0), some (.ref 65), some (.ref 91), some (.int (nI a4)), j5, j6]) (st' := []) (h' := Hp S) 1 (fun Z => if_neg hc) ?_
    refine wp_st (pc' := 36) (L' := [some (.float a0), some (.ref 0), some (.ref 65), some (.ref 91), some (.int (nI a4)), j5, j6]) (st' := [.int (nI a4), .float a0]) (h' := Hp S) 2 (fun Z => rfl) ?_
    obtain ⟨n4, f5, e, hi, hw⟩ := hw
    refine wp_st (pc' := 37) (L' := [some (.float a0), some (.ref 0), some (.ref 65), some (.ref 91), some (.int (nI a4)), j5, j6]) (st' := [.int (f5 (nI a4).toNatClampNeg)]) (h' := Hp S) 1 (fun Z => outI_eq (E := E) (h := Hp S) e hi [] (fun st => Z (d + 1) m_law_law 37 [some (.float a0), some (.ref 0), some (.ref 65), some (.ref 91), some (.int (nI a4)), j5, j6] st (Hp S))) ?_
    refine wp_st (pc' := 40) (L' := [some (.float a0), some (.ref 0), some (.ref 65), some (.ref 91), some (.int (nI a4)), j5, j6]) (st' := [.int ((f5 (nI a4).toNatClampNeg) &&& (63 : Int32))]) (h' := Hp S) 2 (fun Z => rfl) ?_
    by_cases c0 : ((f5 (nI a4).toNatClampNeg) &&& (63 : Int32)) = 0
    · rw [if_pos c0] at hw
      refine wp_st (pc' := 196) (L' := [some (.float a0), some (.ref 0), some (.ref 65), some (.ref 91), some (.int (nI a4)), j5, j6]) (st' := []) (h' := Hp S) 1 (fun Z => (show zsw (.tableswitch 2191 0 34 #[156, 229, 285, 298, 354, 422, 490, 515, 571, 639, 730, 798, 811, 891, 971, 1027, 1040, 1108, 1176, 1244, 1324, 1380, 1436, 1532, 1543, 1599, 1655, 1735, 1815, 1895, 1963, 2031, 2099, 2167, 2178]) 40 (.int ((f5 (nI a4).toNatClampNeg) &&& (63 : Int32)) :: []) (fun t st1 => Z (d + 1) m_law_law t [some (.float a0), some (.ref 0), some (.ref 65), some (.ref 91), some (.int (nI a4)), j5, j6] st1 (Hp S)) = _ from zsw_at (c := 0) (by rw [c0]; decide) (by decide) rfl rfl)) ?_
      exact (show wp E (d + 1) m_law_law 196 [some (.float a0), some (.ref 0), some (.ref 65), some (.ref 91), some (.int (nI a4)), j5, j6] [] (Hp S) (QI Q) from (hw j5 j6))
    rw [if_neg c0] at hw
    by_cases c1 : ((f5 (nI a4).toNatClampNeg) &&& (63 : Int32)) = 1
    · rw [if_pos c1] at hw
      refine wp_st (pc' := 269) (L' := [some (.float a0), some (.ref 0), some (.ref 65), some (.ref 91), some (.int (nI a4)), j5, j6]) (st' := []) (h' := Hp S) 1 (fun Z => (show zsw (.tableswitch 2191 0 34 #[156, 229, 285, 298, 354, 422, 490, 515, 571, 639, 730, 798, 811, 891, 971, 1027, 1040, 1108, 1176, 1244, 1324, 1380, 1436, 1532, 1543, 1599, 1655, 1735, 1815, 1895, 1963, 2031, 2099, 2167, 2178]) 40 (.int ((f5 (nI a4).toNatClampNeg) &&& (63 : Int32)) :: []) (fun t st1 => Z (d + 1) m_law_law t [some (.float a0), some (.ref 0), some (.ref 65), some (.ref 91), some (.int (nI a4)), j5, j6] st1 (Hp S)) = _ from zsw_at (c := 1) (by rw [c1]; decide) (by decide) rfl rfl)) ?_
      exact (show wp E (d + 1) m_law_law 269 [some (.float a0), some (.ref 0), some (.ref 65), some (.ref 91), some (.int (nI a4)), j5, j6] [] (Hp S) (QI Q) from (hw j5 j6))
    rw [if_neg c1] at hw
    by_cases c2 : ((f5 (nI a4).toNatClampNeg) &&& (63 : Int32)) = 2
    · rw [if_pos c2] at hw
      refine wp_st (pc' := 325) (L' := [some (.float a0), some (.ref 0), some (.ref 65), some (.ref 91), some (.int (nI a4)), j5, j6]) (st' := []) (h' := Hp S) 1 (fun Z => (show zsw (.tableswitch 2191 0 34 #[156, 229, 285, 298, 354, 422, 490, 515, 571, 639, 730, 798, 811, 891, 971, 1027, 1040, 1108, 1176, 1244, 1324, 1380, 1436, 1532, 1543, 1599, 1655, 1735, 1815, 1895, 1963, 2031, 2099, 2167, 2178]) 40 (.int ((f5 (nI a4).toNatClampNeg) &&& (63 : Int32)) :: []) (fun t st1 => Z (d + 1) m_law_law t [some (.float a0), some (.ref 0), some (.ref 65), some (.ref 91), some (.int (nI a4)), j5, j6] st1 (Hp S)) = _ from zsw_at (c := 2) (by rw [c2]; decide) (by decide) rfl rfl)) ?_
      exact (show wp E (d + 1) m_law_law 325 [some (.float a0), some (.ref 0), some (.ref 65), some (.ref 91), some (.int (nI a4)), j5, j6] [] (Hp S) (QI Q) from (hw j5 j6))
    rw [if_neg c2] at hw
    by_cases c3 : ((f5 (nI a4).toNatClampNeg) &&& (63 : Int32)) = 3
    · rw [if_pos c3] at hw
      refine wp_st (pc' := 338) (L' := [some (.float a0), some (.ref 0), some (.ref 65), some (.ref 91), some (.int (nI a4)), j5, j6]) (st' := []) (h' := Hp S) 1 (fun Z => (show zsw (.tableswitch 2191 0 34 #[156, 229, 285, 298, 354, 422, 490, 515, 571, 639, 730, 798, 811, 891, 971, 1027, 1040, 1108, 1176, 1244, 1324, 1380, 1436, 1532, 1543, 1599, 1655, 1735, 1815, 1895, 1963, 2031, 2099, 2167, 2178]) 40 (.int ((f5 (nI a4).toNatClampNeg) &&& (63 : Int32)) :: []) (fun t st1 => Z (d + 1) m_law_law t [some (.float a0), some (.ref 0), some (.ref 65), some (.ref 91), some (.int (nI a4)), j5, j6] st1 (Hp S)) = _ from zsw_at (c := 3) (by rw [c3]; decide) (by decide) rfl rfl)) ?_
      exact (show wp E (d + 1) m_law_law 338 [some (.float a0), some (.ref 0), some (.ref 65), some (.ref 91), some (.int (nI a4)), j5, j6] [] (Hp S) (QI Q) from (hw j5 j6))
    rw [if_neg c3] at hw
    by_cases c4 : ((f5 (nI a4).toNatClampNeg) &&& (63 : Int32)) = 4
    · rw [if_pos c4] at hw
      refine wp_st (pc' := 394) (L' := [some (.float a0), some (.ref 0), some (.ref 65), some (.ref 91), some (.int (nI a4)), j5, j6]) (st' := []) (h' := Hp S) 1 (fun Z => (show zsw (.tableswitch 2191 0 34 #[156, 229, 285, 298, 354, 422, 490, 515, 571, 639, 730, 798, 811, 891, 971, 1027, 1040, 1108, 1176, 1244, 1324, 1380, 1436, 1532, 1543, 1599, 1655, 1735, 1815, 1895, 1963, 2031, 2099, 2167, 2178]) 40 (.int ((f5 (nI a4).toNatClampNeg) &&& (63 : Int32)) :: []) (fun t st1 => Z (d + 1) m_law_law t [some (.float a0), some (.ref 0), some (.ref 65), some (.ref 91), some (.int (nI a4)), j5, j6] st1 (Hp S)) = _ from zsw_at (c := 4) (by rw [c4]; decide) (by decide) rfl rfl)) ?_
      exact (show wp E (d + 1) m_law_law 394 [some (.float a0), some (.ref 0), some (.ref 65), some (.ref 91), some (.int (nI a4)), j5, j6] [] (Hp S) (QI Q) from (hw j5 j6))
    rw [if_neg c4] at hw
    by_cases c5 : ((f5 (nI a4).toNatClampNeg) &&& (63 : Int32)) = 5
    · rw [if_pos c5] at hw
      refine wp_st (pc' := 462) (L' := [some (.float a0), some (.ref 0), some (.ref 65), some (.ref 91), some (.int (nI a4)), j5, j6]) (st' := []) (h' := Hp S) 1 (fun Z => (show zsw (.tableswitch 2191 0 34 #[156, 229, 285, 298, 354, 422, 490, 515, 571, 639, 730, 798, 811, 891, 971, 1027, 1040, 1108, 1176, 1244, 1324, 1380, 1436, 1532, 1543, 1599, 1655, 1735, 1815, 1895, 1963, 2031, 2099, 2167, 2178]) 40 (.int ((f5 (nI a4).toNatClampNeg) &&& (63 : Int32)) :: []) (fun t st1 => Z (d + 1) m_law_law t [some (.float a0), some (.ref 0), some (.ref 65), some (.ref 91), some (.int (nI a4)), j5, j6] st1 (Hp S)) = _ from zsw_at (c := 5) (by rw [c5]; decide) (by decide) rfl rfl)) ?_
      exact (show wp E (d + 1) m_law_law 462 [some (.float a0), some (.ref 0), some (.ref 65), some (.ref 91), some (.int (nI a4)), j5, j6] [] (Hp S) (QI Q) from (hw j5 j6))
    rw [if_neg c5] at hw
    by_cases c6 : ((f5 (nI a4).toNatClampNeg) &&& (63 : Int32)) = 6
    · rw [if_pos c6] at hw
      refine wp_st (pc' := 530) (L' := [some (.float a0), some (.ref 0), some (.ref 65), some (.ref 91), some (.int (nI a4)), j5, j6]) (st' := []) (h' := Hp S) 1 (fun Z => (show zsw (.tableswitch 2191 0 34 #[156, 229, 285, 298, 354, 422, 490, 515, 571, 639, 730, 798, 811, 891, 971, 1027, 1040, 1108, 1176, 1244, 1324, 1380, 1436, 1532, 1543, 1599, 1655, 1735, 1815, 1895, 1963, 2031, 2099, 2167, 2178]) 40 (.int ((f5 (nI a4).toNatClampNeg) &&& (63 : Int32)) :: []) (fun t st1 => Z (d + 1) m_law_law t [some (.float a0), some (.ref 0), some (.ref 65), some (.ref 91), some (.int (nI a4)), j5, j6] st1 (Hp S)) = _ from zsw_at (c := 6) (by rw [c6]; decide) (by decide) rfl rfl)) ?_
      exact (show wp E (d + 1) m_law_law 530 [some (.float a0), some (.ref 0), some (.ref 65), some (.ref 91), some (.int (nI a4)), j5, j6] [] (Hp S) (QI Q) from (hw j5 j6))
    rw [if_neg c6] at hw
    by_cases c7 : ((f5 (nI a4).toNatClampNeg) &&& (63 : Int32)) = 7
    · rw [if_pos c7] at hw
      refine wp_st (pc' := 555) (L' := [some (.float a0), some (.ref 0), some (.ref 65), some (.ref 91), some (.int (nI a4)), j5, j6]) (st' := []) (h' := Hp S) 1 (fun Z => (show zsw (.tableswitch 2191 0 34 #[156, 229, 285, 298, 354, 422, 490, 515, 571, 639, 730, 798, 811, 891, 971, 1027, 1040, 1108, 1176, 1244, 1324, 1380, 1436, 1532, 1543, 1599, 1655, 1735, 1815, 1895, 1963, 2031, 2099, 2167, 2178]) 40 (.int ((f5 (nI a4).toNatClampNeg) &&& (63 : Int32)) :: []) (fun t st1 => Z (d + 1) m_law_law t [some (.float a0), some (.ref 0), some (.ref 65), some (.ref 91), some (.int (nI a4)), j5, j6] st1 (Hp S)) = _ from zsw_at (c := 7) (by rw [c7]; decide) (by decide) rfl rfl)) ?_
      exact (show wp E (d + 1) m_law_law 555 [some (.float a0), some (.ref 0), some (.ref 65), some (.ref 91), some (.int (nI a4)), j5, j6] [] (Hp S) (QI Q) from (hw j5 j6))
    rw [if_neg c7] at hw
    by_cases c8 : ((f5 (nI a4).toNatClampNeg) &&& (63 : Int32)) = 8
    · rw [if_pos c8] at hw
      refine wp_st (pc' := 611) (L' := [some (.float a0), some (.ref 0), some (.ref 65), some (.ref 91), some (.int (nI a4)), j5, j6]) (st' := []) (h' := Hp S) 1 (fun Z => (show zsw (.tableswitch 2191 0 34 #[156, 229, 285, 298, 354, 422, 490, 515, 571, 639, 730, 798, 811, 891, 971, 1027, 1040, 1108, 1176, 1244, 1324, 1380, 1436, 1532, 1543, 1599, 1655, 1735, 1815, 1895, 1963, 2031, 2099, 2167, 2178]) 40 (.int ((f5 (nI a4).toNatClampNeg) &&& (63 : Int32)) :: []) (fun t st1 => Z (d + 1) m_law_law t [some (.float a0), some (.ref 0), some (.ref 65), some (.ref 91), some (.int (nI a4)), j5, j6] st1 (Hp S)) = _ from zsw_at (c := 8) (by rw [c8]; decide) (by decide) rfl rfl)) ?_
      exact (show wp E (d + 1) m_law_law 611 [some (.float a0), some (.ref 0), some (.ref 65), some (.ref 91), some (.int (nI a4)), j5, j6] [] (Hp S) (QI Q) from (hw j5 j6))
    rw [if_neg c8] at hw
    by_cases c9 : ((f5 (nI a4).toNatClampNeg) &&& (63 : Int32)) = 9
    · rw [if_pos c9] at hw
      refine wp_st (pc' := 679) (L' := [some (.float a0), some (.ref 0), some (.ref 65), some (.ref 91), some (.int (nI a4)), j5, j6]) (st' := []) (h' := Hp S) 1 (fun Z => (show zsw (.tableswitch 2191 0 34 #[156, 229, 285, 298, 354, 422, 490, 515, 571, 639, 730, 798, 811, 891, 971, 1027, 1040, 1108, 1176, 1244, 1324, 1380, 1436, 1532, 1543, 1599, 1655, 1735, 1815, 1895, 1963, 2031, 2099, 2167, 2178]) 40 (.int ((f5 (nI a4).toNatClampNeg) &&& (63 : Int32)) :: []) (fun t st1 => Z (d + 1) m_law_law t [some (.float a0), some (.ref 0), some (.ref 65), some (.ref 91), some (.int (nI a4)), j5, j6] st1 (Hp S)) = _ from zsw_at (c := 9) (by rw [c9]; decide) (by decide) rfl rfl)) ?_
      exact (show wp E (d + 1) m_law_law 679 [some (.float a0), some (.ref 0), some (.ref 65), some (.ref 91), some (.int (nI a4)), j5, j6] [] (Hp S) (QI Q) from (hw j5 j6))
    rw [if_neg c9] at hw
    by_cases c10 : ((f5 (nI a4).toNatClampNeg) &&& (63 : Int32)) = 10
    · rw [if_pos c10] at hw
      refine wp_st (pc' := 770) (L' := [some (.float a0), some (.ref 0), some (.ref 65), some (.ref 91), some (.int (nI a4)), j5, j6]) (st' := []) (h' := Hp S) 1 (fun Z => (show zsw (.tableswitch 2191 0 34 #[156, 229, 285, 298, 354, 422, 490, 515, 571, 639, 730, 798, 811, 891, 971, 1027, 1040, 1108, 1176, 1244, 1324, 1380, 1436, 1532, 1543, 1599, 1655, 1735, 1815, 1895, 1963, 2031, 2099, 2167, 2178]) 40 (.int ((f5 (nI a4).toNatClampNeg) &&& (63 : Int32)) :: []) (fun t st1 => Z (d + 1) m_law_law t [some (.float a0), some (.ref 0), some (.ref 65), some (.ref 91), some (.int (nI a4)), j5, j6] st1 (Hp S)) = _ from zsw_at (c := 10) (by rw [c10]; decide) (by decide) rfl rfl)) ?_
      exact (show wp E (d + 1) m_law_law 770 [some (.float a0), some (.ref 0), some (.ref 65), some (.ref 91), some (.int (nI a4)), j5, j6] [] (Hp S) (QI Q) from (hw j5 j6))
    rw [if_neg c10] at hw
    by_cases c11 : ((f5 (nI a4).toNatClampNeg) &&& (63 : Int32)) = 11
    · rw [if_pos c11] at hw
      refine wp_st (pc' := 838) (L' := [some (.float a0), some (.ref 0), some (.ref 65), some (.ref 91), some (.int (nI a4)), j5, j6]) (st' := []) (h' := Hp S) 1 (fun Z => (show zsw (.tableswitch 2191 0 34 #[156, 229, 285, 298, 354, 422, 490, 515, 571, 639, 730, 798, 811, 891, 971, 1027, 1040, 1108, 1176, 1244, 1324, 1380, 1436, 1532, 1543, 1599, 1655, 1735, 1815, 1895, 1963, 2031, 2099, 2167, 2178]) 40 (.int ((f5 (nI a4).toNatClampNeg) &&& (63 : Int32)) :: []) (fun t st1 => Z (d + 1) m_law_law t [some (.float a0), some (.ref 0), some (.ref 65), some (.ref 91), some (.int (nI a4)), j5, j6] st1 (Hp S)) = _ from zsw_at (c := 11) (by rw [c11]; decide) (by decide) rfl rfl)) ?_
      exact (show wp E (d + 1) m_law_law 838 [some (.float a0), some (.ref 0), some (.ref 65), some (.ref 91), some (.int (nI a4)), j5, j6] [] (Hp S) (QI Q) from (hw j5 j6))
    rw [if_neg c11] at hw
    by_cases c12 : ((f5 (nI a4).toNatClampNeg) &&& (63 : Int32)) = 12
    · rw [if_pos c12] at hw
      refine wp_st (pc' := 851) (L' := [some (.float a0), some (.ref 0), some (.ref 65), some (.ref 91), some (.int (nI a4)), j5, j6]) (st' := []) (h' := Hp S) 1 (fun Z => (show zsw (.tableswitch 2191 0 34 #[156, 229, 285, 298, 354, 422, 490, 515, 571, 639, 730, 798, 811, 891, 971, 1027, 1040, 1108, 1176, 1244, 1324, 1380, 1436, 1532, 1543, 1599, 1655, 1735, 1815, 1895, 1963, 2031, 2099, 2167, 2178]) 40 (.int ((f5 (nI a4).toNatClampNeg) &&& (63 : Int32)) :: []) (fun t st1 => Z (d + 1) m_law_law t [some (.float a0), some (.ref 0), some (.ref 65), some (.ref 91), some (.int (nI a4)), j5, j6] st1 (Hp S)) = _ from zsw_at (c := 12) (by rw [c12]; decide) (by decide) rfl rfl)) ?_
      exact (show wp E (d + 1) m_law_law 851 [some (.float a0), some (.ref 0), some (.ref 65), some (.ref 91), some (.int (nI a4)), j5, j6] [] (Hp S) (QI Q) from (hw j5 j6))
    rw [if_neg c12] at hw
    by_cases c13 : ((f5 (nI a4).toNatClampNeg) &&& (63 : Int32)) = 13
    · rw [if_pos c13] at hw
      refine wp_st (pc' := 931) (L' := [some (.float a0), some (.ref 0), some (.ref 65), some (.ref 91), some (.int (nI a4)), j5, j6]) (st' := []) (h' := Hp S) 1 (fun Z => (show zsw (.tableswitch 2191 0 34 #[156, 229, 285, 298, 354, 422, 490, 515, 571, 639, 730, 798, 811, 891, 971, 1027, 1040, 1108, 1176, 1244, 1324, 1380, 1436, 1532, 1543, 1599, 1655, 1735, 1815, 1895, 1963, 2031, 2099, 2167, 2178]) 40 (.int ((f5 (nI a4).toNatClampNeg) &&& (63 : Int32)) :: []) (fun t st1 => Z (d + 1) m_law_law t [some (.float a0), some (.ref 0), some (.ref 65), some (.ref 91), some (.int (nI a4)), j5, j6] st1 (Hp S)) = _ from zsw_at (c := 13) (by rw [c13]; decide) (by decide) rfl rfl)) ?_
      exact (show wp E (d + 1) m_law_law 931 [some (.float a0), some (.ref 0), some (.ref 65), some (.ref 91), some (.int (nI a4)), j5, j6] [] (Hp S) (QI Q) from (hw j5 j6))
    rw [if_neg c13] at hw
    by_cases c14 : ((f5 (nI a4).toNatClampNeg) &&& (63 : Int32)) = 14
    · rw [if_pos c14] at hw
      refine wp_st (pc' := 1011) (L' := [some (.float a0), some (.ref 0), some (.ref 65), some (.ref 91), some (.int (nI a4)), j5, j6]) (st' := []) (h' := Hp S) 1 (fun Z => (show zsw (.tableswitch 2191 0 34 #[156, 229, 285, 298, 354, 422, 490, 515, 571, 639, 730, 798, 811, 891, 971, 1027, 1040, 1108, 1176, 1244, 1324, 1380, 1436, 1532, 1543, 1599, 1655, 1735, 1815, 1895, 1963, 2031, 2099, 2167, 2178]) 40 (.int ((f5 (nI a4).toNatClampNeg) &&& (63 : Int32)) :: []) (fun t st1 => Z (d + 1) m_law_law t [some (.float a0), some (.ref 0), some (.ref 65), some (.ref 91), some (.int (nI a4)), j5, j6] st1 (Hp S)) = _ from zsw_at (c := 14) (by rw [c14]; decide) (by decide) rfl rfl)) ?_
      exact (show wp E (d + 1) m_law_law 1011 [some (.float a0), some (.ref 0), some (.ref 65), some (.ref 91), some (.int (nI a4)), j5, j6] [] (Hp S) (QI Q) from (hw j5 j6))
    rw [if_neg c14] at hw
    by_cases c15 : ((f5 (nI a4).toNatClampNeg) &&& (63 : Int32)) = 15
    · rw [if_pos c15] at hw
      refine wp_st (pc' := 1067) (L' := [some (.float a0), some (.ref 0), some (.ref 65), some (.ref 91), some (.int (nI a4)), j5, j6]) (st' := []) (h' := Hp S) 1 (fun Z => (show zsw (.tableswitch 2191 0 34 #[156, 229, 285, 298, 354, 422, 490, 515, 571, 639, 730, 798, 811, 891, 971, 1027, 1040, 1108, 1176, 1244, 1324, 1380, 1436, 1532, 1543, 1599, 1655, 1735, 1815, 1895, 1963, 2031, 2099, 2167, 2178]) 40 (.int ((f5 (nI a4).toNatClampNeg) &&& (63 : Int32)) :: []) (fun t st1 => Z (d + 1) m_law_law t [some (.float a0), some (.ref 0), some (.ref 65), some (.ref 91), some (.int (nI a4)), j5, j6] st1 (Hp S)) = _ from zsw_at (c := 15) (by rw [c15]; decide) (by decide) rfl rfl)) ?_
      exact (show wp E (d + 1) m_law_law 1067 [some (.float a0), some (.ref 0), some (.ref 65), some (.ref 91), some (.int (nI a4)), j5, j6] [] (Hp S) (QI Q) from (hw j5 j6))
    rw [if_neg c15] at hw
    by_cases c16 : ((f5 (nI a4).toNatClampNeg) &&& (63 : Int32)) = 16
    · rw [if_pos c16] at hw
      refine wp_st (pc' := 1080) (L' := [some (.float a0), some (.ref 0), some (.ref 65), some (.ref 91), some (.int (nI a4)), j5, j6]) (st' := []) (h' := Hp S) 1 (fun Z => (show zsw (.tableswitch 2191 0 34 #[156, 229, 285, 298, 354, 422, 490, 515, 571, 639, 730, 798, 811, 891, 971, 1027, 1040, 1108, 1176, 1244, 1324, 1380, 1436, 1532, 1543, 1599, 1655, 1735, 1815, 1895, 1963, 2031, 2099, 2167, 2178]) 40 (.int ((f5 (nI a4).toNatClampNeg) &&& (63 : Int32)) :: []) (fun t st1 => Z (d + 1) m_law_law t [some (.float a0), some (.ref 0), some (.ref 65), some (.ref 91), some (.int (nI a4)), j5, j6] st1 (Hp S)) = _ from zsw_at (c := 16) (by rw [c16]; decide) (by decide) rfl rfl)) ?_
      exact (show wp E (d + 1) m_law_law 1080 [some (.float a0), some (.ref 0), some (.ref 65), some (.ref 91), some (.int (nI a4)), j5, j6] [] (Hp S) (QI Q) from (hw j5 j6))
    rw [if_neg c16] at hw
    by_cases c17 : ((f5 (nI a4).toNatClampNeg) &&& (63 : Int32)) = 17
    · rw [if_pos c17] at hw
      refine wp_st (pc' := 1148) (L' := [some (.float a0), some (.ref 0), some (.ref 65), some (.ref 91), some (.int (nI a4)), j5, j6]) (st' := []) (h' := Hp S) 1 (fun Z => (show zsw (.tableswitch 2191 0 34 #[156, 229, 285, 298, 354, 422, 490, 515, 571, 639, 730, 798, 811, 891, 971, 1027, 1040, 1108, 1176, 1244, 1324, 1380, 1436, 1532, 1543, 1599, 1655, 1735, 1815, 1895, 1963, 2031, 2099, 2167, 2178]) 40 (.int ((f5 (nI a4).toNatClampNeg) &&& (63 : Int32)) :: []) (fun t st1 => Z (d + 1) m_law_law t [some (.float a0), some (.ref 0), some (.ref 65), some (.ref 91), some (.int (nI a4)), j5, j6] st1 (Hp S)) = _ from zsw_at (c := 17) (by rw [c17]; decide) (by decide) rfl rfl)) ?_
      exact (show wp E (d + 1) m_law_law 1148 [some (.float a0), some (.ref 0), some (.ref 65), some (.ref 91), some (.int (nI a4)), j5, j6] [] (Hp S) (QI Q) from (hw j5 j6))
    rw [if_neg c17] at hw
    by_cases c18 : ((f5 (nI a4).toNatClampNeg) &&& (63 : Int32)) = 18
    · rw [if_pos c18] at hw
      refine wp_st (pc' := 1216) (L' := [some (.float a0), some (.ref 0), some (.ref 65), some (.ref 91), some (.int (nI a4)), j5, j6]) (st' := []) (h' := Hp S) 1 (fun Z => (show zsw (.tableswitch 2191 0 34 #[156, 229, 285, 298, 354, 422, 490, 515, 571, 639, 730, 798, 811, 891, 971, 1027, 1040, 1108, 1176, 1244, 1324, 1380, 1436, 1532, 1543, 1599, 1655, 1735, 1815, 1895, 1963, 2031, 2099, 2167, 2178]) 40 (.int ((f5 (nI a4).toNatClampNeg) &&& (63 : Int32)) :: []) (fun t st1 => Z (d + 1) m_law_law t [some (.float a0), some (.ref 0), some (.ref 65), some (.ref 91), some (.int (nI a4)), j5, j6] st1 (Hp S)) = _ from zsw_at (c := 18) (by rw [c18]; decide) (by decide) rfl rfl)) ?_
      exact (show wp E (d + 1) m_law_law 1216 [some (.float a0), some (.ref 0), some (.ref 65), some (.ref 91), some (.int (nI a4)), j5, j6] [] (Hp S) (QI Q) from (hw j5 j6))
    rw [if_neg c18] at hw
    by_cases c19 : ((f5 (nI a4).toNatClampNeg) &&& (63 : Int32)) = 19
    · rw [if_pos c19] at hw
      refine wp_st (pc' := 1284) (L' := [some (.float a0), some (.ref 0), some (.ref 65), some (.ref 91), some (.int (nI a4)), j5, j6]) (st' := []) (h' := Hp S) 1 (fun Z => (show zsw (.tableswitch 2191 0 34 #[156, 229, 285, 298, 354, 422, 490, 515, 571, 639, 730, 798, 811, 891, 971, 1027, 1040, 1108, 1176, 1244, 1324, 1380, 1436, 1532, 1543, 1599, 1655, 1735, 1815, 1895, 1963, 2031, 2099, 2167, 2178]) 40 (.int ((f5 (nI a4).toNatClampNeg) &&& (63 : Int32)) :: []) (fun t st1 => Z (d + 1) m_law_law t [some (.float a0), some (.ref 0), some (.ref 65), some (.ref 91), some (.int (nI a4)), j5, j6] st1 (Hp S)) = _ from zsw_at (c := 19) (by rw [c19]; decide) (by decide) rfl rfl)) ?_
      exact (show wp E (d + 1) m_law_law 1284 [some (.float a0), some (.ref 0), some (.ref 65), some (.ref 91), some (.int (nI a4)), j5, j6] [] (Hp S) (QI Q) from (hw j5 j6))
    rw [if_neg c19] at hw
    by_cases c20 : ((f5 (nI a4).toNatClampNeg) &&& (63 : Int32)) = 20
    · rw [if_pos c20] at hw
      refine wp_st (pc' := 1364) (L' := [some (.float a0), some (.ref 0), some (.ref 65), some (.ref 91), some (.int (nI a4)), j5, j6]) (st' := []) (h' := Hp S) 1 (fun Z => (show zsw (.tableswitch 2191 0 34 #[156, 229, 285, 298, 354, 422, 490, 515, 571, 639, 730, 798, 811, 891, 971, 1027, 1040, 1108, 1176, 1244, 1324, 1380, 1436, 1532, 1543, 1599, 1655, 1735, 1815, 1895, 1963, 2031, 2099, 2167, 2178]) 40 (.int ((f5 (nI a4).toNatClampNeg) &&& (63 : Int32)) :: []) (fun t st1 => Z (d + 1) m_law_law t [some (.float a0), some (.ref 0), some (.ref 65), some (.ref 91), some (.int (nI a4)), j5, j6] st1 (Hp S)) = _ from zsw_at (c := 20) (by rw [c20]; decide) (by decide) rfl rfl)) ?_
      exact (show wp E (d + 1) m_law_law 1364 [some (.float a0), some (.ref 0), some (.ref 65), some (.ref 91), some (.int (nI a4)), j5, j6] [] (Hp S) (QI Q) from (hw j5 j6))
    rw [if_neg c20] at hw
    by_cases c21 : ((f5 (nI a4).toNatClampNeg) &&& (63 : Int32)) = 21
    · rw [if_pos c21] at hw
      refine wp_st (pc' := 1420) (L' := [some (.float a0), some (.ref 0), some (.ref 65), some (.ref 91), some (.int (nI a4)), j5, j6]) (st' := []) (h' := Hp S) 1 (fun Z => (show zsw (.tableswitch 2191 0 34 #[156, 229, 285, 298, 354, 422, 490, 515, 571, 639, 730, 798, 811, 891, 971, 1027, 1040, 1108, 1176, 1244, 1324, 1380, 1436, 1532, 1543, 1599, 1655, 1735, 1815, 1895, 1963, 2031, 2099, 2167, 2178]) 40 (.int ((f5 (nI a4).toNatClampNeg) &&& (63 : Int32)) :: []) (fun t st1 => Z (d + 1) m_law_law t [some (.float a0), some (.ref 0), some (.ref 65), some (.ref 91), some (.int (nI a4)), j5, j6] st1 (Hp S)) = _ from zsw_at (c := 21) (by rw [c21]; decide) (by decide) rfl rfl)) ?_
      exact (show wp E (d + 1) m_law_law 1420 [some (.float a0), some (.ref 0), some (.ref 65), some (.ref 91), some (.int (nI a4)), j5, j6] [] (Hp S) (QI Q) from (hw j5 j6))
    rw [if_neg c21] at hw
    by_cases c22 : ((f5 (nI a4).toNatClampNeg) &&& (63 : Int32)) = 22
    · rw [if_pos c22] at hw
      refine wp_st (pc' := 1476) (L' := [some (.float a0), some (.ref 0), some (.ref 65), some (.ref 91), some (.int (nI a4)), j5, j6]) (st' := []) (h' := Hp S) 1 (fun Z => (show zsw (.tableswitch 2191 0 34 #[156, 229, 285, 298, 354, 422, 490, 515, 571, 639, 730, 798, 811, 891, 971, 1027, 1040, 1108, 1176, 1244, 1324, 1380, 1436, 1532, 1543, 1599, 1655, 1735, 1815, 1895, 1963, 2031, 2099, 2167, 2178]) 40 (.int ((f5 (nI a4).toNatClampNeg) &&& (63 : Int32)) :: []) (fun t st1 => Z (d + 1) m_law_law t [some (.float a0), some (.ref 0), some (.ref 65), some (.ref 91), some (.int (nI a4)), j5, j6] st1 (Hp S)) = _ from zsw_at (c := 22) (by rw [c22]; decide) (by decide) rfl rfl)) ?_
      exact (show wp E (d + 1) m_law_law 1476 [some (.float a0), some (.ref 0), some (.ref 65), some (.ref 91), some (.int (nI a4)), j5, j6] [] (Hp S) (QI Q) from (hw j5 j6))
    rw [if_neg c22] at hw
    by_cases c23 : ((f5 (nI a4).toNatClampNeg) &&& (63 : Int32)) = 23
    · rw [if_pos c23] at hw
      refine wp_st (pc' := 1572) (L' := [some (.float a0), some (.ref 0), some (.ref 65), some (.ref 91), some (.int (nI a4)), j5, j6]) (st' := []) (h' := Hp S) 1 (fun Z => (show zsw (.tableswitch 2191 0 34 #[156, 229, 285, 298, 354, 422, 490, 515, 571, 639, 730, 798, 811, 891, 971, 1027, 1040, 1108, 1176, 1244, 1324, 1380, 1436, 1532, 1543, 1599, 1655, 1735, 1815, 1895, 1963, 2031, 2099, 2167, 2178]) 40 (.int ((f5 (nI a4).toNatClampNeg) &&& (63 : Int32)) :: []) (fun t st1 => Z (d + 1) m_law_law t [some (.float a0), some (.ref 0), some (.ref 65), some (.ref 91), some (.int (nI a4)), j5, j6] st1 (Hp S)) = _ from zsw_at (c := 23) (by rw [c23]; decide) (by decide) rfl rfl)) ?_
      exact (show wp E (d + 1) m_law_law 1572 [some (.float a0), some (.ref 0), some (.ref 65), some (.ref 91), some (.int (nI a4)), j5, j6] [] (Hp S) (QI Q) from (hw j5 j6))
    rw [if_neg c23] at hw
    by_cases c24 : ((f5 (nI a4).toNatClampNeg) &&& (63 : Int32)) = 24
    · rw [if_pos c24] at hw
      refine wp_st (pc' := 1583) (L' := [some (.float a0), some (.ref 0), some (.ref 65), some (.ref 91), some (.int (nI a4)), j5, j6]) (st' := []) (h' := Hp S) 1 (fun Z => (show zsw (.tableswitch 2191 0 34 #[156, 229, 285, 298, 354, 422, 490, 515, 571, 639, 730, 798, 811, 891, 971, 1027, 1040, 1108, 1176, 1244, 1324, 1380, 1436, 1532, 1543, 1599, 1655, 1735, 1815, 1895, 1963, 2031, 2099, 2167, 2178]) 40 (.int ((f5 (nI a4).toNatClampNeg) &&& (63 : Int32)) :: []) (fun t st1 => Z (d + 1) m_law_law t [some (.float a0), some (.ref 0), some (.ref 65), some (.ref 91), some (.int (nI a4)), j5, j6] st1 (Hp S)) = _ from zsw_at (c := 24) (by rw [c24]; decide) (by decide) rfl rfl)) ?_
      exact (show wp E (d + 1) m_law_law 1583 [some (.float a0), some (.ref 0), some (.ref 65), some (.ref 91), some (.int (nI a4)), j5, j6] [] (Hp S) (QI Q) from (hw j5 j6))
    rw [if_neg c24] at hw
    by_cases c25 : ((f5 (nI a4).toNatClampNeg) &&& (63 : Int32)) = 25
    · rw [if_pos c25] at hw
      refine wp_st (pc' := 1639) (L' := [some (.float a0), some (.ref 0), some (.ref 65), some (.ref 91), some (.int (nI a4)), j5, j6]) (st' := []) (h' := Hp S) 1 (fun Z => (show zsw (.tableswitch 2191 0 34 #[156, 229, 285, 298, 354, 422, 490, 515, 571, 639, 730, 798, 811, 891, 971, 1027, 1040, 1108, 1176, 1244, 1324, 1380, 1436, 1532, 1543, 1599, 1655, 1735, 1815, 1895, 1963, 2031, 2099, 2167, 2178]) 40 (.int ((f5 (nI a4).toNatClampNeg) &&& (63 : Int32)) :: []) (fun t st1 => Z (d + 1) m_law_law t [some (.float a0), some (.ref 0), some (.ref 65), some (.ref 91), some (.int (nI a4)), j5, j6] st1 (Hp S)) = _ from zsw_at (c := 25) (by rw [c25]; decide) (by decide) rfl rfl)) ?_
      exact (show wp E (d + 1) m_law_law 1639 [some (.float a0), some (.ref 0), some (.ref 65), some (.ref 91), some (.int (nI a4)), j5, j6] [] (Hp S) (QI Q) from (hw j5 j6))
    rw [if_neg c25] at hw
    by_cases c26 : ((f5 (nI a4).toNatClampNeg) &&& (63 : Int32)) = 26
    · rw [if_pos c26] at hw
      refine wp_st (pc' := 1695) (L' := [some (.float a0), some (.ref 0), some (.ref 65), some (.ref 91), some (.int (nI a4)), j5, j6]) (st' := []) (h' := Hp S) 1 (fun Z => (show zsw (.tableswitch 2191 0 34 #[156, 229, 285, 298, 354, 422, 490, 515, 571, 639, 730, 798, 811, 891, 971, 1027, 1040, 1108, 1176, 1244, 1324, 1380, 1436, 1532, 1543, 1599, 1655, 1735, 1815, 1895, 1963, 2031, 2099, 2167, 2178]) 40 (.int ((f5 (nI a4).toNatClampNeg) &&& (63 : Int32)) :: []) (fun t st1 => Z (d + 1) m_law_law t [some (.float a0), some (.ref 0), some (.ref 65), some (.ref 91), some (.int (nI a4)), j5, j6] st1 (Hp S)) = _ from zsw_at (c := 26) (by rw [c26]; decide) (by decide) rfl rfl)) ?_
      exact (show wp E (d + 1) m_law_law 1695 [some (.float a0), some (.ref 0), some (.ref 65), some (.ref 91), some (.int (nI a4)), j5, j6] [] (Hp S) (QI Q) from (hw j5 j6))
    rw [if_neg c26] at hw
    by_cases c27 : ((f5 (nI a4).toNatClampNeg) &&& (63 : Int32)) = 27
    · rw [if_pos c27] at hw
      refine wp_st (pc' := 1775) (L' := [some (.float a0), some (.ref 0), some (.ref 65), some (.ref 91), some (.int (nI a4)), j5, j6]) (st' := []) (h' := Hp S) 1 (fun Z => (show zsw (.tableswitch 2191 0 34 #[156, 229, 285, 298, 354, 422, 490, 515, 571, 639, 730, 798, 811, 891, 971, 1027, 1040, 1108, 1176, 1244, 1324, 1380, 1436, 1532, 1543, 1599, 1655, 1735, 1815, 1895, 1963, 2031, 2099, 2167, 2178]) 40 (.int ((f5 (nI a4).toNatClampNeg) &&& (63 : Int32)) :: []) (fun t st1 => Z (d + 1) m_law_law t [some (.float a0), some (.ref 0), some (.ref 65), some (.ref 91), some (.int (nI a4)), j5, j6] st1 (Hp S)) = _ from zsw_at (c := 27) (by rw [c27]; decide) (by decide) rfl rfl)) ?_
      exact (show wp E (d + 1) m_law_law 1775 [some (.float a0), some (.ref 0), some (.ref 65), some (.ref 91), some (.int (nI a4)), j5, j6] [] (Hp S) (QI Q) from (hw j5 j6))
    rw [if_neg c27] at hw
    by_cases c28 : ((f5 (nI a4).toNatClampNeg) &&& (63 : Int32)) = 28
    · rw [if_pos c28] at hw
      refine wp_st (pc' := 1855) (L' := [some (.float a0), some (.ref 0), some (.ref 65), some (.ref 91), some (.int (nI a4)), j5, j6]) (st' := []) (h' := Hp S) 1 (fun Z => (show zsw (.tableswitch 2191 0 34 #[156, 229, 285, 298, 354, 422, 490, 515, 571, 639, 730, 798, 811, 891, 971, 1027, 1040, 1108, 1176, 1244, 1324, 1380, 1436, 1532, 1543, 1599, 1655, 1735, 1815, 1895, 1963, 2031, 2099, 2167, 2178]) 40 (.int ((f5 (nI a4).toNatClampNeg) &&& (63 : Int32)) :: []) (fun t st1 => Z (d + 1) m_law_law t [some (.float a0), some (.ref 0), some (.ref 65), some (.ref 91), some (.int (nI a4)), j5, j6] st1 (Hp S)) = _ from zsw_at (c := 28) (by rw [c28]; decide) (by decide) rfl rfl)) ?_
      exact (show wp E (d + 1) m_law_law 1855 [some (.float a0), some (.ref 0), some (.ref 65), some (.ref 91), some (.int (nI a4)), j5, j6] [] (Hp S) (QI Q) from (hw j5 j6))
    rw [if_neg c28] at hw
    by_cases c29 : ((f5 (nI a4).toNatClampNeg) &&& (63 : Int32)) = 29
    · rw [if_pos c29] at hw
      refine wp_st (pc' := 1935) (L' := [some (.float a0), some (.ref 0), some (.ref 65), some (.ref 91), some (.int (nI a4)), j5, j6]) (st' := []) (h' := Hp S) 1 (fun Z => (show zsw (.tableswitch 2191 0 34 #[156, 229, 285, 298, 354, 422, 490, 515, 571, 639, 730, 798, 811, 891, 971, 1027, 1040, 1108, 1176, 1244, 1324, 1380, 1436, 1532, 1543, 1599, 1655, 1735, 1815, 1895, 1963, 2031, 2099, 2167, 2178]) 40 (.int ((f5 (nI a4).toNatClampNeg) &&& (63 : Int32)) :: []) (fun t st1 => Z (d + 1) m_law_law t [some (.float a0), some (.ref 0), some (.ref 65), some (.ref 91), some (.int (nI a4)), j5, j6] st1 (Hp S)) = _ from zsw_at (c := 29) (by rw [c29]; decide) (by decide) rfl rfl)) ?_
      exact (show wp E (d + 1) m_law_law 1935 [some (.float a0), some (.ref 0), some (.ref 65), some (.ref 91), some (.int (nI a4)), j5, j6] [] (Hp S) (QI Q) from (hw j5 j6))
    rw [if_neg c29] at hw
    by_cases c30 : ((f5 (nI a4).toNatClampNeg) &&& (63 : Int32)) = 30
    · rw [if_pos c30] at hw
      refine wp_st (pc' := 2003) (L' := [some (.float a0), some (.ref 0), some (.ref 65), some (.ref 91), some (.int (nI a4)), j5, j6]) (st' := []) (h' := Hp S) 1 (fun Z => (show zsw (.tableswitch 2191 0 34 #[156, 229, 285, 298, 354, 422, 490, 515, 571, 639, 730, 798, 811, 891, 971, 1027, 1040, 1108, 1176, 1244, 1324, 1380, 1436, 1532, 1543, 1599, 1655, 1735, 1815, 1895, 1963, 2031, 2099, 2167, 2178]) 40 (.int ((f5 (nI a4).toNatClampNeg) &&& (63 : Int32)) :: []) (fun t st1 => Z (d + 1) m_law_law t [some (.float a0), some (.ref 0), some (.ref 65), some (.ref 91), some (.int (nI a4)), j5, j6] st1 (Hp S)) = _ from zsw_at (c := 30) (by rw [c30]; decide) (by decide) rfl rfl)) ?_
      exact (show wp E (d + 1) m_law_law 2003 [some (.float a0), some (.ref 0), some (.ref 65), some (.ref 91), some (.int (nI a4)), j5, j6] [] (Hp S) (QI Q) from (hw j5 j6))
    rw [if_neg c30] at hw
    by_cases c31 : ((f5 (nI a4).toNatClampNeg) &&& (63 : Int32)) = 31
    · rw [if_pos c31] at hw
      refine wp_st (pc' := 2071) (L' := [some (.float a0), some (.ref 0), some (.ref 65), some (.ref 91), some (.int (nI a4)), j5, j6]) (st' := []) (h' := Hp S) 1 (fun Z => (show zsw (.tableswitch 2191 0 34 #[156, 229, 285, 298, 354, 422, 490, 515, 571, 639, 730, 798, 811, 891, 971, 1027, 1040, 1108, 1176, 1244, 1324, 1380, 1436, 1532, 1543, 1599, 1655, 1735, 1815, 1895, 1963, 2031, 2099, 2167, 2178]) 40 (.int ((f5 (nI a4).toNatClampNeg) &&& (63 : Int32)) :: []) (fun t st1 => Z (d + 1) m_law_law t [some (.float a0), some (.ref 0), some (.ref 65), some (.ref 91), some (.int (nI a4)), j5, j6] st1 (Hp S)) = _ from zsw_at (c := 31) (by rw [c31]; decide) (by decide) rfl rfl)) ?_
      exact (show wp E (d + 1) m_law_law 2071 [some (.float a0), some (.ref 0), some (.ref 65), some (.ref 91), some (.int (nI a4)), j5, j6] [] (Hp S) (QI Q) from (hw j5 j6))
    rw [if_neg c31] at hw
    by_cases c32 : ((f5 (nI a4).toNatClampNeg) &&& (63 : Int32)) = 32
    · rw [if_pos c32] at hw
      refine wp_st (pc' := 2139) (L' := [some (.float a0), some (.ref 0), some (.ref 65), some (.ref 91), some (.int (nI a4)), j5, j6]) (st' := []) (h' := Hp S) 1 (fun Z => (show zsw (.tableswitch 2191 0 34 #[156, 229, 285, 298, 354, 422, 490, 515, 571, 639, 730, 798, 811, 891, 971, 1027, 1040, 1108, 1176, 1244, 1324, 1380, 1436, 1532, 1543, 1599, 1655, 1735, 1815, 1895, 1963, 2031, 2099, 2167, 2178]) 40 (.int ((f5 (nI a4).toNatClampNeg) &&& (63 : Int32)) :: []) (fun t st1 => Z (d + 1) m_law_law t [some (.float a0), some (.ref 0), some (.ref 65), some (.ref 91), some (.int (nI a4)), j5, j6] st1 (Hp S)) = _ from zsw_at (c := 32) (by rw [c32]; decide) (by decide) rfl rfl)) ?_
      exact (show wp E (d + 1) m_law_law 2139 [some (.float a0), some (.ref 0), some (.ref 65), some (.ref 91), some (.int (nI a4)), j5, j6] [] (Hp S) (QI Q) from (hw j5 j6))
    rw [if_neg c32] at hw
    by_cases c33 : ((f5 (nI a4).toNatClampNeg) &&& (63 : Int32)) = 33
    · rw [if_pos c33] at hw
      refine wp_st (pc' := 2207) (L' := [some (.float a0), some (.ref 0), some (.ref 65), some (.ref 91), some (.int (nI a4)), j5, j6]) (st' := []) (h' := Hp S) 1 (fun Z => (show zsw (.tableswitch 2191 0 34 #[156, 229, 285, 298, 354, 422, 490, 515, 571, 639, 730, 798, 811, 891, 971, 1027, 1040, 1108, 1176, 1244, 1324, 1380, 1436, 1532, 1543, 1599, 1655, 1735, 1815, 1895, 1963, 2031, 2099, 2167, 2178]) 40 (.int ((f5 (nI a4).toNatClampNeg) &&& (63 : Int32)) :: []) (fun t st1 => Z (d + 1) m_law_law t [some (.float a0), some (.ref 0), some (.ref 65), some (.ref 91), some (.int (nI a4)), j5, j6] st1 (Hp S)) = _ from zsw_at (c := 33) (by rw [c33]; decide) (by decide) rfl rfl)) ?_
      exact (show wp E (d + 1) m_law_law 2207 [some (.float a0), some (.ref 0), some (.ref 65), some (.ref 91), some (.int (nI a4)), j5, j6] [] (Hp S) (QI Q) from (hw j5 j6))
    rw [if_neg c33] at hw
    by_cases c34 : ((f5 (nI a4).toNatClampNeg) &&& (63 : Int32)) = 34
    · rw [if_pos c34] at hw
      refine wp_st (pc' := 2218) (L' := [some (.float a0), some (.ref 0), some (.ref 65), some (.ref 91), some (.int (nI a4)), j5, j6]) (st' := []) (h' := Hp S) 1 (fun Z => (show zsw (.tableswitch 2191 0 34 #[156, 229, 285, 298, 354, 422, 490, 515, 571, 639, 730, 798, 811, 891, 971, 1027, 1040, 1108, 1176, 1244, 1324, 1380, 1436, 1532, 1543, 1599, 1655, 1735, 1815, 1895, 1963, 2031, 2099, 2167, 2178]) 40 (.int ((f5 (nI a4).toNatClampNeg) &&& (63 : Int32)) :: []) (fun t st1 => Z (d + 1) m_law_law t [some (.float a0), some (.ref 0), some (.ref 65), some (.ref 91), some (.int (nI a4)), j5, j6] st1 (Hp S)) = _ from zsw_at (c := 34) (by rw [c34]; decide) (by decide) rfl rfl)) ?_
      exact (show wp E (d + 1) m_law_law 2218 [some (.float a0), some (.ref 0), some (.ref 65), some (.ref 91), some (.int (nI a4)), j5, j6] [] (Hp S) (QI Q) from (hw j5 j6))
    rw [if_neg c34] at hw
    have hs : (((f5 (nI a4).toNatClampNeg) &&& (63 : Int32))).toInt < (0 : Int) ∨ (34 : Int) < (((f5 (nI a4).toNatClampNeg) &&& (63 : Int32))).toInt := by
      refine zoutG (n := 35) (by decide) (by decide) (by decide) ?_
      intro k hk
      rcases k with _ | _ | _ | _ | _ | _ | _ | _ | _ | _ | _ | _ | _ | _ | _ | _ | _ | _ | _ | _ | _ | _ | _ | _ | _ | _ | _ | _ | _ | _ | _ | _ | _ | _ | _ | k
      · exact c0
      · exact c1
      · exact c2
      · exact c3
      · exact c4
      · exact c5
      · exact c6
      · exact c7
      · exact c8
      · exact c9
      · exact c10
      · exact c11
      · exact c12
      · exact c13
      · exact c14
      · exact c15
      · exact c16
      · exact c17
      · exact c18
      · exact c19
      · exact c20
      · exact c21
      · exact c22
      · exact c23
      · exact c24
      · exact c25
      · exact c26
      · exact c27
      · exact c28
      · exact c29
      · exact c30
      · exact c31
      · exact c32
      · exact c33
      · exact c34
      · omega
    refine wp_st (pc' := 2231) (L' := [some (.float a0), some (.ref 0), some (.ref 65), some (.ref 91), some (.int (nI a4)), j5, j6]) (st' := []) (h' := Hp S) 1 (fun Z => (show zsw (.tableswitch 2191 0 34 #[156, 229, 285, 298, 354, 422, 490, 515, 571, 639, 730, 798, 811, 891, 971, 1027, 1040, 1108, 1176, 1244, 1324, 1380, 1436, 1532, 1543, 1599, 1655, 1735, 1815, 1895, 1963, 2031, 2099, 2167, 2178]) 40 (.int ((f5 (nI a4).toNatClampNeg) &&& (63 : Int32)) :: []) (fun t st1 => Z (d + 1) m_law_law t [some (.float a0), some (.ref 0), some (.ref 65), some (.ref 91), some (.int (nI a4)), j5, j6] st1 (Hp S)) = _ from zsw_out hs rfl)) ?_
    exact (show wp E (d + 1) m_law_law 2231 [some (.float a0), some (.ref 0), some (.ref 65), some (.ref 91), some (.int (nI a4)), j5, j6] [] (Hp S) (QI Q) from (hw j5 j6))
set_option maxRecDepth 4000 in
theorem w_law_law_196 {E : zX} {d : Nat} {S : St} {a0 : UInt32} {a4 : Nat} {Q : Int32 → St → Prop} (hd : 1 ≤ d) 
    (hw : ∃ (n1 : Nat) (f2 : Nat → Int32), out E a0 = some (0, n1, f2) ∧ ix (nI (a4 + 1)) n1 ∧
    ∃ (n3 : Nat) (f4 : Nat → Int32), out E a0 = some (0, n3, f4) ∧ ix (nI (a4 + 2)) n3 ∧
    ∃ (n5 : Nat) (f6 : Nat → Int32), out E a0 = some (0, n5, f6) ∧ ix (nI (a4 + 3)) n5 ∧
    ∃ (n7 : Nat) (f8 : Nat → Int32), out E a0 = some (0, n7, f8) ∧ ix (nI (a4 + 4)) n7 ∧
    ∃ (n9 : Nat) (f10 : Nat → Int32), out E a0 = some (0, n9, f10) ∧ ix (nI (a4 + 5)) n9 ∧
    k_x_feed E (d - 1) S (f2 (nI (a4 + 1)).toNatClampNeg) (f4 (nI (a4 + 2)).toNatClampNeg) (f6 (nI (a4 + 3)).toNatClampNeg) (f8 (nI (a4 + 4)).toNatClampNeg) (f10 (nI (a4 + 5)).toNatClampNeg) (fun x11 S12 =>
    ∃ (n13 : Nat) (f14 : Nat → Int32), out E a0 = some (0, n13, f14) ∧ ix (nI (a4 + 1)) n13 ∧
    ∃ (n15 : Nat) (f16 : Nat → Int32), out E a0 = some (0, n15, f16) ∧ ix (nI (a4 + 2)) n15 ∧
    ∃ (n17 : Nat) (f18 : Nat → Int32), out E a0 = some (0, n17, f18) ∧ ix (nI (a4 + 3)) n17 ∧
    ∃ (n19 : Nat) (f20 : Nat → Int32), out E a0 = some (0, n19, f20) ∧ ix (nI (a4 + 4)) n19 ∧
    ∃ (n21 : Nat) (f22 : Nat → Int32), out E a0 = some (0, n21, f22) ∧ ix (nI (a4 + 5)) n21 ∧
    k_m_feed E (d - 1) S12 (f14 (nI (a4 + 1)).toNatClampNeg) (f16 (nI (a4 + 2)).toNatClampNeg) (f18 (nI (a4 + 3)).toNatClampNeg) (f20 (nI (a4 + 4)).toNatClampNeg) (f22 (nI (a4 + 5)).toNatClampNeg) (fun x23 S24 =>
    if x11 = x23 then (
      k_law_law_2231 E d S24 a0 a4 Q)
    else (
      Q (0 : Int32) S24)))) :
    k_law_law_196 E d S a0 a4 Q := by
  obtain ⟨d, rfl⟩ := Nat.exists_eq_add_of_le' hd
  intro j5 j6
  show wp E (d + 1) m_law_law 196 [some (.float a0), some (.ref 0), some (.ref 65), some (.ref 91), some (.int (nI a4)), j5, j6] [] (Hp S) (QI Q)
  refine wp_st (pc' := 201) (L' := [some (.float a0), some (.ref 0), some (.ref 65), some (.ref 91), some (.int (nI a4)), j5, j6]) (st' := [.int 1, .int (nI a4), .float a0, .ref 0]) (h' := Hp S) 4 (fun Z => rfl) ?_
  refine wp_st (pc' := 202) (L' := [some (.float a0), some (.ref 0), some (.ref 65), some (.ref 91), some (.int (nI a4)), j5, j6]) (st' := [.int (nI (a4 + 1)), .float a0, .ref 0]) (h' := Hp S) 1 (fun Z => by rw [← nI_add a4 1]; rfl) ?_
  obtain ⟨n1, f2, e, hi, hw⟩ := hw
  refine wp_st (pc' := 203) (L' := [some (.float a0), some (.ref 0), some (.ref 65), some (.ref 91), some (.int (nI a4)), j5, j6]) (st' := [.int (f2 (nI (a4 + 1)).toNatClampNeg), .ref 0]) (h' := Hp S) 1 (fun Z => outI_eq (E := E) (h := Hp S) e hi [.ref 0] (fun st => Z (d + 1) m_law_law 203 [some (.float a0), some (.ref 0), some (.ref 65), some (.ref 91), some (.int (nI a4)), j5, j6] st (Hp S))) ?_
  refine wp_st (pc' := 207) (L' := [some (.float a0), some (.ref 0), some (.ref 65), some (.ref 91), some (.int (nI a4)), j5, j6]) (st' := [.int 2, .int (nI a4), .float a0, .int (f2 (nI (a4 + 1)).toNatClampNeg), .ref 0]) (h' := Hp S) 3 (fun Z => rfl) ?_
  refine wp_st (pc' := 208) (L' := [some (.float a0), some (.ref 0), some (.ref 65), some (.ref 91), some (.int (nI a4)), j5, j6]) (st' := [.int (nI (a4 + 2)), .float a0, .int (f2 (nI (a4 + 1)).toNatClampNeg), .ref 0]) (h' := Hp S) 1 (fun Z => by rw [← nI_add a4 2]; rfl) ?_
  obtain ⟨n3, f4, e, hi, hw⟩ := hw
  refine wp_st (pc' := 209) (L' := [some (.float a0), some (.ref 0), some (.ref 65), some (.ref 91), some (.int (nI a4)), j5, j6]) (st' := [.int (f4 (nI (a4 + 2)).toNatClampNeg), .int (f2 (nI (a4 + 1)).toNatClampNeg), .ref 0]) (h' := Hp S) 1 (fun Z => outI_eq (E := E) (h := Hp S) e hi [.int (f2 (nI (a4 + 1)).toNatClampNeg), .ref 0] (fun st => Z (d + 1) m_law_law 209 [some (.float a0), some (.ref 0), some (.ref 65), some (.ref 91), some (.int (nI a4)), j5, j6] st (Hp S))) ?_
  refine wp_st (pc' := 213) (L' := [some (.float a0), some (.ref 0), some (.ref 65), some (.ref 91), some (.int (nI a4)), j5, j6]) (st' := [.int 3, .int (nI a4), .float a0, .int (f4 (nI (a4 + 2)).toNatClampNeg), .int (f2 (nI (a4 + 1)).toNatClampNeg), .ref 0]) (h' := Hp S) 3 (fun Z => rfl) ?_
  refine wp_st (pc' := 214) (L' := [some (.float a0), some (.ref 0), some (.ref 65), some (.ref 91), some (.int (nI a4)), j5, j6]) (st' := [.int (nI (a4 + 3)), .float a0, .int (f4 (nI (a4 + 2)).toNatClampNeg), .int (f2 (nI (a4 + 1)).toNatClampNeg), .ref 0]) (h' := Hp S) 1 (fun Z => by rw [← nI_add a4 3]; rfl) ?_
  obtain ⟨n5, f6, e, hi, hw⟩ := hw
  refine wp_st (pc' := 215) (L' := [some (.float a0), some (.ref 0), some (.ref 65), some (.ref 91), some (.int (nI a4)), j5, j6]) (st' := [.int (f6 (nI (a4 + 3)).toNatClampNeg), .int (f4 (nI (a4 + 2)).toNatClampNeg), .int (f2 (nI (a4 + 1)).toNatClampNeg), .ref 0]) (h' := Hp S) 1 (fun Z => outI_eq (E := E) (h := Hp S) e hi [.int (f4 (nI (a4 + 2)).toNatClampNeg), .int (f2 (nI (a4 + 1)).toNatClampNeg), .ref 0] (fun st => Z (d + 1) m_law_law 215 [some (.float a0), some (.ref 0), some (.ref 65), some (.ref 91), some (.int (nI a4)), j5, j6] st (Hp S))) ?_
  refine wp_st (pc' := 219) (L' := [some (.float a0), some (.ref 0), some (.ref 65), some (.ref 91), some (.int (nI a4)), j5, j6]) (st' := [.int 4, .int (nI a4), .float a0, .int (f6 (nI (a4 + 3)).toNatClampNeg), .int (f4 (nI (a4 + 2)).toNatClampNeg), .int (f2 (nI (a4 + 1)).toNatClampNeg), .ref 0]) (h' := Hp S) 3 (fun Z => rfl) ?_
  refine wp_st (pc' := 220) (L' := [some (.float a0), some (.ref 0), some (.ref 65), some (.ref 91), some (.int (nI a4)), j5, j6]) (st' := [.int (nI (a4 + 4)), .float a0, .int (f6 (nI (a4 + 3)).toNatClampNeg), .int (f4 (nI (a4 + 2)).toNatClampNeg), .int (f2 (nI (a4 + 1)).toNatClampNeg), .ref 0]) (h' := Hp S) 1 (fun Z => by rw [← nI_add a4 4]; rfl) ?_
  obtain ⟨n7, f8, e, hi, hw⟩ := hw
  refine wp_st (pc' := 221) (L' := [some (.float a0), some (.ref 0), some (.ref 65), some (.ref 91), some (.int (nI a4)), j5, j6]) (st' := [.int (f8 (nI (a4 + 4)).toNatClampNeg), .int (f6 (nI (a4 + 3)).toNatClampNeg), .int (f4 (nI (a4 + 2)).toNatClampNeg), .int (f2 (nI (a4 + 1)).toNatClampNeg), .ref 0]) (h' := Hp S) 1 (fun Z => outI_eq (E := E) (h := Hp S) e hi [.int (f6 (nI (a4 + 3)).toNatClampNeg), .int (f4 (nI (a4 + 2)).toNatClampNeg), .int (f2 (nI (a4 + 1)).toNatClampNeg), .ref 0] (fun st => Z (d + 1) m_law_law 221 [some (.float a0), some (.ref 0), some (.ref 65), some (.ref 91), some (.int (nI a4)), j5, j6] st (Hp S))) ?_
  refine wp_st (pc' := 225) (L' := [some (.float a0), some (.ref 0), some (.ref 65), some (.ref 91), some (.int (nI a4)), j5, j6]) (st' := [.int 5, .int (nI a4), .float a0, .int (f8 (nI (a4 + 4)).toNatClampNeg), .int (f6 (nI (a4 + 3)).toNatClampNeg), .int (f4 (nI (a4 + 2)).toNatClampNeg), .int (f2 (nI (a4 + 1)).toNatClampNeg), .ref 0]) (h' := Hp S) 3 (fun Z => rfl) ?_
  refine wp_st (pc' := 226) (L' := [some (.float a0), some (.ref 0), some (.ref 65), some (.ref 91), some (.int (nI a4)), j5, j6]) (st' := [.int (nI (a4 + 5)), .float a0, .int (f8 (nI (a4 + 4)).toNatClampNeg), .int (f6 (nI (a4 + 3)).toNatClampNeg), .int (f4 (nI (a4 + 2)).toNatClampNeg), .int (f2 (nI (a4 + 1)).toNatClampNeg), .ref 0]) (h' := Hp S) 1 (fun Z => by rw [← nI_add a4 5]; rfl) ?_
  obtain ⟨n9, f10, e, hi, hw⟩ := hw
  refine wp_st (pc' := 227) (L' := [some (.float a0), some (.ref 0), some (.ref 65), some (.ref 91), some (.int (nI a4)), j5, j6]) (st' := [.int (f10 (nI (a4 + 5)).toNatClampNeg), .int (f8 (nI (a4 + 4)).toNatClampNeg), .int (f6 (nI (a4 + 3)).toNatClampNeg), .int (f4 (nI (a4 + 2)).toNatClampNeg), .int (f2 (nI (a4 + 1)).toNatClampNeg), .ref 0]) (h' := Hp S) 1 (fun Z => outI_eq (E := E) (h := Hp S) e hi [.int (f8 (nI (a4 + 4)).toNatClampNeg), .int (f6 (nI (a4 + 3)).toNatClampNeg), .int (f4 (nI (a4 + 2)).toNatClampNeg), .int (f2 (nI (a4 + 1)).toNatClampNeg), .ref 0] (fun st => Z (d + 1) m_law_law 227 [some (.float a0), some (.ref 0), some (.ref 65), some (.ref 91), some (.int (nI a4)), j5, j6] st (Hp S))) ?_
  refine wp_call (pc' := 230) (rest := []) (fun Z => rfl) (isO_of sh0) hw ?_
  rintro o h1 ⟨x11, S12, rfl, rfl, hw⟩
  refine ⟨_, rfl, ?_⟩
  show wp E (d + 1) m_law_law 230 [some (.float a0), some (.ref 0), some (.ref 65), some (.ref 91), some (.int (nI a4)), j5, j6] [.int x11] (Hp S12) (QI Q)
  refine wp_st (pc' := 235) (L' := [some (.float a0), some (.ref 0), some (.ref 65), some (.ref 91), some (.int (nI a4)), j5, j6]) (st' := [.int 1, .int (nI a4), .float a0, .ref 65, .int x11]) (h' := Hp S12) 4 (fun Z => rfl) ?_
  refine wp_st (pc' := 236) (L' := [some (.float a0), some (.ref 0), some (.ref 65), some (.ref 91), some (.int (nI a4)), j5, j6]) (st' := [.int (nI (a4 + 1)), .float a0, .ref 65, .int x11]) (h' := Hp S12) 1 (fun Z => by rw [← nI_add a4 1]; rfl) ?_
  obtain ⟨n13, f14, e, hi, hw⟩ := hw
  refine wp_st (pc' := 237) (L' := [some (.float a0), some (.ref 0), some (.ref 65), some (.ref 91), some (.int (nI a4)), j5, j6]) (st' := [.int (f14 (nI (a4 + 1)).toNatClampNeg), .ref 65, .int x11]) (h' := Hp S12) 1 (fun Z => outI_eq (E := E) (h := Hp S12) e hi [.ref 65, .int x11] (fun st => Z (d + 1) m_law_law 237 [some (.float a0), some (.ref 0), some (.ref 65), some (.ref 91), some (.int (nI a4)), j5, j6] st (Hp S12))) ?_
  refine wp_st (pc' := 241) (L' := [some (.float a0), some (.ref 0), some (.ref 65), some (.ref 91), some (.int (nI a4)), j5, j6]) (st' := [.int 2, .int (nI a4), .float a0, .int (f14 (nI (a4 + 1)).toNatClampNeg), .ref 65, .int x11]) (h' := Hp S12) 3 (fun Z => rfl) ?_
  refine wp_st (pc' := 242) (L' := [some (.float a0), some (.ref 0), some (.ref 65), some (.ref 91), some (.int (nI a4)), j5, j6]) (st' := [.int (nI (a4 + 2)), .float a0, .int (f14 (nI (a4 + 1)).toNatClampNeg), .ref 65, .int x11]) (h' := Hp S12) 1 (fun Z => by rw [← nI_add a4 2]; rfl) ?_
  obtain ⟨n15, f16, e, hi, hw⟩ := hw
  refine wp_st (pc' := 243) (L' := [some (.float a0), some (.ref 0), some (.ref 65), some (.ref 91), some (.int (nI a4)), j5, j6]) (st' := [.int (f16 (nI (a4 + 2)).toNatClampNeg), .int (f14 (nI (a4 + 1)).toNatClampNeg), .ref 65, .int x11]) (h' := Hp S12) 1 (fun Z => outI_eq (E := E) (h := Hp S12) e hi [.int (f14 (nI (a4 + 1)).toNatClampNeg), .ref 65, .int x11] (fun st => Z (d + 1) m_law_law 243 [some (.float a0), some (.ref 0), some (.ref 65), some (.ref 91), some (.int (nI a4)), j5, j6] st (Hp S12))) ?_
  refine wp_st (pc' := 247) (L' := [some (.float a0), some (.ref 0), some (.ref 65), some (.ref 91), some (.int (nI a4)), j5, j6]) (st' := [.int 3, .int (nI a4), .float a0, .int (f16 (nI (a4 + 2)).toNatClampNeg), .int (f14 (nI (a4 + 1)).toNatClampNeg), .ref 65, .int x11]) (h' := Hp S12) 3 (fun Z => rfl) ?_
  refine wp_st (pc' := 248) (L' := [some (.float a0), some (.ref 0), some (.ref 65), some (.ref 91), some (.int (nI a4)), j5, j6]) (st' := [.int (nI (a4 + 3)), .float a0, .int (f16 (nI (a4 + 2)).toNatClampNeg), .int (f14 (nI (a4 + 1)).toNatClampNeg), .ref 65, .int x11]) (h' := Hp S12) 1 (fun Z => by rw [← nI_add a4 3]; rfl) ?_
  obtain ⟨n17, f18, e, hi, hw⟩ := hw
  refine wp_st (pc' := 249) (L' := [some (.float a0), some (.ref 0), some (.ref 65), some (.ref 91), some (.int (nI a4)), j5, j6]) (st' := [.int (f18 (nI (a4 + 3)).toNatClampNeg), .int (f16 (nI (a4 + 2)).toNatClampNeg), .int (f14 (nI (a4 + 1)).toNatClampNeg), .ref 65, .int x11]) (h' := Hp S12) 1 (fun Z => outI_eq (E := E) (h := Hp S12) e hi [.int (f16 (nI (a4 + 2)).toNatClampNeg), .int (f14 (nI (a4 + 1)).toNatClampNeg), .ref 65, .int x11] (fun st => Z (d + 1) m_law_law 249 [some (.float a0), some (.ref 0), some (.ref 65), some (.ref 91), some (.int (nI a4)), j5, j6] st (Hp S12))) ?_
  refine wp_st (pc' := 253) (L' := [some (.float a0), some (.ref 0), some (.ref 65), some (.ref 91), some (.int (nI a4)), j5, j6]) (st' := [.int 4, .int (nI a4), .float a0, .int (f18 (nI (a4 + 3)).toNatClampNeg), .int (f16 (nI (a4 + 2)).toNatClampNeg), .int (f14 (nI (a4 + 1)).toNatClampNeg), .ref 65, .int x11]) (h' := Hp S12) 3 (fun Z => rfl) ?_
  refine wp_st (pc' := 254) (L' := [some (.float a0), some (.ref 0), some (.ref 65), some (.ref 91), some (.int (nI a4)), j5, j6]) (st' := [.int (nI (a4 + 4)), .float a0, .int (f18 (nI (a4 + 3)).toNatClampNeg), .int (f16 (nI (a4 + 2)).toNatClampNeg), .int (f14 (nI (a4 + 1)).toNatClampNeg), .ref 65, .int x11]) (h' := Hp S12) 1 (fun Z => by rw [← nI_add a4 4]; rfl) ?_
  obtain ⟨n19, f20, e, hi, hw⟩ := hw
  refine wp_st (pc' := 255) (L' := [some (.float a0), some (.ref 0), some (.ref 65), some (.ref 91), some (.int (nI a4)), j5, j6]) (st' := [.int (f20 (nI (a4 + 4)).toNatClampNeg), .int (f18 (nI (a4 + 3)).toNatClampNeg), .int (f16 (nI (a4 + 2)).toNatClampNeg), .int (f14 (nI (a4 + 1)).toNatClampNeg), .ref 65, .int x11]) (h' := Hp S12) 1 (fun Z => outI_eq (E := E) (h := Hp S12) e hi [.int (f18 (nI (a4 + 3)).toNatClampNeg), .int (f16 (nI (a4 + 2)).toNatClampNeg), .int (f14 (nI (a4 + 1)).toNatClampNeg), .ref 65, .int x11] (fun st => Z (d + 1) m_law_law 255 [some (.float a0), some (.ref 0), some (.ref 65), some (.ref 91), some (.int (nI a4)), j5, j6] st (Hp S12))) ?_
  refine wp_st (pc' := 259) (L' := [some (.float a0), some (.ref 0), some (.ref 65), some (.ref 91), some (.int (nI a4)), j5, j6]) (st' := [.int 5, .int (nI a4), .float a0, .int (f20 (nI (a4 + 4)).toNatClampNeg), .int (f18 (nI (a4 + 3)).toNatClampNeg), .int (f16 (nI (a4 + 2)).toNatClampNeg), .int (f14 (nI (a4 + 1)).toNatClampNeg), .ref 65, .int x11]) (h' := Hp S12) 3 (fun Z => rfl) ?_
  refine wp_st (pc' := 260) (L' := [some (.float a0), some (.ref 0), some (.ref 65), some (.ref 91), some (.int (nI a4)), j5, j6]) (st' := [.int (nI (a4 + 5)), .float a0, .int (f20 (nI (a4 + 4)).toNatClampNeg), .int (f18 (nI (a4 + 3)).toNatClampNeg), .int (f16 (nI (a4 + 2)).toNatClampNeg), .int (f14 (nI (a4 + 1)).toNatClampNeg), .ref 65, .int x11]) (h' := Hp S12) 1 (fun Z => by rw [← nI_add a4 5]; rfl) ?_
  obtain ⟨n21, f22, e, hi, hw⟩ := hw
  refine wp_st (pc' := 261) (L' := [some (.float a0), some (.ref 0), some (.ref 65), some (.ref 91), some (.int (nI a4)), j5, j6]) (st' := [.int (f22 (nI (a4 + 5)).toNatClampNeg), .int (f20 (nI (a4 + 4)).toNatClampNeg), .int (f18 (nI (a4 + 3)).toNatClampNeg), .int (f16 (nI (a4 + 2)).toNatClampNeg), .int (f14 (nI (a4 + 1)).toNatClampNeg), .ref 65, .int x11]) (h' := Hp S12) 1 (fun Z => outI_eq (E := E) (h := Hp S12) e hi [.int (f20 (nI (a4 + 4)).toNatClampNeg), .int (f18 (nI (a4 + 3)).toNatClampNeg), .int (f16 (nI (a4 + 2)).toNatClampNeg), .int (f14 (nI (a4 + 1)).toNatClampNeg), .ref 65, .int x11] (fun st => Z (d + 1) m_law_law 261 [some (.float a0), some (.ref 0), some (.ref 65), some (.ref 91), some (.int (nI a4)), j5, j6] st (Hp S12))) ?_
  refine wp_call (pc' := 264) (rest := [.int x11]) (fun Z => rfl) (isO_of sh65) hw ?_
  rintro o h1 ⟨x23, S24, rfl, rfl, hw⟩
  refine ⟨_, rfl, ?_⟩
  show wp E (d + 1) m_law_law 264 [some (.float a0), some (.ref 0), some (.ref 65), some (.ref 91), some (.int (nI a4)), j5, j6] [.int x23, .int x11] (Hp S24) (QI Q)
  by_cases hc : x11 = x23
  · rw [if_pos hc] at hw
    refine wp_st (pc' := 2231) (L' := [some (.float a0), some (.ref 0), some (.ref 65), some (.ref 91), some (.int (nI a4)), j5, j6]) (st' := []) (h' := Hp S24) 1 (fun Z => if_pos hc) ?_
    exact (show wp E (d + 1) m_law_law 2231 [some (.float a0), some (.ref 0), some (.ref 65), some (.ref 91), some (.int (nI a4)), j5, j6] [] (Hp S24) (QI Q) from (hw j5 j6))
  · rw [if_neg hc] at hw
    refine wp_st (pc' := 267) (L' := [some (.float a0), some (.ref 0), some (.ref 65), some (.ref 91), some (.int (nI a4)), j5, j6]) (st' := []) (h' := Hp S24) 1 (fun Z => if_neg hc) ?_
    refine wp_st (pc' := 268) (L' := [some (.float a0), some (.ref 0), some (.ref 65), some (.ref 91), some (.int (nI a4)), j5, j6]) (st' := [.int 0]) (h' := Hp S24) 1 (fun Z => rfl) ?_
    exact wp_ret (fun Z => rfl) ⟨_, _, rfl, rfl, hw⟩
set_option maxRecDepth 4000 in
theorem w_law_law_269 {E : zX} {d : Nat} {S : St} {a0 : UInt32} {a4 : Nat} {Q : Int32 → St → Prop} (hd : 1 ≤ d) 
    (hw : ∃ (n1 : Nat) (f2 : Nat → Int32), out E a0 = some (0, n1, f2) ∧ ix (nI (a4 + 1)) n1 ∧
    k_law_county E (d - 1) S (f2 (nI (a4 + 1)).toNatClampNeg) (fun x3 S4 =>
    ∃ (n5 : Nat) (f6 : Nat → Int32), out E a0 = some (0, n5, f6) ∧ ix (nI (a4 + 1)) n5 ∧
    k_m_county E (d - 1) S4 (f6 (nI (a4 + 1)).toNatClampNeg) (fun x7 S8 =>
    k_m_thrown E (d - 1) S8 (fun x9 S10 =>
    if x9 = x3 then (
      if x3 = 0 then (
        if (lg_cmp (catL (S10 91 0) (S10 91 1)) (Int32.toInt64 x7)) = 0 then (
          k_law_law_2231 E d S10 a0 a4 Q)
        else (
          Q (0 : Int32) S10))
      else (
        k_law_law_2231 E d S10 a0 a4 Q))
    else (
      Q (0 : Int32) S10))))) :
    k_law_law_269 E d S a0 a4 Q := by
  obtain ⟨d, rfl⟩ := Nat.exists_eq_add_of_le' hd
  intro j5 j6
  show wp E (d + 1) m_law_law 269 [some (.float a0), some (.ref 0), some (.ref 65), some (.ref 91), some (.int (nI a4)), j5, j6] [] (Hp S) (QI Q)
  refine wp_st (pc' := 274) (L' := [some (.float a0), some (.ref 0), some (.ref 65), some (.ref 91), some (.int (nI a4)), j5, j6]) (st' := [.int 1, .int (nI a4), .float a0, .ref 0]) (h' := Hp S) 4 (fun Z => rfl) ?_
  refine wp_st (pc' := 275) (L' := [some (.float a0), some (.ref 0), some (.ref 65), some (.ref 91), some (.int (nI a4)), j5, j6]) (st' := [.int (nI (a4 + 1)), .float a0, .ref 0]) (h' := Hp S) 1 (fun Z => by rw [← nI_add a4 1]; rfl) ?_
  obtain ⟨n1, f2, e, hi, hw⟩ := hw
  refine wp_st (pc' := 276) (L' := [some (.float a0), some (.ref 0), some (.ref 65), some (.ref 91), some (.int (nI a4)), j5, j6]) (st' := [.int (f2 (nI (a4 + 1)).toNatClampNeg), .ref 0]) (h' := Hp S) 1 (fun Z => outI_eq (E := E) (h := Hp S) e hi [.ref 0] (fun st => Z (d + 1) m_law_law 276 [some (.float a0), some (.ref 0), some (.ref 65), some (.ref 91), some (.int (nI a4)), j5, j6] st (Hp S))) ?_
  refine wp_st (pc' := 277) (L' := [some (.float a0), some (.ref 0), some (.ref 65), some (.ref 91), some (.int (nI a4)), j5, j6]) (st' := [.ref 91, .int (f2 (nI (a4 + 1)).toNatClampNeg), .ref 0]) (h' := Hp S) 1 (fun Z => rfl) ?_
  refine wp_call (pc' := 280) (rest := []) (fun Z => rfl) rfl hw ?_
  rintro o h1 ⟨x3, S4, rfl, rfl, hw⟩
  refine ⟨_, rfl, ?_⟩
  show wp E (d + 1) m_law_law 280 [some (.float a0), some (.ref 0), some (.ref 65), some (.ref 91), some (.int (nI a4)), j5, j6] [.int x3] (Hp S4) (QI Q)
  refine wp_st (pc' := 287) (L' := [some (.float a0), some (.ref 0), some (.ref 65), some (.ref 91), some (.int (nI a4)), some (.int x3), j6]) (st' := [.int 1, .int (nI a4), .float a0, .ref 65]) (h' := Hp S4) 5 (fun Z => rfl) ?_
  refine wp_st (pc' := 288) (L' := [some (.float a0), some (.ref 0), some (.ref 65), some (.ref 91), some (.int (nI a4)), some (.int x3), j6]) (st' := [.int (nI (a4 + 1)), .float a0, .ref 65]) (h' := Hp S4) 1 (fun Z => by rw [← nI_add a4 1]; rfl) ?_
  obtain ⟨n5, f6, e, hi, hw⟩ := hw
  refine wp_st (pc' := 289) (L' := [some (.float a0), some (.ref 0), some (.ref 65), some (.ref 91), some (.int (nI a4)), some (.int x3), j6]) (st' := [.int (f6 (nI (a4 + 1)).toNatClampNeg), .ref 65]) (h' := Hp S4) 1 (fun Z => outI_eq (E := E) (h := Hp S4) e hi [.ref 65] (fun st => Z (d + 1) m_law_law 289 [some (.float a0), some (.ref 0), some (.ref 65), some (.ref 91), some (.int (nI a4)), some (.int x3), j6] st (Hp S4))) ?_
  refine wp_call (pc' := 292) (rest := []) (fun Z => rfl) (isO_of sh65) hw ?_
  rintro o h1 ⟨x7, S8, rfl, rfl, hw⟩
  refine ⟨_, rfl, ?_⟩
  show wp E (d + 1) m_law_law 292 [some (.float a0), some (.ref 0), some (.ref 65), some (.ref 91), some (.int (nI a4)), some (.int x3), j6] [.int x7] (Hp S8) (QI Q)
  refine wp_st (pc' := 295) (L' := [some (.float a0), some (.ref 0), some (.ref 65), some (.ref 91), some (.int (nI a4)), some (.int x3), some (.int x7)]) (st' := [.ref 65]) (h' := Hp S8) 2 (fun Z => rfl) ?_
  refine wp_call (pc' := 298) (rest := []) (fun Z => rfl) (isO_of sh65) hw ?_
  rintro o h1 ⟨x9, S10, rfl, rfl, hw⟩
  refine ⟨_, rfl, ?_⟩
  show wp E (d + 1) m_law_law 298 [some (.float a0), some (.ref 0), some (.ref 65), some (.ref 91), some (.int (nI a4)), some (.int x3), some (.int x7)] [.int x9] (Hp S10) (QI Q)
  refine wp_st (pc' := 300) (L' := [some (.float a0), some (.ref 0), some (.ref 65), some (.ref 91), some (.int (nI a4)), some (.int x3), some (.int x7)]) (st' := [.int x3, .int x9]) (h' := Hp S10) 1 (fun Z => rfl) ?_
  by_cases hc : x9 = x3
  · rw [if_pos hc] at hw
    refine wp_st (pc' := 305) (L' := [some (.float a0), some (.ref 0), some (.ref 65), some (.ref 91), some (.int (nI a4)), some (.int x3), some (.int x7)]) (st' := []) (h' := Hp S10) 1 (fun Z => if_pos hc) ?_
    refine wp_st (pc' := 307) (L' := [some (.float a0), some (.ref 0), some (.ref 65), some (.ref 91), some (.int (nI a4)), some (.int x3), some (.int x7)]) (st' := [.int x3]) (h' := Hp S10) 1 (fun Z => rfl) ?_
    by_cases hc : x3 = 0
    · rw [if_pos hc] at hw
      refine wp_st (pc' := 310) (L' := [some (.float a0), some (.ref 0), some (.ref 65), some (.ref 91), some (.int (nI a4)), some (.int x3), some (.int x7)]) (st' := []) (h' := Hp S10) 1 (fun Z => if_pos hc) ?_
      refine wp_st (pc' := 312) (L' := [some (.float a0), some (.ref 0), some (.ref 65), some (.ref 91), some (.int (nI a4)), some (.int x3), some (.int x7)]) (st' := [.int 0, .ref 91]) (h' := Hp S10) 2 (fun Z => rfl) ?_
      refine wp_st (pc' := 313) (L' := [some (.float a0), some (.ref 0), some (.ref 65), some (.ref 91), some (.int (nI a4)), some (.int x3), some (.int x7)]) (st' := [.long (catL (S10 91 0) (S10 91 1))]) (h' := Hp S10) 1 (fun Z => ldJ0 (E := E) sh91 (by decide) [] (fun st => Z (d + 1) m_law_law 313 [some (.float a0), some (.ref 0), some (.ref 65), some (.ref 91), some (.int (nI a4)), some (.int x3), some (.int x7)] st (Hp S10))) ?_
      refine wp_st (pc' := 317) (L' := [some (.float a0), some (.ref 0), some (.ref 65), some (.ref 91), some (.int (nI a4)), some (.int x3), some (.int x7)]) (st' := [.int (lg_cmp (catL (S10 91 0) (S10 91 1)) (Int32.toInt64 x7))]) (h' := Hp S10) 3 (fun Z => rfl) ?_
      by_cases hc : (lg_cmp (catL (S10 91 0) (S10 91 1)) (Int32.toInt64 x7)) = 0
      · rw [if_pos hc] at hw
        refine wp_st (pc' := 322) (L' := [some (.float a0), some (.ref 0), some (.ref 65), some (.ref 91), some (.int (nI a4)), some (.int x3), some (.int x7)]) (st' := []) (h' := Hp S10) 1 (fun Z => if_pos hc) ?_
        exact wp_st 1 (fun Z => rfl) (show wp E (d + 1) m_law_law 2231 [some (.float a0), some (.ref 0), some (.ref 65), some (.ref 91), some (.int (nI a4)), some (.int x3), some (.int x7)] [] (Hp S10) (QI Q) from (hw (some (.int x3)) (some (.int x7))))
      · rw [if_neg hc] at hw
        refine wp_st (pc' := 320) (L' := [some (.float a0), some (.ref 0), some (.ref 65), some (.ref 91), some (.int (nI a4)), some (.int x3), some (.int x7)]) (st' := []) (h' := Hp S10) 1 (fun Z => if_neg hc) ?_
        refine wp_st (pc' := 321) (L' := [some (.float a0), some (.ref 0), some (.ref 65), some (.ref 91), some (.int (nI a4)), some (.int x3), some (.int x7)]) (st' := [.int 0]) (h' := Hp S10) 1 (fun Z => rfl) ?_
        exact wp_ret (fun Z => rfl) ⟨_, _, rfl, rfl, hw⟩
    · rw [if_neg hc] at hw
      refine wp_st (pc' := 322) (L' := [some (.float a0), some (.ref 0), some (.ref 65), some (.ref 91), some (.int (nI a4)), some (.int x3), some (.int x7)]) (st' := []) (h' := Hp S10) 1 (fun Z => if_neg hc) ?_
      exact wp_st 1 (fun Z => rfl) (show wp E (d + 1) m_law_law 2231 [some (.float a0), some (.ref 0), some (.ref 65), some (.ref 91), some (.int (nI a4)), some (.int x3), some (.int x7)] [] (Hp S10) (QI Q) from (hw (some (.int x3)) (some (.int x7))))
  · rw [if_neg hc] at hw
    refine wp_st (pc' := 303) (L' := [some (.float a0), some (.ref 0), some (.ref 65), some (.ref 91), some (.int (nI a4)), some (.int x3), some (.int x7)]) (st' := []) (h' := Hp S10) 1 (fun Z => if_neg hc) ?_
    refine wp_st (pc' := 304) (L' := [some (.float a0), some (.ref 0), some (.ref 65), some (.ref 91), some (.int (nI a4)), some (.int x3), some (.int x7)]) (st' := [.int 0]) (h' := Hp S10) 1 (fun Z => rfl) ?_
    exact wp_ret (fun Z => rfl) ⟨_, _, rfl, rfl, hw⟩
set_option maxRecDepth 4000 in
theorem w_law_law_325 {E : zX} {d : Nat} {S : St} {a0 : UInt32} {a4 : Nat} {Q : Int32 → St → Prop} (hd : 1 ≤ d) 
    (hw : k_x_fault E (d - 1) S (fun x1 S2 =>
    k_m_fault E (d - 1) S2 (fun x3 S4 =>
    if x1 = x3 then (
      k_law_law_2231 E d S4 a0 a4 Q)
    else (
      Q (0 : Int32) S4)))) :
    k_law_law_325 E d S a0 a4 Q := by
  obtain ⟨d, rfl⟩ := Nat.exists_eq_add_of_le' hd
  intro j5 j6
  show wp E (d + 1) m_law_law 325 [some (.float a0), some (.ref 0), some (.ref 65), some (.ref 91), some (.int (nI a4)), j5, j6] [] (Hp S) (QI Q)
  refine wp_st (pc' := 326) (L' := [some (.float a0), some (.ref 0), some (.ref 65), some (.ref 91), some (.int (nI a4)), j5, j6]) (st' := [.ref 0]) (h' := Hp S) 1 (fun Z => rfl) ?_
  refine wp_call (pc' := 329) (rest := []) (fun Z => rfl) (isO_of sh0) hw ?_
  rintro o h1 ⟨x1, S2, rfl, rfl, hw⟩
  refine ⟨_, rfl, ?_⟩
  show wp E (d + 1) m_law_law 329 [some (.float a0), some (.ref 0), some (.ref 65), some (.ref 91), some (.int (nI a4)), j5, j6] [.int x1] (Hp S2) (QI Q)
  refine wp_st (pc' := 330) (L' := [some (.float a0), some (.ref 0), some (.ref 65), some (.ref 91), some (.int (nI a4)), j5, j6]) (st' := [.ref 65, .int x1]) (h' := Hp S2) 1 (fun Z => rfl) ?_
  refine wp_call (pc' := 333) (rest := [.int x1]) (fun Z => rfl) (isO_of sh65) hw ?_
  rintro o h1 ⟨x3, S4, rfl, rfl, hw⟩
  refine ⟨_, rfl, ?_⟩
  show wp E (d + 1) m_law_law 333 [some (.float a0), some (.ref 0), some (.ref 65), some (.ref 91), some (.int (nI a4)), j5, j6] [.int x3, .int x1] (Hp S4) (QI Q)
  by_cases hc : x1 = x3
  · rw [if_pos hc] at hw
    refine wp_st (pc' := 2231) (L' := [some (.float a0), some (.ref 0), some (.ref 65), some (.ref 91), some (.int (nI a4)), j5, j6]) (st' := []) (h' := Hp S4) 1 (fun Z => if_pos hc) ?_
    exact (show wp E (d + 1) m_law_law 2231 [some (.float a0), some (.ref 0), some (.ref 65), some (.ref 91), some (.int (nI a4)), j5, j6] [] (Hp S4) (QI Q) from (hw j5 j6))
  · rw [if_neg hc] at hw
    refine wp_st (pc' := 336) (L' := [some (.float a0), some (.ref 0), some (.ref 65), some (.ref 91), some (.int (nI a4)), j5, j6]) (st' := []) (h' := Hp S4) 1 (fun Z => if_neg hc) ?_
    refine wp_st (pc' := 337) (L' := [some (.float a0), some (.ref 0), some (.ref 65), some (.ref 91), some (.int (nI a4)), j5, j6]) (st' := [.int 0]) (h' := Hp S4) 1 (fun Z => rfl) ?_
    exact wp_ret (fun Z => rfl) ⟨_, _, rfl, rfl, hw⟩
set_option maxRecDepth 4000 in
theorem w_law_law_338 {E : zX} {d : Nat} {S : St} {a0 : UInt32} {a4 : Nat} {Q : Int32 → St → Prop} (hd : 1 ≤ d) 
    (hw : ∃ (n1 : Nat) (f2 : Nat → Int32), out E a0 = some (0, n1, f2) ∧ ix (nI (a4 + 1)) n1 ∧
    k_law_count E (d - 1) S (f2 (nI (a4 + 1)).toNatClampNeg) (fun x3 S4 =>
    ∃ (n5 : Nat) (f6 : Nat → Int32), out E a0 = some (0, n5, f6) ∧ ix (nI (a4 + 1)) n5 ∧
    k_m_count E (d - 1) S4 (f6 (nI (a4 + 1)).toNatClampNeg) (fun x7 S8 =>
    k_m_thrown E (d - 1) S8 (fun x9 S10 =>
    if x9 = x3 then (
      if x3 = 0 then (
        if (lg_cmp (catL (S10 91 0) (S10 91 1)) (Int32.toInt64 x7)) = 0 then (
          k_law_law_2231 E d S10 a0 a4 Q)
        else (
          Q (0 : Int32) S10))
      else (
        k_law_law_2231 E d S10 a0 a4 Q))
    else (
      Q (0 : Int32) S10))))) :
    k_law_law_338 E d S a0 a4 Q := by
  obtain ⟨d, rfl⟩ := Nat.exists_eq_add_of_le' hd
  intro j5 j6
  show wp E (d + 1) m_law_law 338 [some (.float a0), some (.ref 0), some (.ref 65), some (.ref 91), some (.int (nI a4)), j5, j6] [] (Hp S) (QI Q)
  refine wp_st (pc' := 343) (L' := [some (.float a0), some (.ref 0), some (.ref 65), some (.ref 91), some (.int (nI a4)), j5, j6]) (st' := [.int 1, .int (nI a4), .float a0, .ref 0]) (h' := Hp S) 4 (fun Z => rfl) ?_
  refine wp_st (pc' := 344) (L' := [some (.float a0), some (.ref 0), some (.ref 65), some (.ref 91), some (.int (nI a4)), j5, j6]) (st' := [.int (nI (a4 + 1)), .float a0, .ref 0]) (h' := Hp S) 1 (fun Z => by rw [← nI_add a4 1]; rfl) ?_
  obtain ⟨n1, f2, e, hi, hw⟩ := hw
  refine wp_st (pc' := 345) (L' := [some (.float a0), some (.ref 0), some (.ref 65), some (.ref 91), some (.int (nI a4)), j5, j6]) (st' := [.int (f2 (nI (a4 + 1)).toNatClampNeg), .ref 0]) (h' := Hp S) 1 (fun Z => outI_eq (E := E) (h := Hp S) e hi [.ref 0] (fun st => Z (d + 1) m_law_law 345 [some (.float a0), some (.ref 0), some (.ref 65), some (.ref 91), some (.int (nI a4)), j5, j6] st (Hp S))) ?_
  refine wp_st (pc' := 346) (L' := [some (.float a0), some (.ref 0), some (.ref 65), some (.ref 91), some (.int (nI a4)), j5, j6]) (st' := [.ref 91, .int (f2 (nI (a4 + 1)).toNatClampNeg), .ref 0]) (h' := Hp S) 1 (fun Z => rfl) ?_
  refine wp_call (pc' := 349) (rest := []) (fun Z => rfl) rfl hw ?_
  rintro o h1 ⟨x3, S4, rfl, rfl, hw⟩
  refine ⟨_, rfl, ?_⟩
  show wp E (d + 1) m_law_law 349 [some (.float a0), some (.ref 0), some (.ref 65), some (.ref 91), some (.int (nI a4)), j5, j6] [.int x3] (Hp S4) (QI Q)
  refine wp_st (pc' := 356) (L' := [some (.float a0), some (.ref 0), some (.ref 65), some (.ref 91), some (.int (nI a4)), some (.int x3), j6]) (st' := [.int 1, .int (nI a4), .float a0, .ref 65]) (h' := Hp S4) 5 (fun Z => rfl) ?_
  refine wp_st (pc' := 357) (L' := [some (.float a0), some (.ref 0), some (.ref 65), some (.ref 91), some (.int (nI a4)), some (.int x3), j6]) (st' := [.int (nI (a4 + 1)), .float a0, .ref 65]) (h' := Hp S4) 1 (fun Z => by rw [← nI_add a4 1]; rfl) ?_
  obtain ⟨n5, f6, e, hi, hw⟩ := hw
  refine wp_st (pc' := 358) (L' := [some (.float a0), some (.ref 0), some (.ref 65), some (.ref 91), some (.int (nI a4)), some (.int x3), j6]) (st' := [.int (f6 (nI (a4 + 1)).toNatClampNeg), .ref 65]) (h' := Hp S4) 1 (fun Z => outI_eq (E := E) (h := Hp S4) e hi [.ref 65] (fun st => Z (d + 1) m_law_law 358 [some (.float a0), some (.ref 0), some (.ref 65), some (.ref 91), some (.int (nI a4)), some (.int x3), j6] st (Hp S4))) ?_
  refine wp_call (pc' := 361) (rest := []) (fun Z => rfl) (isO_of sh65) hw ?_
  rintro o h1 ⟨x7, S8, rfl, rfl, hw⟩
  refine ⟨_, rfl, ?_⟩
  show wp E (d + 1) m_law_law 361 [some (.float a0), some (.ref 0), some (.ref 65), some (.ref 91), some (.int (nI a4)), some (.int x3), j6] [.int x7] (Hp S8) (QI Q)
  refine wp_st (pc' := 364) (L' := [some (.float a0), some (.ref 0), some (.ref 65), some (.ref 91), some (.int (nI a4)), some (.int x3), some (.int x7)]) (st' := [.ref 65]) (h' := Hp S8) 2 (fun Z => rfl) ?_
  refine wp_call (pc' := 367) (rest := []) (fun Z => rfl) (isO_of sh65) hw ?_
  rintro o h1 ⟨x9, S10, rfl, rfl, hw⟩
  refine ⟨_, rfl, ?_⟩
  show wp E (d + 1) m_law_law 367 [some (.float a0), some (.ref 0), some (.ref 65), some (.ref 91), some (.int (nI a4)), some (.int x3), some (.int x7)] [.int x9] (Hp S10) (QI Q)
  refine wp_st (pc' := 369) (L' := [some (.float a0), some (.ref 0), some (.ref 65), some (.ref 91), some (.int (nI a4)), some (.int x3), some (.int x7)]) (st' := [.int x3, .int x9]) (h' := Hp S10) 1 (fun Z => rfl) ?_
  by_cases hc : x9 = x3
  · rw [if_pos hc] at hw
    refine wp_st (pc' := 374) (L' := [some (.float a0), some (.ref 0), some (.ref 65), some (.ref 91), some (.int (nI a4)), some (.int x3), some (.int x7)]) (st' := []) (h' := Hp S10) 1 (fun Z => if_pos hc) ?_
    refine wp_st (pc' := 376) (L' := [some (.float a0), some (.ref 0), some (.ref 65), some (.ref 91), some (.int (nI a4)), some (.int x3), some (.int x7)]) (st' := [.int x3]) (h' := Hp S10) 1 (fun Z => rfl) ?_
    by_cases hc : x3 = 0
    · rw [if_pos hc] at hw
      refine wp_st (pc' := 379) (L' := [some (.float a0), some (.ref 0), some (.ref 65), some (.ref 91), some (.int (nI a4)), some (.int x3), some (.int x7)]) (st' := []) (h' := Hp S10) 1 (fun Z => if_pos hc) ?_
      refine wp_st (pc' := 381) (L' := [some (.float a0), some (.ref 0), some (.ref 65), some (.ref 91), some (.int (nI a4)), some (.int x3), some (.int x7)]) (st' := [.int 0, .ref 91]) (h' := Hp S10) 2 (fun Z => rfl) ?_
      refine wp_st (pc' := 382) (L' := [some (.float a0), some (.ref 0), some (.ref 65), some (.ref 91), some (.int (nI a4)), some (.int x3), some (.int x7)]) (st' := [.long (catL (S10 91 0) (S10 91 1))]) (h' := Hp S10) 1 (fun Z => ldJ0 (E := E) sh91 (by decide) [] (fun st => Z (d + 1) m_law_law 382 [some (.float a0), some (.ref 0), some (.ref 65), some (.ref 91), some (.int (nI a4)), some (.int x3), some (.int x7)] st (Hp S10))) ?_
      refine wp_st (pc' := 386) (L' := [some (.float a0), some (.ref 0), some (.ref 65), some (.ref 91), some (.int (nI a4)), some (.int x3), some (.int x7)]) (st' := [.int (lg_cmp (catL (S10 91 0) (S10 91 1)) (Int32.toInt64 x7))]) (h' := Hp S10) 3 (fun Z => rfl) ?_
      by_cases hc : (lg_cmp (catL (S10 91 0) (S10 91 1)) (Int32.toInt64 x7)) = 0
      · rw [if_pos hc] at hw
        refine wp_st (pc' := 391) (L' := [some (.float a0), some (.ref 0), some (.ref 65), some (.ref 91), some (.int (nI a4)), some (.int x3), some (.int x7)]) (st' := []) (h' := Hp S10) 1 (fun Z => if_pos hc) ?_
        exact wp_st 1 (fun Z => rfl) (show wp E (d + 1) m_law_law 2231 [some (.float a0), some (.ref 0), some (.ref 65), some (.ref 91), some (.int (nI a4)), some (.int x3), some (.int x7)] [] (Hp S10) (QI Q) from (hw (some (.int x3)) (some (.int x7))))
      · rw [if_neg hc] at hw
        refine wp_st (pc' := 389) (L' := [some (.float a0), some (.ref 0), some (.ref 65), some (.ref 91), some (.int (nI a4)), some (.int x3), some (.int x7)]) (st' := []) (h' := Hp S10) 1 (fun Z => if_neg hc) ?_
        refine wp_st (pc' := 390) (L' := [some (.float a0), some (.ref 0), some (.ref 65), some (.ref 91), some (.int (nI a4)), some (.int x3), some (.int x7)]) (st' := [.int 0]) (h' := Hp S10) 1 (fun Z => rfl) ?_
        exact wp_ret (fun Z => rfl) ⟨_, _, rfl, rfl, hw⟩
    · rw [if_neg hc] at hw
      refine wp_st (pc' := 391) (L' := [some (.float a0), some (.ref 0), some (.ref 65), some (.ref 91), some (.int (nI a4)), some (.int x3), some (.int x7)]) (st' := []) (h' := Hp S10) 1 (fun Z => if_neg hc) ?_
      exact wp_st 1 (fun Z => rfl) (show wp E (d + 1) m_law_law 2231 [some (.float a0), some (.ref 0), some (.ref 65), some (.ref 91), some (.int (nI a4)), some (.int x3), some (.int x7)] [] (Hp S10) (QI Q) from (hw (some (.int x3)) (some (.int x7))))
  · rw [if_neg hc] at hw
    refine wp_st (pc' := 372) (L' := [some (.float a0), some (.ref 0), some (.ref 65), some (.ref 91), some (.int (nI a4)), some (.int x3), some (.int x7)]) (st' := []) (h' := Hp S10) 1 (fun Z => if_neg hc) ?_
    refine wp_st (pc' := 373) (L' := [some (.float a0), some (.ref 0), some (.ref 65), some (.ref 91), some (.int (nI a4)), some (.int x3), some (.int x7)]) (st' := [.int 0]) (h' := Hp S10) 1 (fun Z => rfl) ?_
    exact wp_ret (fun Z => rfl) ⟨_, _, rfl, rfl, hw⟩
set_option maxRecDepth 4000 in
theorem w_law_law_394 {E : zX} {d : Nat} {S : St} {a0 : UInt32} {a4 : Nat} {Q : Int32 → St → Prop} (hd : 1 ≤ d) 
    (hw : ∃ (n1 : Nat) (f2 : Nat → Int32), out E a0 = some (0, n1, f2) ∧ ix (nI (a4 + 1)) n1 ∧
    ∃ (n3 : Nat) (f4 : Nat → Int32), out E a0 = some (0, n3, f4) ∧ ix (nI (a4 + 2)) n3 ∧
    k_law_person E (d - 1) S (f2 (nI (a4 + 1)).toNatClampNeg) (f4 (nI (a4 + 2)).toNatClampNeg) (fun x5 S6 =>
    ∃ (n7 : Nat) (f8 : Nat → Int32), out E a0 = some (0, n7, f8) ∧ ix (nI (a4 + 1)) n7 ∧
    ∃ (n9 : Nat) (f10 : Nat → Int32), out E a0 = some (0, n9, f10) ∧ ix (nI (a4 + 2)) n9 ∧
    k_m_person E (d - 1) S6 (f8 (nI (a4 + 1)).toNatClampNeg) (f10 (nI (a4 + 2)).toNatClampNeg) (fun x11 S12 =>
    k_m_thrown E (d - 1) S12 (fun x13 S14 =>
    if x13 = x5 then (
      if x5 = 0 then (
        if (lg_cmp (catL (S14 91 0) (S14 91 1)) (Int32.toInt64 x11)) = 0 then (
          k_law_law_2231 E d S14 a0 a4 Q)
        else (
          Q (0 : Int32) S14))
      else (
        k_law_law_2231 E d S14 a0 a4 Q))
    else (
      Q (0 : Int32) S14))))) :
    k_law_law_394 E d S a0 a4 Q := by
  obtain ⟨d, rfl⟩ := Nat.exists_eq_add_of_le' hd
  intro j5 j6
  show wp E (d + 1) m_law_law 394 [some (.float a0), some (.ref 0), some (.ref 65), some (.ref 91), some (.int (nI a4)), j5, j6] [] (Hp S) (QI Q)
  refine wp_st (pc' := 399) (L' := [some (.float a0), some (.ref 0), some (.ref 65), some (.ref 91), some (.int (nI a4)), j5, j6]) (st' := [.int 1, .int (nI a4), .float a0, .ref 0]) (h' := Hp S) 4 (fun Z => rfl) ?_
  refine wp_st (pc' := 400) (L' := [some (.float a0), some (.ref 0), some (.ref 65), some (.ref 91), some (.int (nI a4)), j5, j6]) (st' := [.int (nI (a4 + 1)), .float a0, .ref 0]) (h' := Hp S) 1 (fun Z => by rw [← nI_add a4 1]; rfl) ?_
  obtain ⟨n1, f2, e, hi, hw⟩ := hw
  refine wp_st (pc' := 401) (L' := [some (.float a0), some (.ref 0), some (.ref 65), some (.ref 91), some (.int (nI a4)), j5, j6]) (st' := [.int (f2 (nI (a4 + 1)).toNatClampNeg), .ref 0]) (h' := Hp S) 1 (fun Z => outI_eq (E := E) (h := Hp S) e hi [.ref 0] (fun st => Z (d + 1) m_law_law 401 [some (.float a0), some (.ref 0), some (.ref 65), some (.ref 91), some (.int (nI a4)), j5, j6] st (Hp S))) ?_
  refine wp_st (pc' := 405) (L' := [some (.float a0), some (.ref 0), some (.ref 65), some (.ref 91), some (.int (nI a4)), j5, j6]) (st' := [.int 2, .int (nI a4), .float a0, .int (f2 (nI (a4 + 1)).toNatClampNeg), .ref 0]) (h' := Hp S) 3 (fun Z => rfl) ?_
  refine wp_st (pc' := 406) (L' := [some (.float a0), some (.ref 0), some (.ref 65), some (.ref 91), some (.int (nI a4)), j5, j6]) (st' := [.int (nI (a4 + 2)), .float a0, .int (f2 (nI (a4 + 1)).toNatClampNeg), .ref 0]) (h' := Hp S) 1 (fun Z => by rw [← nI_add a4 2]; rfl) ?_
  obtain ⟨n3, f4, e, hi, hw⟩ := hw
  refine wp_st (pc' := 407) (L' := [some (.float a0), some (.ref 0), some (.ref 65), some (.ref 91), some (.int (nI a4)), j5, j6]) (st' := [.int (f4 (nI (a4 + 2)).toNatClampNeg), .int (f2 (nI (a4 + 1)).toNatClampNeg), .ref 0]) (h' := Hp S) 1 (fun Z => outI_eq (E := E) (h := Hp S) e hi [.int (f2 (nI (a4 + 1)).toNatClampNeg), .ref 0] (fun st => Z (d + 1) m_law_law 407 [some (.float a0), some (.ref 0), some (.ref 65), some (.ref 91), some (.int (nI a4)), j5, j6] st (Hp S))) ?_
  refine wp_st (pc' := 408) (L' := [some (.float a0), some (.ref 0), some (.ref 65), some (.ref 91), some (.int (nI a4)), j5, j6]) (st' := [.ref 91, .int (f4 (nI (a4 + 2)).toNatClampNeg), .int (f2 (nI (a4 + 1)).toNatClampNeg), .ref 0]) (h' := Hp S) 1 (fun Z => rfl) ?_
  refine wp_call (pc' := 411) (rest := []) (fun Z => rfl) rfl hw ?_
  rintro o h1 ⟨x5, S6, rfl, rfl, hw⟩
  refine ⟨_, rfl, ?_⟩
  show wp E (d + 1) m_law_law 411 [some (.float a0), some (.ref 0), some (.ref 65), some (.ref 91), some (.int (nI a4)), j5, j6] [.int x5] (Hp S6) (QI Q)
  refine wp_st (pc' := 418) (L' := [some (.float a0), some (.ref 0), some (.ref 65), some (.ref 91), some (.int (nI a4)), some (.int x5), j6]) (st' := [.int 1, .int (nI a4), .float a0, .ref 65]) (h' := Hp S6) 5 (fun Z => rfl) ?_
  refine wp_st (pc' := 419) (L' := [some (.float a0), some (.ref 0), some (.ref 65), some (.ref 91), some (.int (nI a4)), some (.int x5), j6]) (st' := [.int (nI (a4 + 1)), .float a0, .ref 65]) (h' := Hp S6) 1 (fun Z => by rw [← nI_add a4 1]; rfl) ?_
  obtain ⟨n7, f8, e, hi, hw⟩ := hw
  refine wp_st (pc' := 420) (L' := [some (.float a0), some (.ref 0), some (.ref 65), some (.ref 91), some (.int (nI a4)), some (.int x5), j6]) (st' := [.int (f8 (nI (a4 + 1)).toNatClampNeg), .ref 65]) (h' := Hp S6) 1 (fun Z => outI_eq (E := E) (h := Hp S6) e hi [.ref 65] (fun st => Z (d + 1) m_law_law 420 [some (.float a0), some (.ref 0), some (.ref 65), some (.ref 91), some (.int (nI a4)), some (.int x5), j6] st (Hp S6))) ?_
  refine wp_st (pc' := 424) (L' := [some (.float a0), some (.ref 0), some (.ref 65), some (.ref 91), some (.int (nI a4)), some (.int x5), j6]) (st' := [.int 2, .int (nI a4), .float a0, .int (f8 (nI (a4 + 1)).toNatClampNeg), .ref 65]) (h' := Hp S6) 3 (fun Z => rfl) ?_
  refine wp_st (pc' := 425) (L' := [some (.float a0), some (.ref 0), some (.ref 65), some (.ref 91), some (.int (nI a4)), some (.int x5), j6]) (st' := [.int (nI (a4 + 2)), .float a0, .int (f8 (nI (a4 + 1)).toNatClampNeg), .ref 65]) (h' := Hp S6) 1 (fun Z => by rw [← nI_add a4 2]; rfl) ?_
  obtain ⟨n9, f10, e, hi, hw⟩ := hw
  refine wp_st (pc' := 426) (L' := [some (.float a0), some (.ref 0), some (.ref 65), some (.ref 91), some (.int (nI a4)), some (.int x5), j6]) (st' := [.int (f10 (nI (a4 + 2)).toNatClampNeg), .int (f8 (nI (a4 + 1)).toNatClampNeg), .ref 65]) (h' := Hp S6) 1 (fun Z => outI_eq (E := E) (h := Hp S6) e hi [.int (f8 (nI (a4 + 1)).toNatClampNeg), .ref 65] (fun st => Z (d + 1) m_law_law 426 [some (.float a0), some (.ref 0), some (.ref 65), some (.ref 91), some (.int (nI a4)), some (.int x5), j6] st (Hp S6))) ?_
  refine wp_call (pc' := 429) (rest := []) (fun Z => rfl) (isO_of sh65) hw ?_
  rintro o h1 ⟨x11, S12, rfl, rfl, hw⟩
  refine ⟨_, rfl, ?_⟩
  show wp E (d + 1) m_law_law 429 [some (.float a0), some (.ref 0), some (.ref 65), some (.ref 91), some (.int (nI a4)), some (.int x5), j6] [.int x11] (Hp S12) (QI Q)
  refine wp_st (pc' := 432) (L' := [some (.float a0), some (.ref 0), some (.ref 65), some (.ref 91), some (.int (nI a4)), some (.int x5), some (.int x11)]) (st' := [.ref 65]) (h' := Hp S12) 2 (fun Z => rfl) ?_
  refine wp_call (pc' := 435) (rest := []) (fun Z => rfl) (isO_of sh65) hw ?_
  rintro o h1 ⟨x13, S14, rfl, rfl, hw⟩
  refine ⟨_, rfl, ?_⟩
  show wp E (d + 1) m_law_law 435 [some (.float a0), some (.ref 0), some (.ref 65), some (.ref 91), some (.int (nI a4)), some (.int x5), some (.int x11)] [.int x13] (Hp S14) (QI Q)
  refine wp_st (pc' := 437) (L' := [some (.float a0), some (.ref 0), some (.ref 65), some (.ref 91), some (.int (nI a4)), some (.int x5), some (.int x11)]) (st' := [.int x5, .int x13]) (h' := Hp S14) 1 (fun Z => rfl) ?_
  by_cases hc : x13 = x5
  · rw [if_pos hc] at hw
    refine wp_st (pc' := 442) (L' := [some (.float a0), some (.ref 0), some (.ref 65), some (.ref 91), some (.int (nI a4)), some (.int x5), some (.int x11)]) (st' := []) (h' := Hp S14) 1 (fun Z => if_pos hc) ?_
    refine wp_st (pc' := 444) (L' := [some (.float a0), some (.ref 0), some (.ref 65), some (.ref 91), some (.int (nI a4)), some (.int x5), some (.int x11)]) (st' := [.int x5]) (h' := Hp S14) 1 (fun Z => rfl) ?_
    by_cases hc : x5 = 0
    · rw [if_pos hc] at hw
      refine wp_st (pc' := 447) (L' := [some (.float a0), some (.ref 0), some (.ref 65), some (.ref 91), some (.int (nI a4)), some (.int x5), some (.int x11)]) (st' := []) (h' := Hp S14) 1 (fun Z => if_pos hc) ?_
      refine wp_st (pc' := 449) (L' := [some (.float a0), some (.ref 0), some (.ref 65), some (.ref 91), some (.int (nI a4)), some (.int x5), some (.int x11)]) (st' := [.int 0, .ref 91]) (h' := Hp S14) 2 (fun Z => rfl) ?_
      refine wp_st (pc' := 450) (L' := [some (.float a0), some (.ref 0), some (.ref 65), some (.ref 91), some (.int (nI a4)), some (.int x5), some (.int x11)]) (st' := [.long (catL (S14 91 0) (S14 91 1))]) (h' := Hp S14) 1 (fun Z => ldJ0 (E := E) sh91 (by decide) [] (fun st => Z (d + 1) m_law_law 450 [some (.float a0), some (.ref 0), some (.ref 65), some (.ref 91), some (.int (nI a4)), some (.int x5), some (.int x11)] st (Hp S14))) ?_
      refine wp_st (pc' := 454) (L' := [some (.float a0), some (.ref 0), some (.ref 65), some (.ref 91), some (.int (nI a4)), some (.int x5), some (.int x11)]) (st' := [.int (lg_cmp (catL (S14 91 0) (S14 91 1)) (Int32.toInt64 x11))]) (h' := Hp S14) 3 (fun Z => rfl) ?_
      by_cases hc : (lg_cmp (catL (S14 91 0) (S14 91 1)) (Int32.toInt64 x11)) = 0
      · rw [if_pos hc] at hw
        refine wp_st (pc' := 459) (L' := [some (.float a0), some (.ref 0), some (.ref 65), some (.ref 91), some (.int (nI a4)), some (.int x5), some (.int x11)]) (st' := []) (h' := Hp S14) 1 (fun Z => if_pos hc) ?_
        exact wp_st 1 (fun Z => rfl) (show wp E (d + 1) m_law_law 2231 [some (.float a0), some (.ref 0), some (.ref 65), some (.ref 91), some (.int (nI a4)), some (.int x5), some (.int x11)] [] (Hp S14) (QI Q) from (hw (some (.int x5)) (some (.int x11))))
      · rw [if_neg hc] at hw
        refine wp_st (pc' := 457) (L' := [some (.float a0), some (.ref 0), some (.ref 65), some (.ref 91), some (.int (nI a4)), some (.int x5), some (.int x11)]) (st' := []) (h' := Hp S14) 1 (fun Z => if_neg hc) ?_
        refine wp_st (pc' := 458) (L' := [some (.float a0), some (.ref 0), some (.ref 65), some (.ref 91), some (.int (nI a4)), some (.int x5), some (.int x11)]) (st' := [.int 0]) (h' := Hp S14) 1 (fun Z => rfl) ?_
        exact wp_ret (fun Z => rfl) ⟨_, _, rfl, rfl, hw⟩
    · rw [if_neg hc] at hw
      refine wp_st (pc' := 459) (L' := [some (.float a0), some (.ref 0), some (.ref 65), some (.ref 91), some (.int (nI a4)), some (.int x5), some (.int x11)]) (st' := []) (h' := Hp S14) 1 (fun Z => if_neg hc) ?_
      exact wp_st 1 (fun Z => rfl) (show wp E (d + 1) m_law_law 2231 [some (.float a0), some (.ref 0), some (.ref 65), some (.ref 91), some (.int (nI a4)), some (.int x5), some (.int x11)] [] (Hp S14) (QI Q) from (hw (some (.int x5)) (some (.int x11))))
  · rw [if_neg hc] at hw
    refine wp_st (pc' := 440) (L' := [some (.float a0), some (.ref 0), some (.ref 65), some (.ref 91), some (.int (nI a4)), some (.int x5), some (.int x11)]) (st' := []) (h' := Hp S14) 1 (fun Z => if_neg hc) ?_
    refine wp_st (pc' := 441) (L' := [some (.float a0), some (.ref 0), some (.ref 65), some (.ref 91), some (.int (nI a4)), some (.int x5), some (.int x11)]) (st' := [.int 0]) (h' := Hp S14) 1 (fun Z => rfl) ?_
    exact wp_ret (fun Z => rfl) ⟨_, _, rfl, rfl, hw⟩
set_option maxRecDepth 4000 in
theorem w_law_law_462 {E : zX} {d : Nat} {S : St} {a0 : UInt32} {a4 : Nat} {Q : Int32 → St → Prop} (hd : 1 ≤ d) 
    (hw : ∃ (n1 : Nat) (f2 : Nat → Int32), out E a0 = some (0, n1, f2) ∧ ix (nI (a4 + 1)) n1 ∧
    ∃ (n3 : Nat) (f4 : Nat → Int32), out E a0 = some (0, n3, f4) ∧ ix (nI (a4 + 2)) n3 ∧
    k_law_ball E (d - 1) S (f2 (nI (a4 + 1)).toNatClampNeg) (f4 (nI (a4 + 2)).toNatClampNeg) (fun x5 S6 =>
    ∃ (n7 : Nat) (f8 : Nat → Int32), out E a0 = some (0, n7, f8) ∧ ix (nI (a4 + 1)) n7 ∧
    ∃ (n9 : Nat) (f10 : Nat → Int32), out E a0 = some (0, n9, f10) ∧ ix (nI (a4 + 2)) n9 ∧
    k_m_ball E (d - 1) S6 (f8 (nI (a4 + 1)).toNatClampNeg) (f10 (nI (a4 + 2)).toNatClampNeg) (fun x11 S12 =>
    k_m_thrown E (d - 1) S12 (fun x13 S14 =>
    if x13 = x5 then (
      if x5 = 0 then (
        if (lg_cmp (catL (S14 91 0) (S14 91 1)) (Int32.toInt64 x11)) = 0 then (
          k_law_law_2231 E d S14 a0 a4 Q)
        else (
          Q (0 : Int32) S14))
      else (
        k_law_law_2231 E d S14 a0 a4 Q))
    else (
      Q (0 : Int32) S14))))) :
    k_law_law_462 E d S a0 a4 Q := by
  obtain ⟨d, rfl⟩ := Nat.exists_eq_add_of_le' hd
  intro j5 j6
  show wp E (d + 1) m_law_law 462 [some (.float a0), some (.ref 0), some (.ref 65), some (.ref 91), some (.int (nI a4)), j5, j6] [] (Hp S) (QI Q)
  refine wp_st (pc' := 467) (L' := [some (.float a0), some (.ref 0), some (.ref 65), some (.ref 91), some (.int (nI a4)), j5, j6]) (st' := [.int 1, .int (nI a4), .float a0, .ref 0]) (h' := Hp S) 4 (fun Z => rfl) ?_
  refine wp_st (pc' := 468) (L' := [some (.float a0), some (.ref 0), some (.ref 65), some (.ref 91), some (.int (nI a4)), j5, j6]) (st' := [.int (nI (a4 + 1)), .float a0, .ref 0]) (h' := Hp S) 1 (fun Z => by rw [← nI_add a4 1]; rfl) ?_
  obtain ⟨n1, f2, e, hi, hw⟩ := hw
  refine wp_st (pc' := 469) (L' := [some (.float a0), some (.ref 0), some (.ref 65), some (.ref 91), some (.int (nI a4)), j5, j6]) (st' := [.int (f2 (nI (a4 + 1)).toNatClampNeg), .ref 0]) (h' := Hp S) 1 (fun Z => outI_eq (E := E) (h := Hp S) e hi [.ref 0] (fun st => Z (d + 1) m_law_law 469 [some (.float a0), some (.ref 0), some (.ref 65), some (.ref 91), some (.int (nI a4)), j5, j6] st (Hp S))) ?_
  refine wp_st (pc' := 473) (L' := [some (.float a0), some (.ref 0), some (.ref 65), some (.ref 91), some (.int (nI a4)), j5, j6]) (st' := [.int 2, .int (nI a4), .float a0, .int (f2 (nI (a4 + 1)).toNatClampNeg), .ref 0]) (h' := Hp S) 3 (fun Z => rfl) ?_
  refine wp_st (pc' := 474) (L' := [some (.float a0), some (.ref 0), some (.ref 65), some (.ref 91), some (.int (nI a4)), j5, j6]) (st' := [.int (nI (a4 + 2)), .float a0, .int (f2 (nI (a4 + 1)).toNatClampNeg), .ref 0]) (h' := Hp S) 1 (fun Z => by rw [← nI_add a4 2]; rfl) ?_
  obtain ⟨n3, f4, e, hi, hw⟩ := hw
  refine wp_st (pc' := 475) (L' := [some (.float a0), some (.ref 0), some (.ref 65), some (.ref 91), some (.int (nI a4)), j5, j6]) (st' := [.int (f4 (nI (a4 + 2)).toNatClampNeg), .int (f2 (nI (a4 + 1)).toNatClampNeg), .ref 0]) (h' := Hp S) 1 (fun Z => outI_eq (E := E) (h := Hp S) e hi [.int (f2 (nI (a4 + 1)).toNatClampNeg), .ref 0] (fun st => Z (d + 1) m_law_law 475 [some (.float a0), some (.ref 0), some (.ref 65), some (.ref 91), some (.int (nI a4)), j5, j6] st (Hp S))) ?_
  refine wp_st (pc' := 476) (L' := [some (.float a0), some (.ref 0), some (.ref 65), some (.ref 91), some (.int (nI a4)), j5, j6]) (st' := [.ref 91, .int (f4 (nI (a4 + 2)).toNatClampNeg), .int (f2 (nI (a4 + 1)).toNatClampNeg), .ref 0]) (h' := Hp S) 1 (fun Z => rfl) ?_
  refine wp_call (pc' := 479) (rest := []) (fun Z => rfl) rfl hw ?_
  rintro o h1 ⟨x5, S6, rfl, rfl, hw⟩
  refine ⟨_, rfl, ?_⟩
  show wp E (d + 1) m_law_law 479 [some (.float a0), some (.ref 0), some (.ref 65), some (.ref 91), some (.int (nI a4)), j5, j6] [.int x5] (Hp S6) (QI Q)
  refine wp_st (pc' := 486) (L' := [some (.float a0), some (.ref 0), some (.ref 65), some (.ref 91), some (.int (nI a4)), some (.int x5), j6]) (st' := [.int 1, .int (nI a4), .float a0, .ref 65]) (h' := Hp S6) 5 (fun Z => rfl) ?_
  refine wp_st (pc' := 487) (L' := [some (.float a0), some (.ref 0), some (.ref 65), some (.ref 91), some (.int (nI a4)), some (.int x5), j6]) (st' := [.int (nI (a4 + 1)), .float a0, .ref 65]) (h' := Hp S6) 1 (fun Z => by rw [← nI_add a4 1]; rfl) ?_
  obtain ⟨n7, f8, e, hi, hw⟩ := hw
  refine wp_st (pc' := 488) (L' := [some (.float a0), some (.ref 0), some (.ref 65), some (.ref 91), some (.int (nI a4)), some (.int x5), j6]) (st' := [.int (f8 (nI (a4 + 1)).toNatClampNeg), .ref 65]) (h' := Hp S6) 1 (fun Z => outI_eq (E := E) (h := Hp S6) e hi [.ref 65] (fun st => Z (d + 1) m_law_law 488 [some (.float a0), some (.ref 0), some (.ref 65), some (.ref 91), some (.int (nI a4)), some (.int x5), j6] st (Hp S6))) ?_
  refine wp_st (pc' := 492) (L' := [some (.float a0), some (.ref 0), some (.ref 65), some (.ref 91), some (.int (nI a4)), some (.int x5), j6]) (st' := [.int 2, .int (nI a4), .float a0, .int (f8 (nI (a4 + 1)).toNatClampNeg), .ref 65]) (h' := Hp S6) 3 (fun Z => rfl) ?_
  refine wp_st (pc' := 493) (L' := [some (.float a0), some (.ref 0), some (.ref 65), some (.ref 91), some (.int (nI a4)), some (.int x5), j6]) (st' := [.int (nI (a4 + 2)), .float a0, .int (f8 (nI (a4 + 1)).toNatClampNeg), .ref 65]) (h' := Hp S6) 1 (fun Z => by rw [← nI_add a4 2]; rfl) ?_
  obtain ⟨n9, f10, e, hi, hw⟩ := hw
  refine wp_st (pc' := 494) (L' := [some (.float a0), some (.ref 0), some (.ref 65), some (.ref 91), some (.int (nI a4)), some (.int x5), j6]) (st' := [.int (f10 (nI (a4 + 2)).toNatClampNeg), .int (f8 (nI (a4 + 1)).toNatClampNeg), .ref 65]) (h' := Hp S6) 1 (fun Z => outI_eq (E := E) (h := Hp S6) e hi [.int (f8 (nI (a4 + 1)).toNatClampNeg), .ref 65] (fun st => Z (d + 1) m_law_law 494 [some (.float a0), some (.ref 0), some (.ref 65), some (.ref 91), some (.int (nI a4)), some (.int x5), j6] st (Hp S6))) ?_
  refine wp_call (pc' := 497) (rest := []) (fun Z => rfl) (isO_of sh65) hw ?_
  rintro o h1 ⟨x11, S12, rfl, rfl, hw⟩
  refine ⟨_, rfl, ?_⟩
  show wp E (d + 1) m_law_law 497 [some (.float a0), some (.ref 0), some (.ref 65), some (.ref 91), some (.int (nI a4)), some (.int x5), j6] [.int x11] (Hp S12) (QI Q)
  refine wp_st (pc' := 500) (L' := [some (.float a0), some (.ref 0), some (.ref 65), some (.ref 91), some (.int (nI a4)), some (.int x5), some (.int x11)]) (st' := [.ref 65]) (h' := Hp S12) 2 (fun Z => rfl) ?_
  refine wp_call (pc' := 503) (rest := []) (fun Z => rfl) (isO_of sh65) hw ?_
  rintro o h1 ⟨x13, S14, rfl, rfl, hw⟩
  refine ⟨_, rfl, ?_⟩
  show wp E (d + 1) m_law_law 503 [some (.float a0), some (.ref 0), some (.ref 65), some (.ref 91), some (.int (nI a4)), some (.int x5), some (.int x11)] [.int x13] (Hp S14) (QI Q)
  refine wp_st (pc' := 505) (L' := [some (.float a0), some (.ref 0), some (.ref 65), some (.ref 91), some (.int (nI a4)), some (.int x5), some (.int x11)]) (st' := [.int x5, .int x13]) (h' := Hp S14) 1 (fun Z => rfl) ?_
  by_cases hc : x13 = x5
  · rw [if_pos hc] at hw
    refine wp_st (pc' := 510) (L' := [some (.float a0), some (.ref 0), some (.ref 65), some (.ref 91), some (.int (nI a4)), some (.int x5), some (.int x11)]) (st' := []) (h' := Hp S14) 1 (fun Z => if_pos hc) ?_
    refine wp_st (pc' := 512) (L' := [some (.float a0), some (.ref 0), some (.ref 65), some (.ref 91), some (.int (nI a4)), some (.int x5), some (.int x11)]) (st' := [.int x5]) (h' := Hp S14) 1 (fun Z => rfl) ?_
    by_cases hc : x5 = 0
    · rw [if_pos hc] at hw
      refine wp_st (pc' := 515) (L' := [some (.float a0), some (.ref 0), some (.ref 65), some (.ref 91), some (.int (nI a4)), some (.int x5), some (.int x11)]) (st' := []) (h' := Hp S14) 1 (fun Z => if_pos hc) ?_
      refine wp_st (pc' := 517) (L' := [some (.float a0), some (.ref 0), some (.ref 65), some (.ref 91), some (.int (nI a4)), some (.int x5), some (.int x11)]) (st' := [.int 0, .ref 91]) (h' := Hp S14) 2 (fun Z => rfl) ?_
      refine wp_st (pc' := 518) (L' := [some (.float a0), some (.ref 0), some (.ref 65), some (.ref 91), some (.int (nI a4)), some (.int x5), some (.int x11)]) (st' := [.long (catL (S14 91 0) (S14 91 1))]) (h' := Hp S14) 1 (fun Z => ldJ0 (E := E) sh91 (by decide) [] (fun st => Z (d + 1) m_law_law 518 [some (.float a0), some (.ref 0), some (.ref 65), some (.ref 91), some (.int (nI a4)), some (.int x5), some (.int x11)] st (Hp S14))) ?_
      refine wp_st (pc' := 522) (L' := [some (.float a0), some (.ref 0), some (.ref 65), some (.ref 91), some (.int (nI a4)), some (.int x5), some (.int x11)]) (st' := [.int (lg_cmp (catL (S14 91 0) (S14 91 1)) (Int32.toInt64 x11))]) (h' := Hp S14) 3 (fun Z => rfl) ?_
      by_cases hc : (lg_cmp (catL (S14 91 0) (S14 91 1)) (Int32.toInt64 x11)) = 0
      · rw [if_pos hc] at hw
        refine wp_st (pc' := 527) (L' := [some (.float a0), some (.ref 0), some (.ref 65), some (.ref 91), some (.int (nI a4)), some (.int x5), some (.int x11)]) (st' := []) (h' := Hp S14) 1 (fun Z => if_pos hc) ?_
        exact wp_st 1 (fun Z => rfl) (show wp E (d + 1) m_law_law 2231 [some (.float a0), some (.ref 0), some (.ref 65), some (.ref 91), some (.int (nI a4)), some (.int x5), some (.int x11)] [] (Hp S14) (QI Q) from (hw (some (.int x5)) (some (.int x11))))
      · rw [if_neg hc] at hw
        refine wp_st (pc' := 525) (L' := [some (.float a0), some (.ref 0), some (.ref 65), some (.ref 91), some (.int (nI a4)), some (.int x5), some (.int x11)]) (st' := []) (h' := Hp S14) 1 (fun Z => if_neg hc) ?_
        refine wp_st (pc' := 526) (L' := [some (.float a0), some (.ref 0), some (.ref 65), some (.ref 91), some (.int (nI a4)), some (.int x5), some (.int x11)]) (st' := [.int 0]) (h' := Hp S14) 1 (fun Z => rfl) ?_
        exact wp_ret (fun Z => rfl) ⟨_, _, rfl, rfl, hw⟩
    · rw [if_neg hc] at hw
      refine wp_st (pc' := 527) (L' := [some (.float a0), some (.ref 0), some (.ref 65), some (.ref 91), some (.int (nI a4)), some (.int x5), some (.int x11)]) (st' := []) (h' := Hp S14) 1 (fun Z => if_neg hc) ?_
      exact wp_st 1 (fun Z => rfl) (show wp E (d + 1) m_law_law 2231 [some (.float a0), some (.ref 0), some (.ref 65), some (.ref 91), some (.int (nI a4)), some (.int x5), some (.int x11)] [] (Hp S14) (QI Q) from (hw (some (.int x5)) (some (.int x11))))
  · rw [if_neg hc] at hw
    refine wp_st (pc' := 508) (L' := [some (.float a0), some (.ref 0), some (.ref 65), some (.ref 91), some (.int (nI a4)), some (.int x5), some (.int x11)]) (st' := []) (h' := Hp S14) 1 (fun Z => if_neg hc) ?_
    refine wp_st (pc' := 509) (L' := [some (.float a0), some (.ref 0), some (.ref 65), some (.ref 91), some (.int (nI a4)), some (.int x5), some (.int x11)]) (st' := [.int 0]) (h' := Hp S14) 1 (fun Z => rfl) ?_
    exact wp_ret (fun Z => rfl) ⟨_, _, rfl, rfl, hw⟩
set_option maxRecDepth 4000 in
theorem w_law_law_530 {E : zX} {d : Nat} {S : St} {a0 : UInt32} {a4 : Nat} {Q : Int32 → St → Prop} (hd : 1 ≤ d) 
    (hw : ∃ (n1 : Nat) (f2 : Nat → Int32), out E a0 = some (0, n1, f2) ∧ ix (nI (a4 + 1)) n1 ∧
    k_x_days E (d - 1) S (f2 (nI (a4 + 1)).toNatClampNeg) (fun x3 S4 =>
    ∃ (n5 : Nat) (f6 : Nat → Int32), out E a0 = some (0, n5, f6) ∧ ix (nI (a4 + 1)) n5 ∧
    k_m_days E (d - 1) S4 (f6 (nI (a4 + 1)).toNatClampNeg) (fun x7 S8 =>
    if x3 = x7 then (
      k_law_law_2231 E d S8 a0 a4 Q)
    else (
      Q (0 : Int32) S8)))) :
    k_law_law_530 E d S a0 a4 Q := by
  obtain ⟨d, rfl⟩ := Nat.exists_eq_add_of_le' hd
  intro j5 j6
  show wp E (d + 1) m_law_law 530 [some (.float a0), some (.ref 0), some (.ref 65), some (.ref 91), some (.int (nI a4)), j5, j6] [] (Hp S) (QI Q)
  refine wp_st (pc' := 535) (L' := [some (.float a0), some (.ref 0), some (.ref 65), some (.ref 91), some (.int (nI a4)), j5, j6]) (st' := [.int 1, .int (nI a4), .float a0, .ref 0]) (h' := Hp S) 4 (fun Z => rfl) ?_
  refine wp_st (pc' := 536) (L' := [some (.float a0), some (.ref 0), some (.ref 65), some (.ref 91), some (.int (nI a4)), j5, j6]) (st' := [.int (nI (a4 + 1)), .float a0, .ref 0]) (h' := Hp S) 1 (fun Z => by rw [← nI_add a4 1]; rfl) ?_
  obtain ⟨n1, f2, e, hi, hw⟩ := hw
  refine wp_st (pc' := 537) (L' := [some (.float a0), some (.ref 0), some (.ref 65), some (.ref 91), some (.int (nI a4)), j5, j6]) (st' := [.int (f2 (nI (a4 + 1)).toNatClampNeg), .ref 0]) (h' := Hp S) 1 (fun Z => outI_eq (E := E) (h := Hp S) e hi [.ref 0] (fun st => Z (d + 1) m_law_law 537 [some (.float a0), some (.ref 0), some (.ref 65), some (.ref 91), some (.int (nI a4)), j5, j6] st (Hp S))) ?_
  refine wp_call (pc' := 540) (rest := []) (fun Z => rfl) (isO_of sh0) hw ?_
  rintro o h1 ⟨x3, S4, rfl, rfl, hw⟩
  refine ⟨_, rfl, ?_⟩
  show wp E (d + 1) m_law_law 540 [some (.float a0), some (.ref 0), some (.ref 65), some (.ref 91), some (.int (nI a4)), j5, j6] [.int x3] (Hp S4) (QI Q)
  refine wp_st (pc' := 545) (L' := [some (.float a0), some (.ref 0), some (.ref 65), some (.ref 91), some (.int (nI a4)), j5, j6]) (st' := [.int 1, .int (nI a4), .float a0, .ref 65, .int x3]) (h' := Hp S4) 4 (fun Z => rfl) ?_
  refine wp_st (pc' := 546) (L' := [some (.float a0), some (.ref 0), some (.ref 65), some (.ref 91), some (.int (nI a4)), j5, j6]) (st' := [.int (nI (a4 + 1)), .float a0, .ref 65, .int x3]) (h' := Hp S4) 1 (fun Z => by rw [← nI_add a4 1]; rfl) ?_
  obtain ⟨n5, f6, e, hi, hw⟩ := hw
  refine wp_st (pc' := 547) (L' := [some (.float a0), some (.ref 0), some (.ref 65), some (.ref 91), some (.int (nI a4)), j5, j6]) (st' := [.int (f6 (nI (a4 + 1)).toNatClampNeg), .ref 65, .int x3]) (h' := Hp S4) 1 (fun Z => outI_eq (E := E) (h := Hp S4) e hi [.ref 65, .int x3] (fun st => Z (d + 1) m_law_law 547 [some (.float a0), some (.ref 0), some (.ref 65), some (.ref 91), some (.int (nI a4)), j5, j6] st (Hp S4))) ?_
  refine wp_call (pc' := 550) (rest := [.int x3]) (fun Z => rfl) (isO_of sh65) hw ?_
  rintro o h1 ⟨x7, S8, rfl, rfl, hw⟩
  refine ⟨_, rfl, ?_⟩
  show wp E (d + 1) m_law_law 550 [some (.float a0), some (.ref 0), some (.ref 65), some (.ref 91), some (.int (nI a4)), j5, j6] [.int x7, .int x3] (Hp S8) (QI Q)
  by_cases hc : x3 = x7
  · rw [if_pos hc] at hw
    refine wp_st (pc' := 2231) (L' := [some (.float a0), some (.ref 0), some (.ref 65), some (.ref 91), some (.int (nI a4)), j5, j6]) (st' := []) (h' := Hp S8) 1 (fun Z => if_pos hc) ?_
    exact (show wp E (d + 1) m_law_law 2231 [some (.float a0), some (.ref 0), some (.ref 65), some (.ref 91), some (.int (nI a4)), j5, j6] [] (Hp S8) (QI Q) from (hw j5 j6))
  · rw [if_neg hc] at hw
    refine wp_st (pc' := 553) (L' := [some (.float a0), some (.ref 0), some (.ref 65), some (.ref 91), some (.int (nI a4)), j5, j6]) (st' := []) (h' := Hp S8) 1 (fun Z => if_neg hc) ?_
    refine wp_st (pc' := 554) (L' := [some (.float a0), some (.ref 0), some (.ref 65), some (.ref 91), some (.int (nI a4)), j5, j6]) (st' := [.int 0]) (h' := Hp S8) 1 (fun Z => rfl) ?_
    exact wp_ret (fun Z => rfl) ⟨_, _, rfl, rfl, hw⟩
set_option maxRecDepth 4000 in
theorem w_law_law_555 {E : zX} {d : Nat} {S : St} {a0 : UInt32} {a4 : Nat} {Q : Int32 → St → Prop} (hd : 1 ≤ d) 
    (hw : ∃ (n1 : Nat) (f2 : Nat → Int32), out E a0 = some (0, n1, f2) ∧ ix (nI (a4 + 1)) n1 ∧
    k_law_tread E (d - 1) S (f2 (nI (a4 + 1)).toNatClampNeg) (fun x3 S4 =>
    ∃ (n5 : Nat) (f6 : Nat → Int32), out E a0 = some (0, n5, f6) ∧ ix (nI (a4 + 1)) n5 ∧
    k_m_tread E (d - 1) S4 (f6 (nI (a4 + 1)).toNatClampNeg) (fun x7 S8 =>
    k_m_thrown E (d - 1) S8 (fun x9 S10 =>
    if x9 = x3 then (
      if x3 = 0 then (
        if (lg_cmp (catL (S10 91 0) (S10 91 1)) (Int32.toInt64 x7)) = 0 then (
          k_law_law_2231 E d S10 a0 a4 Q)
        else (
          Q (0 : Int32) S10))
      else (
        k_law_law_2231 E d S10 a0 a4 Q))
    else (
      Q (0 : Int32) S10))))) :
    k_law_law_555 E d S a0 a4 Q := by
  obtain ⟨d, rfl⟩ := Nat.exists_eq_add_of_le' hd
  intro j5 j6
  show wp E (d + 1) m_law_law 555 [some (.float a0), some (.ref 0), some (.ref 65), some (.ref 91), some (.int (nI a4)), j5, j6] [] (Hp S) (QI Q)
  refine wp_st (pc' := 560) (L' := [some (.float a0), some (.ref 0), some (.ref 65), some (.ref 91), some (.int (nI a4)), j5, j6]) (st' := [.int 1, .int (nI a4), .float a0, .ref 0]) (h' := Hp S) 4 (fun Z => rfl) ?_
  refine wp_st (pc' := 561) (L' := [some (.float a0), some (.ref 0), some (.ref 65), some (.ref 91), some (.int (nI a4)), j5, j6]) (st' := [.int (nI (a4 + 1)), .float a0, .ref 0]) (h' := Hp S) 1 (fun Z => by rw [← nI_add a4 1]; rfl) ?_
  obtain ⟨n1, f2, e, hi, hw⟩ := hw
  refine wp_st (pc' := 562) (L' := [some (.float a0), some (.ref 0), some (.ref 65), some (.ref 91), some (.int (nI a4)), j5, j6]) (st' := [.int (f2 (nI (a4 + 1)).toNatClampNeg), .ref 0]) (h' := Hp S) 1 (fun Z => outI_eq (E := E) (h := Hp S) e hi [.ref 0] (fun st => Z (d + 1) m_law_law 562 [some (.float a0), some (.ref 0), some (.ref 65), some (.ref 91), some (.int (nI a4)), j5, j6] st (Hp S))) ?_
  refine wp_st (pc' := 563) (L' := [some (.float a0), some (.ref 0), some (.ref 65), some (.ref 91), some (.int (nI a4)), j5, j6]) (st' := [.ref 91, .int (f2 (nI (a4 + 1)).toNatClampNeg), .ref 0]) (h' := Hp S) 1 (fun Z => rfl) ?_
  refine wp_call (pc' := 566) (rest := []) (fun Z => rfl) rfl hw ?_
  rintro o h1 ⟨x3, S4, rfl, rfl, hw⟩
  refine ⟨_, rfl, ?_⟩
  show wp E (d + 1) m_law_law 566 [some (.float a0), some (.ref 0), some (.ref 65), some (.ref 91), some (.int (nI a4)), j5, j6] [.int x3] (Hp S4) (QI Q)
  refine wp_st (pc' := 573) (L' := [some (.float a0), some (.ref 0), some (.ref 65), some (.ref 91), some (.int (nI a4)), some (.int x3), j6]) (st' := [.int 1, .int (nI a4), .float a0, .ref 65]) (h' := Hp S4) 5 (fun Z => rfl) ?_
  refine wp_st (pc' := 574) (L' := [some (.float a0), some (.ref 0), some (.ref 65), some (.ref 91), some (.int (nI a4)), some (.int x3), j6]) (st' := [.int (nI (a4 + 1)), .float a0, .ref 65]) (h' := Hp S4) 1 (fun Z => by rw [← nI_add a4 1]; rfl) ?_
  obtain ⟨n5, f6, e, hi, hw⟩ := hw
  refine wp_st (pc' := 575) (L' := [some (.float a0), some (.ref 0), some (.ref 65), some (.ref 91), some (.int (nI a4)), some (.int x3), j6]) (st' := [.int (f6 (nI (a4 + 1)).toNatClampNeg), .ref 65]) (h' := Hp S4) 1 (fun Z => outI_eq (E := E) (h := Hp S4) e hi [.ref 65] (fun st => Z (d + 1) m_law_law 575 [some (.float a0), some (.ref 0), some (.ref 65), some (.ref 91), some (.int (nI a4)), some (.int x3), j6] st (Hp S4))) ?_
  refine wp_call (pc' := 578) (rest := []) (fun Z => rfl) (isO_of sh65) hw ?_
  rintro o h1 ⟨x7, S8, rfl, rfl, hw⟩
  refine ⟨_, rfl, ?_⟩
  show wp E (d + 1) m_law_law 578 [some (.float a0), some (.ref 0), some (.ref 65), some (.ref 91), some (.int (nI a4)), some (.int x3), j6] [.int x7] (Hp S8) (QI Q)
  refine wp_st (pc' := 581) (L' := [some (.float a0), some (.ref 0), some (.ref 65), some (.ref 91), some (.int (nI a4)), some (.int x3), some (.int x7)]) (st' := [.ref 65]) (h' := Hp S8) 2 (fun Z => rfl) ?_
  refine wp_call (pc' := 584) (rest := []) (fun Z => rfl) (isO_of sh65) hw ?_
  rintro o h1 ⟨x9, S10, rfl, rfl, hw⟩
  refine ⟨_, rfl, ?_⟩
  show wp E (d + 1) m_law_law 584 [some (.float a0), some (.ref 0), some (.ref 65), some (.ref 91), some (.int (nI a4)), some (.int x3), some (.int x7)] [.int x9] (Hp S10) (QI Q)
  refine wp_st (pc' := 586) (L' := [some (.float a0), some (.ref 0), some (.ref 65), some (.ref 91), some (.int (nI a4)), some (.int x3), some (.int x7)]) (st' := [.int x3, .int x9]) (h' := Hp S10) 1 (fun Z => rfl) ?_
  by_cases hc : x9 = x3
  · rw [if_pos hc] at hw
    refine wp_st (pc' := 591) (L' := [some (.float a0), some (.ref 0), some (.ref 65), some (.ref 91), some (.int (nI a4)), some (.int x3), some (.int x7)]) (st' := []) (h' := Hp S10) 1 (fun Z => if_pos hc) ?_
    refine wp_st (pc' := 593) (L' := [some (.float a0), some (.ref 0), some (.ref 65), some (.ref 91), some (.int (nI a4)), some (.int x3), some (.int x7)]) (st' := [.int x3]) (h' := Hp S10) 1 (fun Z => rfl) ?_
    by_cases hc : x3 = 0
    · rw [if_pos hc] at hw
      refine wp_st (pc' := 596) (L' := [some (.float a0), some (.ref 0), some (.ref 65), some (.ref 91), some (.int (nI a4)), some (.int x3), some (.int x7)]) (st' := []) (h' := Hp S10) 1 (fun Z => if_pos hc) ?_
      refine wp_st (pc' := 598) (L' := [some (.float a0), some (.ref 0), some (.ref 65), some (.ref 91), some (.int (nI a4)), some (.int x3), some (.int x7)]) (st' := [.int 0, .ref 91]) (h' := Hp S10) 2 (fun Z => rfl) ?_
      refine wp_st (pc' := 599) (L' := [some (.float a0), some (.ref 0), some (.ref 65), some (.ref 91), some (.int (nI a4)), some (.int x3), some (.int x7)]) (st' := [.long (catL (S10 91 0) (S10 91 1))]) (h' := Hp S10) 1 (fun Z => ldJ0 (E := E) sh91 (by decide) [] (fun st => Z (d + 1) m_law_law 599 [some (.float a0), some (.ref 0), some (.ref 65), some (.ref 91), some (.int (nI a4)), some (.int x3), some (.int x7)] st (Hp S10))) ?_
      refine wp_st (pc' := 603) (L' := [some (.float a0), some (.ref 0), some (.ref 65), some (.ref 91), some (.int (nI a4)), some (.int x3), some (.int x7)]) (st' := [.int (lg_cmp (catL (S10 91 0) (S10 91 1)) (Int32.toInt64 x7))]) (h' := Hp S10) 3 (fun Z => rfl) ?_
      by_cases hc : (lg_cmp (catL (S10 91 0) (S10 91 1)) (Int32.toInt64 x7)) = 0
      · rw [if_pos hc] at hw
        refine wp_st (pc' := 608) (L' := [some (.float a0), some (.ref 0), some (.ref 65), some (.ref 91), some (.int (nI a4)), some (.int x3), some (.int x7)]) (st' := []) (h' := Hp S10) 1 (fun Z => if_pos hc) ?_
        exact wp_st 1 (fun Z => rfl) (show wp E (d + 1) m_law_law 2231 [some (.float a0), some (.ref 0), some (.ref 65), some (.ref 91), some (.int (nI a4)), some (.int x3), some (.int x7)] [] (Hp S10) (QI Q) from (hw (some (.int x3)) (some (.int x7))))
      · rw [if_neg hc] at hw
        refine wp_st (pc' := 606) (L' := [some (.float a0), some (.ref 0), some (.ref 65), some (.ref 91), some (.int (nI a4)), some (.int x3), some (.int x7)]) (st' := []) (h' := Hp S10) 1 (fun Z => if_neg hc) ?_
        refine wp_st (pc' := 607) (L' := [some (.float a0), some (.ref 0), some (.ref 65), some (.ref 91), some (.int (nI a4)), some (.int x3), some (.int x7)]) (st' := [.int 0]) (h' := Hp S10) 1 (fun Z => rfl) ?_
        exact wp_ret (fun Z => rfl) ⟨_, _, rfl, rfl, hw⟩
    · rw [if_neg hc] at hw
      refine wp_st (pc' := 608) (L' := [some (.float a0), some (.ref 0), some (.ref 65), some (.ref 91), some (.int (nI a4)), some (.int x3), some (.int x7)]) (st' := []) (h' := Hp S10) 1 (fun Z => if_neg hc) ?_
      exact wp_st 1 (fun Z => rfl) (show wp E (d + 1) m_law_law 2231 [some (.float a0), some (.ref 0), some (.ref 65), some (.ref 91), some (.int (nI a4)), some (.int x3), some (.int x7)] [] (Hp S10) (QI Q) from (hw (some (.int x3)) (some (.int x7))))
  · rw [if_neg hc] at hw
    refine wp_st (pc' := 589) (L' := [some (.float a0), some (.ref 0), some (.ref 65), some (.ref 91), some (.int (nI a4)), some (.int x3), some (.int x7)]) (st' := []) (h' := Hp S10) 1 (fun Z => if_neg hc) ?_
    refine wp_st (pc' := 590) (L' := [some (.float a0), some (.ref 0), some (.ref 65), some (.ref 91), some (.int (nI a4)), some (.int x3), some (.int x7)]) (st' := [.int 0]) (h' := Hp S10) 1 (fun Z => rfl) ?_
    exact wp_ret (fun Z => rfl) ⟨_, _, rfl, rfl, hw⟩
set_option maxRecDepth 4000 in
theorem w_law_law_611 {E : zX} {d : Nat} {S : St} {a0 : UInt32} {a4 : Nat} {Q : Int32 → St → Prop} (hd : 1 ≤ d) 
    (hw : ∃ (n1 : Nat) (f2 : Nat → Int32), out E a0 = some (0, n1, f2) ∧ ix (nI (a4 + 1)) n1 ∧
    ∃ (n3 : Nat) (f4 : Nat → Int32), out E a0 = some (0, n3, f4) ∧ ix (nI (a4 + 2)) n3 ∧
    k_law_carry E (d - 1) S (f2 (nI (a4 + 1)).toNatClampNeg) (f4 (nI (a4 + 2)).toNatClampNeg) (fun x5 S6 =>
    ∃ (n7 : Nat) (f8 : Nat → Int32), out E a0 = some (0, n7, f8) ∧ ix (nI (a4 + 1)) n7 ∧
    ∃ (n9 : Nat) (f10 : Nat → Int32), out E a0 = some (0, n9, f10) ∧ ix (nI (a4 + 2)) n9 ∧
    k_m_carry E (d - 1) S6 (f8 (nI (a4 + 1)).toNatClampNeg) (f10 (nI (a4 + 2)).toNatClampNeg) (fun x11 S12 =>
    k_m_thrown E (d - 1) S12 (fun x13 S14 =>
    if x13 = x5 then (
      if x5 = 0 then (
        if (lg_cmp (catL (S14 91 0) (S14 91 1)) (Int32.toInt64 x11)) = 0 then (
          k_law_law_2231 E d S14 a0 a4 Q)
        else (
          Q (0 : Int32) S14))
      else (
        k_law_law_2231 E d S14 a0 a4 Q))
    else (
      Q (0 : Int32) S14))))) :
    k_law_law_611 E d S a0 a4 Q := by
  obtain ⟨d, rfl⟩ := Nat.exists_eq_add_of_le' hd
  intro j5 j6
  show wp E (d + 1) m_law_law 611 [some (.float a0), some (.ref 0), some (.ref 65), some (.ref 91), some (.int (nI a4)), j5, j6] [] (Hp S) (QI Q)
  refine wp_st (pc' := 616) (L' := [some (.float a0), some (.ref 0), some (.ref 65), some (.ref 91), some (.int (nI a4)), j5, j6]) (st' := [.int 1, .int (nI a4), .float a0, .ref 0]) (h' := Hp S) 4 (fun Z => rfl) ?_
  refine wp_st (pc' := 617) (L' := [some (.float a0), some (.ref 0), some (.ref 65), some (.ref 91), some (.int (nI a4)), j5, j6]) (st' := [.int (nI (a4 + 1)), .float a0, .ref 0]) (h' := Hp S) 1 (fun Z => by rw [← nI_add a4 1]; rfl) ?_
  obtain ⟨n1, f2, e, hi, hw⟩ := hw
  refine wp_st (pc' := 618) (L' := [some (.float a0), some (.ref 0), some (.ref 65), some (.ref 91), some (.int (nI a4)), j5, j6]) (st' := [.int (f2 (nI (a4 + 1)).toNatClampNeg), .ref 0]) (h' := Hp S) 1 (fun Z => outI_eq (E := E) (h := Hp S) e hi [.ref 0] (fun st => Z (d + 1) m_law_law 618 [some (.float a0), some (.ref 0), some (.ref 65), some (.ref 91), some (.int (nI a4)), j5, j6] st (Hp S))) ?_
  refine wp_st (pc' := 622) (L' := [some (.float a0), some (.ref 0), some (.ref 65), some (.ref 91), some (.int (nI a4)), j5, j6]) (st' := [.int 2, .int (nI a4), .float a0, .int (f2 (nI (a4 + 1)).toNatClampNeg), .ref 0]) (h' := Hp S) 3 (fun Z => rfl) ?_
  refine wp_st (pc' := 623) (L' := [some (.float a0), some (.ref 0), some (.ref 65), some (.ref 91), some (.int (nI a4)), j5, j6]) (st' := [.int (nI (a4 + 2)), .float a0, .int (f2 (nI (a4 + 1)).toNatClampNeg), .ref 0]) (h' := Hp S) 1 (fun Z => by rw [← nI_add a4 2]; rfl) ?_
  obtain ⟨n3, f4, e, hi, hw⟩ := hw
  refine wp_st (pc' := 624) (L' := [some (.float a0), some (.ref 0), some (.ref 65), some (.ref 91), some (.int (nI a4)), j5, j6]) (st' := [.int (f4 (nI (a4 + 2)).toNatClampNeg), .int (f2 (nI (a4 + 1)).toNatClampNeg), .ref 0]) (h' := Hp S) 1 (fun Z => outI_eq (E := E) (h := Hp S) e hi [.int (f2 (nI (a4 + 1)).toNatClampNeg), .ref 0] (fun st => Z (d + 1) m_law_law 624 [some (.float a0), some (.ref 0), some (.ref 65), some (.ref 91), some (.int (nI a4)), j5, j6] st (Hp S))) ?_
  refine wp_st (pc' := 625) (L' := [some (.float a0), some (.ref 0), some (.ref 65), some (.ref 91), some (.int (nI a4)), j5, j6]) (st' := [.ref 91, .int (f4 (nI (a4 + 2)).toNatClampNeg), .int (f2 (nI (a4 + 1)).toNatClampNeg), .ref 0]) (h' := Hp S) 1 (fun Z => rfl) ?_
  refine wp_call (pc' := 628) (rest := []) (fun Z => rfl) rfl hw ?_
  rintro o h1 ⟨x5, S6, rfl, rfl, hw⟩
  refine ⟨_, rfl, ?_⟩
  show wp E (d + 1) m_law_law 628 [some (.float a0), some (.ref 0), some (.ref 65), some (.ref 91), some (.int (nI a4)), j5, j6] [.int x5] (Hp S6) (QI Q)
  refine wp_st (pc' := 635) (L' := [some (.float a0), some (.ref 0), some (.ref 65), some (.ref 91), some (.int (nI a4)), some (.int x5), j6]) (st' := [.int 1, .int (nI a4), .float a0, .ref 65]) (h' := Hp S6) 5 (fun Z => rfl) ?_
  refine wp_st (pc' := 636) (L' := [some (.float a0), some (.ref 0), some (.ref 65), some (.ref 91), some (.int (nI a4)), some (.int x5), j6]) (st' := [.int (nI (a4 + 1)), .float a0, .ref 65]) (h' := Hp S6) 1 (fun Z => by rw [← nI_add a4 1]; rfl) ?_
  obtain ⟨n7, f8, e, hi, hw⟩ := hw
  refine wp_st (pc' := 637) (L' := [some (.float a0), some (.ref 0), some (.ref 65), some (.ref 91), some (.int (nI a4)), some (.int x5), j6]) (st' := [.int (f8 (nI (a4 + 1)).toNatClampNeg), .ref 65]) (h' := Hp S6) 1 (fun Z => outI_eq (E := E) (h := Hp S6) e hi [.ref 65] (fun st => Z (d + 1) m_law_law 637 [some (.float a0), some (.ref 0), some (.ref 65), some (.ref 91), some (.int (nI a4)), some (.int x5), j6] st (Hp S6))) ?_
  refine wp_st (pc' := 641) (L' := [some (.float a0), some (.ref 0), some (.ref 65), some (.ref 91), some (.int (nI a4)), some (.int x5), j6]) (st' := [.int 2, .int (nI a4), .float a0, .int (f8 (nI (a4 + 1)).toNatClampNeg), .ref 65]) (h' := Hp S6) 3 (fun Z => rfl) ?_
  refine wp_st (pc' := 642) (L' := [some (.float a0), some (.ref 0), some (.ref 65), some (.ref 91), some (.int (nI a4)), some (.int x5), j6]) (st' := [.int (nI (a4 + 2)), .float a0, .int (f8 (nI (a4 + 1)).toNatClampNeg), .ref 65]) (h' := Hp S6) 1 (fun Z => by rw [← nI_add a4 2]; rfl) ?_
  obtain ⟨n9, f10, e, hi, hw⟩ := hw
  refine wp_st (pc' := 643) (L' := [some (.float a0), some (.ref 0), some (.ref 65), some (.ref 91), some (.int (nI a4)), some (.int x5), j6]) (st' := [.int (f10 (nI (a4 + 2)).toNatClampNeg), .int (f8 (nI (a4 + 1)).toNatClampNeg), .ref 65]) (h' := Hp S6) 1 (fun Z => outI_eq (E := E) (h := Hp S6) e hi [.int (f8 (nI (a4 + 1)).toNatClampNeg), .ref 65] (fun st => Z (d + 1) m_law_law 643 [some (.float a0), some (.ref 0), some (.ref 65), some (.ref 91), some (.int (nI a4)), some (.int x5), j6] st (Hp S6))) ?_
  refine wp_call (pc' := 646) (rest := []) (fun Z => rfl) (isO_of sh65) hw ?_
  rintro o h1 ⟨x11, S12, rfl, rfl, hw⟩
  refine ⟨_, rfl, ?_⟩
  show wp E (d + 1) m_law_law 646 [some (.float a0), some (.ref 0), some (.ref 65), some (.ref 91), some (.int (nI a4)), some (.int x5), j6] [.int x11] (Hp S12) (QI Q)
  refine wp_st (pc' := 649) (L' := [some (.float a0), some (.ref 0), some (.ref 65), some (.ref 91), some (.int (nI a4)), some (.int x5), some (.int x11)]) (st' := [.ref 65]) (h' := Hp S12) 2 (fun Z => rfl) ?_
  refine wp_call (pc' := 652) (rest := []) (fun Z => rfl) (isO_of sh65) hw ?_
  rintro o h1 ⟨x13, S14, rfl, rfl, hw⟩
  refine ⟨_, rfl, ?_⟩
  show wp E (d + 1) m_law_law 652 [some (.float a0), some (.ref 0), some (.ref 65), some (.ref 91), some (.int (nI a4)), some (.int x5), some (.int x11)] [.int x13] (Hp S14) (QI Q)
  refine wp_st (pc' := 654) (L' := [some (.float a0), some (.ref 0), some (.ref 65), some (.ref 91), some (.int (nI a4)), some (.int x5), some (.int x11)]) (st' := [.int x5, .int x13]) (h' := Hp S14) 1 (fun Z => rfl) ?_
  by_cases hc : x13 = x5
  · rw [if_pos hc] at hw
    refine wp_st (pc' := 659) (L' := [some (.float a0), some (.ref 0), some (.ref 65), some (.ref 91), some (.int (nI a4)), some (.int x5), some (.int x11)]) (st' := []) (h' := Hp S14) 1 (fun Z => if_pos hc) ?_
    refine wp_st (pc' := 661) (L' := [some (.float a0), some (.ref 0), some (.ref 65), some (.ref 91), some (.int (nI a4)), some (.int x5), some (.int x11)]) (st' := [.int x5]) (h' := Hp S14) 1 (fun Z => rfl) ?_
    by_cases hc : x5 = 0
    · rw [if_pos hc] at hw
      refine wp_st (pc' := 664) (L' := [some (.float a0), some (.ref 0), some (.ref 65), some (.ref 91), some (.int (nI a4)), some (.int x5), some (.int x11)]) (st' := []) (h' := Hp S14) 1 (fun Z => if_pos hc) ?_
      refine wp_st (pc' := 666) (L' := [some (.float a0), some (.ref 0), some (.ref 65), some (.ref 91), some (.int (nI a4)), some (.int x5), some (.int x11)]) (st' := [.int 0, .ref 91]) (h' := Hp S14) 2 (fun Z => rfl) ?_
      refine wp_st (pc' := 667) (L' := [some (.float a0), some (.ref 0), some (.ref 65), some (.ref 91), some (.int (nI a4)), some (.int x5), some (.int x11)]) (st' := [.long (catL (S14 91 0) (S14 91 1))]) (h' := Hp S14) 1 (fun Z => ldJ0 (E := E) sh91 (by decide) [] (fun st => Z (d + 1) m_law_law 667 [some (.float a0), some (.ref 0), some (.ref 65), some (.ref 91), some (.int (nI a4)), some (.int x5), some (.int x11)] st (Hp S14))) ?_
      refine wp_st (pc' := 671) (L' := [some (.float a0), some (.ref 0), some (.ref 65), some (.ref 91), some (.int (nI a4)), some (.int x5), some (.int x11)]) (st' := [.int (lg_cmp (catL (S14 91 0) (S14 91 1)) (Int32.toInt64 x11))]) (h' := Hp S14) 3 (fun Z => rfl) ?_
      by_cases hc : (lg_cmp (catL (S14 91 0) (S14 91 1)) (Int32.toInt64 x11)) = 0
      · rw [if_pos hc] at hw
        refine wp_st (pc' := 676) (L' := [some (.float a0), some (.ref 0), some (.ref 65), some (.ref 91), some (.int (nI a4)), some (.int x5), some (.int x11)]) (st' := []) (h' := Hp S14) 1 (fun Z => if_pos hc) ?_
        exact wp_st 1 (fun Z => rfl) (show wp E (d + 1) m_law_law 2231 [some (.float a0), some (.ref 0), some (.ref 65), some (.ref 91), some (.int (nI a4)), some (.int x5), some (.int x11)] [] (Hp S14) (QI Q) from (hw (some (.int x5)) (some (.int x11))))
      · rw [if_neg hc] at hw
        refine wp_st (pc' := 674) (L' := [some (.float a0), some (.ref 0), some (.ref 65), some (.ref 91), some (.int (nI a4)), some (.int x5), some (.int x11)]) (st' := []) (h' := Hp S14) 1 (fun Z => if_neg hc) ?_
        refine wp_st (pc' := 675) (L' := [some (.float a0), some (.ref 0), some (.ref 65), some (.ref 91), some (.int (nI a4)), some (.int x5), some (.int x11)]) (st' := [.int 0]) (h' := Hp S14) 1 (fun Z => rfl) ?_
        exact wp_ret (fun Z => rfl) ⟨_, _, rfl, rfl, hw⟩
    · rw [if_neg hc] at hw
      refine wp_st (pc' := 676) (L' := [some (.float a0), some (.ref 0), some (.ref 65), some (.ref 91), some (.int (nI a4)), some (.int x5), some (.int x11)]) (st' := []) (h' := Hp S14) 1 (fun Z => if_neg hc) ?_
      exact wp_st 1 (fun Z => rfl) (show wp E (d + 1) m_law_law 2231 [some (.float a0), some (.ref 0), some (.ref 65), some (.ref 91), some (.int (nI a4)), some (.int x5), some (.int x11)] [] (Hp S14) (QI Q) from (hw (some (.int x5)) (some (.int x11))))
  · rw [if_neg hc] at hw
    refine wp_st (pc' := 657) (L' := [some (.float a0), some (.ref 0), some (.ref 65), some (.ref 91), some (.int (nI a4)), some (.int x5), some (.int x11)]) (st' := []) (h' := Hp S14) 1 (fun Z => if_neg hc) ?_
    refine wp_st (pc' := 658) (L' := [some (.float a0), some (.ref 0), some (.ref 65), some (.ref 91), some (.int (nI a4)), some (.int x5), some (.int x11)]) (st' := [.int 0]) (h' := Hp S14) 1 (fun Z => rfl) ?_
    exact wp_ret (fun Z => rfl) ⟨_, _, rfl, rfl, hw⟩
set_option maxRecDepth 4000 in
theorem w_law_law_679 {E : zX} {d : Nat} {S : St} {a0 : UInt32} {a4 : Nat} {Q : Int32 → St → Prop} (hd : 1 ≤ d) 
    (hw : ∃ (n1 : Nat) (f2 : Nat → Int32), out E a0 = some (0, n1, f2) ∧ ix (nI (a4 + 1)) n1 ∧
    ∃ (n3 : Nat) (f4 : Nat → Int32), out E a0 = some (0, n3, f4) ∧ ix (nI (a4 + 2)) n3 ∧
    if (f4 (nI (a4 + 2)).toNatClampNeg) = 0 then (
      k_law_law_700 E d S a0 a4 (f2 (nI (a4 + 1)).toNatClampNeg) 0 Q)
    else (
      k_law_law_700 E d S a0 a4 (f2 (nI (a4 + 1)).toNatClampNeg) 1 Q)) :
    k_law_law_679 E d S a0 a4 Q := by
  obtain ⟨d, rfl⟩ := Nat.exists_eq_add_of_le' hd
  intro j5 j6
  show wp E (d + 1) m_law_law 679 [some (.float a0), some (.ref 0), some (.ref 65), some (.ref 91), some (.int (nI a4)), j5, j6] [] (Hp S) (QI Q)
  refine wp_st (pc' := 684) (L' := [some (.float a0), some (.ref 0), some (.ref 65), some (.ref 91), some (.int (nI a4)), j5, j6]) (st' := [.int 1, .int (nI a4), .float a0, .ref 0]) (h' := Hp S) 4 (fun Z => rfl) ?_
  refine wp_st (pc' := 685) (L' := [some (.float a0), some (.ref 0), some (.ref 65), some (.ref 91), some (.int (nI a4)), j5, j6]) (st' := [.int (nI (a4 + 1)), .float a0, .ref 0]) (h' := Hp S) 1 (fun Z => by rw [← nI_add a4 1]; rfl) ?_
  obtain ⟨n1, f2, e, hi, hw⟩ := hw
  refine wp_st (pc' := 686) (L' := [some (.float a0), some (.ref 0), some (.ref 65), some (.ref 91), some (.int (nI a4)), j5, j6]) (st' := [.int (f2 (nI (a4 + 1)).toNatClampNeg), .ref 0]) (h' := Hp S) 1 (fun Z => outI_eq (E := E) (h := Hp S) e hi [.ref 0] (fun st => Z (d + 1) m_law_law 686 [some (.float a0), some (.ref 0), some (.ref 65), some (.ref 91), some (.int (nI a4)), j5, j6] st (Hp S))) ?_
  refine wp_st (pc' := 690) (L' := [some (.float a0), some (.ref 0), some (.ref 65), some (.ref 91), some (.int (nI a4)), j5, j6]) (st' := [.int 2, .int (nI a4), .float a0, .int (f2 (nI (a4 + 1)).toNatClampNeg), .ref 0]) (h' := Hp S) 3 (fun Z => rfl) ?_
  refine wp_st (pc' := 691) (L' := [some (.float a0), some (.ref 0), some (.ref 65), some (.ref 91), some (.int (nI a4)), j5, j6]) (st' := [.int (nI (a4 + 2)), .float a0, .int (f2 (nI (a4 + 1)).toNatClampNeg), .ref 0]) (h' := Hp S) 1 (fun Z => by rw [← nI_add a4 2]; rfl) ?_
  obtain ⟨n3, f4, e, hi, hw⟩ := hw
  refine wp_st (pc' := 692) (L' := [some (.float a0), some (.ref 0), some (.ref 65), some (.ref 91), some (.int (nI a4)), j5, j6]) (st' := [.int (f4 (nI (a4 + 2)).toNatClampNeg), .int (f2 (nI (a4 + 1)).toNatClampNeg), .ref 0]) (h' := Hp S) 1 (fun Z => outI_eq (E := E) (h := Hp S) e hi [.int (f2 (nI (a4 + 1)).toNatClampNeg), .ref 0] (fun st => Z (d + 1) m_law_law 692 [some (.float a0), some (.ref 0), some (.ref 65), some (.ref 91), some (.int (nI a4)), j5, j6] st (Hp S))) ?_
  by_cases hc : (f4 (nI (a4 + 2)).toNatClampNeg) = 0
  · rw [if_pos hc] at hw
    refine wp_st (pc' := 699) (L' := [some (.float a0), some (.ref 0), some (.ref 65), some (.ref 91), some (.int (nI a4)), j5, j6]) (st' := [.int (f2 (nI (a4 + 1)).toNatClampNeg), .ref 0]) (h' := Hp S) 1 (fun Z => if_pos hc) ?_
    exact wp_st 1 (fun Z => rfl) (show wp E (d + 1) m_law_law 700 [some (.float a0), some (.ref 0), some (.ref 65), some (.ref 91), some (.int (nI a4)), j5, j6] [.int 0, .int (f2 (nI (a4 + 1)).toNatClampNeg), .ref 0] (Hp S) (QI Q) from (hw j5 j6))
  · rw [if_neg hc] at hw
    refine wp_st (pc' := 695) (L' := [some (.float a0), some (.ref 0), some (.ref 65), some (.ref 91), some (.int (nI a4)), j5, j6]) (st' := [.int (f2 (nI (a4 + 1)).toNatClampNeg), .ref 0]) (h' := Hp S) 1 (fun Z => if_neg hc) ?_
    exact wp_st 2 (fun Z => rfl) (show wp E (d + 1) m_law_law 700 [some (.float a0), some (.ref 0), some (.ref 65), some (.ref 91), some (.int (nI a4)), j5, j6] [.int 1, .int (f2 (nI (a4 + 1)).toNatClampNeg), .ref 0] (Hp S) (QI Q) from (hw j5 j6))
set_option maxRecDepth 4000 in
theorem w_law_law_700 {E : zX} {d : Nat} {S : St} {a0 : UInt32} {a4 : Nat} {s1 : Int32} {s2 : Int32} {Q : Int32 → St → Prop} (hd : 1 ≤ d) 
    (hw : k_law_guard E (d - 1) S s1 s2 (fun x1 S2 =>
    ∃ (n3 : Nat) (f4 : Nat → Int32), out E a0 = some (0, n3, f4) ∧ ix (nI (a4 + 1)) n3 ∧
    ∃ (n5 : Nat) (f6 : Nat → Int32), out E a0 = some (0, n5, f6) ∧ ix (nI (a4 + 2)) n5 ∧
    if (f6 (nI (a4 + 2)).toNatClampNeg) = 0 then (
      k_law_law_727 E d S2 a0 a4 x1 (f4 (nI (a4 + 1)).toNatClampNeg) 0 Q)
    else (
      k_law_law_727 E d S2 a0 a4 x1 (f4 (nI (a4 + 1)).toNatClampNeg) 1 Q))) :
    k_law_law_700 E d S a0 a4 s1 s2 Q := by
  obtain ⟨d, rfl⟩ := Nat.exists_eq_add_of_le' hd
  intro j5 j6
  show wp E (d + 1) m_law_law 700 [some (.float a0), some (.ref 0), some (.ref 65), some (.ref 91), some (.int (nI a4)), j5, j6] [.int s2, .int s1, .ref 0] (Hp S) (QI Q)
  refine wp_st (pc' := 701) (L' := [some (.float a0), some (.ref 0), some (.ref 65), some (.ref 91), some (.int (nI a4)), j5, j6]) (st' := [.ref 91, .int s2, .int s1, .ref 0]) (h' := Hp S) 1 (fun Z => rfl) ?_
  refine wp_call (pc' := 704) (rest := []) (fun Z => rfl) rfl hw ?_
  rintro o h1 ⟨x1, S2, rfl, rfl, hw⟩
  refine ⟨_, rfl, ?_⟩
  show wp E (d + 1) m_law_law 704 [some (.float a0), some (.ref 0), some (.ref 65), some (.ref 91), some (.int (nI a4)), j5, j6] [.int x1] (Hp S2) (QI Q)
  refine wp_st (pc' := 711) (L' := [some (.float a0), some (.ref 0), some (.ref 65), some (.ref 91), some (.int (nI a4)), some (.int x1), j6]) (st' := [.int 1, .int (nI a4), .float a0, .ref 65]) (h' := Hp S2) 5 (fun Z => rfl) ?_
  refine wp_st (pc' := 712) (L' := [some (.float a0), some (.ref 0), some (.ref 65), some (.ref 91), some (.int (nI a4)), some (.int x1), j6]) (st' := [.int (nI (a4 + 1)), .float a0, .ref 65]) (h' := Hp S2) 1 (fun Z => by rw [← nI_add a4 1]; rfl) ?_
  obtain ⟨n3, f4, e, hi, hw⟩ := hw
  refine wp_st (pc' := 713) (L' := [some (.float a0), some (.ref 0), some (.ref 65), some (.ref 91), some (.int (nI a4)), some (.int x1), j6]) (st' := [.int (f4 (nI (a4 + 1)).toNatClampNeg), .ref 65]) (h' := Hp S2) 1 (fun Z => outI_eq (E := E) (h := Hp S2) e hi [.ref 65] (fun st => Z (d + 1) m_law_law 713 [some (.float a0), some (.ref 0), some (.ref 65), some (.ref 91), some (.int (nI a4)), some (.int x1), j6] st (Hp S2))) ?_
  refine wp_st (pc' := 717) (L' := [some (.float a0), some (.ref 0), some (.ref 65), some (.ref 91), some (.int (nI a4)), some (.int x1), j6]) (st' := [.int 2, .int (nI a4), .float a0, .int (f4 (nI (a4 + 1)).toNatClampNeg), .ref 65]) (h' := Hp S2) 3 (fun Z => rfl) ?_
  refine wp_st (pc' := 718) (L' := [some (.float a0), some (.ref 0), some (.ref 65), some (.ref 91), some (.int (nI a4)), some (.int x1), j6]) (st' := [.int (nI (a4 + 2)), .float a0, .int (f4 (nI (a4 + 1)).toNatClampNeg), .ref 65]) (h' := Hp S2) 1 (fun Z => by rw [← nI_add a4 2]; rfl) ?_
  obtain ⟨n5, f6, e, hi, hw⟩ := hw
  refine wp_st (pc' := 719) (L' := [some (.float a0), some (.ref 0), some (.ref 65), some (.ref 91), some (.int (nI a4)), some (.int x1), j6]) (st' := [.int (f6 (nI (a4 + 2)).toNatClampNeg), .int (f4 (nI (a4 + 1)).toNatClampNeg), .ref 65]) (h' := Hp S2) 1 (fun Z => outI_eq (E := E) (h := Hp S2) e hi [.int (f4 (nI (a4 + 1)).toNatClampNeg), .ref 65] (fun st => Z (d + 1) m_law_law 719 [some (.float a0), some (.ref 0), some (.ref 65), some (.ref 91), some (.int (nI a4)), some (.int x1), j6] st (Hp S2))) ?_
  by_cases hc : (f6 (nI (a4 + 2)).toNatClampNeg) = 0
  · rw [if_pos hc] at hw
    refine wp_st (pc' := 726) (L' := [some (.float a0), some (.ref 0), some (.ref 65), some (.ref 91), some (.int (nI a4)), some (.int x1), j6]) (st' := [.int (f4 (nI (a4 + 1)).toNatClampNeg), .ref 65]) (h' := Hp S2) 1 (fun Z => if_pos hc) ?_
    exact wp_st 1 (fun Z => rfl) (show wp E (d + 1) m_law_law 727 [some (.float a0), some (.ref 0), some (.ref 65), some (.ref 91), some (.int (nI a4)), some (.int x1), j6] [.int 0, .int (f4 (nI (a4 + 1)).toNatClampNeg), .ref 65] (Hp S2) (QI Q) from (hw j6))
  · rw [if_neg hc] at hw
    refine wp_st (pc' := 722) (L' := [some (.float a0), some (.ref 0), some (.ref 65), some (.ref 91), some (.int (nI a4)), some (.int x1), j6]) (st' := [.int (f4 (nI (a4 + 1)).toNatClampNeg), .ref 65]) (h' := Hp S2) 1 (fun Z => if_neg hc) ?_
    exact wp_st 2 (fun Z => rfl) (show wp E (d + 1) m_law_law 727 [some (.float a0), some (.ref 0), some (.ref 65), some (.ref 91), some (.int (nI a4)), some (.int x1), j6] [.int 1, .int (f4 (nI (a4 + 1)).toNatClampNeg), .ref 65] (Hp S2) (QI Q) from (hw j6))
set_option maxRecDepth 4000 in
theorem w_law_law_727 {E : zX} {d : Nat} {S : St} {a0 : UInt32} {a4 : Nat} {a5 : Int32} {s1 : Int32} {s2 : Int32} {Q : Int32 → St → Prop} (hd : 1 ≤ d) 
    (hw : k_m_guard E (d - 1) S s1 s2 (fun x1 S2 =>
    k_m_thrown E (d - 1) S2 (fun x3 S4 =>
    if x3 = a5 then (
      if a5 = 0 then (
        if x1 = 0 then (
          if (lg_cmp (catL (S4 91 0) (S4 91 1)) 0) = 0 then (
            k_law_law_2231 E d S4 a0 a4 Q)
          else (
            Q (0 : Int32) S4))
        else (
          if (lg_cmp (catL (S4 91 0) (S4 91 1)) 1) = 0 then (
            k_law_law_2231 E d S4 a0 a4 Q)
          else (
            Q (0 : Int32) S4)))
      else (
        k_law_law_2231 E d S4 a0 a4 Q))
    else (
      Q (0 : Int32) S4)))) :
    k_law_law_727 E d S a0 a4 a5 s1 s2 Q := by
  obtain ⟨d, rfl⟩ := Nat.exists_eq_add_of_le' hd
  intro j6
  show wp E (d + 1) m_law_law 727 [some (.float a0), some (.ref 0), some (.ref 65), some (.ref 91), some (.int (nI a4)), some (.int a5), j6] [.int s2, .int s1, .ref 65] (Hp S) (QI Q)
  refine wp_call (pc' := 730) (rest := []) (fun Z => rfl) (isO_of sh65) hw ?_
  rintro o h1 ⟨x1, S2, rfl, rfl, hw⟩
  refine ⟨_, rfl, ?_⟩
  show wp E (d + 1) m_law_law 730 [some (.float a0), some (.ref 0), some (.ref 65), some (.ref 91), some (.int (nI a4)), some (.int a5), j6] [.int x1] (Hp S2) (QI Q)
  refine wp_st (pc' := 733) (L' := [some (.float a0), some (.ref 0), some (.ref 65), some (.ref 91), some (.int (nI a4)), some (.int a5), some (.int x1)]) (st' := [.ref 65]) (h' := Hp S2) 2 (fun Z => rfl) ?_
  refine wp_call (pc' := 736) (rest := []) (fun Z => rfl) (isO_of sh65) hw ?_
  rintro o h1 ⟨x3, S4, rfl, rfl, hw⟩
  refine ⟨_, rfl, ?_⟩
  show wp E (d + 1) m_law_law 736 [some (.float a0), some (.ref 0), some (.ref 65), some (.ref 91), some (.int (nI a4)), some (.int a5), some (.int x1)] [.int x3] (Hp S4) (QI Q)
  refine wp_st (pc' := 738) (L' := [some (.float a0), some (.ref 0), some (.ref 65), some (.ref 91), some (.int (nI a4)), some (.int a5), some (.int x1)]) (st' := [.int a5, .int x3]) (h' := Hp S4) 1 (fun Z => rfl) ?_
  by_cases hc : x3 = a5
  · rw [if_pos hc] at hw
    refine wp_st (pc' := 743) (L' := [some (.float a0), some (.ref 0), some (.ref 65), some (.ref 91), some (.int (nI a4)), some (.int a5), some (.int x1)]) (st' := []) (h' := Hp S4) 1 (fun Z => if_pos hc) ?_
    refine wp_st (pc' := 745) (L' := [some (.float a0), some (.ref 0), some (.ref 65), some (.ref 91), some (.int (nI a4)), some (.int a5), some (.int x1)]) (st' := [.int a5]) (h' := Hp S4) 1 (fun Z => rfl) ?_
    by_cases hc : a5 = 0
    · rw [if_pos hc] at hw
      refine wp_st (pc' := 748) (L' := [some (.float a0), some (.ref 0), some (.ref 65), some (.ref 91), some (.int (nI a4)), some (.int a5), some (.int x1)]) (st' := []) (h' := Hp S4) 1 (fun Z => if_pos hc) ?_
      refine wp_st (pc' := 750) (L' := [some (.float a0), some (.ref 0), some (.ref 65), some (.ref 91), some (.int (nI a4)), some (.int a5), some (.int x1)]) (st' := [.int 0, .ref 91]) (h' := Hp S4) 2 (fun Z => rfl) ?_
      refine wp_st (pc' := 751) (L' := [some (.float a0), some (.ref 0), some (.ref 65), some (.ref 91), some (.int (nI a4)), some (.int a5), some (.int x1)]) (st' := [.long (catL (S4 91 0) (S4 91 1))]) (h' := Hp S4) 1 (fun Z => ldJ0 (E := E) sh91 (by decide) [] (fun st => Z (d + 1) m_law_law 751 [some (.float a0), some (.ref 0), some (.ref 65), some (.ref 91), some (.int (nI a4)), some (.int a5), some (.int x1)] st (Hp S4))) ?_
      refine wp_st (pc' := 753) (L' := [some (.float a0), some (.ref 0), some (.ref 65), some (.ref 91), some (.int (nI a4)), some (.int a5), some (.int x1)]) (st' := [.int x1, .long (catL (S4 91 0) (S4 91 1))]) (h' := Hp S4) 1 (fun Z => rfl) ?_
      by_cases hc : x1 = 0
      · rw [if_pos hc] at hw
        refine wp_st (pc' := 760) (L' := [some (.float a0), some (.ref 0), some (.ref 65), some (.ref 91), some (.int (nI a4)), some (.int a5), some (.int x1)]) (st' := [.long (catL (S4 91 0) (S4 91 1))]) (h' := Hp S4) 1 (fun Z => if_pos hc) ?_
        refine wp_st (pc' := 762) (L' := [some (.float a0), some (.ref 0), some (.ref 65), some (.ref 91), some (.int (nI a4)), some (.int a5), some (.int x1)]) (st' := [.int (lg_cmp (catL (S4 91 0) (S4 91 1)) 0)]) (h' := Hp S4) 2 (fun Z => rfl) ?_
        by_cases hc : (lg_cmp (catL (S4 91 0) (S4 91 1)) 0) = 0
        · rw [if_pos hc] at hw
          refine wp_st (pc' := 767) (L' := [some (.float a0), some (.ref 0), some (.ref 65), some (.ref 91), some (.int (nI a4)), some (.int a5), some (.int x1)]) (st' := []) (h' := Hp S4) 1 (fun Z => if_pos hc) ?_
          exact wp_st 1 (fun Z => rfl) (show wp E (d + 1) m_law_law 2231 [some (.float a0), some (.ref 0), some (.ref 65), some (.ref 91), some (.int (nI a4)), some (.int a5), some (.int x1)] [] (Hp S4) (QI Q) from (hw (some (.int a5)) (some (.int x1))))
        · rw [if_neg hc] at hw
          refine wp_st (pc' := 765) (L' := [some (.float a0), some (.ref 0), some (.ref 65), some (.ref 91), some (.int (nI a4)), some (.int a5), some (.int x1)]) (st' := []) (h' := Hp S4) 1 (fun Z => if_neg hc) ?_
          refine wp_st (pc' := 766) (L' := [some (.float a0), some (.ref 0), some (.ref 65), some (.ref 91), some (.int (nI a4)), some (.int a5), some (.int x1)]) (st' := [.int 0]) (h' := Hp S4) 1 (fun Z => rfl) ?_
          exact wp_ret (fun Z => rfl) ⟨_, _, rfl, rfl, hw⟩
      · rw [if_neg hc] at hw
        refine wp_st (pc' := 756) (L' := [some (.float a0), some (.ref 0), some (.ref 65), some (.ref 91), some (.int (nI a4)), some (.int a5), some (.int x1)]) (st' := [.long (catL (S4 91 0) (S4 91 1))]) (h' := Hp S4) 1 (fun Z => if_neg hc) ?_
        refine wp_st (pc' := 762) (L' := [some (.float a0), some (.ref 0), some (.ref 65), some (.ref 91), some (.int (nI a4)), some (.int a5), some (.int x1)]) (st' := [.int (lg_cmp (catL (S4 91 0) (S4 91 1)) 1)]) (h' := Hp S4) 3 (fun Z => rfl) ?_
        by_cases hc : (lg_cmp (catL (S4 91 0) (S4 91 1)) 1) = 0
        · rw [if_pos hc] at hw
          refine wp_st (pc' := 767) (L' := [some (.float a0), some (.ref 0), some (.ref 65), some (.ref 91), some (.int (nI a4)), some (.int a5), some (.int x1)]) (st' := []) (h' := Hp S4) 1 (fun Z => if_pos hc) ?_
          exact wp_st 1 (fun Z => rfl) (show wp E (d + 1) m_law_law 2231 [some (.float a0), some (.ref 0), some (.ref 65), some (.ref 91), some (.int (nI a4)), some (.int a5), some (.int x1)] [] (Hp S4) (QI Q) from (hw (some (.int a5)) (some (.int x1))))
        · rw [if_neg hc] at hw
          refine wp_st (pc' := 765) (L' := [some (.float a0), some (.ref 0), some (.ref 65), some (.ref 91), some (.int (nI a4)), some (.int a5), some (.int x1)]) (st' := []) (h' := Hp S4) 1 (fun Z => if_neg hc) ?_
          refine wp_st (pc' := 766) (L' := [some (.float a0), some (.ref 0), some (.ref 65), some (.ref 91), some (.int (nI a4)), some (.int a5), some (.int x1)]) (st' := [.int 0]) (h' := Hp S4) 1 (fun Z => rfl) ?_
          exact wp_ret (fun Z => rfl) ⟨_, _, rfl, rfl, hw⟩
    · rw [if_neg hc] at hw
      refine wp_st (pc' := 767) (L' := [some (.float a0), some (.ref 0), some (.ref 65), some (.ref 91), some (.int (nI a4)), some (.int a5), some (.int x1)]) (st' := []) (h' := Hp S4) 1 (fun Z => if_neg hc) ?_
      exact wp_st 1 (fun Z => rfl) (show wp E (d + 1) m_law_law 2231 [some (.float a0), some (.ref 0), some (.ref 65), some (.ref 91), some (.int (nI a4)), some (.int a5), some (.int x1)] [] (Hp S4) (QI Q) from (hw (some (.int a5)) (some (.int x1))))
  · rw [if_neg hc] at hw
    refine wp_st (pc' := 741) (L' := [some (.float a0), some (.ref 0), some (.ref 65), some (.ref 91), some (.int (nI a4)), some (.int a5), some (.int x1)]) (st' := []) (h' := Hp S4) 1 (fun Z => if_neg hc) ?_
    refine wp_st (pc' := 742) (L' := [some (.float a0), some (.ref 0), some (.ref 65), some (.ref 91), some (.int (nI a4)), some (.int a5), some (.int x1)]) (st' := [.int 0]) (h' := Hp S4) 1 (fun Z => rfl) ?_
    exact wp_ret (fun Z => rfl) ⟨_, _, rfl, rfl, hw⟩
set_option maxRecDepth 4000 in
theorem w_law_law_770 {E : zX} {d : Nat} {S : St} {a0 : UInt32} {a4 : Nat} {Q : Int32 → St → Prop} (hd : 1 ≤ d) 
    (hw : ∃ (n1 : Nat) (f2 : Nat → Int32), out E a0 = some (0, n1, f2) ∧ ix (nI (a4 + 1)) n1 ∧
    ∃ (n3 : Nat) (f4 : Nat → Int32), out E a0 = some (0, n3, f4) ∧ ix (nI (a4 + 2)) n3 ∧
    k_law_soothe E (d - 1) S (f2 (nI (a4 + 1)).toNatClampNeg) (f4 (nI (a4 + 2)).toNatClampNeg) (fun x5 S6 =>
    ∃ (n7 : Nat) (f8 : Nat → Int32), out E a0 = some (0, n7, f8) ∧ ix (nI (a4 + 1)) n7 ∧
    ∃ (n9 : Nat) (f10 : Nat → Int32), out E a0 = some (0, n9, f10) ∧ ix (nI (a4 + 2)) n9 ∧
    k_m_soothe E (d - 1) S6 (f8 (nI (a4 + 1)).toNatClampNeg) (f10 (nI (a4 + 2)).toNatClampNeg) (fun x11 S12 =>
    k_m_thrown E (d - 1) S12 (fun x13 S14 =>
    if x13 = x5 then (
      if x5 = 0 then (
        if (lg_cmp (catL (S14 91 0) (S14 91 1)) (Int32.toInt64 x11)) = 0 then (
          k_law_law_2231 E d S14 a0 a4 Q)
        else (
          Q (0 : Int32) S14))
      else (
        k_law_law_2231 E d S14 a0 a4 Q))
    else (
      Q (0 : Int32) S14))))) :
    k_law_law_770 E d S a0 a4 Q := by
  obtain ⟨d, rfl⟩ := Nat.exists_eq_add_of_le' hd
  intro j5 j6
  show wp E (d + 1) m_law_law 770 [some (.float a0), some (.ref 0), some (.ref 65), some (.ref 91), some (.int (nI a4)), j5, j6] [] (Hp S) (QI Q)
  refine wp_st (pc' := 775) (L' := [some (.float a0), some (.ref 0), some (.ref 65), some (.ref 91), some (.int (nI a4)), j5, j6]) (st' := [.int 1, .int (nI a4), .float a0, .ref 0]) (h' := Hp S) 4 (fun Z => rfl) ?_
  refine wp_st (pc' := 776) (L' := [some (.float a0), some (.ref 0), some (.ref 65), some (.ref 91), some (.int (nI a4)), j5, j6]) (st' := [.int (nI (a4 + 1)), .float a0, .ref 0]) (h' := Hp S) 1 (fun Z => by rw [← nI_add a4 1]; rfl) ?_
  obtain ⟨n1, f2, e, hi, hw⟩ := hw
  refine wp_st (pc' := 777) (L' := [some (.float a0), some (.ref 0), some (.ref 65), some (.ref 91), some (.int (nI a4)), j5, j6]) (st' := [.int (f2 (nI (a4 + 1)).toNatClampNeg), .ref 0]) (h' := Hp S) 1 (fun Z => outI_eq (E := E) (h := Hp S) e hi [.ref 0] (fun st => Z (d + 1) m_law_law 777 [some (.float a0), some (.ref 0), some (.ref 65), some (.ref 91), some (.int (nI a4)), j5, j6] st (Hp S))) ?_
  refine wp_st (pc' := 781) (L' := [some (.float a0), some (.ref 0), some (.ref 65), some (.ref 91), some (.int (nI a4)), j5, j6]) (st' := [.int 2, .int (nI a4), .float a0, .int (f2 (nI (a4 + 1)).toNatClampNeg), .ref 0]) (h' := Hp S) 3 (fun Z => rfl) ?_
  refine wp_st (pc' := 782) (L' := [some (.float a0), some (.ref 0), some (.ref 65), some (.ref 91), some (.int (nI a4)), j5, j6]) (st' := [.int (nI (a4 + 2)), .float a0, .int (f2 (nI (a4 + 1)).toNatClampNeg), .ref 0]) (h' := Hp S) 1 (fun Z => by rw [← nI_add a4 2]; rfl) ?_
  obtain ⟨n3, f4, e, hi, hw⟩ := hw
  refine wp_st (pc' := 783) (L' := [some (.float a0), some (.ref 0), some (.ref 65), some (.ref 91), some (.int (nI a4)), j5, j6]) (st' := [.int (f4 (nI (a4 + 2)).toNatClampNeg), .int (f2 (nI (a4 + 1)).toNatClampNeg), .ref 0]) (h' := Hp S) 1 (fun Z => outI_eq (E := E) (h := Hp S) e hi [.int (f2 (nI (a4 + 1)).toNatClampNeg), .ref 0] (fun st => Z (d + 1) m_law_law 783 [some (.float a0), some (.ref 0), some (.ref 65), some (.ref 91), some (.int (nI a4)), j5, j6] st (Hp S))) ?_
  refine wp_st (pc' := 784) (L' := [some (.float a0), some (.ref 0), some (.ref 65), some (.ref 91), some (.int (nI a4)), j5, j6]) (st' := [.ref 91, .int (f4 (nI (a4 + 2)).toNatClampNeg), .int (f2 (nI (a4 + 1)).toNatClampNeg), .ref 0]) (h' := Hp S) 1 (fun Z => rfl) ?_
  refine wp_call (pc' := 787) (rest := []) (fun Z => rfl) rfl hw ?_
  rintro o h1 ⟨x5, S6, rfl, rfl, hw⟩
  refine ⟨_, rfl, ?_⟩
  show wp E (d + 1) m_law_law 787 [some (.float a0), some (.ref 0), some (.ref 65), some (.ref 91), some (.int (nI a4)), j5, j6] [.int x5] (Hp S6) (QI Q)
  refine wp_st (pc' := 794) (L' := [some (.float a0), some (.ref 0), some (.ref 65), some (.ref 91), some (.int (nI a4)), some (.int x5), j6]) (st' := [.int 1, .int (nI a4), .float a0, .ref 65]) (h' := Hp S6) 5 (fun Z => rfl) ?_
  refine wp_st (pc' := 795) (L' := [some (.float a0), some (.ref 0), some (.ref 65), some (.ref 91), some (.int (nI a4)), some (.int x5), j6]) (st' := [.int (nI (a4 + 1)), .float a0, .ref 65]) (h' := Hp S6) 1 (fun Z => by rw [← nI_add a4 1]; rfl) ?_
  obtain ⟨n7, f8, e, hi, hw⟩ := hw
  refine wp_st (pc' := 796) (L' := [some (.float a0), some (.ref 0), some (.ref 65), some (.ref 91), some (.int (nI a4)), some (.int x5), j6]) (st' := [.int (f8 (nI (a4 + 1)).toNatClampNeg), .ref 65]) (h' := Hp S6) 1 (fun Z => outI_eq (E := E) (h := Hp S6) e hi [.ref 65] (fun st => Z (d + 1) m_law_law 796 [some (.float a0), some (.ref 0), some (.ref 65), some (.ref 91), some (.int (nI a4)), some (.int x5), j6] st (Hp S6))) ?_
  refine wp_st (pc' := 800) (L' := [some (.float a0), some (.ref 0), some (.ref 65), some (.ref 91), some (.int (nI a4)), some (.int x5), j6]) (st' := [.int 2, .int (nI a4), .float a0, .int (f8 (nI (a4 + 1)).toNatClampNeg), .ref 65]) (h' := Hp S6) 3 (fun Z => rfl) ?_
  refine wp_st (pc' := 801) (L' := [some (.float a0), some (.ref 0), some (.ref 65), some (.ref 91), some (.int (nI a4)), some (.int x5), j6]) (st' := [.int (nI (a4 + 2)), .float a0, .int (f8 (nI (a4 + 1)).toNatClampNeg), .ref 65]) (h' := Hp S6) 1 (fun Z => by rw [← nI_add a4 2]; rfl) ?_
  obtain ⟨n9, f10, e, hi, hw⟩ := hw
  refine wp_st (pc' := 802) (L' := [some (.float a0), some (.ref 0), some (.ref 65), some (.ref 91), some (.int (nI a4)), some (.int x5), j6]) (st' := [.int (f10 (nI (a4 + 2)).toNatClampNeg), .int (f8 (nI (a4 + 1)).toNatClampNeg), .ref 65]) (h' := Hp S6) 1 (fun Z => outI_eq (E := E) (h := Hp S6) e hi [.int (f8 (nI (a4 + 1)).toNatClampNeg), .ref 65] (fun st => Z (d + 1) m_law_law 802 [some (.float a0), some (.ref 0), some (.ref 65), some (.ref 91), some (.int (nI a4)), some (.int x5), j6] st (Hp S6))) ?_
  refine wp_call (pc' := 805) (rest := []) (fun Z => rfl) (isO_of sh65) hw ?_
  rintro o h1 ⟨x11, S12, rfl, rfl, hw⟩
  refine ⟨_, rfl, ?_⟩
  show wp E (d + 1) m_law_law 805 [some (.float a0), some (.ref 0), some (.ref 65), some (.ref 91), some (.int (nI a4)), some (.int x5), j6] [.int x11] (Hp S12) (QI Q)
  refine wp_st (pc' := 808) (L' := [some (.float a0), some (.ref 0), some (.ref 65), some (.ref 91), some (.int (nI a4)), some (.int x5), some (.int x11)]) (st' := [.ref 65]) (h' := Hp S12) 2 (fun Z => rfl) ?_
  refine wp_call (pc' := 811) (rest := []) (fun Z => rfl) (isO_of sh65) hw ?_
  rintro o h1 ⟨x13, S14, rfl, rfl, hw⟩
  refine ⟨_, rfl, ?_⟩
  show wp E (d + 1) m_law_law 811 [some (.float a0), some (.ref 0), some (.ref 65), some (.ref 91), some (.int (nI a4)), some (.int x5), some (.int x11)] [.int x13] (Hp S14) (QI Q)
  refine wp_st (pc' := 813) (L' := [some (.float a0), some (.ref 0), some (.ref 65), some (.ref 91), some (.int (nI a4)), some (.int x5), some (.int x11)]) (st' := [.int x5, .int x13]) (h' := Hp S14) 1 (fun Z => rfl) ?_
  by_cases hc : x13 = x5
  · rw [if_pos hc] at hw
    refine wp_st (pc' := 818) (L' := [some (.float a0), some (.ref 0), some (.ref 65), some (.ref 91), some (.int (nI a4)), some (.int x5), some (.int x11)]) (st' := []) (h' := Hp S14) 1 (fun Z => if_pos hc) ?_
    refine wp_st (pc' := 820) (L' := [some (.float a0), some (.ref 0), some (.ref 65), some (.ref 91), some (.int (nI a4)), some (.int x5), some (.int x11)]) (st' := [.int x5]) (h' := Hp S14) 1 (fun Z => rfl) ?_
    by_cases hc : x5 = 0
    · rw [if_pos hc] at hw
      refine wp_st (pc' := 823) (L' := [some (.float a0), some (.ref 0), some (.ref 65), some (.ref 91), some (.int (nI a4)), some (.int x5), some (.int x11)]) (st' := []) (h' := Hp S14) 1 (fun Z => if_pos hc) ?_
      refine wp_st (pc' := 825) (L' := [some (.float a0), some (.ref 0), some (.ref 65), some (.ref 91), some (.int (nI a4)), some (.int x5), some (.int x11)]) (st' := [.int 0, .ref 91]) (h' := Hp S14) 2 (fun Z => rfl) ?_
      refine wp_st (pc' := 826) (L' := [some (.float a0), some (.ref 0), some (.ref 65), some (.ref 91), some (.int (nI a4)), some (.int x5), some (.int x11)]) (st' := [.long (catL (S14 91 0) (S14 91 1))]) (h' := Hp S14) 1 (fun Z => ldJ0 (E := E) sh91 (by decide) [] (fun st => Z (d + 1) m_law_law 826 [some (.float a0), some (.ref 0), some (.ref 65), some (.ref 91), some (.int (nI a4)), some (.int x5), some (.int x11)] st (Hp S14))) ?_
      refine wp_st (pc' := 830) (L' := [some (.float a0), some (.ref 0), some (.ref 65), some (.ref 91), some (.int (nI a4)), some (.int x5), some (.int x11)]) (st' := [.int (lg_cmp (catL (S14 91 0) (S14 91 1)) (Int32.toInt64 x11))]) (h' := Hp S14) 3 (fun Z => rfl) ?_
      by_cases hc : (lg_cmp (catL (S14 91 0) (S14 91 1)) (Int32.toInt64 x11)) = 0
      · rw [if_pos hc] at hw
        refine wp_st (pc' := 835) (L' := [some (.float a0), some (.ref 0), some (.ref 65), some (.ref 91), some (.int (nI a4)), some (.int x5), some (.int x11)]) (st' := []) (h' := Hp S14) 1 (fun Z => if_pos hc) ?_
        exact wp_st 1 (fun Z => rfl) (show wp E (d + 1) m_law_law 2231 [some (.float a0), some (.ref 0), some (.ref 65), some (.ref 91), some (.int (nI a4)), some (.int x5), some (.int x11)] [] (Hp S14) (QI Q) from (hw (some (.int x5)) (some (.int x11))))
      · rw [if_neg hc] at hw
        refine wp_st (pc' := 833) (L' := [some (.float a0), some (.ref 0), some (.ref 65), some (.ref 91), some (.int (nI a4)), some (.int x5), some (.int x11)]) (st' := []) (h' := Hp S14) 1 (fun Z => if_neg hc) ?_
        refine wp_st (pc' := 834) (L' := [some (.float a0), some (.ref 0), some (.ref 65), some (.ref 91), some (.int (nI a4)), some (.int x5), some (.int x11)]) (st' := [.int 0]) (h' := Hp S14) 1 (fun Z => rfl) ?_
        exact wp_ret (fun Z => rfl) ⟨_, _, rfl, rfl, hw⟩
    · rw [if_neg hc] at hw
      refine wp_st (pc' := 835) (L' := [some (.float a0), some (.ref 0), some (.ref 65), some (.ref 91), some (.int (nI a4)), some (.int x5), some (.int x11)]) (st' := []) (h' := Hp S14) 1 (fun Z => if_neg hc) ?_
      exact wp_st 1 (fun Z => rfl) (show wp E (d + 1) m_law_law 2231 [some (.float a0), some (.ref 0), some (.ref 65), some (.ref 91), some (.int (nI a4)), some (.int x5), some (.int x11)] [] (Hp S14) (QI Q) from (hw (some (.int x5)) (some (.int x11))))
  · rw [if_neg hc] at hw
    refine wp_st (pc' := 816) (L' := [some (.float a0), some (.ref 0), some (.ref 65), some (.ref 91), some (.int (nI a4)), some (.int x5), some (.int x11)]) (st' := []) (h' := Hp S14) 1 (fun Z => if_neg hc) ?_
    refine wp_st (pc' := 817) (L' := [some (.float a0), some (.ref 0), some (.ref 65), some (.ref 91), some (.int (nI a4)), some (.int x5), some (.int x11)]) (st' := [.int 0]) (h' := Hp S14) 1 (fun Z => rfl) ?_
    exact wp_ret (fun Z => rfl) ⟨_, _, rfl, rfl, hw⟩
set_option maxRecDepth 4000 in
theorem w_law_law_838 {E : zX} {d : Nat} {S : St} {a0 : UInt32} {a4 : Nat} {Q : Int32 → St → Prop} (hd : 1 ≤ d) 
    (hw : k_x_undo E (d - 1) S (fun x1 S2 =>
    k_m_undo E (d - 1) S2 (fun x3 S4 =>
    if x1 = x3 then (
      k_law_law_2231 E d S4 a0 a4 Q)
    else (
      Q (0 : Int32) S4)))) :
    k_law_law_838 E d S a0 a4 Q := by
  obtain ⟨d, rfl⟩ := Nat.exists_eq_add_of_le' hd
  intro j5 j6
  show wp E (d + 1) m_law_law 838 [some (.float a0), some (.ref 0), some (.ref 65), some (.ref 91), some (.int (nI a4)), j5, j6] [] (Hp S) (QI Q)
  refine wp_st (pc' := 839) (L' := [some (.float a0), some (.ref 0), some (.ref 65), some (.ref 91), some (.int (nI a4)), j5, j6]) (st' := [.ref 0]) (h' := Hp S) 1 (fun Z => rfl) ?_
  refine wp_call (pc' := 842) (rest := []) (fun Z => rfl) (isO_of sh0) hw ?_
  rintro o h1 ⟨x1, S2, rfl, rfl, hw⟩
  refine ⟨_, rfl, ?_⟩
  show wp E (d + 1) m_law_law 842 [some (.float a0), some (.ref 0), some (.ref 65), some (.ref 91), some (.int (nI a4)), j5, j6] [.int x1] (Hp S2) (QI Q)
  refine wp_st (pc' := 843) (L' := [some (.float a0), some (.ref 0), some (.ref 65), some (.ref 91), some (.int (nI a4)), j5, j6]) (st' := [.ref 65, .int x1]) (h' := Hp S2) 1 (fun Z => rfl) ?_
  refine wp_call (pc' := 846) (rest := [.int x1]) (fun Z => rfl) (isO_of sh65) hw ?_
  rintro o h1 ⟨x3, S4, rfl, rfl, hw⟩
  refine ⟨_, rfl, ?_⟩
  show wp E (d + 1) m_law_law 846 [some (.float a0), some (.ref 0), some (.ref 65), some (.ref 91), some (.int (nI a4)), j5, j6] [.int x3, .int x1] (Hp S4) (QI Q)
  by_cases hc : x1 = x3
  · rw [if_pos hc] at hw
    refine wp_st (pc' := 2231) (L' := [some (.float a0), some (.ref 0), some (.ref 65), some (.ref 91), some (.int (nI a4)), j5, j6]) (st' := []) (h' := Hp S4) 1 (fun Z => if_pos hc) ?_
    exact (show wp E (d + 1) m_law_law 2231 [some (.float a0), some (.ref 0), some (.ref 65), some (.ref 91), some (.int (nI a4)), j5, j6] [] (Hp S4) (QI Q) from (hw j5 j6))
  · rw [if_neg hc] at hw
    refine wp_st (pc' := 849) (L' := [some (.float a0), some (.ref 0), some (.ref 65), some (.ref 91), some (.int (nI a4)), j5, j6]) (st' := []) (h' := Hp S4) 1 (fun Z => if_neg hc) ?_
    refine wp_st (pc' := 850) (L' := [some (.float a0), some (.ref 0), some (.ref 65), some (.ref 91), some (.int (nI a4)), j5, j6]) (st' := [.int 0]) (h' := Hp S4) 1 (fun Z => rfl) ?_
    exact wp_ret (fun Z => rfl) ⟨_, _, rfl, rfl, hw⟩
set_option maxRecDepth 4000 in
theorem w_law_law_851 {E : zX} {d : Nat} {S : St} {a0 : UInt32} {a4 : Nat} {Q : Int32 → St → Prop} (hd : 1 ≤ d) 
    (hw : ∃ (n1 : Nat) (f2 : Nat → Int32), out E a0 = some (0, n1, f2) ∧ ix (nI (a4 + 1)) n1 ∧
    ∃ (n3 : Nat) (f4 : Nat → Int32), out E a0 = some (0, n3, f4) ∧ ix (nI (a4 + 2)) n3 ∧
    ∃ (n5 : Nat) (f6 : Nat → Int32), out E a0 = some (0, n5, f6) ∧ ix (nI (a4 + 3)) n5 ∧
    k_law_then E (d - 1) S (f2 (nI (a4 + 1)).toNatClampNeg) (f4 (nI (a4 + 2)).toNatClampNeg) (f6 (nI (a4 + 3)).toNatClampNeg) (fun x7 S8 =>
    ∃ (n9 : Nat) (f10 : Nat → Int32), out E a0 = some (0, n9, f10) ∧ ix (nI (a4 + 1)) n9 ∧
    ∃ (n11 : Nat) (f12 : Nat → Int32), out E a0 = some (0, n11, f12) ∧ ix (nI (a4 + 2)) n11 ∧
    ∃ (n13 : Nat) (f14 : Nat → Int32), out E a0 = some (0, n13, f14) ∧ ix (nI (a4 + 3)) n13 ∧
    k_m_then E (d - 1) S8 (f10 (nI (a4 + 1)).toNatClampNeg) (f12 (nI (a4 + 2)).toNatClampNeg) (f14 (nI (a4 + 3)).toNatClampNeg) (fun x15 S16 =>
    k_m_thrown E (d - 1) S16 (fun x17 S18 =>
    if x17 = x7 then (
      if x7 = 0 then (
        if (lg_cmp (catL (S18 91 0) (S18 91 1)) (Int32.toInt64 x15)) = 0 then (
          k_law_law_2231 E d S18 a0 a4 Q)
        else (
          Q (0 : Int32) S18))
      else (
        k_law_law_2231 E d S18 a0 a4 Q))
    else (
      Q (0 : Int32) S18))))) :
    k_law_law_851 E d S a0 a4 Q := by
  obtain ⟨d, rfl⟩ := Nat.exists_eq_add_of_le' hd
  intro j5 j6
  show wp E (d + 1) m_law_law 851 [some (.float a0), some (.ref 0), some (.ref 65), some (.ref 91), some (.int (nI a4)), j5, j6] [] (Hp S) (QI Q)
  refine wp_st (pc' := 856) (L' := [some (.float a0), some (.ref 0), some (.ref 65), some (.ref 91), some (.int (nI a4)), j5, j6]) (st' := [.int 1, .int (nI a4), .float a0, .ref 0]) (h' := Hp S) 4 (fun Z => rfl) ?_
  refine wp_st (pc' := 857) (L' := [some (.float a0), some (.ref 0), some (.ref 65), some (.ref 91), some (.int (nI a4)), j5, j6]) (st' := [.int (nI (a4 + 1)), .float a0, .ref 0]) (h' := Hp S) 1 (fun Z => by rw [← nI_add a4 1]; rfl) ?_
  obtain ⟨n1, f2, e, hi, hw⟩ := hw
  refine wp_st (pc' := 858) (L' := [some (.float a0), some (.ref 0), some (.ref 65), some (.ref 91), some (.int (nI a4)), j5, j6]) (st' := [.int (f2 (nI (a4 + 1)).toNatClampNeg), .ref 0]) (h' := Hp S) 1 (fun Z => outI_eq (E := E) (h := Hp S) e hi [.ref 0] (fun st => Z (d + 1) m_law_law 858 [some (.float a0), some (.ref 0), some (.ref 65), some (.ref 91), some (.int (nI a4)), j5, j6] st (Hp S))) ?_
  refine wp_st (pc' := 862) (L' := [some (.float a0), some (.ref 0), some (.ref 65), some (.ref 91), some (.int (nI a4)), j5, j6]) (st' := [.int 2, .int (nI a4), .float a0, .int (f2 (nI (a4 + 1)).toNatClampNeg), .ref 0]) (h' := Hp S) 3 (fun Z => rfl) ?_
  refine wp_st (pc' := 863) (L' := [some (.float a0), some (.ref 0), some (.ref 65), some (.ref 91), some (.int (nI a4)), j5, j6]) (st' := [.int (nI (a4 + 2)), .float a0, .int (f2 (nI (a4 + 1)).toNatClampNeg), .ref 0]) (h' := Hp S) 1 (fun Z => by rw [← nI_add a4 2]; rfl) ?_
  obtain ⟨n3, f4, e, hi, hw⟩ := hw
  refine wp_st (pc' := 864) (L' := [some (.float a0), some (.ref 0), some (.ref 65), some (.ref 91), some (.int (nI a4)), j5, j6]) (st' := [.int (f4 (nI (a4 + 2)).toNatClampNeg), .int (f2 (nI (a4 + 1)).toNatClampNeg), .ref 0]) (h' := Hp S) 1 (fun Z => outI_eq (E := E) (h := Hp S) e hi [.int (f2 (nI (a4 + 1)).toNatClampNeg), .ref 0] (fun st => Z (d + 1) m_law_law 864 [some (.float a0), some (.ref 0), some (.ref 65), some (.ref 91), some (.int (nI a4)), j5, j6] st (Hp S))) ?_
  refine wp_st (pc' := 868) (L' := [some (.float a0), some (.ref 0), some (.ref 65), some (.ref 91), some (.int (nI a4)), j5, j6]) (st' := [.int 3, .int (nI a4), .float a0, .int (f4 (nI (a4 + 2)).toNatClampNeg), .int (f2 (nI (a4 + 1)).toNatClampNeg), .ref 0]) (h' := Hp S) 3 (fun Z => rfl) ?_
  refine wp_st (pc' := 869) (L' := [some (.float a0), some (.ref 0), some (.ref 65), some (.ref 91), some (.int (nI a4)), j5, j6]) (st' := [.int (nI (a4 + 3)), .float a0, .int (f4 (nI (a4 + 2)).toNatClampNeg), .int (f2 (nI (a4 + 1)).toNatClampNeg), .ref 0]) (h' := Hp S) 1 (fun Z => by rw [← nI_add a4 3]; rfl) ?_
  obtain ⟨n5, f6, e, hi, hw⟩ := hw
  refine wp_st (pc' := 870) (L' := [some (.float a0), some (.ref 0), some (.ref 65), some (.ref 91), some (.int (nI a4)), j5, j6]) (st' := [.int (f6 (nI (a4 + 3)).toNatClampNeg), .int (f4 (nI (a4 + 2)).toNatClampNeg), .int (f2 (nI (a4 + 1)).toNatClampNeg), .ref 0]) (h' := Hp S) 1 (fun Z => outI_eq (E := E) (h := Hp S) e hi [.int (f4 (nI (a4 + 2)).toNatClampNeg), .int (f2 (nI (a4 + 1)).toNatClampNeg), .ref 0] (fun st => Z (d + 1) m_law_law 870 [some (.float a0), some (.ref 0), some (.ref 65), some (.ref 91), some (.int (nI a4)), j5, j6] st (Hp S))) ?_
  refine wp_st (pc' := 871) (L' := [some (.float a0), some (.ref 0), some (.ref 65), some (.ref 91), some (.int (nI a4)), j5, j6]) (st' := [.ref 91, .int (f6 (nI (a4 + 3)).toNatClampNeg), .int (f4 (nI (a4 + 2)).toNatClampNeg), .int (f2 (nI (a4 + 1)).toNatClampNeg), .ref 0]) (h' := Hp S) 1 (fun Z => rfl) ?_
  refine wp_call (pc' := 874) (rest := []) (fun Z => rfl) rfl hw ?_
  rintro o h1 ⟨x7, S8, rfl, rfl, hw⟩
  refine ⟨_, rfl, ?_⟩
  show wp E (d + 1) m_law_law 874 [some (.float a0), some (.ref 0), some (.ref 65), some (.ref 91), some (.int (nI a4)), j5, j6] [.int x7] (Hp S8) (QI Q)
  refine wp_st (pc' := 881) (L' := [some (.float a0), some (.ref 0), some (.ref 65), some (.ref 91), some (.int (nI a4)), some (.int x7), j6]) (st' := [.int 1, .int (nI a4), .float a0, .ref 65]) (h' := Hp S8) 5 (fun Z => rfl) ?_
  refine wp_st (pc' := 882) (L' := [some (.float a0), some (.ref 0), some (.ref 65), some (.ref 91), some (.int (nI a4)), some (.int x7), j6]) (st' := [.int (nI (a4 + 1)), .float a0, .ref 65]) (h' := Hp S8) 1 (fun Z => by rw [← nI_add a4 1]; rfl) ?_
  obtain ⟨n9, f10, e, hi, hw⟩ := hw
  refine wp_st (pc' := 883) (L' := [some (.float a0), some (.ref 0), some (.ref 65), some (.ref 91), some (.int (nI a4)), some (.int x7), j6]) (st' := [.int (f10 (nI (a4 + 1)).toNatClampNeg), .ref 65]) (h' := Hp S8) 1 (fun Z => outI_eq (E := E) (h := Hp S8) e hi [.ref 65] (fun st => Z (d + 1) m_law_law 883 [some (.float a0), some (.ref 0), some (.ref 65), some (.ref 91), some (.int (nI a4)), some (.int x7), j6] st (Hp S8))) ?_
  refine wp_st (pc' := 887) (L' := [some (.float a0), some (.ref 0), some (.ref 65), some (.ref 91), some (.int (nI a4)), some (.int x7), j6]) (st' := [.int 2, .int (nI a4), .float a0, .int (f10 (nI (a4 + 1)).toNatClampNeg), .ref 65]) (h' := Hp S8) 3 (fun Z => rfl) ?_
  refine wp_st (pc' := 888) (L' := [some (.float a0), some (.ref 0), some (.ref 65), some (.ref 91), some (.int (nI a4)), some (.int x7), j6]) (st' := [.int (nI (a4 + 2)), .float a0, .int (f10 (nI (a4 + 1)).toNatClampNeg), .ref 65]) (h' := Hp S8) 1 (fun Z => by rw [← nI_add a4 2]; rfl) ?_
  obtain ⟨n11, f12, e, hi, hw⟩ := hw
  refine wp_st (pc' := 889) (L' := [some (.float a0), some (.ref 0), some (.ref 65), some (.ref 91), some (.int (nI a4)), some (.int x7), j6]) (st' := [.int (f12 (nI (a4 + 2)).toNatClampNeg), .int (f10 (nI (a4 + 1)).toNatClampNeg), .ref 65]) (h' := Hp S8) 1 (fun Z => outI_eq (E := E) (h := Hp S8) e hi [.int (f10 (nI (a4 + 1)).toNatClampNeg), .ref 65] (fun st => Z (d + 1) m_law_law 889 [some (.float a0), some (.ref 0), some (.ref 65), some (.ref 91), some (.int (nI a4)), some (.int x7), j6] st (Hp S8))) ?_
  refine wp_st (pc' := 893) (L' := [some (.float a0), some (.ref 0), some (.ref 65), some (.ref 91), some (.int (nI a4)), some (.int x7), j6]) (st' := [.int 3, .int (nI a4), .float a0, .int (f12 (nI (a4 + 2)).toNatClampNeg), .int (f10 (nI (a4 + 1)).toNatClampNeg), .ref 65]) (h' := Hp S8) 3 (fun Z => rfl) ?_
  refine wp_st (pc' := 894) (L' := [some (.float a0), some (.ref 0), some (.ref 65), some (.ref 91), some (.int (nI a4)), some (.int x7), j6]) (st' := [.int (nI (a4 + 3)), .float a0, .int (f12 (nI (a4 + 2)).toNatClampNeg), .int (f10 (nI (a4 + 1)).toNatClampNeg), .ref 65]) (h' := Hp S8) 1 (fun Z => by rw [← nI_add a4 3]; rfl) ?_
  obtain ⟨n13, f14, e, hi, hw⟩ := hw
  refine wp_st (pc' := 895) (L' := [some (.float a0), some (.ref 0), some (.ref 65), some (.ref 91), some (.int (nI a4)), some (.int x7), j6]) (st' := [.int (f14 (nI (a4 + 3)).toNatClampNeg), .int (f12 (nI (a4 + 2)).toNatClampNeg), .int (f10 (nI (a4 + 1)).toNatClampNeg), .ref 65]) (h' := Hp S8) 1 (fun Z => outI_eq (E := E) (h := Hp S8) e hi [.int (f12 (nI (a4 + 2)).toNatClampNeg), .int (f10 (nI (a4 + 1)).toNatClampNeg), .ref 65] (fun st => Z (d + 1) m_law_law 895 [some (.float a0), some (.ref 0), some (.ref 65), some (.ref 91), some (.int (nI a4)), some (.int x7), j6] st (Hp S8))) ?_
  refine wp_call (pc' := 898) (rest := []) (fun Z => rfl) (isO_of sh65) hw ?_
  rintro o h1 ⟨x15, S16, rfl, rfl, hw⟩
  refine ⟨_, rfl, ?_⟩
  show wp E (d + 1) m_law_law 898 [some (.float a0), some (.ref 0), some (.ref 65), some (.ref 91), some (.int (nI a4)), some (.int x7), j6] [.int x15] (Hp S16) (QI Q)
  refine wp_st (pc' := 901) (L' := [some (.float a0), some (.ref 0), some (.ref 65), some (.ref 91), some (.int (nI a4)), some (.int x7), some (.int x15)]) (st' := [.ref 65]) (h' := Hp S16) 2 (fun Z => rfl) ?_
  refine wp_call (pc' := 904) (rest := []) (fun Z => rfl) (isO_of sh65) hw ?_
  rintro o h1 ⟨x17, S18, rfl, rfl, hw⟩
  refine ⟨_, rfl, ?_⟩
  show wp E (d + 1) m_law_law 904 [some (.float a0), some (.ref 0), some (.ref 65), some (.ref 91), some (.int (nI a4)), some (.int x7), some (.int x15)] [.int x17] (Hp S18) (QI Q)
  refine wp_st (pc' := 906) (L' := [some (.float a0), some (.ref 0), some (.ref 65), some (.ref 91), some (.int (nI a4)), some (.int x7), some (.int x15)]) (st' := [.int x7, .int x17]) (h' := Hp S18) 1 (fun Z => rfl) ?_
  by_cases hc : x17 = x7
  · rw [if_pos hc] at hw
    refine wp_st (pc' := 911) (L' := [some (.float a0), some (.ref 0), some (.ref 65), some (.ref 91), some (.int (nI a4)), some (.int x7), some (.int x15)]) (st' := []) (h' := Hp S18) 1 (fun Z => if_pos hc) ?_
    refine wp_st (pc' := 913) (L' := [some (.float a0), some (.ref 0), some (.ref 65), some (.ref 91), some (.int (nI a4)), some (.int x7), some (.int x15)]) (st' := [.int x7]) (h' := Hp S18) 1 (fun Z => rfl) ?_
    by_cases hc : x7 = 0
    · rw [if_pos hc] at hw
      refine wp_st (pc' := 916) (L' := [some (.float a0), some (.ref 0), some (.ref 65), some (.ref 91), some (.int (nI a4)), some (.int x7), some (.int x15)]) (st' := []) (h' := Hp S18) 1 (fun Z => if_pos hc) ?_
      refine wp_st (pc' := 918) (L' := [some (.float a0), some (.ref 0), some (.ref 65), some (.ref 91), some (.int (nI a4)), some (.int x7), some (.int x15)]) (st' := [.int 0, .ref 91]) (h' := Hp S18) 2 (fun Z => rfl) ?_
      refine wp_st (pc' := 919) (L' := [some (.float a0), some (.ref 0), some (.ref 65), some (.ref 91), some (.int (nI a4)), some (.int x7), some (.int x15)]) (st' := [.long (catL (S18 91 0) (S18 91 1))]) (h' := Hp S18) 1 (fun Z => ldJ0 (E := E) sh91 (by decide) [] (fun st => Z (d + 1) m_law_law 919 [some (.float a0), some (.ref 0), some (.ref 65), some (.ref 91), some (.int (nI a4)), some (.int x7), some (.int x15)] st (Hp S18))) ?_
      refine wp_st (pc' := 923) (L' := [some (.float a0), some (.ref 0), some (.ref 65), some (.ref 91), some (.int (nI a4)), some (.int x7), some (.int x15)]) (st' := [.int (lg_cmp (catL (S18 91 0) (S18 91 1)) (Int32.toInt64 x15))]) (h' := Hp S18) 3 (fun Z => rfl) ?_
      by_cases hc : (lg_cmp (catL (S18 91 0) (S18 91 1)) (Int32.toInt64 x15)) = 0
      · rw [if_pos hc] at hw
        refine wp_st (pc' := 928) (L' := [some (.float a0), some (.ref 0), some (.ref 65), some (.ref 91), some (.int (nI a4)), some (.int x7), some (.int x15)]) (st' := []) (h' := Hp S18) 1 (fun Z => if_pos hc) ?_
        exact wp_st 1 (fun Z => rfl) (show wp E (d + 1) m_law_law 2231 [some (.float a0), some (.ref 0), some (.ref 65), some (.ref 91), some (.int (nI a4)), some (.int x7), some (.int x15)] [] (Hp S18) (QI Q) from (hw (some (.int x7)) (some (.int x15))))
      · rw [if_neg hc] at hw
        refine wp_st (pc' := 926) (L' := [some (.float a0), some (.ref 0), some (.ref 65), some (.ref 91), some (.int (nI a4)), some (.int x7), some (.int x15)]) (st' := []) (h' := Hp S18) 1 (fun Z => if_neg hc) ?_
        refine wp_st (pc' := 927) (L' := [some (.float a0), some (.ref 0), some (.ref 65), some (.ref 91), some (.int (nI a4)), some (.int x7), some (.int x15)]) (st' := [.int 0]) (h' := Hp S18) 1 (fun Z => rfl) ?_
        exact wp_ret (fun Z => rfl) ⟨_, _, rfl, rfl, hw⟩
    · rw [if_neg hc] at hw
      refine wp_st (pc' := 928) (L' := [some (.float a0), some (.ref 0), some (.ref 65), some (.ref 91), some (.int (nI a4)), some (.int x7), some (.int x15)]) (st' := []) (h' := Hp S18) 1 (fun Z => if_neg hc) ?_
      exact wp_st 1 (fun Z => rfl) (show wp E (d + 1) m_law_law 2231 [some (.float a0), some (.ref 0), some (.ref 65), some (.ref 91), some (.int (nI a4)), some (.int x7), some (.int x15)] [] (Hp S18) (QI Q) from (hw (some (.int x7)) (some (.int x15))))
  · rw [if_neg hc] at hw
    refine wp_st (pc' := 909) (L' := [some (.float a0), some (.ref 0), some (.ref 65), some (.ref 91), some (.int (nI a4)), some (.int x7), some (.int x15)]) (st' := []) (h' := Hp S18) 1 (fun Z => if_neg hc) ?_
    refine wp_st (pc' := 910) (L' := [some (.float a0), some (.ref 0), some (.ref 65), some (.ref 91), some (.int (nI a4)), some (.int x7), some (.int x15)]) (st' := [.int 0]) (h' := Hp S18) 1 (fun Z => rfl) ?_
    exact wp_ret (fun Z => rfl) ⟨_, _, rfl, rfl, hw⟩
set_option maxRecDepth 4000 in
theorem w_law_law_931 {E : zX} {d : Nat} {S : St} {a0 : UInt32} {a4 : Nat} {Q : Int32 → St → Prop} (hd : 1 ≤ d) 
    (hw : ∃ (n1 : Nat) (f2 : Nat → Int32), out E a0 = some (0, n1, f2) ∧ ix (nI (a4 + 1)) n1 ∧
    ∃ (n3 : Nat) (f4 : Nat → Int32), out E a0 = some (0, n3, f4) ∧ ix (nI (a4 + 2)) n3 ∧
    ∃ (n5 : Nat) (f6 : Nat → Int32), out E a0 = some (0, n5, f6) ∧ ix (nI (a4 + 3)) n5 ∧
    k_law_mood E (d - 1) S (f2 (nI (a4 + 1)).toNatClampNeg) (f4 (nI (a4 + 2)).toNatClampNeg) (f6 (nI (a4 + 3)).toNatClampNeg) (fun x7 S8 =>
    ∃ (n9 : Nat) (f10 : Nat → Int32), out E a0 = some (0, n9, f10) ∧ ix (nI (a4 + 1)) n9 ∧
    ∃ (n11 : Nat) (f12 : Nat → Int32), out E a0 = some (0, n11, f12) ∧ ix (nI (a4 + 2)) n11 ∧
    ∃ (n13 : Nat) (f14 : Nat → Int32), out E a0 = some (0, n13, f14) ∧ ix (nI (a4 + 3)) n13 ∧
    k_m_mood E (d - 1) S8 (f10 (nI (a4 + 1)).toNatClampNeg) (f12 (nI (a4 + 2)).toNatClampNeg) (f14 (nI (a4 + 3)).toNatClampNeg) (fun x15 S16 =>
    k_m_thrown E (d - 1) S16 (fun x17 S18 =>
    if x17 = x7 then (
      if x7 = 0 then (
        if (lg_cmp (catL (S18 91 0) (S18 91 1)) (Int32.toInt64 x15)) = 0 then (
          k_law_law_2231 E d S18 a0 a4 Q)
        else (
          Q (0 : Int32) S18))
      else (
        k_law_law_2231 E d S18 a0 a4 Q))
    else (
      Q (0 : Int32) S18))))) :
    k_law_law_931 E d S a0 a4 Q := by
  obtain ⟨d, rfl⟩ := Nat.exists_eq_add_of_le' hd
  intro j5 j6
  show wp E (d + 1) m_law_law 931 [some (.float a0), some (.ref 0), some (.ref 65), some (.ref 91), some (.int (nI a4)), j5, j6] [] (Hp S) (QI Q)
  refine wp_st (pc' := 936) (L' := [some (.float a0), some (.ref 0), some (.ref 65), some (.ref 91), some (.int (nI a4)), j5, j6]) (st' := [.int 1, .int (nI a4), .float a0, .ref 0]) (h' := Hp S) 4 (fun Z => rfl) ?_
  refine wp_st (pc' := 937) (L' := [some (.float a0), some (.ref 0), some (.ref 65), some (.ref 91), some (.int (nI a4)), j5, j6]) (st' := [.int (nI (a4 + 1)), .float a0, .ref 0]) (h' := Hp S) 1 (fun Z => by rw [← nI_add a4 1]; rfl) ?_
  obtain ⟨n1, f2, e, hi, hw⟩ := hw
  refine wp_st (pc' := 938) (L' := [some (.float a0), some (.ref 0), some (.ref 65), some (.ref 91), some (.int (nI a4)), j5, j6]) (st' := [.int (f2 (nI (a4 + 1)).toNatClampNeg), .ref 0]) (h' := Hp S) 1 (fun Z => outI_eq (E := E) (h := Hp S) e hi [.ref 0] (fun st => Z (d + 1) m_law_law 938 [some (.float a0), some (.ref 0), some (.ref 65), some (.ref 91), some (.int (nI a4)), j5, j6] st (Hp S))) ?_
  refine wp_st (pc' := 942) (L' := [some (.float a0), some (.ref 0), some (.ref 65), some (.ref 91), some (.int (nI a4)), j5, j6]) (st' := [.int 2, .int (nI a4), .float a0, .int (f2 (nI (a4 + 1)).toNatClampNeg), .ref 0]) (h' := Hp S) 3 (fun Z => rfl) ?_
  refine wp_st (pc' := 943) (L' := [some (.float a0), some (.ref 0), some (.ref 65), some (.ref 91), some (.int (nI a4)), j5, j6]) (st' := [.int (nI (a4 + 2)), .float a0, .int (f2 (nI (a4 + 1)).toNatClampNeg), .ref 0]) (h' := Hp S) 1 (fun Z => by rw [← nI_add a4 2]; rfl) ?_
  obtain ⟨n3, f4, e, hi, hw⟩ := hw
  refine wp_st (pc' := 944) (L' := [some (.float a0), some (.ref 0), some (.ref 65), some (.ref 91), some (.int (nI a4)), j5, j6]) (st' := [.int (f4 (nI (a4 + 2)).toNatClampNeg), .int (f2 (nI (a4 + 1)).toNatClampNeg), .ref 0]) (h' := Hp S) 1 (fun Z => outI_eq (E := E) (h := Hp S) e hi [.int (f2 (nI (a4 + 1)).toNatClampNeg), .ref 0] (fun st => Z (d + 1) m_law_law 944 [some (.float a0), some (.ref 0), some (.ref 65), some (.ref 91), some (.int (nI a4)), j5, j6] st (Hp S))) ?_
  refine wp_st (pc' := 948) (L' := [some (.float a0), some (.ref 0), some (.ref 65), some (.ref 91), some (.int (nI a4)), j5, j6]) (st' := [.int 3, .int (nI a4), .float a0, .int (f4 (nI (a4 + 2)).toNatClampNeg), .int (f2 (nI (a4 + 1)).toNatClampNeg), .ref 0]) (h' := Hp S) 3 (fun Z => rfl) ?_
  refine wp_st (pc' := 949) (L' := [some (.float a0), some (.ref 0), some (.ref 65), some (.ref 91), some (.int (nI a4)), j5, j6]) (st' := [.int (nI (a4 + 3)), .float a0, .int (f4 (nI (a4 + 2)).toNatClampNeg), .int (f2 (nI (a4 + 1)).toNatClampNeg), .ref 0]) (h' := Hp S) 1 (fun Z => by rw [← nI_add a4 3]; rfl) ?_
  obtain ⟨n5, f6, e, hi, hw⟩ := hw
  refine wp_st (pc' := 950) (L' := [some (.float a0), some (.ref 0), some (.ref 65), some (.ref 91), some (.int (nI a4)), j5, j6]) (st' := [.int (f6 (nI (a4 + 3)).toNatClampNeg), .int (f4 (nI (a4 + 2)).toNatClampNeg), .int (f2 (nI (a4 + 1)).toNatClampNeg), .ref 0]) (h' := Hp S) 1 (fun Z => outI_eq (E := E) (h := Hp S) e hi [.int (f4 (nI (a4 + 2)).toNatClampNeg), .int (f2 (nI (a4 + 1)).toNatClampNeg), .ref 0] (fun st => Z (d + 1) m_law_law 950 [some (.float a0), some (.ref 0), some (.ref 65), some (.ref 91), some (.int (nI a4)), j5, j6] st (Hp S))) ?_
  refine wp_st (pc' := 951) (L' := [some (.float a0), some (.ref 0), some (.ref 65), some (.ref 91), some (.int (nI a4)), j5, j6]) (st' := [.ref 91, .int (f6 (nI (a4 + 3)).toNatClampNeg), .int (f4 (nI (a4 + 2)).toNatClampNeg), .int (f2 (nI (a4 + 1)).toNatClampNeg), .ref 0]) (h' := Hp S) 1 (fun Z => rfl) ?_
  refine wp_call (pc' := 954) (rest := []) (fun Z => rfl) rfl hw ?_
  rintro o h1 ⟨x7, S8, rfl, rfl, hw⟩
  refine ⟨_, rfl, ?_⟩
  show wp E (d + 1) m_law_law 954 [some (.float a0), some (.ref 0), some (.ref 65), some (.ref 91), some (.int (nI a4)), j5, j6] [.int x7] (Hp S8) (QI Q)
  refine wp_st (pc' := 961) (L' := [some (.float a0), some (.ref 0), some (.ref 65), some (.ref 91), some (.int (nI a4)), some (.int x7), j6]) (st' := [.int 1, .int (nI a4), .float a0, .ref 65]) (h' := Hp S8) 5 (fun Z => rfl) ?_
  refine wp_st (pc' := 962) (L' := [some (.float a0), some (.ref 0), some (.ref 65), some (.ref 91), some (.int (nI a4)), some (.int x7), j6]) (st' := [.int (nI (a4 + 1)), .float a0, .ref 65]) (h' := Hp S8) 1 (fun Z => by rw [← nI_add a4 1]; rfl) ?_
  obtain ⟨n9, f10, e, hi, hw⟩ := hw
  refine wp_st (pc' := 963) (L' := [some (.float a0), some (.ref 0), some (.ref 65), some (.ref 91), some (.int (nI a4)), some (.int x7), j6]) (st' := [.int (f10 (nI (a4 + 1)).toNatClampNeg), .ref 65]) (h' := Hp S8) 1 (fun Z => outI_eq (E := E) (h := Hp S8) e hi [.ref 65] (fun st => Z (d + 1) m_law_law 963 [some (.float a0), some (.ref 0), some (.ref 65), some (.ref 91), some (.int (nI a4)), some (.int x7), j6] st (Hp S8))) ?_
  refine wp_st (pc' := 967) (L' := [some (.float a0), some (.ref 0), some (.ref 65), some (.ref 91), some (.int (nI a4)), some (.int x7), j6]) (st' := [.int 2, .int (nI a4), .float a0, .int (f10 (nI (a4 + 1)).toNatClampNeg), .ref 65]) (h' := Hp S8) 3 (fun Z => rfl) ?_
  refine wp_st (pc' := 968) (L' := [some (.float a0), some (.ref 0), some (.ref 65), some (.ref 91), some (.int (nI a4)), some (.int x7), j6]) (st' := [.int (nI (a4 + 2)), .float a0, .int (f10 (nI (a4 + 1)).toNatClampNeg), .ref 65]) (h' := Hp S8) 1 (fun Z => by rw [← nI_add a4 2]; rfl) ?_
  obtain ⟨n11, f12, e, hi, hw⟩ := hw
  refine wp_st (pc' := 969) (L' := [some (.float a0), some (.ref 0), some (.ref 65), some (.ref 91), some (.int (nI a4)), some (.int x7), j6]) (st' := [.int (f12 (nI (a4 + 2)).toNatClampNeg), .int (f10 (nI (a4 + 1)).toNatClampNeg), .ref 65]) (h' := Hp S8) 1 (fun Z => outI_eq (E := E) (h := Hp S8) e hi [.int (f10 (nI (a4 + 1)).toNatClampNeg), .ref 65] (fun st => Z (d + 1) m_law_law 969 [some (.float a0), some (.ref 0), some (.ref 65), some (.ref 91), some (.int (nI a4)), some (.int x7), j6] st (Hp S8))) ?_
  refine wp_st (pc' := 973) (L' := [some (.float a0), some (.ref 0), some (.ref 65), some (.ref 91), some (.int (nI a4)), some (.int x7), j6]) (st' := [.int 3, .int (nI a4), .float a0, .int (f12 (nI (a4 + 2)).toNatClampNeg), .int (f10 (nI (a4 + 1)).toNatClampNeg), .ref 65]) (h' := Hp S8) 3 (fun Z => rfl) ?_
  refine wp_st (pc' := 974) (L' := [some (.float a0), some (.ref 0), some (.ref 65), some (.ref 91), some (.int (nI a4)), some (.int x7), j6]) (st' := [.int (nI (a4 + 3)), .float a0, .int (f12 (nI (a4 + 2)).toNatClampNeg), .int (f10 (nI (a4 + 1)).toNatClampNeg), .ref 65]) (h' := Hp S8) 1 (fun Z => by rw [← nI_add a4 3]; rfl) ?_
  obtain ⟨n13, f14, e, hi, hw⟩ := hw
  refine wp_st (pc' := 975) (L' := [some (.float a0), some (.ref 0), some (.ref 65), some (.ref 91), some (.int (nI a4)), some (.int x7), j6]) (st' := [.int (f14 (nI (a4 + 3)).toNatClampNeg), .int (f12 (nI (a4 + 2)).toNatClampNeg), .int (f10 (nI (a4 + 1)).toNatClampNeg), .ref 65]) (h' := Hp S8) 1 (fun Z => outI_eq (E := E) (h := Hp S8) e hi [.int (f12 (nI (a4 + 2)).toNatClampNeg), .int (f10 (nI (a4 + 1)).toNatClampNeg), .ref 65] (fun st => Z (d + 1) m_law_law 975 [some (.float a0), some (.ref 0), some (.ref 65), some (.ref 91), some (.int (nI a4)), some (.int x7), j6] st (Hp S8))) ?_
  refine wp_call (pc' := 978) (rest := []) (fun Z => rfl) (isO_of sh65) hw ?_
  rintro o h1 ⟨x15, S16, rfl, rfl, hw⟩
  refine ⟨_, rfl, ?_⟩
  show wp E (d + 1) m_law_law 978 [some (.float a0), some (.ref 0), some (.ref 65), some (.ref 91), some (.int (nI a4)), some (.int x7), j6] [.int x15] (Hp S16) (QI Q)
  refine wp_st (pc' := 981) (L' := [some (.float a0), some (.ref 0), some (.ref 65), some (.ref 91), some (.int (nI a4)), some (.int x7), some (.int x15)]) (st' := [.ref 65]) (h' := Hp S16) 2 (fun Z => rfl) ?_
  refine wp_call (pc' := 984) (rest := []) (fun Z => rfl) (isO_of sh65) hw ?_
  rintro o h1 ⟨x17, S18, rfl, rfl, hw⟩
  refine ⟨_, rfl, ?_⟩
  show wp E (d + 1) m_law_law 984 [some (.float a0), some (.ref 0), some (.ref 65), some (.ref 91), some (.int (nI a4)), some (.int x7), some (.int x15)] [.int x17] (Hp S18) (QI Q)
  refine wp_st (pc' := 986) (L' := [some (.float a0), some (.ref 0), some (.ref 65), some (.ref 91), some (.int (nI a4)), some (.int x7), some (.int x15)]) (st' := [.int x7, .int x17]) (h' := Hp S18) 1 (fun Z => rfl) ?_
  by_cases hc : x17 = x7
  · rw [if_pos hc] at hw
    refine wp_st (pc' := 991) (L' := [some (.float a0), some (.ref 0), some (.ref 65), some (.ref 91), some (.int (nI a4)), some (.int x7), some (.int x15)]) (st' := []) (h' := Hp S18) 1 (fun Z => if_pos hc) ?_
    refine wp_st (pc' := 993) (L' := [some (.float a0), some (.ref 0), some (.ref 65), some (.ref 91), some (.int (nI a4)), some (.int x7), some (.int x15)]) (st' := [.int x7]) (h' := Hp S18) 1 (fun Z => rfl) ?_
    by_cases hc : x7 = 0
    · rw [if_pos hc] at hw
      refine wp_st (pc' := 996) (L' := [some (.float a0), some (.ref 0), some (.ref 65), some (.ref 91), some (.int (nI a4)), some (.int x7), some (.int x15)]) (st' := []) (h' := Hp S18) 1 (fun Z => if_pos hc) ?_
      refine wp_st (pc' := 998) (L' := [some (.float a0), some (.ref 0), some (.ref 65), some (.ref 91), some (.int (nI a4)), some (.int x7), some (.int x15)]) (st' := [.int 0, .ref 91]) (h' := Hp S18) 2 (fun Z => rfl) ?_
      refine wp_st (pc' := 999) (L' := [some (.float a0), some (.ref 0), some (.ref 65), some (.ref 91), some (.int (nI a4)), some (.int x7), some (.int x15)]) (st' := [.long (catL (S18 91 0) (S18 91 1))]) (h' := Hp S18) 1 (fun Z => ldJ0 (E := E) sh91 (by decide) [] (fun st => Z (d + 1) m_law_law 999 [some (.float a0), some (.ref 0), some (.ref 65), some (.ref 91), some (.int (nI a4)), some (.int x7), some (.int x15)] st (Hp S18))) ?_
      refine wp_st (pc' := 1003) (L' := [some (.float a0), some (.ref 0), some (.ref 65), some (.ref 91), some (.int (nI a4)), some (.int x7), some (.int x15)]) (st' := [.int (lg_cmp (catL (S18 91 0) (S18 91 1)) (Int32.toInt64 x15))]) (h' := Hp S18) 3 (fun Z => rfl) ?_
      by_cases hc : (lg_cmp (catL (S18 91 0) (S18 91 1)) (Int32.toInt64 x15)) = 0
      · rw [if_pos hc] at hw
        refine wp_st (pc' := 1008) (L' := [some (.float a0), some (.ref 0), some (.ref 65), some (.ref 91), some (.int (nI a4)), some (.int x7), some (.int x15)]) (st' := []) (h' := Hp S18) 1 (fun Z => if_pos hc) ?_
        exact wp_st 1 (fun Z => rfl) (show wp E (d + 1) m_law_law 2231 [some (.float a0), some (.ref 0), some (.ref 65), some (.ref 91), some (.int (nI a4)), some (.int x7), some (.int x15)] [] (Hp S18) (QI Q) from (hw (some (.int x7)) (some (.int x15))))
      · rw [if_neg hc] at hw
        refine wp_st (pc' := 1006) (L' := [some (.float a0), some (.ref 0), some (.ref 65), some (.ref 91), some (.int (nI a4)), some (.int x7), some (.int x15)]) (st' := []) (h' := Hp S18) 1 (fun Z => if_neg hc) ?_
        refine wp_st (pc' := 1007) (L' := [some (.float a0), some (.ref 0), some (.ref 65), some (.ref 91), some (.int (nI a4)), some (.int x7), some (.int x15)]) (st' := [.int 0]) (h' := Hp S18) 1 (fun Z => rfl) ?_
        exact wp_ret (fun Z => rfl) ⟨_, _, rfl, rfl, hw⟩
    · rw [if_neg hc] at hw
      refine wp_st (pc' := 1008) (L' := [some (.float a0), some (.ref 0), some (.ref 65), some (.ref 91), some (.int (nI a4)), some (.int x7), some (.int x15)]) (st' := []) (h' := Hp S18) 1 (fun Z => if_neg hc) ?_
      exact wp_st 1 (fun Z => rfl) (show wp E (d + 1) m_law_law 2231 [some (.float a0), some (.ref 0), some (.ref 65), some (.ref 91), some (.int (nI a4)), some (.int x7), some (.int x15)] [] (Hp S18) (QI Q) from (hw (some (.int x7)) (some (.int x15))))
  · rw [if_neg hc] at hw
    refine wp_st (pc' := 989) (L' := [some (.float a0), some (.ref 0), some (.ref 65), some (.ref 91), some (.int (nI a4)), some (.int x7), some (.int x15)]) (st' := []) (h' := Hp S18) 1 (fun Z => if_neg hc) ?_
    refine wp_st (pc' := 990) (L' := [some (.float a0), some (.ref 0), some (.ref 65), some (.ref 91), some (.int (nI a4)), some (.int x7), some (.int x15)]) (st' := [.int 0]) (h' := Hp S18) 1 (fun Z => rfl) ?_
    exact wp_ret (fun Z => rfl) ⟨_, _, rfl, rfl, hw⟩
set_option maxRecDepth 4000 in
theorem w_law_law_1011 {E : zX} {d : Nat} {S : St} {a0 : UInt32} {a4 : Nat} {Q : Int32 → St → Prop} (hd : 1 ≤ d) 
    (hw : ∃ (n1 : Nat) (f2 : Nat → Int32), out E a0 = some (0, n1, f2) ∧ ix (nI (a4 + 1)) n1 ∧
    k_law_off E (d - 1) S (f2 (nI (a4 + 1)).toNatClampNeg) (fun x3 S4 =>
    ∃ (n5 : Nat) (f6 : Nat → Int32), out E a0 = some (0, n5, f6) ∧ ix (nI (a4 + 1)) n5 ∧
    k_m_off E (d - 1) S4 (f6 (nI (a4 + 1)).toNatClampNeg) (fun x7 S8 =>
    k_m_thrown E (d - 1) S8 (fun x9 S10 =>
    if x9 = x3 then (
      if x3 = 0 then (
        if (lg_cmp (catL (S10 91 0) (S10 91 1)) (Int32.toInt64 x7)) = 0 then (
          k_law_law_2231 E d S10 a0 a4 Q)
        else (
          Q (0 : Int32) S10))
      else (
        k_law_law_2231 E d S10 a0 a4 Q))
    else (
      Q (0 : Int32) S10))))) :
    k_law_law_1011 E d S a0 a4 Q := by
  obtain ⟨d, rfl⟩ := Nat.exists_eq_add_of_le' hd
  intro j5 j6
  show wp E (d + 1) m_law_law 1011 [some (.float a0), some (.ref 0), some (.ref 65), some (.ref 91), some (.int (nI a4)), j5, j6] [] (Hp S) (QI Q)
  refine wp_st (pc' := 1016) (L' := [some (.float a0), some (.ref 0), some (.ref 65), some (.ref 91), some (.int (nI a4)), j5, j6]) (st' := [.int 1, .int (nI a4), .float a0, .ref 0]) (h' := Hp S) 4 (fun Z => rfl) ?_
  refine wp_st (pc' := 1017) (L' := [some (.float a0), some (.ref 0), some (.ref 65), some (.ref 91), some (.int (nI a4)), j5, j6]) (st' := [.int (nI (a4 + 1)), .float a0, .ref 0]) (h' := Hp S) 1 (fun Z => by rw [← nI_add a4 1]; rfl) ?_
  obtain ⟨n1, f2, e, hi, hw⟩ := hw
  refine wp_st (pc' := 1018) (L' := [some (.float a0), some (.ref 0), some (.ref 65), some (.ref 91), some (.int (nI a4)), j5, j6]) (st' := [.int (f2 (nI (a4 + 1)).toNatClampNeg), .ref 0]) (h' := Hp S) 1 (fun Z => outI_eq (E := E) (h := Hp S) e hi [.ref 0] (fun st => Z (d + 1) m_law_law 1018 [some (.float a0), some (.ref 0), some (.ref 65), some (.ref 91), some (.int (nI a4)), j5, j6] st (Hp S))) ?_
  refine wp_st (pc' := 1019) (L' := [some (.float a0), some (.ref 0), some (.ref 65), some (.ref 91), some (.int (nI a4)), j5, j6]) (st' := [.ref 91, .int (f2 (nI (a4 + 1)).toNatClampNeg), .ref 0]) (h' := Hp S) 1 (fun Z => rfl) ?_
  refine wp_call (pc' := 1022) (rest := []) (fun Z => rfl) rfl hw ?_
  rintro o h1 ⟨x3, S4, rfl, rfl, hw⟩
  refine ⟨_, rfl, ?_⟩
  show wp E (d + 1) m_law_law 1022 [some (.float a0), some (.ref 0), some (.ref 65), some (.ref 91), some (.int (nI a4)), j5, j6] [.int x3] (Hp S4) (QI Q)
  refine wp_st (pc' := 1029) (L' := [some (.float a0), some (.ref 0), some (.ref 65), some (.ref 91), some (.int (nI a4)), some (.int x3), j6]) (st' := [.int 1, .int (nI a4), .float a0, .ref 65]) (h' := Hp S4) 5 (fun Z => rfl) ?_
  refine wp_st (pc' := 1030) (L' := [some (.float a0), some (.ref 0), some (.ref 65), some (.ref 91), some (.int (nI a4)), some (.int x3), j6]) (st' := [.int (nI (a4 + 1)), .float a0, .ref 65]) (h' := Hp S4) 1 (fun Z => by rw [← nI_add a4 1]; rfl) ?_
  obtain ⟨n5, f6, e, hi, hw⟩ := hw
  refine wp_st (pc' := 1031) (L' := [some (.float a0), some (.ref 0), some (.ref 65), some (.ref 91), some (.int (nI a4)), some (.int x3), j6]) (st' := [.int (f6 (nI (a4 + 1)).toNatClampNeg), .ref 65]) (h' := Hp S4) 1 (fun Z => outI_eq (E := E) (h := Hp S4) e hi [.ref 65] (fun st => Z (d + 1) m_law_law 1031 [some (.float a0), some (.ref 0), some (.ref 65), some (.ref 91), some (.int (nI a4)), some (.int x3), j6] st (Hp S4))) ?_
  refine wp_call (pc' := 1034) (rest := []) (fun Z => rfl) (isO_of sh65) hw ?_
  rintro o h1 ⟨x7, S8, rfl, rfl, hw⟩
  refine ⟨_, rfl, ?_⟩
  show wp E (d + 1) m_law_law 1034 [some (.float a0), some (.ref 0), some (.ref 65), some (.ref 91), some (.int (nI a4)), some (.int x3), j6] [.int x7] (Hp S8) (QI Q)
  refine wp_st (pc' := 1037) (L' := [some (.float a0), some (.ref 0), some (.ref 65), some (.ref 91), some (.int (nI a4)), some (.int x3), some (.int x7)]) (st' := [.ref 65]) (h' := Hp S8) 2 (fun Z => rfl) ?_
  refine wp_call (pc' := 1040) (rest := []) (fun Z => rfl) (isO_of sh65) hw ?_
  rintro o h1 ⟨x9, S10, rfl, rfl, hw⟩
  refine ⟨_, rfl, ?_⟩
  show wp E (d + 1) m_law_law 1040 [some (.float a0), some (.ref 0), some (.ref 65), some (.ref 91), some (.int (nI a4)), some (.int x3), some (.int x7)] [.int x9] (Hp S10) (QI Q)
  refine wp_st (pc' := 1042) (L' := [some (.float a0), some (.ref 0), some (.ref 65), some (.ref 91), some (.int (nI a4)), some (.int x3), some (.int x7)]) (st' := [.int x3, .int x9]) (h' := Hp S10) 1 (fun Z => rfl) ?_
  by_cases hc : x9 = x3
  · rw [if_pos hc] at hw
    refine wp_st (pc' := 1047) (L' := [some (.float a0), some (.ref 0), some (.ref 65), some (.ref 91), some (.int (nI a4)), some (.int x3), some (.int x7)]) (st' := []) (h' := Hp S10) 1 (fun Z => if_pos hc) ?_
    refine wp_st (pc' := 1049) (L' := [some (.float a0), some (.ref 0), some (.ref 65), some (.ref 91), some (.int (nI a4)), some (.int x3), some (.int x7)]) (st' := [.int x3]) (h' := Hp S10) 1 (fun Z => rfl) ?_
    by_cases hc : x3 = 0
    · rw [if_pos hc] at hw
      refine wp_st (pc' := 1052) (L' := [some (.float a0), some (.ref 0), some (.ref 65), some (.ref 91), some (.int (nI a4)), some (.int x3), some (.int x7)]) (st' := []) (h' := Hp S10) 1 (fun Z => if_pos hc) ?_
      refine wp_st (pc' := 1054) (L' := [some (.float a0), some (.ref 0), some (.ref 65), some (.ref 91), some (.int (nI a4)), some (.int x3), some (.int x7)]) (st' := [.int 0, .ref 91]) (h' := Hp S10) 2 (fun Z => rfl) ?_
      refine wp_st (pc' := 1055) (L' := [some (.float a0), some (.ref 0), some (.ref 65), some (.ref 91), some (.int (nI a4)), some (.int x3), some (.int x7)]) (st' := [.long (catL (S10 91 0) (S10 91 1))]) (h' := Hp S10) 1 (fun Z => ldJ0 (E := E) sh91 (by decide) [] (fun st => Z (d + 1) m_law_law 1055 [some (.float a0), some (.ref 0), some (.ref 65), some (.ref 91), some (.int (nI a4)), some (.int x3), some (.int x7)] st (Hp S10))) ?_
      refine wp_st (pc' := 1059) (L' := [some (.float a0), some (.ref 0), some (.ref 65), some (.ref 91), some (.int (nI a4)), some (.int x3), some (.int x7)]) (st' := [.int (lg_cmp (catL (S10 91 0) (S10 91 1)) (Int32.toInt64 x7))]) (h' := Hp S10) 3 (fun Z => rfl) ?_
      by_cases hc : (lg_cmp (catL (S10 91 0) (S10 91 1)) (Int32.toInt64 x7)) = 0
      · rw [if_pos hc] at hw
        refine wp_st (pc' := 1064) (L' := [some (.float a0), some (.ref 0), some (.ref 65), some (.ref 91), some (.int (nI a4)), some (.int x3), some (.int x7)]) (st' := []) (h' := Hp S10) 1 (fun Z => if_pos hc) ?_
        exact wp_st 1 (fun Z => rfl) (show wp E (d + 1) m_law_law 2231 [some (.float a0), some (.ref 0), some (.ref 65), some (.ref 91), some (.int (nI a4)), some (.int x3), some (.int x7)] [] (Hp S10) (QI Q) from (hw (some (.int x3)) (some (.int x7))))
      · rw [if_neg hc] at hw
        refine wp_st (pc' := 1062) (L' := [some (.float a0), some (.ref 0), some (.ref 65), some (.ref 91), some (.int (nI a4)), some (.int x3), some (.int x7)]) (st' := []) (h' := Hp S10) 1 (fun Z => if_neg hc) ?_
        refine wp_st (pc' := 1063) (L' := [some (.float a0), some (.ref 0), some (.ref 65), some (.ref 91), some (.int (nI a4)), some (.int x3), some (.int x7)]) (st' := [.int 0]) (h' := Hp S10) 1 (fun Z => rfl) ?_
        exact wp_ret (fun Z => rfl) ⟨_, _, rfl, rfl, hw⟩
    · rw [if_neg hc] at hw
      refine wp_st (pc' := 1064) (L' := [some (.float a0), some (.ref 0), some (.ref 65), some (.ref 91), some (.int (nI a4)), some (.int x3), some (.int x7)]) (st' := []) (h' := Hp S10) 1 (fun Z => if_neg hc) ?_
      exact wp_st 1 (fun Z => rfl) (show wp E (d + 1) m_law_law 2231 [some (.float a0), some (.ref 0), some (.ref 65), some (.ref 91), some (.int (nI a4)), some (.int x3), some (.int x7)] [] (Hp S10) (QI Q) from (hw (some (.int x3)) (some (.int x7))))
  · rw [if_neg hc] at hw
    refine wp_st (pc' := 1045) (L' := [some (.float a0), some (.ref 0), some (.ref 65), some (.ref 91), some (.int (nI a4)), some (.int x3), some (.int x7)]) (st' := []) (h' := Hp S10) 1 (fun Z => if_neg hc) ?_
    refine wp_st (pc' := 1046) (L' := [some (.float a0), some (.ref 0), some (.ref 65), some (.ref 91), some (.int (nI a4)), some (.int x3), some (.int x7)]) (st' := [.int 0]) (h' := Hp S10) 1 (fun Z => rfl) ?_
    exact wp_ret (fun Z => rfl) ⟨_, _, rfl, rfl, hw⟩
set_option maxRecDepth 4000 in
theorem w_law_law_1067 {E : zX} {d : Nat} {S : St} {a0 : UInt32} {a4 : Nat} {Q : Int32 → St → Prop} (hd : 1 ≤ d) 
    (hw : k_x_first E (d - 1) S (fun x1 S2 =>
    k_m_first E (d - 1) S2 (fun x3 S4 =>
    if x1 = x3 then (
      k_law_law_2231 E d S4 a0 a4 Q)
    else (
      Q (0 : Int32) S4)))) :
    k_law_law_1067 E d S a0 a4 Q := by
  obtain ⟨d, rfl⟩ := Nat.exists_eq_add_of_le' hd
  intro j5 j6
  show wp E (d + 1) m_law_law 1067 [some (.float a0), some (.ref 0), some (.ref 65), some (.ref 91), some (.int (nI a4)), j5, j6] [] (Hp S) (QI Q)
  refine wp_st (pc' := 1068) (L' := [some (.float a0), some (.ref 0), some (.ref 65), some (.ref 91), some (.int (nI a4)), j5, j6]) (st' := [.ref 0]) (h' := Hp S) 1 (fun Z => rfl) ?_
  refine wp_call (pc' := 1071) (rest := []) (fun Z => rfl) (isO_of sh0) hw ?_
  rintro o h1 ⟨x1, S2, rfl, rfl, hw⟩
  refine ⟨_, rfl, ?_⟩
  show wp E (d + 1) m_law_law 1071 [some (.float a0), some (.ref 0), some (.ref 65), some (.ref 91), some (.int (nI a4)), j5, j6] [.int x1] (Hp S2) (QI Q)
  refine wp_st (pc' := 1072) (L' := [some (.float a0), some (.ref 0), some (.ref 65), some (.ref 91), some (.int (nI a4)), j5, j6]) (st' := [.ref 65, .int x1]) (h' := Hp S2) 1 (fun Z => rfl) ?_
  refine wp_call (pc' := 1075) (rest := [.int x1]) (fun Z => rfl) (isO_of sh65) hw ?_
  rintro o h1 ⟨x3, S4, rfl, rfl, hw⟩
  refine ⟨_, rfl, ?_⟩
  show wp E (d + 1) m_law_law 1075 [some (.float a0), some (.ref 0), some (.ref 65), some (.ref 91), some (.int (nI a4)), j5, j6] [.int x3, .int x1] (Hp S4) (QI Q)
  by_cases hc : x1 = x3
  · rw [if_pos hc] at hw
    refine wp_st (pc' := 2231) (L' := [some (.float a0), some (.ref 0), some (.ref 65), some (.ref 91), some (.int (nI a4)), j5, j6]) (st' := []) (h' := Hp S4) 1 (fun Z => if_pos hc) ?_
    exact (show wp E (d + 1) m_law_law 2231 [some (.float a0), some (.ref 0), some (.ref 65), some (.ref 91), some (.int (nI a4)), j5, j6] [] (Hp S4) (QI Q) from (hw j5 j6))
  · rw [if_neg hc] at hw
    refine wp_st (pc' := 1078) (L' := [some (.float a0), some (.ref 0), some (.ref 65), some (.ref 91), some (.int (nI a4)), j5, j6]) (st' := []) (h' := Hp S4) 1 (fun Z => if_neg hc) ?_
    refine wp_st (pc' := 1079) (L' := [some (.float a0), some (.ref 0), some (.ref 65), some (.ref 91), some (.int (nI a4)), j5, j6]) (st' := [.int 0]) (h' := Hp S4) 1 (fun Z => rfl) ?_
    exact wp_ret (fun Z => rfl) ⟨_, _, rfl, rfl, hw⟩
set_option maxRecDepth 4000 in
theorem w_law_law_1080 {E : zX} {d : Nat} {S : St} {a0 : UInt32} {a4 : Nat} {Q : Int32 → St → Prop} (hd : 1 ≤ d) 
    (hw : ∃ (n1 : Nat) (f2 : Nat → Int32), out E a0 = some (0, n1, f2) ∧ ix (nI (a4 + 1)) n1 ∧
    ∃ (n3 : Nat) (f4 : Nat → Int32), out E a0 = some (0, n3, f4) ∧ ix (nI (a4 + 2)) n3 ∧
    k_law_later E (d - 1) S (f2 (nI (a4 + 1)).toNatClampNeg) (f4 (nI (a4 + 2)).toNatClampNeg) (fun x5 S6 =>
    ∃ (n7 : Nat) (f8 : Nat → Int32), out E a0 = some (0, n7, f8) ∧ ix (nI (a4 + 1)) n7 ∧
    ∃ (n9 : Nat) (f10 : Nat → Int32), out E a0 = some (0, n9, f10) ∧ ix (nI (a4 + 2)) n9 ∧
    k_m_later E (d - 1) S6 (f8 (nI (a4 + 1)).toNatClampNeg) (f10 (nI (a4 + 2)).toNatClampNeg) (fun x11 S12 =>
    k_m_thrown E (d - 1) S12 (fun x13 S14 =>
    if x13 = x5 then (
      if x5 = 0 then (
        if (lg_cmp (catL (S14 91 0) (S14 91 1)) (Int32.toInt64 x11)) = 0 then (
          k_law_law_2231 E d S14 a0 a4 Q)
        else (
          Q (0 : Int32) S14))
      else (
        k_law_law_2231 E d S14 a0 a4 Q))
    else (
      Q (0 : Int32) S14))))) :
    k_law_law_1080 E d S a0 a4 Q := by
  obtain ⟨d, rfl⟩ := Nat.exists_eq_add_of_le' hd
  intro j5 j6
  show wp E (d + 1) m_law_law 1080 [some (.float a0), some (.ref 0), some (.ref 65), some (.ref 91), some (.int (nI a4)), j5, j6] [] (Hp S) (QI Q)
  refine wp_st (pc' := 1085) (L' := [some (.float a0), some (.ref 0), some (.ref 65), some (.ref 91), some (.int (nI a4)), j5, j6]) (st' := [.int 1, .int (nI a4), .float a0, .ref 0]) (h' := Hp S) 4 (fun Z => rfl) ?_
  refine wp_st (pc' := 1086) (L' := [some (.float a0), some (.ref 0), some (.ref 65), some (.ref 91), some (.int (nI a4)), j5, j6]) (st' := [.int (nI (a4 + 1)), .float a0, .ref 0]) (h' := Hp S) 1 (fun Z => by rw [← nI_add a4 1]; rfl) ?_
  obtain ⟨n1, f2, e, hi, hw⟩ := hw
  refine wp_st (pc' := 1087) (L' := [some (.float a0), some (.ref 0), some (.ref 65), some (.ref 91), some (.int (nI a4)), j5, j6]) (st' := [.int (f2 (nI (a4 + 1)).toNatClampNeg), .ref 0]) (h' := Hp S) 1 (fun Z => outI_eq (E := E) (h := Hp S) e hi [.ref 0] (fun st => Z (d + 1) m_law_law 1087 [some (.float a0), some (.ref 0), some (.ref 65), some (.ref 91), some (.int (nI a4)), j5, j6] st (Hp S))) ?_
  refine wp_st (pc' := 1091) (L' := [some (.float a0), some (.ref 0), some (.ref 65), some (.ref 91), some (.int (nI a4)), j5, j6]) (st' := [.int 2, .int (nI a4), .float a0, .int (f2 (nI (a4 + 1)).toNatClampNeg), .ref 0]) (h' := Hp S) 3 (fun Z => rfl) ?_
  refine wp_st (pc' := 1092) (L' := [some (.float a0), some (.ref 0), some (.ref 65), some (.ref 91), some (.int (nI a4)), j5, j6]) (st' := [.int (nI (a4 + 2)), .float a0, .int (f2 (nI (a4 + 1)).toNatClampNeg), .ref 0]) (h' := Hp S) 1 (fun Z => by rw [← nI_add a4 2]; rfl) ?_
  obtain ⟨n3, f4, e, hi, hw⟩ := hw
  refine wp_st (pc' := 1093) (L' := [some (.float a0), some (.ref 0), some (.ref 65), some (.ref 91), some (.int (nI a4)), j5, j6]) (st' := [.int (f4 (nI (a4 + 2)).toNatClampNeg), .int (f2 (nI (a4 + 1)).toNatClampNeg), .ref 0]) (h' := Hp S) 1 (fun Z => outI_eq (E := E) (h := Hp S) e hi [.int (f2 (nI (a4 + 1)).toNatClampNeg), .ref 0] (fun st => Z (d + 1) m_law_law 1093 [some (.float a0), some (.ref 0), some (.ref 65), some (.ref 91), some (.int (nI a4)), j5, j6] st (Hp S))) ?_
  refine wp_st (pc' := 1094) (L' := [some (.float a0), some (.ref 0), some (.ref 65), some (.ref 91), some (.int (nI a4)), j5, j6]) (st' := [.ref 91, .int (f4 (nI (a4 + 2)).toNatClampNeg), .int (f2 (nI (a4 + 1)).toNatClampNeg), .ref 0]) (h' := Hp S) 1 (fun Z => rfl) ?_
  refine wp_call (pc' := 1097) (rest := []) (fun Z => rfl) rfl hw ?_
  rintro o h1 ⟨x5, S6, rfl, rfl, hw⟩
  refine ⟨_, rfl, ?_⟩
  show wp E (d + 1) m_law_law 1097 [some (.float a0), some (.ref 0), some (.ref 65), some (.ref 91), some (.int (nI a4)), j5, j6] [.int x5] (Hp S6) (QI Q)
  refine wp_st (pc' := 1104) (L' := [some (.float a0), some (.ref 0), some (.ref 65), some (.ref 91), some (.int (nI a4)), some (.int x5), j6]) (st' := [.int 1, .int (nI a4), .float a0, .ref 65]) (h' := Hp S6) 5 (fun Z => rfl) ?_
  refine wp_st (pc' := 1105) (L' := [some (.float a0), some (.ref 0), some (.ref 65), some (.ref 91), some (.int (nI a4)), some (.int x5), j6]) (st' := [.int (nI (a4 + 1)), .float a0, .ref 65]) (h' := Hp S6) 1 (fun Z => by rw [← nI_add a4 1]; rfl) ?_
  obtain ⟨n7, f8, e, hi, hw⟩ := hw
  refine wp_st (pc' := 1106) (L' := [some (.float a0), some (.ref 0), some (.ref 65), some (.ref 91), some (.int (nI a4)), some (.int x5), j6]) (st' := [.int (f8 (nI (a4 + 1)).toNatClampNeg), .ref 65]) (h' := Hp S6) 1 (fun Z => outI_eq (E := E) (h := Hp S6) e hi [.ref 65] (fun st => Z (d + 1) m_law_law 1106 [some (.float a0), some (.ref 0), some (.ref 65), some (.ref 91), some (.int (nI a4)), some (.int x5), j6] st (Hp S6))) ?_
  refine wp_st (pc' := 1110) (L' := [some (.float a0), some (.ref 0), some (.ref 65), some (.ref 91), some (.int (nI a4)), some (.int x5), j6]) (st' := [.int 2, .int (nI a4), .float a0, .int (f8 (nI (a4 + 1)).toNatClampNeg), .ref 65]) (h' := Hp S6) 3 (fun Z => rfl) ?_
  refine wp_st (pc' := 1111) (L' := [some (.float a0), some (.ref 0), some (.ref 65), some (.ref 91), some (.int (nI a4)), some (.int x5), j6]) (st' := [.int (nI (a4 + 2)), .float a0, .int (f8 (nI (a4 + 1)).toNatClampNeg), .ref 65]) (h' := Hp S6) 1 (fun Z => by rw [← nI_add a4 2]; rfl) ?_
  obtain ⟨n9, f10, e, hi, hw⟩ := hw
  refine wp_st (pc' := 1112) (L' := [some (.float a0), some (.ref 0), some (.ref 65), some (.ref 91), some (.int (nI a4)), some (.int x5), j6]) (st' := [.int (f10 (nI (a4 + 2)).toNatClampNeg), .int (f8 (nI (a4 + 1)).toNatClampNeg), .ref 65]) (h' := Hp S6) 1 (fun Z => outI_eq (E := E) (h := Hp S6) e hi [.int (f8 (nI (a4 + 1)).toNatClampNeg), .ref 65] (fun st => Z (d + 1) m_law_law 1112 [some (.float a0), some (.ref 0), some (.ref 65), some (.ref 91), some (.int (nI a4)), some (.int x5), j6] st (Hp S6))) ?_
  refine wp_call (pc' := 1115) (rest := []) (fun Z => rfl) (isO_of sh65) hw ?_
  rintro o h1 ⟨x11, S12, rfl, rfl, hw⟩
  refine ⟨_, rfl, ?_⟩
  show wp E (d + 1) m_law_law 1115 [some (.float a0), some (.ref 0), some (.ref 65), some (.ref 91), some (.int (nI a4)), some (.int x5), j6] [.int x11] (Hp S12) (QI Q)
  refine wp_st (pc' := 1118) (L' := [some (.float a0), some (.ref 0), some (.ref 65), some (.ref 91), some (.int (nI a4)), some (.int x5), some (.int x11)]) (st' := [.ref 65]) (h' := Hp S12) 2 (fun Z => rfl) ?_
  refine wp_call (pc' := 1121) (rest := []) (fun Z => rfl) (isO_of sh65) hw ?_
  rintro o h1 ⟨x13, S14, rfl, rfl, hw⟩
  refine ⟨_, rfl, ?_⟩
  show wp E (d + 1) m_law_law 1121 [some (.float a0), some (.ref 0), some (.ref 65), some (.ref 91), some (.int (nI a4)), some (.int x5), some (.int x11)] [.int x13] (Hp S14) (QI Q)
  refine wp_st (pc' := 1123) (L' := [some (.float a0), some (.ref 0), some (.ref 65), some (.ref 91), some (.int (nI a4)), some (.int x5), some (.int x11)]) (st' := [.int x5, .int x13]) (h' := Hp S14) 1 (fun Z => rfl) ?_
  by_cases hc : x13 = x5
  · rw [if_pos hc] at hw
    refine wp_st (pc' := 1128) (L' := [some (.float a0), some (.ref 0), some (.ref 65), some (.ref 91), some (.int (nI a4)), some (.int x5), some (.int x11)]) (st' := []) (h' := Hp S14) 1 (fun Z => if_pos hc) ?_
    refine wp_st (pc' := 1130) (L' := [some (.float a0), some (.ref 0), some (.ref 65), some (.ref 91), some (.int (nI a4)), some (.int x5), some (.int x11)]) (st' := [.int x5]) (h' := Hp S14) 1 (fun Z => rfl) ?_
    by_cases hc : x5 = 0
    · rw [if_pos hc] at hw
      refine wp_st (pc' := 1133) (L' := [some (.float a0), some (.ref 0), some (.ref 65), some (.ref 91), some (.int (nI a4)), some (.int x5), some (.int x11)]) (st' := []) (h' := Hp S14) 1 (fun Z => if_pos hc) ?_
      refine wp_st (pc' := 1135) (L' := [some (.float a0), some (.ref 0), some (.ref 65), some (.ref 91), some (.int (nI a4)), some (.int x5), some (.int x11)]) (st' := [.int 0, .ref 91]) (h' := Hp S14) 2 (fun Z => rfl) ?_
      refine wp_st (pc' := 1136) (L' := [some (.float a0), some (.ref 0), some (.ref 65), some (.ref 91), some (.int (nI a4)), some (.int x5), some (.int x11)]) (st' := [.long (catL (S14 91 0) (S14 91 1))]) (h' := Hp S14) 1 (fun Z => ldJ0 (E := E) sh91 (by decide) [] (fun st => Z (d + 1) m_law_law 1136 [some (.float a0), some (.ref 0), some (.ref 65), some (.ref 91), some (.int (nI a4)), some (.int x5), some (.int x11)] st (Hp S14))) ?_
      refine wp_st (pc' := 1140) (L' := [some (.float a0), some (.ref 0), some (.ref 65), some (.ref 91), some (.int (nI a4)), some (.int x5), some (.int x11)]) (st' := [.int (lg_cmp (catL (S14 91 0) (S14 91 1)) (Int32.toInt64 x11))]) (h' := Hp S14) 3 (fun Z => rfl) ?_
      by_cases hc : (lg_cmp (catL (S14 91 0) (S14 91 1)) (Int32.toInt64 x11)) = 0
      · rw [if_pos hc] at hw
        refine wp_st (pc' := 1145) (L' := [some (.float a0), some (.ref 0), some (.ref 65), some (.ref 91), some (.int (nI a4)), some (.int x5), some (.int x11)]) (st' := []) (h' := Hp S14) 1 (fun Z => if_pos hc) ?_
        exact wp_st 1 (fun Z => rfl) (show wp E (d + 1) m_law_law 2231 [some (.float a0), some (.ref 0), some (.ref 65), some (.ref 91), some (.int (nI a4)), some (.int x5), some (.int x11)] [] (Hp S14) (QI Q) from (hw (some (.int x5)) (some (.int x11))))
      · rw [if_neg hc] at hw
        refine wp_st (pc' := 1143) (L' := [some (.float a0), some (.ref 0), some (.ref 65), some (.ref 91), some (.int (nI a4)), some (.int x5), some (.int x11)]) (st' := []) (h' := Hp S14) 1 (fun Z => if_neg hc) ?_
        refine wp_st (pc' := 1144) (L' := [some (.float a0), some (.ref 0), some (.ref 65), some (.ref 91), some (.int (nI a4)), some (.int x5), some (.int x11)]) (st' := [.int 0]) (h' := Hp S14) 1 (fun Z => rfl) ?_
        exact wp_ret (fun Z => rfl) ⟨_, _, rfl, rfl, hw⟩
    · rw [if_neg hc] at hw
      refine wp_st (pc' := 1145) (L' := [some (.float a0), some (.ref 0), some (.ref 65), some (.ref 91), some (.int (nI a4)), some (.int x5), some (.int x11)]) (st' := []) (h' := Hp S14) 1 (fun Z => if_neg hc) ?_
      exact wp_st 1 (fun Z => rfl) (show wp E (d + 1) m_law_law 2231 [some (.float a0), some (.ref 0), some (.ref 65), some (.ref 91), some (.int (nI a4)), some (.int x5), some (.int x11)] [] (Hp S14) (QI Q) from (hw (some (.int x5)) (some (.int x11))))
  · rw [if_neg hc] at hw
    refine wp_st (pc' := 1126) (L' := [some (.float a0), some (.ref 0), some (.ref 65), some (.ref 91), some (.int (nI a4)), some (.int x5), some (.int x11)]) (st' := []) (h' := Hp S14) 1 (fun Z => if_neg hc) ?_
    refine wp_st (pc' := 1127) (L' := [some (.float a0), some (.ref 0), some (.ref 65), some (.ref 91), some (.int (nI a4)), some (.int x5), some (.int x11)]) (st' := [.int 0]) (h' := Hp S14) 1 (fun Z => rfl) ?_
    exact wp_ret (fun Z => rfl) ⟨_, _, rfl, rfl, hw⟩
set_option maxRecDepth 4000 in
theorem w_law_law_1148 {E : zX} {d : Nat} {S : St} {a0 : UInt32} {a4 : Nat} {Q : Int32 → St → Prop} (hd : 1 ≤ d) 
    (hw : ∃ (n1 : Nat) (f2 : Nat → Int32), out E a0 = some (0, n1, f2) ∧ ix (nI (a4 + 1)) n1 ∧
    ∃ (n3 : Nat) (f4 : Nat → Int32), out E a0 = some (0, n3, f4) ∧ ix (nI (a4 + 2)) n3 ∧
    k_law_toGuard E (d - 1) S (f2 (nI (a4 + 1)).toNatClampNeg) (f4 (nI (a4 + 2)).toNatClampNeg) (fun x5 S6 =>
    ∃ (n7 : Nat) (f8 : Nat → Int32), out E a0 = some (0, n7, f8) ∧ ix (nI (a4 + 1)) n7 ∧
    ∃ (n9 : Nat) (f10 : Nat → Int32), out E a0 = some (0, n9, f10) ∧ ix (nI (a4 + 2)) n9 ∧
    k_m_toGuard E (d - 1) S6 (f8 (nI (a4 + 1)).toNatClampNeg) (f10 (nI (a4 + 2)).toNatClampNeg) (fun x11 S12 =>
    k_m_thrown E (d - 1) S12 (fun x13 S14 =>
    if x13 = x5 then (
      if x5 = 0 then (
        if (lg_cmp (catL (S14 91 0) (S14 91 1)) (Int32.toInt64 x11)) = 0 then (
          k_law_law_2231 E d S14 a0 a4 Q)
        else (
          Q (0 : Int32) S14))
      else (
        k_law_law_2231 E d S14 a0 a4 Q))
    else (
      Q (0 : Int32) S14))))) :
    k_law_law_1148 E d S a0 a4 Q := by
  obtain ⟨d, rfl⟩ := Nat.exists_eq_add_of_le' hd
  intro j5 j6
  show wp E (d + 1) m_law_law 1148 [some (.float a0), some (.ref 0), some (.ref 65), some (.ref 91), some (.int (nI a4)), j5, j6] [] (Hp S) (QI Q)
  refine wp_st (pc' := 1153) (L' := [some (.float a0), some (.ref 0), some (.ref 65), some (.ref 91), some (.int (nI a4)), j5, j6]) (st' := [.int 1, .int (nI a4), .float a0, .ref 0]) (h' := Hp S) 4 (fun Z => rfl) ?_
  refine wp_st (pc' := 1154) (L' := [some (.float a0), some (.ref 0), some (.ref 65), some (.ref 91), some (.int (nI a4)), j5, j6]) (st' := [.int (nI (a4 + 1)), .float a0, .ref 0]) (h' := Hp S) 1 (fun Z => by rw [← nI_add a4 1]; rfl) ?_
  obtain ⟨n1, f2, e, hi, hw⟩ := hw
  refine wp_st (pc' := 1155) (L' := [some (.float a0), some (.ref 0), some (.ref 65), some (.ref 91), some (.int (nI a4)), j5, j6]) (st' := [.int (f2 (nI (a4 + 1)).toNatClampNeg), .ref 0]) (h' := Hp S) 1 (fun Z => outI_eq (E := E) (h := Hp S) e hi [.ref 0] (fun st => Z (d + 1) m_law_law 1155 [some (.float a0), some (.ref 0), some (.ref 65), some (.ref 91), some (.int (nI a4)), j5, j6] st (Hp S))) ?_
  refine wp_st (pc' := 1159) (L' := [some (.float a0), some (.ref 0), some (.ref 65), some (.ref 91), some (.int (nI a4)), j5, j6]) (st' := [.int 2, .int (nI a4), .float a0, .int (f2 (nI (a4 + 1)).toNatClampNeg), .ref 0]) (h' := Hp S) 3 (fun Z => rfl) ?_
  refine wp_st (pc' := 1160) (L' := [some (.float a0), some (.ref 0), some (.ref 65), some (.ref 91), some (.int (nI a4)), j5, j6]) (st' := [.int (nI (a4 + 2)), .float a0, .int (f2 (nI (a4 + 1)).toNatClampNeg), .ref 0]) (h' := Hp S) 1 (fun Z => by rw [← nI_add a4 2]; rfl) ?_
  obtain ⟨n3, f4, e, hi, hw⟩ := hw
  refine wp_st (pc' := 1161) (L' := [some (.float a0), some (.ref 0), some (.ref 65), some (.ref 91), some (.int (nI a4)), j5, j6]) (st' := [.int (f4 (nI (a4 + 2)).toNatClampNeg), .int (f2 (nI (a4 + 1)).toNatClampNeg), .ref 0]) (h' := Hp S) 1 (fun Z => outI_eq (E := E) (h := Hp S) e hi [.int (f2 (nI (a4 + 1)).toNatClampNeg), .ref 0] (fun st => Z (d + 1) m_law_law 1161 [some (.float a0), some (.ref 0), some (.ref 65), some (.ref 91), some (.int (nI a4)), j5, j6] st (Hp S))) ?_
  refine wp_st (pc' := 1162) (L' := [some (.float a0), some (.ref 0), some (.ref 65), some (.ref 91), some (.int (nI a4)), j5, j6]) (st' := [.ref 91, .int (f4 (nI (a4 + 2)).toNatClampNeg), .int (f2 (nI (a4 + 1)).toNatClampNeg), .ref 0]) (h' := Hp S) 1 (fun Z => rfl) ?_
  refine wp_call (pc' := 1165) (rest := []) (fun Z => rfl) rfl hw ?_
  rintro o h1 ⟨x5, S6, rfl, rfl, hw⟩
  refine ⟨_, rfl, ?_⟩
  show wp E (d + 1) m_law_law 1165 [some (.float a0), some (.ref 0), some (.ref 65), some (.ref 91), some (.int (nI a4)), j5, j6] [.int x5] (Hp S6) (QI Q)
  refine wp_st (pc' := 1172) (L' := [some (.float a0), some (.ref 0), some (.ref 65), some (.ref 91), some (.int (nI a4)), some (.int x5), j6]) (st' := [.int 1, .int (nI a4), .float a0, .ref 65]) (h' := Hp S6) 5 (fun Z => rfl) ?_
  refine wp_st (pc' := 1173) (L' := [some (.float a0), some (.ref 0), some (.ref 65), some (.ref 91), some (.int (nI a4)), some (.int x5), j6]) (st' := [.int (nI (a4 + 1)), .float a0, .ref 65]) (h' := Hp S6) 1 (fun Z => by rw [← nI_add a4 1]; rfl) ?_
  obtain ⟨n7, f8, e, hi, hw⟩ := hw
  refine wp_st (pc' := 1174) (L' := [some (.float a0), some (.ref 0), some (.ref 65), some (.ref 91), some (.int (nI a4)), some (.int x5), j6]) (st' := [.int (f8 (nI (a4 + 1)).toNatClampNeg), .ref 65]) (h' := Hp S6) 1 (fun Z => outI_eq (E := E) (h := Hp S6) e hi [.ref 65] (fun st => Z (d + 1) m_law_law 1174 [some (.float a0), some (.ref 0), some (.ref 65), some (.ref 91), some (.int (nI a4)), some (.int x5), j6] st (Hp S6))) ?_
  refine wp_st (pc' := 1178) (L' := [some (.float a0), some (.ref 0), some (.ref 65), some (.ref 91), some (.int (nI a4)), some (.int x5), j6]) (st' := [.int 2, .int (nI a4), .float a0, .int (f8 (nI (a4 + 1)).toNatClampNeg), .ref 65]) (h' := Hp S6) 3 (fun Z => rfl) ?_
  refine wp_st (pc' := 1179) (L' := [some (.float a0), some (.ref 0), some (.ref 65), some (.ref 91), some (.int (nI a4)), some (.int x5), j6]) (st' := [.int (nI (a4 + 2)), .float a0, .int (f8 (nI (a4 + 1)).toNatClampNeg), .ref 65]) (h' := Hp S6) 1 (fun Z => by rw [← nI_add a4 2]; rfl) ?_
  obtain ⟨n9, f10, e, hi, hw⟩ := hw
  refine wp_st (pc' := 1180) (L' := [some (.float a0), some (.ref 0), some (.ref 65), some (.ref 91), some (.int (nI a4)), some (.int x5), j6]) (st' := [.int (f10 (nI (a4 + 2)).toNatClampNeg), .int (f8 (nI (a4 + 1)).toNatClampNeg), .ref 65]) (h' := Hp S6) 1 (fun Z => outI_eq (E := E) (h := Hp S6) e hi [.int (f8 (nI (a4 + 1)).toNatClampNeg), .ref 65] (fun st => Z (d + 1) m_law_law 1180 [some (.float a0), some (.ref 0), some (.ref 65), some (.ref 91), some (.int (nI a4)), some (.int x5), j6] st (Hp S6))) ?_
  refine wp_call (pc' := 1183) (rest := []) (fun Z => rfl) (isO_of sh65) hw ?_
  rintro o h1 ⟨x11, S12, rfl, rfl, hw⟩
  refine ⟨_, rfl, ?_⟩
  show wp E (d + 1) m_law_law 1183 [some (.float a0), some (.ref 0), some (.ref 65), some (.ref 91), some (.int (nI a4)), some (.int x5), j6] [.int x11] (Hp S12) (QI Q)
  refine wp_st (pc' := 1186) (L' := [some (.float a0), some (.ref 0), some (.ref 65), some (.ref 91), some (.int (nI a4)), some (.int x5), some (.int x11)]) (st' := [.ref 65]) (h' := Hp S12) 2 (fun Z => rfl) ?_
  refine wp_call (pc' := 1189) (rest := []) (fun Z => rfl) (isO_of sh65) hw ?_
  rintro o h1 ⟨x13, S14, rfl, rfl, hw⟩
  refine ⟨_, rfl, ?_⟩
  show wp E (d + 1) m_law_law 1189 [some (.float a0), some (.ref 0), some (.ref 65), some (.ref 91), some (.int (nI a4)), some (.int x5), some (.int x11)] [.int x13] (Hp S14) (QI Q)
  refine wp_st (pc' := 1191) (L' := [some (.float a0), some (.ref 0), some (.ref 65), some (.ref 91), some (.int (nI a4)), some (.int x5), some (.int x11)]) (st' := [.int x5, .int x13]) (h' := Hp S14) 1 (fun Z => rfl) ?_
  by_cases hc : x13 = x5
  · rw [if_pos hc] at hw
    refine wp_st (pc' := 1196) (L' := [some (.float a0), some (.ref 0), some (.ref 65), some (.ref 91), some (.int (nI a4)), some (.int x5), some (.int x11)]) (st' := []) (h' := Hp S14) 1 (fun Z => if_pos hc) ?_
    refine wp_st (pc' := 1198) (L' := [some (.float a0), some (.ref 0), some (.ref 65), some (.ref 91), some (.int (nI a4)), some (.int x5), some (.int x11)]) (st' := [.int x5]) (h' := Hp S14) 1 (fun Z => rfl) ?_
    by_cases hc : x5 = 0
    · rw [if_pos hc] at hw
      refine wp_st (pc' := 1201) (L' := [some (.float a0), some (.ref 0), some (.ref 65), some (.ref 91), some (.int (nI a4)), some (.int x5), some (.int x11)]) (st' := []) (h' := Hp S14) 1 (fun Z => if_pos hc) ?_
      refine wp_st (pc' := 1203) (L' := [some (.float a0), some (.ref 0), some (.ref 65), some (.ref 91), some (.int (nI a4)), some (.int x5), some (.int x11)]) (st' := [.int 0, .ref 91]) (h' := Hp S14) 2 (fun Z => rfl) ?_
      refine wp_st (pc' := 1204) (L' := [some (.float a0), some (.ref 0), some (.ref 65), some (.ref 91), some (.int (nI a4)), some (.int x5), some (.int x11)]) (st' := [.long (catL (S14 91 0) (S14 91 1))]) (h' := Hp S14) 1 (fun Z => ldJ0 (E := E) sh91 (by decide) [] (fun st => Z (d + 1) m_law_law 1204 [some (.float a0), some (.ref 0), some (.ref 65), some (.ref 91), some (.int (nI a4)), some (.int x5), some (.int x11)] st (Hp S14))) ?_
      refine wp_st (pc' := 1208) (L' := [some (.float a0), some (.ref 0), some (.ref 65), some (.ref 91), some (.int (nI a4)), some (.int x5), some (.int x11)]) (st' := [.int (lg_cmp (catL (S14 91 0) (S14 91 1)) (Int32.toInt64 x11))]) (h' := Hp S14) 3 (fun Z => rfl) ?_
      by_cases hc : (lg_cmp (catL (S14 91 0) (S14 91 1)) (Int32.toInt64 x11)) = 0
      · rw [if_pos hc] at hw
        refine wp_st (pc' := 1213) (L' := [some (.float a0), some (.ref 0), some (.ref 65), some (.ref 91), some (.int (nI a4)), some (.int x5), some (.int x11)]) (st' := []) (h' := Hp S14) 1 (fun Z => if_pos hc) ?_
        exact wp_st 1 (fun Z => rfl) (show wp E (d + 1) m_law_law 2231 [some (.float a0), some (.ref 0), some (.ref 65), some (.ref 91), some (.int (nI a4)), some (.int x5), some (.int x11)] [] (Hp S14) (QI Q) from (hw (some (.int x5)) (some (.int x11))))
      · rw [if_neg hc] at hw
        refine wp_st (pc' := 1211) (L' := [some (.float a0), some (.ref 0), some (.ref 65), some (.ref 91), some (.int (nI a4)), some (.int x5), some (.int x11)]) (st' := []) (h' := Hp S14) 1 (fun Z => if_neg hc) ?_
        refine wp_st (pc' := 1212) (L' := [some (.float a0), some (.ref 0), some (.ref 65), some (.ref 91), some (.int (nI a4)), some (.int x5), some (.int x11)]) (st' := [.int 0]) (h' := Hp S14) 1 (fun Z => rfl) ?_
        exact wp_ret (fun Z => rfl) ⟨_, _, rfl, rfl, hw⟩
    · rw [if_neg hc] at hw
      refine wp_st (pc' := 1213) (L' := [some (.float a0), some (.ref 0), some (.ref 65), some (.ref 91), some (.int (nI a4)), some (.int x5), some (.int x11)]) (st' := []) (h' := Hp S14) 1 (fun Z => if_neg hc) ?_
      exact wp_st 1 (fun Z => rfl) (show wp E (d + 1) m_law_law 2231 [some (.float a0), some (.ref 0), some (.ref 65), some (.ref 91), some (.int (nI a4)), some (.int x5), some (.int x11)] [] (Hp S14) (QI Q) from (hw (some (.int x5)) (some (.int x11))))
  · rw [if_neg hc] at hw
    refine wp_st (pc' := 1194) (L' := [some (.float a0), some (.ref 0), some (.ref 65), some (.ref 91), some (.int (nI a4)), some (.int x5), some (.int x11)]) (st' := []) (h' := Hp S14) 1 (fun Z => if_neg hc) ?_
    refine wp_st (pc' := 1195) (L' := [some (.float a0), some (.ref 0), some (.ref 65), some (.ref 91), some (.int (nI a4)), some (.int x5), some (.int x11)]) (st' := [.int 0]) (h' := Hp S14) 1 (fun Z => rfl) ?_
    exact wp_ret (fun Z => rfl) ⟨_, _, rfl, rfl, hw⟩
set_option maxRecDepth 4000 in
theorem w_law_law_1216 {E : zX} {d : Nat} {S : St} {a0 : UInt32} {a4 : Nat} {Q : Int32 → St → Prop} (hd : 1 ≤ d) 
    (hw : ∃ (n1 : Nat) (f2 : Nat → Int32), out E a0 = some (0, n1, f2) ∧ ix (nI (a4 + 1)) n1 ∧
    ∃ (n3 : Nat) (f4 : Nat → Int32), out E a0 = some (0, n3, f4) ∧ ix (nI (a4 + 2)) n3 ∧
    k_law_fire E (d - 1) S (f2 (nI (a4 + 1)).toNatClampNeg) (f4 (nI (a4 + 2)).toNatClampNeg) (fun x5 S6 =>
    ∃ (n7 : Nat) (f8 : Nat → Int32), out E a0 = some (0, n7, f8) ∧ ix (nI (a4 + 1)) n7 ∧
    ∃ (n9 : Nat) (f10 : Nat → Int32), out E a0 = some (0, n9, f10) ∧ ix (nI (a4 + 2)) n9 ∧
    k_m_fire E (d - 1) S6 (f8 (nI (a4 + 1)).toNatClampNeg) (f10 (nI (a4 + 2)).toNatClampNeg) (fun x11 S12 =>
    k_m_thrown E (d - 1) S12 (fun x13 S14 =>
    if x13 = x5 then (
      if x5 = 0 then (
        if (lg_cmp (catL (S14 91 0) (S14 91 1)) (Int32.toInt64 x11)) = 0 then (
          k_law_law_2231 E d S14 a0 a4 Q)
        else (
          Q (0 : Int32) S14))
      else (
        k_law_law_2231 E d S14 a0 a4 Q))
    else (
      Q (0 : Int32) S14))))) :
    k_law_law_1216 E d S a0 a4 Q := by
  obtain ⟨d, rfl⟩ := Nat.exists_eq_add_of_le' hd
  intro j5 j6
  show wp E (d + 1) m_law_law 1216 [some (.float a0), some (.ref 0), some (.ref 65), some (.ref 91), some (.int (nI a4)), j5, j6] [] (Hp S) (QI Q)
  refine wp_st (pc' := 1221) (L' := [some (.float a0), some (.ref 0), some (.ref 65), some (.ref 91), some (.int (nI a4)), j5, j6]) (st' := [.int 1, .int (nI a4), .float a0, .ref 0]) (h' := Hp S) 4 (fun Z => rfl) ?_
  refine wp_st (pc' := 1222) (L' := [some (.float a0), some (.ref 0), some (.ref 65), some (.ref 91), some (.int (nI a4)), j5, j6]) (st' := [.int (nI (a4 + 1)), .float a0, .ref 0]) (h' := Hp S) 1 (fun Z => by rw [← nI_add a4 1]; rfl) ?_
  obtain ⟨n1, f2, e, hi, hw⟩ := hw
  refine wp_st (pc' := 1223) (L' := [some (.float a0), some (.ref 0), some (.ref 65), some (.ref 91), some (.int (nI a4)), j5, j6]) (st' := [.int (f2 (nI (a4 + 1)).toNatClampNeg), .ref 0]) (h' := Hp S) 1 (fun Z => outI_eq (E := E) (h := Hp S) e hi [.ref 0] (fun st => Z (d + 1) m_law_law 1223 [some (.float a0), some (.ref 0), some (.ref 65), some (.ref 91), some (.int (nI a4)), j5, j6] st (Hp S))) ?_
  refine wp_st (pc' := 1227) (L' := [some (.float a0), some (.ref 0), some (.ref 65), some (.ref 91), some (.int (nI a4)), j5, j6]) (st' := [.int 2, .int (nI a4), .float a0, .int (f2 (nI (a4 + 1)).toNatClampNeg), .ref 0]) (h' := Hp S) 3 (fun Z => rfl) ?_
  refine wp_st (pc' := 1228) (L' := [some (.float a0), some (.ref 0), some (.ref 65), some (.ref 91), some (.int (nI a4)), j5, j6]) (st' := [.int (nI (a4 + 2)), .float a0, .int (f2 (nI (a4 + 1)).toNatClampNeg), .ref 0]) (h' := Hp S) 1 (fun Z => by rw [← nI_add a4 2]; rfl) ?_
  obtain ⟨n3, f4, e, hi, hw⟩ := hw
  refine wp_st (pc' := 1229) (L' := [some (.float a0), some (.ref 0), some (.ref 65), some (.ref 91), some (.int (nI a4)), j5, j6]) (st' := [.int (f4 (nI (a4 + 2)).toNatClampNeg), .int (f2 (nI (a4 + 1)).toNatClampNeg), .ref 0]) (h' := Hp S) 1 (fun Z => outI_eq (E := E) (h := Hp S) e hi [.int (f2 (nI (a4 + 1)).toNatClampNeg), .ref 0] (fun st => Z (d + 1) m_law_law 1229 [some (.float a0), some (.ref 0), some (.ref 65), some (.ref 91), some (.int (nI a4)), j5, j6] st (Hp S))) ?_
  refine wp_st (pc' := 1230) (L' := [some (.float a0), some (.ref 0), some (.ref 65), some (.ref 91), some (.int (nI a4)), j5, j6]) (st' := [.ref 91, .int (f4 (nI (a4 + 2)).toNatClampNeg), .int (f2 (nI (a4 + 1)).toNatClampNeg), .ref 0]) (h' := Hp S) 1 (fun Z => rfl) ?_
  refine wp_call (pc' := 1233) (rest := []) (fun Z => rfl) rfl hw ?_
  rintro o h1 ⟨x5, S6, rfl, rfl, hw⟩
  refine ⟨_, rfl, ?_⟩
  show wp E (d + 1) m_law_law 1233 [some (.float a0), some (.ref 0), some (.ref 65), some (.ref 91), some (.int (nI a4)), j5, j6] [.int x5] (Hp S6) (QI Q)
  refine wp_st (pc' := 1240) (L' := [some (.float a0), some (.ref 0), some (.ref 65), some (.ref 91), some (.int (nI a4)), some (.int x5), j6]) (st' := [.int 1, .int (nI a4), .float a0, .ref 65]) (h' := Hp S6) 5 (fun Z => rfl) ?_
  refine wp_st (pc' := 1241) (L' := [some (.float a0), some (.ref 0), some (.ref 65), some (.ref 91), some (.int (nI a4)), some (.int x5), j6]) (st' := [.int (nI (a4 + 1)), .float a0, .ref 65]) (h' := Hp S6) 1 (fun Z => by rw [← nI_add a4 1]; rfl) ?_
  obtain ⟨n7, f8, e, hi, hw⟩ := hw
  refine wp_st (pc' := 1242) (L' := [some (.float a0), some (.ref 0), some (.ref 65), some (.ref 91), some (.int (nI a4)), some (.int x5), j6]) (st' := [.int (f8 (nI (a4 + 1)).toNatClampNeg), .ref 65]) (h' := Hp S6) 1 (fun Z => outI_eq (E := E) (h := Hp S6) e hi [.ref 65] (fun st => Z (d + 1) m_law_law 1242 [some (.float a0), some (.ref 0), some (.ref 65), some (.ref 91), some (.int (nI a4)), some (.int x5), j6] st (Hp S6))) ?_
  refine wp_st (pc' := 1246) (L' := [some (.float a0), some (.ref 0), some (.ref 65), some (.ref 91), some (.int (nI a4)), some (.int x5), j6]) (st' := [.int 2, .int (nI a4), .float a0, .int (f8 (nI (a4 + 1)).toNatClampNeg), .ref 65]) (h' := Hp S6) 3 (fun Z => rfl) ?_
  refine wp_st (pc' := 1247) (L' := [some (.float a0), some (.ref 0), some (.ref 65), some (.ref 91), some (.int (nI a4)), some (.int x5), j6]) (st' := [.int (nI (a4 + 2)), .float a0, .int (f8 (nI (a4 + 1)).toNatClampNeg), .ref 65]) (h' := Hp S6) 1 (fun Z => by rw [← nI_add a4 2]; rfl) ?_
  obtain ⟨n9, f10, e, hi, hw⟩ := hw
  refine wp_st (pc' := 1248) (L' := [some (.float a0), some (.ref 0), some (.ref 65), some (.ref 91), some (.int (nI a4)), some (.int x5), j6]) (st' := [.int (f10 (nI (a4 + 2)).toNatClampNeg), .int (f8 (nI (a4 + 1)).toNatClampNeg), .ref 65]) (h' := Hp S6) 1 (fun Z => outI_eq (E := E) (h := Hp S6) e hi [.int (f8 (nI (a4 + 1)).toNatClampNeg), .ref 65] (fun st => Z (d + 1) m_law_law 1248 [some (.float a0), some (.ref 0), some (.ref 65), some (.ref 91), some (.int (nI a4)), some (.int x5), j6] st (Hp S6))) ?_
  refine wp_call (pc' := 1251) (rest := []) (fun Z => rfl) (isO_of sh65) hw ?_
  rintro o h1 ⟨x11, S12, rfl, rfl, hw⟩
  refine ⟨_, rfl, ?_⟩
  show wp E (d + 1) m_law_law 1251 [some (.float a0), some (.ref 0), some (.ref 65), some (.ref 91), some (.int (nI a4)), some (.int x5), j6] [.int x11] (Hp S12) (QI Q)
  refine wp_st (pc' := 1254) (L' := [some (.float a0), some (.ref 0), some (.ref 65), some (.ref 91), some (.int (nI a4)), some (.int x5), some (.int x11)]) (st' := [.ref 65]) (h' := Hp S12) 2 (fun Z => rfl) ?_
  refine wp_call (pc' := 1257) (rest := []) (fun Z => rfl) (isO_of sh65) hw ?_
  rintro o h1 ⟨x13, S14, rfl, rfl, hw⟩
  refine ⟨_, rfl, ?_⟩
  show wp E (d + 1) m_law_law 1257 [some (.float a0), some (.ref 0), some (.ref 65), some (.ref 91), some (.int (nI a4)), some (.int x5), some (.int x11)] [.int x13] (Hp S14) (QI Q)
  refine wp_st (pc' := 1259) (L' := [some (.float a0), some (.ref 0), some (.ref 65), some (.ref 91), some (.int (nI a4)), some (.int x5), some (.int x11)]) (st' := [.int x5, .int x13]) (h' := Hp S14) 1 (fun Z => rfl) ?_
  by_cases hc : x13 = x5
  · rw [if_pos hc] at hw
    refine wp_st (pc' := 1264) (L' := [some (.float a0), some (.ref 0), some (.ref 65), some (.ref 91), some (.int (nI a4)), some (.int x5), some (.int x11)]) (st' := []) (h' := Hp S14) 1 (fun Z => if_pos hc) ?_
    refine wp_st (pc' := 1266) (L' := [some (.float a0), some (.ref 0), some (.ref 65), some (.ref 91), some (.int (nI a4)), some (.int x5), some (.int x11)]) (st' := [.int x5]) (h' := Hp S14) 1 (fun Z => rfl) ?_
    by_cases hc : x5 = 0
    · rw [if_pos hc] at hw
      refine wp_st (pc' := 1269) (L' := [some (.float a0), some (.ref 0), some (.ref 65), some (.ref 91), some (.int (nI a4)), some (.int x5), some (.int x11)]) (st' := []) (h' := Hp S14) 1 (fun Z => if_pos hc) ?_
      refine wp_st (pc' := 1271) (L' := [some (.float a0), some (.ref 0), some (.ref 65), some (.ref 91), some (.int (nI a4)), some (.int x5), some (.int x11)]) (st' := [.int 0, .ref 91]) (h' := Hp S14) 2 (fun Z => rfl) ?_
      refine wp_st (pc' := 1272) (L' := [some (.float a0), some (.ref 0), some (.ref 65), some (.ref 91), some (.int (nI a4)), some (.int x5), some (.int x11)]) (st' := [.long (catL (S14 91 0) (S14 91 1))]) (h' := Hp S14) 1 (fun Z => ldJ0 (E := E) sh91 (by decide) [] (fun st => Z (d + 1) m_law_law 1272 [some (.float a0), some (.ref 0), some (.ref 65), some (.ref 91), some (.int (nI a4)), some (.int x5), some (.int x11)] st (Hp S14))) ?_
      refine wp_st (pc' := 1276) (L' := [some (.float a0), some (.ref 0), some (.ref 65), some (.ref 91), some (.int (nI a4)), some (.int x5), some (.int x11)]) (st' := [.int (lg_cmp (catL (S14 91 0) (S14 91 1)) (Int32.toInt64 x11))]) (h' := Hp S14) 3 (fun Z => rfl) ?_
      by_cases hc : (lg_cmp (catL (S14 91 0) (S14 91 1)) (Int32.toInt64 x11)) = 0
      · rw [if_pos hc] at hw
        refine wp_st (pc' := 1281) (L' := [some (.float a0), some (.ref 0), some (.ref 65), some (.ref 91), some (.int (nI a4)), some (.int x5), some (.int x11)]) (st' := []) (h' := Hp S14) 1 (fun Z => if_pos hc) ?_
        exact wp_st 1 (fun Z => rfl) (show wp E (d + 1) m_law_law 2231 [some (.float a0), some (.ref 0), some (.ref 65), some (.ref 91), some (.int (nI a4)), some (.int x5), some (.int x11)] [] (Hp S14) (QI Q) from (hw (some (.int x5)) (some (.int x11))))
      · rw [if_neg hc] at hw
        refine wp_st (pc' := 1279) (L' := [some (.float a0), some (.ref 0), some (.ref 65), some (.ref 91), some (.int (nI a4)), some (.int x5), some (.int x11)]) (st' := []) (h' := Hp S14) 1 (fun Z => if_neg hc) ?_
        refine wp_st (pc' := 1280) (L' := [some (.float a0), some (.ref 0), some (.ref 65), some (.ref 91), some (.int (nI a4)), some (.int x5), some (.int x11)]) (st' := [.int 0]) (h' := Hp S14) 1 (fun Z => rfl) ?_
        exact wp_ret (fun Z => rfl) ⟨_, _, rfl, rfl, hw⟩
    · rw [if_neg hc] at hw
      refine wp_st (pc' := 1281) (L' := [some (.float a0), some (.ref 0), some (.ref 65), some (.ref 91), some (.int (nI a4)), some (.int x5), some (.int x11)]) (st' := []) (h' := Hp S14) 1 (fun Z => if_neg hc) ?_
      exact wp_st 1 (fun Z => rfl) (show wp E (d + 1) m_law_law 2231 [some (.float a0), some (.ref 0), some (.ref 65), some (.ref 91), some (.int (nI a4)), some (.int x5), some (.int x11)] [] (Hp S14) (QI Q) from (hw (some (.int x5)) (some (.int x11))))
  · rw [if_neg hc] at hw
    refine wp_st (pc' := 1262) (L' := [some (.float a0), some (.ref 0), some (.ref 65), some (.ref 91), some (.int (nI a4)), some (.int x5), some (.int x11)]) (st' := []) (h' := Hp S14) 1 (fun Z => if_neg hc) ?_
    refine wp_st (pc' := 1263) (L' := [some (.float a0), some (.ref 0), some (.ref 65), some (.ref 91), some (.int (nI a4)), some (.int x5), some (.int x11)]) (st' := [.int 0]) (h' := Hp S14) 1 (fun Z => rfl) ?_
    exact wp_ret (fun Z => rfl) ⟨_, _, rfl, rfl, hw⟩
set_option maxRecDepth 4000 in
theorem w_law_law_1284 {E : zX} {d : Nat} {S : St} {a0 : UInt32} {a4 : Nat} {Q : Int32 → St → Prop} (hd : 1 ≤ d) 
    (hw : ∃ (n1 : Nat) (f2 : Nat → Int32), out E a0 = some (0, n1, f2) ∧ ix (nI (a4 + 1)) n1 ∧
    ∃ (n3 : Nat) (f4 : Nat → Int32), out E a0 = some (0, n3, f4) ∧ ix (nI (a4 + 2)) n3 ∧
    ∃ (n5 : Nat) (f6 : Nat → Int32), out E a0 = some (0, n5, f6) ∧ ix (nI (a4 + 3)) n5 ∧
    k_law_pram E (d - 1) S (f2 (nI (a4 + 1)).toNatClampNeg) (f4 (nI (a4 + 2)).toNatClampNeg) (f6 (nI (a4 + 3)).toNatClampNeg) (fun x7 S8 =>
    ∃ (n9 : Nat) (f10 : Nat → Int32), out E a0 = some (0, n9, f10) ∧ ix (nI (a4 + 1)) n9 ∧
    ∃ (n11 : Nat) (f12 : Nat → Int32), out E a0 = some (0, n11, f12) ∧ ix (nI (a4 + 2)) n11 ∧
    ∃ (n13 : Nat) (f14 : Nat → Int32), out E a0 = some (0, n13, f14) ∧ ix (nI (a4 + 3)) n13 ∧
    k_m_pram E (d - 1) S8 (f10 (nI (a4 + 1)).toNatClampNeg) (f12 (nI (a4 + 2)).toNatClampNeg) (f14 (nI (a4 + 3)).toNatClampNeg) (fun x15 S16 =>
    k_m_thrown E (d - 1) S16 (fun x17 S18 =>
    if x17 = x7 then (
      if x7 = 0 then (
        if (lg_cmp (catL (S18 91 0) (S18 91 1)) (Int32.toInt64 x15)) = 0 then (
          k_law_law_2231 E d S18 a0 a4 Q)
        else (
          Q (0 : Int32) S18))
      else (
        k_law_law_2231 E d S18 a0 a4 Q))
    else (
      Q (0 : Int32) S18))))) :
    k_law_law_1284 E d S a0 a4 Q := by
  obtain ⟨d, rfl⟩ := Nat.exists_eq_add_of_le' hd
  intro j5 j6
  show wp E (d + 1) m_law_law 1284 [some (.float a0), some (.ref 0), some (.ref 65), some (.ref 91), some (.int (nI a4)), j5, j6] [] (Hp S) (QI Q)
  refine wp_st (pc' := 1289) (L' := [some (.float a0), some (.ref 0), some (.ref 65), some (.ref 91), some (.int (nI a4)), j5, j6]) (st' := [.int 1, .int (nI a4), .float a0, .ref 0]) (h' := Hp S) 4 (fun Z => rfl) ?_
  refine wp_st (pc' := 1290) (L' := [some (.float a0), some (.ref 0), some (.ref 65), some (.ref 91), some (.int (nI a4)), j5, j6]) (st' := [.int (nI (a4 + 1)), .float a0, .ref 0]) (h' := Hp S) 1 (fun Z => by rw [← nI_add a4 1]; rfl) ?_
  obtain ⟨n1, f2, e, hi, hw⟩ := hw
  refine wp_st (pc' := 1291) (L' := [some (.float a0), some (.ref 0), some (.ref 65), some (.ref 91), some (.int (nI a4)), j5, j6]) (st' := [.int (f2 (nI (a4 + 1)).toNatClampNeg), .ref 0]) (h' := Hp S) 1 (fun Z => outI_eq (E := E) (h := Hp S) e hi [.ref 0] (fun st => Z (d + 1) m_law_law 1291 [some (.float a0), some (.ref 0), some (.ref 65), some (.ref 91), some (.int (nI a4)), j5, j6] st (Hp S))) ?_
  refine wp_st (pc' := 1295) (L' := [some (.float a0), some (.ref 0), some (.ref 65), some (.ref 91), some (.int (nI a4)), j5, j6]) (st' := [.int 2, .int (nI a4), .float a0, .int (f2 (nI (a4 + 1)).toNatClampNeg), .ref 0]) (h' := Hp S) 3 (fun Z => rfl) ?_
  refine wp_st (pc' := 1296) (L' := [some (.float a0), some (.ref 0), some (.ref 65), some (.ref 91), some (.int (nI a4)), j5, j6]) (st' := [.int (nI (a4 + 2)), .float a0, .int (f2 (nI (a4 + 1)).toNatClampNeg), .ref 0]) (h' := Hp S) 1 (fun Z => by rw [← nI_add a4 2]; rfl) ?_
  obtain ⟨n3, f4, e, hi, hw⟩ := hw
  refine wp_st (pc' := 1297) (L' := [some (.float a0), some (.ref 0), some (.ref 65), some (.ref 91), some (.int (nI a4)), j5, j6]) (st' := [.int (f4 (nI (a4 + 2)).toNatClampNeg), .int (f2 (nI (a4 + 1)).toNatClampNeg), .ref 0]) (h' := Hp S) 1 (fun Z => outI_eq (E := E) (h := Hp S) e hi [.int (f2 (nI (a4 + 1)).toNatClampNeg), .ref 0] (fun st => Z (d + 1) m_law_law 1297 [some (.float a0), some (.ref 0), some (.ref 65), some (.ref 91), some (.int (nI a4)), j5, j6] st (Hp S))) ?_
  refine wp_st (pc' := 1301) (L' := [some (.float a0), some (.ref 0), some (.ref 65), some (.ref 91), some (.int (nI a4)), j5, j6]) (st' := [.int 3, .int (nI a4), .float a0, .int (f4 (nI (a4 + 2)).toNatClampNeg), .int (f2 (nI (a4 + 1)).toNatClampNeg), .ref 0]) (h' := Hp S) 3 (fun Z => rfl) ?_
  refine wp_st (pc' := 1302) (L' := [some (.float a0), some (.ref 0), some (.ref 65), some (.ref 91), some (.int (nI a4)), j5, j6]) (st' := [.int (nI (a4 + 3)), .float a0, .int (f4 (nI (a4 + 2)).toNatClampNeg), .int (f2 (nI (a4 + 1)).toNatClampNeg), .ref 0]) (h' := Hp S) 1 (fun Z => by rw [← nI_add a4 3]; rfl) ?_
  obtain ⟨n5, f6, e, hi, hw⟩ := hw
  refine wp_st (pc' := 1303) (L' := [some (.float a0), some (.ref 0), some (.ref 65), some (.ref 91), some (.int (nI a4)), j5, j6]) (st' := [.int (f6 (nI (a4 + 3)).toNatClampNeg), .int (f4 (nI (a4 + 2)).toNatClampNeg), .int (f2 (nI (a4 + 1)).toNatClampNeg), .ref 0]) (h' := Hp S) 1 (fun Z => outI_eq (E := E) (h := Hp S) e hi [.int (f4 (nI (a4 + 2)).toNatClampNeg), .int (f2 (nI (a4 + 1)).toNatClampNeg), .ref 0] (fun st => Z (d + 1) m_law_law 1303 [some (.float a0), some (.ref 0), some (.ref 65), some (.ref 91), some (.int (nI a4)), j5, j6] st (Hp S))) ?_
  refine wp_st (pc' := 1304) (L' := [some (.float a0), some (.ref 0), some (.ref 65), some (.ref 91), some (.int (nI a4)), j5, j6]) (st' := [.ref 91, .int (f6 (nI (a4 + 3)).toNatClampNeg), .int (f4 (nI (a4 + 2)).toNatClampNeg), .int (f2 (nI (a4 + 1)).toNatClampNeg), .ref 0]) (h' := Hp S) 1 (fun Z => rfl) ?_
  refine wp_call (pc' := 1307) (rest := []) (fun Z => rfl) rfl hw ?_
  rintro o h1 ⟨x7, S8, rfl, rfl, hw⟩
  refine ⟨_, rfl, ?_⟩
  show wp E (d + 1) m_law_law 1307 [some (.float a0), some (.ref 0), some (.ref 65), some (.ref 91), some (.int (nI a4)), j5, j6] [.int x7] (Hp S8) (QI Q)
  refine wp_st (pc' := 1314) (L' := [some (.float a0), some (.ref 0), some (.ref 65), some (.ref 91), some (.int (nI a4)), some (.int x7), j6]) (st' := [.int 1, .int (nI a4), .float a0, .ref 65]) (h' := Hp S8) 5 (fun Z => rfl) ?_
  refine wp_st (pc' := 1315) (L' := [some (.float a0), some (.ref 0), some (.ref 65), some (.ref 91), some (.int (nI a4)), some (.int x7), j6]) (st' := [.int (nI (a4 + 1)), .float a0, .ref 65]) (h' := Hp S8) 1 (fun Z => by rw [← nI_add a4 1]; rfl) ?_
  obtain ⟨n9, f10, e, hi, hw⟩ := hw
  refine wp_st (pc' := 1316) (L' := [some (.float a0), some (.ref 0), some (.ref 65), some (.ref 91), some (.int (nI a4)), some (.int x7), j6]) (st' := [.int (f10 (nI (a4 + 1)).toNatClampNeg), .ref 65]) (h' := Hp S8) 1 (fun Z => outI_eq (E := E) (h := Hp S8) e hi [.ref 65] (fun st => Z (d + 1) m_law_law 1316 [some (.float a0), some (.ref 0), some (.ref 65), some (.ref 91), some (.int (nI a4)), some (.int x7), j6] st (Hp S8))) ?_
  refine wp_st (pc' := 1320) (L' := [some (.float a0), some (.ref 0), some (.ref 65), some (.ref 91), some (.int (nI a4)), some (.int x7), j6]) (st' := [.int 2, .int (nI a4), .float a0, .int (f10 (nI (a4 + 1)).toNatClampNeg), .ref 65]) (h' := Hp S8) 3 (fun Z => rfl) ?_
  refine wp_st (pc' := 1321) (L' := [some (.float a0), some (.ref 0), some (.ref 65), some (.ref 91), some (.int (nI a4)), some (.int x7), j6]) (st' := [.int (nI (a4 + 2)), .float a0, .int (f10 (nI (a4 + 1)).toNatClampNeg), .ref 65]) (h' := Hp S8) 1 (fun Z => by rw [← nI_add a4 2]; rfl) ?_
  obtain ⟨n11, f12, e, hi, hw⟩ := hw
  refine wp_st (pc' := 1322) (L' := [some (.float a0), some (.ref 0), some (.ref 65), some (.ref 91), some (.int (nI a4)), some (.int x7), j6]) (st' := [.int (f12 (nI (a4 + 2)).toNatClampNeg), .int (f10 (nI (a4 + 1)).toNatClampNeg), .ref 65]) (h' := Hp S8) 1 (fun Z => outI_eq (E := E) (h := Hp S8) e hi [.int (f10 (nI (a4 + 1)).toNatClampNeg), .ref 65] (fun st => Z (d + 1) m_law_law 1322 [some (.float a0), some (.ref 0), some (.ref 65), some (.ref 91), some (.int (nI a4)), some (.int x7), j6] st (Hp S8))) ?_
  refine wp_st (pc' := 1326) (L' := [some (.float a0), some (.ref 0), some (.ref 65), some (.ref 91), some (.int (nI a4)), some (.int x7), j6]) (st' := [.int 3, .int (nI a4), .float a0, .int (f12 (nI (a4 + 2)).toNatClampNeg), .int (f10 (nI (a4 + 1)).toNatClampNeg), .ref 65]) (h' := Hp S8) 3 (fun Z => rfl) ?_
  refine wp_st (pc' := 1327) (L' := [some (.float a0), some (.ref 0), some (.ref 65), some (.ref 91), some (.int (nI a4)), some (.int x7), j6]) (st' := [.int (nI (a4 + 3)), .float a0, .int (f12 (nI (a4 + 2)).toNatClampNeg), .int (f10 (nI (a4 + 1)).toNatClampNeg), .ref 65]) (h' := Hp S8) 1 (fun Z => by rw [← nI_add a4 3]; rfl) ?_
  obtain ⟨n13, f14, e, hi, hw⟩ := hw
  refine wp_st (pc' := 1328) (L' := [some (.float a0), some (.ref 0), some (.ref 65), some (.ref 91), some (.int (nI a4)), some (.int x7), j6]) (st' := [.int (f14 (nI (a4 + 3)).toNatClampNeg), .int (f12 (nI (a4 + 2)).toNatClampNeg), .int (f10 (nI (a4 + 1)).toNatClampNeg), .ref 65]) (h' := Hp S8) 1 (fun Z => outI_eq (E := E) (h := Hp S8) e hi [.int (f12 (nI (a4 + 2)).toNatClampNeg), .int (f10 (nI (a4 + 1)).toNatClampNeg), .ref 65] (fun st => Z (d + 1) m_law_law 1328 [some (.float a0), some (.ref 0), some (.ref 65), some (.ref 91), some (.int (nI a4)), some (.int x7), j6] st (Hp S8))) ?_
  refine wp_call (pc' := 1331) (rest := []) (fun Z => rfl) (isO_of sh65) hw ?_
  rintro o h1 ⟨x15, S16, rfl, rfl, hw⟩
  refine ⟨_, rfl, ?_⟩
  show wp E (d + 1) m_law_law 1331 [some (.float a0), some (.ref 0), some (.ref 65), some (.ref 91), some (.int (nI a4)), some (.int x7), j6] [.int x15] (Hp S16) (QI Q)
  refine wp_st (pc' := 1334) (L' := [some (.float a0), some (.ref 0), some (.ref 65), some (.ref 91), some (.int (nI a4)), some (.int x7), some (.int x15)]) (st' := [.ref 65]) (h' := Hp S16) 2 (fun Z => rfl) ?_
  refine wp_call (pc' := 1337) (rest := []) (fun Z => rfl) (isO_of sh65) hw ?_
  rintro o h1 ⟨x17, S18, rfl, rfl, hw⟩
  refine ⟨_, rfl, ?_⟩
  show wp E (d + 1) m_law_law 1337 [some (.float a0), some (.ref 0), some (.ref 65), some (.ref 91), some (.int (nI a4)), some (.int x7), some (.int x15)] [.int x17] (Hp S18) (QI Q)
  refine wp_st (pc' := 1339) (L' := [some (.float a0), some (.ref 0), some (.ref 65), some (.ref 91), some (.int (nI a4)), some (.int x7), some (.int x15)]) (st' := [.int x7, .int x17]) (h' := Hp S18) 1 (fun Z => rfl) ?_
  by_cases hc : x17 = x7
  · rw [if_pos hc] at hw
    refine wp_st (pc' := 1344) (L' := [some (.float a0), some (.ref 0), some (.ref 65), some (.ref 91), some (.int (nI a4)), some (.int x7), some (.int x15)]) (st' := []) (h' := Hp S18) 1 (fun Z => if_pos hc) ?_
    refine wp_st (pc' := 1346) (L' := [some (.float a0), some (.ref 0), some (.ref 65), some (.ref 91), some (.int (nI a4)), some (.int x7), some (.int x15)]) (st' := [.int x7]) (h' := Hp S18) 1 (fun Z => rfl) ?_
    by_cases hc : x7 = 0
    · rw [if_pos hc] at hw
      refine wp_st (pc' := 1349) (L' := [some (.float a0), some (.ref 0), some (.ref 65), some (.ref 91), some (.int (nI a4)), some (.int x7), some (.int x15)]) (st' := []) (h' := Hp S18) 1 (fun Z => if_pos hc) ?_
      refine wp_st (pc' := 1351) (L' := [some (.float a0), some (.ref 0), some (.ref 65), some (.ref 91), some (.int (nI a4)), some (.int x7), some (.int x15)]) (st' := [.int 0, .ref 91]) (h' := Hp S18) 2 (fun Z => rfl) ?_
      refine wp_st (pc' := 1352) (L' := [some (.float a0), some (.ref 0), some (.ref 65), some (.ref 91), some (.int (nI a4)), some (.int x7), some (.int x15)]) (st' := [.long (catL (S18 91 0) (S18 91 1))]) (h' := Hp S18) 1 (fun Z => ldJ0 (E := E) sh91 (by decide) [] (fun st => Z (d + 1) m_law_law 1352 [some (.float a0), some (.ref 0), some (.ref 65), some (.ref 91), some (.int (nI a4)), some (.int x7), some (.int x15)] st (Hp S18))) ?_
      refine wp_st (pc' := 1356) (L' := [some (.float a0), some (.ref 0), some (.ref 65), some (.ref 91), some (.int (nI a4)), some (.int x7), some (.int x15)]) (st' := [.int (lg_cmp (catL (S18 91 0) (S18 91 1)) (Int32.toInt64 x15))]) (h' := Hp S18) 3 (fun Z => rfl) ?_
      by_cases hc : (lg_cmp (catL (S18 91 0) (S18 91 1)) (Int32.toInt64 x15)) = 0
      · rw [if_pos hc] at hw
        refine wp_st (pc' := 1361) (L' := [some (.float a0), some (.ref 0), some (.ref 65), some (.ref 91), some (.int (nI a4)), some (.int x7), some (.int x15)]) (st' := []) (h' := Hp S18) 1 (fun Z => if_pos hc) ?_
        exact wp_st 1 (fun Z => rfl) (show wp E (d + 1) m_law_law 2231 [some (.float a0), some (.ref 0), some (.ref 65), some (.ref 91), some (.int (nI a4)), some (.int x7), some (.int x15)] [] (Hp S18) (QI Q) from (hw (some (.int x7)) (some (.int x15))))
      · rw [if_neg hc] at hw
        refine wp_st (pc' := 1359) (L' := [some (.float a0), some (.ref 0), some (.ref 65), some (.ref 91), some (.int (nI a4)), some (.int x7), some (.int x15)]) (st' := []) (h' := Hp S18) 1 (fun Z => if_neg hc) ?_
        refine wp_st (pc' := 1360) (L' := [some (.float a0), some (.ref 0), some (.ref 65), some (.ref 91), some (.int (nI a4)), some (.int x7), some (.int x15)]) (st' := [.int 0]) (h' := Hp S18) 1 (fun Z => rfl) ?_
        exact wp_ret (fun Z => rfl) ⟨_, _, rfl, rfl, hw⟩
    · rw [if_neg hc] at hw
      refine wp_st (pc' := 1361) (L' := [some (.float a0), some (.ref 0), some (.ref 65), some (.ref 91), some (.int (nI a4)), some (.int x7), some (.int x15)]) (st' := []) (h' := Hp S18) 1 (fun Z => if_neg hc) ?_
      exact wp_st 1 (fun Z => rfl) (show wp E (d + 1) m_law_law 2231 [some (.float a0), some (.ref 0), some (.ref 65), some (.ref 91), some (.int (nI a4)), some (.int x7), some (.int x15)] [] (Hp S18) (QI Q) from (hw (some (.int x7)) (some (.int x15))))
  · rw [if_neg hc] at hw
    refine wp_st (pc' := 1342) (L' := [some (.float a0), some (.ref 0), some (.ref 65), some (.ref 91), some (.int (nI a4)), some (.int x7), some (.int x15)]) (st' := []) (h' := Hp S18) 1 (fun Z => if_neg hc) ?_
    refine wp_st (pc' := 1343) (L' := [some (.float a0), some (.ref 0), some (.ref 65), some (.ref 91), some (.int (nI a4)), some (.int x7), some (.int x15)]) (st' := [.int 0]) (h' := Hp S18) 1 (fun Z => rfl) ?_
    exact wp_ret (fun Z => rfl) ⟨_, _, rfl, rfl, hw⟩
set_option maxRecDepth 4000 in
theorem w_law_law_1364 {E : zX} {d : Nat} {S : St} {a0 : UInt32} {a4 : Nat} {Q : Int32 → St → Prop} (hd : 1 ≤ d) 
    (hw : ∃ (n1 : Nat) (f2 : Nat → Int32), out E a0 = some (0, n1, f2) ∧ ix (nI (a4 + 1)) n1 ∧
    k_law_putBy E (d - 1) S (f2 (nI (a4 + 1)).toNatClampNeg) (fun x3 S4 =>
    ∃ (n5 : Nat) (f6 : Nat → Int32), out E a0 = some (0, n5, f6) ∧ ix (nI (a4 + 1)) n5 ∧
    k_m_putBy E (d - 1) S4 (f6 (nI (a4 + 1)).toNatClampNeg) (fun x7 S8 =>
    k_m_thrown E (d - 1) S8 (fun x9 S10 =>
    if x9 = x3 then (
      if x3 = 0 then (
        if (lg_cmp (catL (S10 91 0) (S10 91 1)) (Int32.toInt64 x7)) = 0 then (
          k_law_law_2231 E d S10 a0 a4 Q)
        else (
          Q (0 : Int32) S10))
      else (
        k_law_law_2231 E d S10 a0 a4 Q))
    else (
      Q (0 : Int32) S10))))) :
    k_law_law_1364 E d S a0 a4 Q := by
  obtain ⟨d, rfl⟩ := Nat.exists_eq_add_of_le' hd
  intro j5 j6
  show wp E (d + 1) m_law_law 1364 [some (.float a0), some (.ref 0), some (.ref 65), some (.ref 91), some (.int (nI a4)), j5, j6] [] (Hp S) (QI Q)
  refine wp_st (pc' := 1369) (L' := [some (.float a0), some (.ref 0), some (.ref 65), some (.ref 91), some (.int (nI a4)), j5, j6]) (st' := [.int 1, .int (nI a4), .float a0, .ref 0]) (h' := Hp S) 4 (fun Z => rfl) ?_
  refine wp_st (pc' := 1370) (L' := [some (.float a0), some (.ref 0), some (.ref 65), some (.ref 91), some (.int (nI a4)), j5, j6]) (st' := [.int (nI (a4 + 1)), .float a0, .ref 0]) (h' := Hp S) 1 (fun Z => by rw [← nI_add a4 1]; rfl) ?_
  obtain ⟨n1, f2, e, hi, hw⟩ := hw
  refine wp_st (pc' := 1371) (L' := [some (.float a0), some (.ref 0), some (.ref 65), some (.ref 91), some (.int (nI a4)), j5, j6]) (st' := [.int (f2 (nI (a4 + 1)).toNatClampNeg), .ref 0]) (h' := Hp S) 1 (fun Z => outI_eq (E := E) (h := Hp S) e hi [.ref 0] (fun st => Z (d + 1) m_law_law 1371 [some (.float a0), some (.ref 0), some (.ref 65), some (.ref 91), some (.int (nI a4)), j5, j6] st (Hp S))) ?_
  refine wp_st (pc' := 1372) (L' := [some (.float a0), some (.ref 0), some (.ref 65), some (.ref 91), some (.int (nI a4)), j5, j6]) (st' := [.ref 91, .int (f2 (nI (a4 + 1)).toNatClampNeg), .ref 0]) (h' := Hp S) 1 (fun Z => rfl) ?_
  refine wp_call (pc' := 1375) (rest := []) (fun Z => rfl) rfl hw ?_
  rintro o h1 ⟨x3, S4, rfl, rfl, hw⟩
  refine ⟨_, rfl, ?_⟩
  show wp E (d + 1) m_law_law 1375 [some (.float a0), some (.ref 0), some (.ref 65), some (.ref 91), some (.int (nI a4)), j5, j6] [.int x3] (Hp S4) (QI Q)
  refine wp_st (pc' := 1382) (L' := [some (.float a0), some (.ref 0), some (.ref 65), some (.ref 91), some (.int (nI a4)), some (.int x3), j6]) (st' := [.int 1, .int (nI a4), .float a0, .ref 65]) (h' := Hp S4) 5 (fun Z => rfl) ?_
  refine wp_st (pc' := 1383) (L' := [some (.float a0), some (.ref 0), some (.ref 65), some (.ref 91), some (.int (nI a4)), some (.int x3), j6]) (st' := [.int (nI (a4 + 1)), .float a0, .ref 65]) (h' := Hp S4) 1 (fun Z => by rw [← nI_add a4 1]; rfl) ?_
  obtain ⟨n5, f6, e, hi, hw⟩ := hw
  refine wp_st (pc' := 1384) (L' := [some (.float a0), some (.ref 0), some (.ref 65), some (.ref 91), some (.int (nI a4)), some (.int x3), j6]) (st' := [.int (f6 (nI (a4 + 1)).toNatClampNeg), .ref 65]) (h' := Hp S4) 1 (fun Z => outI_eq (E := E) (h := Hp S4) e hi [.ref 65] (fun st => Z (d + 1) m_law_law 1384 [some (.float a0), some (.ref 0), some (.ref 65), some (.ref 91), some (.int (nI a4)), some (.int x3), j6] st (Hp S4))) ?_
  refine wp_call (pc' := 1387) (rest := []) (fun Z => rfl) (isO_of sh65) hw ?_
  rintro o h1 ⟨x7, S8, rfl, rfl, hw⟩
  refine ⟨_, rfl, ?_⟩
  show wp E (d + 1) m_law_law 1387 [some (.float a0), some (.ref 0), some (.ref 65), some (.ref 91), some (.int (nI a4)), some (.int x3), j6] [.int x7] (Hp S8) (QI Q)
  refine wp_st (pc' := 1390) (L' := [some (.float a0), some (.ref 0), some (.ref 65), some (.ref 91), some (.int (nI a4)), some (.int x3), some (.int x7)]) (st' := [.ref 65]) (h' := Hp S8) 2 (fun Z => rfl) ?_
  refine wp_call (pc' := 1393) (rest := []) (fun Z => rfl) (isO_of sh65) hw ?_
  rintro o h1 ⟨x9, S10, rfl, rfl, hw⟩
  refine ⟨_, rfl, ?_⟩
  show wp E (d + 1) m_law_law 1393 [some (.float a0), some (.ref 0), some (.ref 65), some (.ref 91), some (.int (nI a4)), some (.int x3), some (.int x7)] [.int x9] (Hp S10) (QI Q)
  refine wp_st (pc' := 1395) (L' := [some (.float a0), some (.ref 0), some (.ref 65), some (.ref 91), some (.int (nI a4)), some (.int x3), some (.int x7)]) (st' := [.int x3, .int x9]) (h' := Hp S10) 1 (fun Z => rfl) ?_
  by_cases hc : x9 = x3
  · rw [if_pos hc] at hw
    refine wp_st (pc' := 1400) (L' := [some (.float a0), some (.ref 0), some (.ref 65), some (.ref 91), some (.int (nI a4)), some (.int x3), some (.int x7)]) (st' := []) (h' := Hp S10) 1 (fun Z => if_pos hc) ?_
    refine wp_st (pc' := 1402) (L' := [some (.float a0), some (.ref 0), some (.ref 65), some (.ref 91), some (.int (nI a4)), some (.int x3), some (.int x7)]) (st' := [.int x3]) (h' := Hp S10) 1 (fun Z => rfl) ?_
    by_cases hc : x3 = 0
    · rw [if_pos hc] at hw
      refine wp_st (pc' := 1405) (L' := [some (.float a0), some (.ref 0), some (.ref 65), some (.ref 91), some (.int (nI a4)), some (.int x3), some (.int x7)]) (st' := []) (h' := Hp S10) 1 (fun Z => if_pos hc) ?_
      refine wp_st (pc' := 1407) (L' := [some (.float a0), some (.ref 0), some (.ref 65), some (.ref 91), some (.int (nI a4)), some (.int x3), some (.int x7)]) (st' := [.int 0, .ref 91]) (h' := Hp S10) 2 (fun Z => rfl) ?_
      refine wp_st (pc' := 1408) (L' := [some (.float a0), some (.ref 0), some (.ref 65), some (.ref 91), some (.int (nI a4)), some (.int x3), some (.int x7)]) (st' := [.long (catL (S10 91 0) (S10 91 1))]) (h' := Hp S10) 1 (fun Z => ldJ0 (E := E) sh91 (by decide) [] (fun st => Z (d + 1) m_law_law 1408 [some (.float a0), some (.ref 0), some (.ref 65), some (.ref 91), some (.int (nI a4)), some (.int x3), some (.int x7)] st (Hp S10))) ?_
      refine wp_st (pc' := 1412) (L' := [some (.float a0), some (.ref 0), some (.ref 65), some (.ref 91), some (.int (nI a4)), some (.int x3), some (.int x7)]) (st' := [.int (lg_cmp (catL (S10 91 0) (S10 91 1)) (Int32.toInt64 x7))]) (h' := Hp S10) 3 (fun Z => rfl) ?_
      by_cases hc : (lg_cmp (catL (S10 91 0) (S10 91 1)) (Int32.toInt64 x7)) = 0
      · rw [if_pos hc] at hw
        refine wp_st (pc' := 1417) (L' := [some (.float a0), some (.ref 0), some (.ref 65), some (.ref 91), some (.int (nI a4)), some (.int x3), some (.int x7)]) (st' := []) (h' := Hp S10) 1 (fun Z => if_pos hc) ?_
        exact wp_st 1 (fun Z => rfl) (show wp E (d + 1) m_law_law 2231 [some (.float a0), some (.ref 0), some (.ref 65), some (.ref 91), some (.int (nI a4)), some (.int x3), some (.int x7)] [] (Hp S10) (QI Q) from (hw (some (.int x3)) (some (.int x7))))
      · rw [if_neg hc] at hw
        refine wp_st (pc' := 1415) (L' := [some (.float a0), some (.ref 0), some (.ref 65), some (.ref 91), some (.int (nI a4)), some (.int x3), some (.int x7)]) (st' := []) (h' := Hp S10) 1 (fun Z => if_neg hc) ?_
        refine wp_st (pc' := 1416) (L' := [some (.float a0), some (.ref 0), some (.ref 65), some (.ref 91), some (.int (nI a4)), some (.int x3), some (.int x7)]) (st' := [.int 0]) (h' := Hp S10) 1 (fun Z => rfl) ?_
        exact wp_ret (fun Z => rfl) ⟨_, _, rfl, rfl, hw⟩
    · rw [if_neg hc] at hw
      refine wp_st (pc' := 1417) (L' := [some (.float a0), some (.ref 0), some (.ref 65), some (.ref 91), some (.int (nI a4)), some (.int x3), some (.int x7)]) (st' := []) (h' := Hp S10) 1 (fun Z => if_neg hc) ?_
      exact wp_st 1 (fun Z => rfl) (show wp E (d + 1) m_law_law 2231 [some (.float a0), some (.ref 0), some (.ref 65), some (.ref 91), some (.int (nI a4)), some (.int x3), some (.int x7)] [] (Hp S10) (QI Q) from (hw (some (.int x3)) (some (.int x7))))
  · rw [if_neg hc] at hw
    refine wp_st (pc' := 1398) (L' := [some (.float a0), some (.ref 0), some (.ref 65), some (.ref 91), some (.int (nI a4)), some (.int x3), some (.int x7)]) (st' := []) (h' := Hp S10) 1 (fun Z => if_neg hc) ?_
    refine wp_st (pc' := 1399) (L' := [some (.float a0), some (.ref 0), some (.ref 65), some (.ref 91), some (.int (nI a4)), some (.int x3), some (.int x7)]) (st' := [.int 0]) (h' := Hp S10) 1 (fun Z => rfl) ?_
    exact wp_ret (fun Z => rfl) ⟨_, _, rfl, rfl, hw⟩
set_option maxRecDepth 4000 in
theorem w_law_law_1420 {E : zX} {d : Nat} {S : St} {a0 : UInt32} {a4 : Nat} {Q : Int32 → St → Prop} (hd : 1 ≤ d) 
    (hw : ∃ (n1 : Nat) (f2 : Nat → Int32), out E a0 = some (0, n1, f2) ∧ ix (nI (a4 + 1)) n1 ∧
    k_law_put E (d - 1) S (f2 (nI (a4 + 1)).toNatClampNeg) (fun x3 S4 =>
    ∃ (n5 : Nat) (f6 : Nat → Int32), out E a0 = some (0, n5, f6) ∧ ix (nI (a4 + 1)) n5 ∧
    k_m_put E (d - 1) S4 (f6 (nI (a4 + 1)).toNatClampNeg) (fun x7 S8 =>
    k_m_thrown E (d - 1) S8 (fun x9 S10 =>
    if x9 = x3 then (
      if x3 = 0 then (
        if (lg_cmp (catL (S10 91 0) (S10 91 1)) (Int32.toInt64 x7)) = 0 then (
          k_law_law_2231 E d S10 a0 a4 Q)
        else (
          Q (0 : Int32) S10))
      else (
        k_law_law_2231 E d S10 a0 a4 Q))
    else (
      Q (0 : Int32) S10))))) :
    k_law_law_1420 E d S a0 a4 Q := by
  obtain ⟨d, rfl⟩ := Nat.exists_eq_add_of_le' hd
  intro j5 j6
  show wp E (d + 1) m_law_law 1420 [some (.float a0), some (.ref 0), some (.ref 65), some (.ref 91), some (.int (nI a4)), j5, j6] [] (Hp S) (QI Q)
  refine wp_st (pc' := 1425) (L' := [some (.float a0), some (.ref 0), some (.ref 65), some (.ref 91), some (.int (nI a4)), j5, j6]) (st' := [.int 1, .int (nI a4), .float a0, .ref 0]) (h' := Hp S) 4 (fun Z => rfl) ?_
  refine wp_st (pc' := 1426) (L' := [some (.float a0), some (.ref 0), some (.ref 65), some (.ref 91), some (.int (nI a4)), j5, j6]) (st' := [.int (nI (a4 + 1)), .float a0, .ref 0]) (h' := Hp S) 1 (fun Z => by rw [← nI_add a4 1]; rfl) ?_
  obtain ⟨n1, f2, e, hi, hw⟩ := hw
  refine wp_st (pc' := 1427) (L' := [some (.float a0), some (.ref 0), some (.ref 65), some (.ref 91), some (.int (nI a4)), j5, j6]) (st' := [.int (f2 (nI (a4 + 1)).toNatClampNeg), .ref 0]) (h' := Hp S) 1 (fun Z => outI_eq (E := E) (h := Hp S) e hi [.ref 0] (fun st => Z (d + 1) m_law_law 1427 [some (.float a0), some (.ref 0), some (.ref 65), some (.ref 91), some (.int (nI a4)), j5, j6] st (Hp S))) ?_
  refine wp_st (pc' := 1428) (L' := [some (.float a0), some (.ref 0), some (.ref 65), some (.ref 91), some (.int (nI a4)), j5, j6]) (st' := [.ref 91, .int (f2 (nI (a4 + 1)).toNatClampNeg), .ref 0]) (h' := Hp S) 1 (fun Z => rfl) ?_
  refine wp_call (pc' := 1431) (rest := []) (fun Z => rfl) rfl hw ?_
  rintro o h1 ⟨x3, S4, rfl, rfl, hw⟩
  refine ⟨_, rfl, ?_⟩
  show wp E (d + 1) m_law_law 1431 [some (.float a0), some (.ref 0), some (.ref 65), some (.ref 91), some (.int (nI a4)), j5, j6] [.int x3] (Hp S4) (QI Q)
  refine wp_st (pc' := 1438) (L' := [some (.float a0), some (.ref 0), some (.ref 65), some (.ref 91), some (.int (nI a4)), some (.int x3), j6]) (st' := [.int 1, .int (nI a4), .float a0, .ref 65]) (h' := Hp S4) 5 (fun Z => rfl) ?_
  refine wp_st (pc' := 1439) (L' := [some (.float a0), some (.ref 0), some (.ref 65), some (.ref 91), some (.int (nI a4)), some (.int x3), j6]) (st' := [.int (nI (a4 + 1)), .float a0, .ref 65]) (h' := Hp S4) 1 (fun Z => by rw [← nI_add a4 1]; rfl) ?_
  obtain ⟨n5, f6, e, hi, hw⟩ := hw
  refine wp_st (pc' := 1440) (L' := [some (.float a0), some (.ref 0), some (.ref 65), some (.ref 91), some (.int (nI a4)), some (.int x3), j6]) (st' := [.int (f6 (nI (a4 + 1)).toNatClampNeg), .ref 65]) (h' := Hp S4) 1 (fun Z => outI_eq (E := E) (h := Hp S4) e hi [.ref 65] (fun st => Z (d + 1) m_law_law 1440 [some (.float a0), some (.ref 0), some (.ref 65), some (.ref 91), some (.int (nI a4)), some (.int x3), j6] st (Hp S4))) ?_
  refine wp_call (pc' := 1443) (rest := []) (fun Z => rfl) (isO_of sh65) hw ?_
  rintro o h1 ⟨x7, S8, rfl, rfl, hw⟩
  refine ⟨_, rfl, ?_⟩
  show wp E (d + 1) m_law_law 1443 [some (.float a0), some (.ref 0), some (.ref 65), some (.ref 91), some (.int (nI a4)), some (.int x3), j6] [.int x7] (Hp S8) (QI Q)
  refine wp_st (pc' := 1446) (L' := [some (.float a0), some (.ref 0), some (.ref 65), some (.ref 91), some (.int (nI a4)), some (.int x3), some (.int x7)]) (st' := [.ref 65]) (h' := Hp S8) 2 (fun Z => rfl) ?_
  refine wp_call (pc' := 1449) (rest := []) (fun Z => rfl) (isO_of sh65) hw ?_
  rintro o h1 ⟨x9, S10, rfl, rfl, hw⟩
  refine ⟨_, rfl, ?_⟩
  show wp E (d + 1) m_law_law 1449 [some (.float a0), some (.ref 0), some (.ref 65), some (.ref 91), some (.int (nI a4)), some (.int x3), some (.int x7)] [.int x9] (Hp S10) (QI Q)
  refine wp_st (pc' := 1451) (L' := [some (.float a0), some (.ref 0), some (.ref 65), some (.ref 91), some (.int (nI a4)), some (.int x3), some (.int x7)]) (st' := [.int x3, .int x9]) (h' := Hp S10) 1 (fun Z => rfl) ?_
  by_cases hc : x9 = x3
  · rw [if_pos hc] at hw
    refine wp_st (pc' := 1456) (L' := [some (.float a0), some (.ref 0), some (.ref 65), some (.ref 91), some (.int (nI a4)), some (.int x3), some (.int x7)]) (st' := []) (h' := Hp S10) 1 (fun Z => if_pos hc) ?_
    refine wp_st (pc' := 1458) (L' := [some (.float a0), some (.ref 0), some (.ref 65), some (.ref 91), some (.int (nI a4)), some (.int x3), some (.int x7)]) (st' := [.int x3]) (h' := Hp S10) 1 (fun Z => rfl) ?_
    by_cases hc : x3 = 0
    · rw [if_pos hc] at hw
      refine wp_st (pc' := 1461) (L' := [some (.float a0), some (.ref 0), some (.ref 65), some (.ref 91), some (.int (nI a4)), some (.int x3), some (.int x7)]) (st' := []) (h' := Hp S10) 1 (fun Z => if_pos hc) ?_
      refine wp_st (pc' := 1463) (L' := [some (.float a0), some (.ref 0), some (.ref 65), some (.ref 91), some (.int (nI a4)), some (.int x3), some (.int x7)]) (st' := [.int 0, .ref 91]) (h' := Hp S10) 2 (fun Z => rfl) ?_
      refine wp_st (pc' := 1464) (L' := [some (.float a0), some (.ref 0), some (.ref 65), some (.ref 91), some (.int (nI a4)), some (.int x3), some (.int x7)]) (st' := [.long (catL (S10 91 0) (S10 91 1))]) (h' := Hp S10) 1 (fun Z => ldJ0 (E := E) sh91 (by decide) [] (fun st => Z (d + 1) m_law_law 1464 [some (.float a0), some (.ref 0), some (.ref 65), some (.ref 91), some (.int (nI a4)), some (.int x3), some (.int x7)] st (Hp S10))) ?_
      refine wp_st (pc' := 1468) (L' := [some (.float a0), some (.ref 0), some (.ref 65), some (.ref 91), some (.int (nI a4)), some (.int x3), some (.int x7)]) (st' := [.int (lg_cmp (catL (S10 91 0) (S10 91 1)) (Int32.toInt64 x7))]) (h' := Hp S10) 3 (fun Z => rfl) ?_
      by_cases hc : (lg_cmp (catL (S10 91 0) (S10 91 1)) (Int32.toInt64 x7)) = 0
      · rw [if_pos hc] at hw
        refine wp_st (pc' := 1473) (L' := [some (.float a0), some (.ref 0), some (.ref 65), some (.ref 91), some (.int (nI a4)), some (.int x3), some (.int x7)]) (st' := []) (h' := Hp S10) 1 (fun Z => if_pos hc) ?_
        exact wp_st 1 (fun Z => rfl) (show wp E (d + 1) m_law_law 2231 [some (.float a0), some (.ref 0), some (.ref 65), some (.ref 91), some (.int (nI a4)), some (.int x3), some (.int x7)] [] (Hp S10) (QI Q) from (hw (some (.int x3)) (some (.int x7))))
      · rw [if_neg hc] at hw
        refine wp_st (pc' := 1471) (L' := [some (.float a0), some (.ref 0), some (.ref 65), some (.ref 91), some (.int (nI a4)), some (.int x3), some (.int x7)]) (st' := []) (h' := Hp S10) 1 (fun Z => if_neg hc) ?_
        refine wp_st (pc' := 1472) (L' := [some (.float a0), some (.ref 0), some (.ref 65), some (.ref 91), some (.int (nI a4)), some (.int x3), some (.int x7)]) (st' := [.int 0]) (h' := Hp S10) 1 (fun Z => rfl) ?_
        exact wp_ret (fun Z => rfl) ⟨_, _, rfl, rfl, hw⟩
    · rw [if_neg hc] at hw
      refine wp_st (pc' := 1473) (L' := [some (.float a0), some (.ref 0), some (.ref 65), some (.ref 91), some (.int (nI a4)), some (.int x3), some (.int x7)]) (st' := []) (h' := Hp S10) 1 (fun Z => if_neg hc) ?_
      exact wp_st 1 (fun Z => rfl) (show wp E (d + 1) m_law_law 2231 [some (.float a0), some (.ref 0), some (.ref 65), some (.ref 91), some (.int (nI a4)), some (.int x3), some (.int x7)] [] (Hp S10) (QI Q) from (hw (some (.int x3)) (some (.int x7))))
  · rw [if_neg hc] at hw
    refine wp_st (pc' := 1454) (L' := [some (.float a0), some (.ref 0), some (.ref 65), some (.ref 91), some (.int (nI a4)), some (.int x3), some (.int x7)]) (st' := []) (h' := Hp S10) 1 (fun Z => if_neg hc) ?_
    refine wp_st (pc' := 1455) (L' := [some (.float a0), some (.ref 0), some (.ref 65), some (.ref 91), some (.int (nI a4)), some (.int x3), some (.int x7)]) (st' := [.int 0]) (h' := Hp S10) 1 (fun Z => rfl) ?_
    exact wp_ret (fun Z => rfl) ⟨_, _, rfl, rfl, hw⟩
set_option maxRecDepth 4000 in
theorem w_law_law_1476 {E : zX} {d : Nat} {S : St} {a0 : UInt32} {a4 : Nat} {Q : Int32 → St → Prop} (hd : 1 ≤ d) 
    (hw : ∃ (n1 : Nat) (f2 : Nat → Int32), out E a0 = some (0, n1, f2) ∧ ix (nI (a4 + 1)) n1 ∧
    ∃ (n3 : Nat) (f4 : Nat → Int32), out E a0 = some (0, n3, f4) ∧ ix (nI (a4 + 2)) n3 ∧
    ∃ (n5 : Nat) (f6 : Nat → Int32), out E a0 = some (0, n5, f6) ∧ ix (nI (a4 + 3)) n5 ∧
    if (f6 (nI (a4 + 3)).toNatClampNeg) = 0 then (
      k_law_law_1503 E d S a0 a4 (f2 (nI (a4 + 1)).toNatClampNeg) (f4 (nI (a4 + 2)).toNatClampNeg) 0 Q)
    else (
      k_law_law_1503 E d S a0 a4 (f2 (nI (a4 + 1)).toNatClampNeg) (f4 (nI (a4 + 2)).toNatClampNeg) 1 Q)) :
    k_law_law_1476 E d S a0 a4 Q := by
  obtain ⟨d, rfl⟩ := Nat.exists_eq_add_of_le' hd
  intro j5 j6
  show wp E (d + 1) m_law_law 1476 [some (.float a0), some (.ref 0), some (.ref 65), some (.ref 91), some (.int (nI a4)), j5, j6] [] (Hp S) (QI Q)
  refine wp_st (pc' := 1481) (L' := [some (.float a0), some (.ref 0), some (.ref 65), some (.ref 91), some (.int (nI a4)), j5, j6]) (st' := [.int 1, .int (nI a4), .float a0, .ref 0]) (h' := Hp S) 4 (fun Z => rfl) ?_
  refine wp_st (pc' := 1482) (L' := [some (.float a0), some (.ref 0), some (.ref 65), some (.ref 91), some (.int (nI a4)), j5, j6]) (st' := [.int (nI (a4 + 1)), .float a0, .ref 0]) (h' := Hp S) 1 (fun Z => by rw [← nI_add a4 1]; rfl) ?_
  obtain ⟨n1, f2, e, hi, hw⟩ := hw
  refine wp_st (pc' := 1483) (L' := [some (.float a0), some (.ref 0), some (.ref 65), some (.ref 91), some (.int (nI a4)), j5, j6]) (st' := [.int (f2 (nI (a4 + 1)).toNatClampNeg), .ref 0]) (h' := Hp S) 1 (fun Z => outI_eq (E := E) (h := Hp S) e hi [.ref 0] (fun st => Z (d + 1) m_law_law 1483 [some (.float a0), some (.ref 0), some (.ref 65), some (.ref 91), some (.int (nI a4)), j5, j6] st (Hp S))) ?_
  refine wp_st (pc' := 1487) (L' := [some (.float a0), some (.ref 0), some (.ref 65), some (.ref 91), some (.int (nI a4)), j5, j6]) (st' := [.int 2, .int (nI a4), .float a0, .int (f2 (nI (a4 + 1)).toNatClampNeg), .ref 0]) (h' := Hp S) 3 (fun Z => rfl) ?_
  refine wp_st (pc' := 1488) (L' := [some (.float a0), some (.ref 0), some (.ref 65), some (.ref 91), some (.int (nI a4)), j5, j6]) (st' := [.int (nI (a4 + 2)), .float a0, .int (f2 (nI (a4 + 1)).toNatClampNeg), .ref 0]) (h' := Hp S) 1 (fun Z => by rw [← nI_add a4 2]; rfl) ?_
  obtain ⟨n3, f4, e, hi, hw⟩ := hw
  refine wp_st (pc' := 1489) (L' := [some (.float a0), some (.ref 0), some (.ref 65), some (.ref 91), some (.int (nI a4)), j5, j6]) (st' := [.int (f4 (nI (a4 + 2)).toNatClampNeg), .int (f2 (nI (a4 + 1)).toNatClampNeg), .ref 0]) (h' := Hp S) 1 (fun Z => outI_eq (E := E) (h := Hp S) e hi [.int (f2 (nI (a4 + 1)).toNatClampNeg), .ref 0] (fun st => Z (d + 1) m_law_law 1489 [some (.float a0), some (.ref 0), some (.ref 65), some (.ref 91), some (.int (nI a4)), j5, j6] st (Hp S))) ?_
  refine wp_st (pc' := 1493) (L' := [some (.float a0), some (.ref 0), some (.ref 65), some (.ref 91), some (.int (nI a4)), j5, j6]) (st' := [.int 3, .int (nI a4), .float a0, .int (f4 (nI (a4 + 2)).toNatClampNeg), .int (f2 (nI (a4 + 1)).toNatClampNeg), .ref 0]) (h' := Hp S) 3 (fun Z => rfl) ?_
  refine wp_st (pc' := 1494) (L' := [some (.float a0), some (.ref 0), some (.ref 65), some (.ref 91), some (.int (nI a4)), j5, j6]) (st' := [.int (nI (a4 + 3)), .float a0, .int (f4 (nI (a4 + 2)).toNatClampNeg), .int (f2 (nI (a4 + 1)).toNatClampNeg), .ref 0]) (h' := Hp S) 1 (fun Z => by rw [← nI_add a4 3]; rfl) ?_
  obtain ⟨n5, f6, e, hi, hw⟩ := hw
  refine wp_st (pc' := 1495) (L' := [some (.float a0), some (.ref 0), some (.ref 65), some (.ref 91), some (.int (nI a4)), j5, j6]) (st' := [.int (f6 (nI (a4 + 3)).toNatClampNeg), .int (f4 (nI (a4 + 2)).toNatClampNeg), .int (f2 (nI (a4 + 1)).toNatClampNeg), .ref 0]) (h' := Hp S) 1 (fun Z => outI_eq (E := E) (h := Hp S) e hi [.int (f4 (nI (a4 + 2)).toNatClampNeg), .int (f2 (nI (a4 + 1)).toNatClampNeg), .ref 0] (fun st => Z (d + 1) m_law_law 1495 [some (.float a0), some (.ref 0), some (.ref 65), some (.ref 91), some (.int (nI a4)), j5, j6] st (Hp S))) ?_
  by_cases hc : (f6 (nI (a4 + 3)).toNatClampNeg) = 0
  · rw [if_pos hc] at hw
    refine wp_st (pc' := 1502) (L' := [some (.float a0), some (.ref 0), some (.ref 65), some (.ref 91), some (.int (nI a4)), j5, j6]) (st' := [.int (f4 (nI (a4 + 2)).toNatClampNeg), .int (f2 (nI (a4 + 1)).toNatClampNeg), .ref 0]) (h' := Hp S) 1 (fun Z => if_pos hc) ?_
    exact wp_st 1 (fun Z => rfl) (show wp E (d + 1) m_law_law 1503 [some (.float a0), some (.ref 0), some (.ref 65), some (.ref 91), some (.int (nI a4)), j5, j6] [.int 0, .int (f4 (nI (a4 + 2)).toNatClampNeg), .int (f2 (nI (a4 + 1)).toNatClampNeg), .ref 0] (Hp S) (QI Q) from (hw j5 j6))
  · rw [if_neg hc] at hw
    refine wp_st (pc' := 1498) (L' := [some (.float a0), some (.ref 0), some (.ref 65), some (.ref 91), some (.int (nI a4)), j5, j6]) (st' := [.int (f4 (nI (a4 + 2)).toNatClampNeg), .int (f2 (nI (a4 + 1)).toNatClampNeg), .ref 0]) (h' := Hp S) 1 (fun Z => if_neg hc) ?_
    exact wp_st 2 (fun Z => rfl) (show wp E (d + 1) m_law_law 1503 [some (.float a0), some (.ref 0), some (.ref 65), some (.ref 91), some (.int (nI a4)), j5, j6] [.int 1, .int (f4 (nI (a4 + 2)).toNatClampNeg), .int (f2 (nI (a4 + 1)).toNatClampNeg), .ref 0] (Hp S) (QI Q) from (hw j5 j6))
set_option maxRecDepth 4000 in
theorem w_law_law_1503 {E : zX} {d : Nat} {S : St} {a0 : UInt32} {a4 : Nat} {s1 : Int32} {s2 : Int32} {s3 : Int32} {Q : Int32 → St → Prop} (hd : 1 ≤ d) 
    (hw : k_law_see E (d - 1) S s1 s2 s3 (fun x1 S2 =>
    ∃ (n3 : Nat) (f4 : Nat → Int32), out E a0 = some (0, n3, f4) ∧ ix (nI (a4 + 1)) n3 ∧
    ∃ (n5 : Nat) (f6 : Nat → Int32), out E a0 = some (0, n5, f6) ∧ ix (nI (a4 + 2)) n5 ∧
    ∃ (n7 : Nat) (f8 : Nat → Int32), out E a0 = some (0, n7, f8) ∧ ix (nI (a4 + 3)) n7 ∧
    if (f8 (nI (a4 + 3)).toNatClampNeg) = 0 then (
      k_law_law_1536 E d S2 a0 a4 x1 (f4 (nI (a4 + 1)).toNatClampNeg) (f6 (nI (a4 + 2)).toNatClampNeg) 0 Q)
    else (
      k_law_law_1536 E d S2 a0 a4 x1 (f4 (nI (a4 + 1)).toNatClampNeg) (f6 (nI (a4 + 2)).toNatClampNeg) 1 Q))) :
    k_law_law_1503 E d S a0 a4 s1 s2 s3 Q := by
  obtain ⟨d, rfl⟩ := Nat.exists_eq_add_of_le' hd
  intro j5 j6
  show wp E (d + 1) m_law_law 1503 [some (.float a0), some (.ref 0), some (.ref 65), some (.ref 91), some (.int (nI a4)), j5, j6] [.int s3, .int s2, .int s1, .ref 0] (Hp S) (QI Q)
  refine wp_st (pc' := 1504) (L' := [some (.float a0), some (.ref 0), some (.ref 65), some (.ref 91), some (.int (nI a4)), j5, j6]) (st' := [.ref 91, .int s3, .int s2, .int s1, .ref 0]) (h' := Hp S) 1 (fun Z => rfl) ?_
  refine wp_call (pc' := 1507) (rest := []) (fun Z => rfl) rfl hw ?_
  rintro o h1 ⟨x1, S2, rfl, rfl, hw⟩
  refine ⟨_, rfl, ?_⟩
  show wp E (d + 1) m_law_law 1507 [some (.float a0), some (.ref 0), some (.ref 65), some (.ref 91), some (.int (nI a4)), j5, j6] [.int x1] (Hp S2) (QI Q)
  refine wp_st (pc' := 1514) (L' := [some (.float a0), some (.ref 0), some (.ref 65), some (.ref 91), some (.int (nI a4)), some (.int x1), j6]) (st' := [.int 1, .int (nI a4), .float a0, .ref 65]) (h' := Hp S2) 5 (fun Z => rfl) ?_
  refine wp_st (pc' := 1515) (L' := [some (.float a0), some (.ref 0), some (.ref 65), some (.ref 91), some (.int (nI a4)), some (.int x1), j6]) (st' := [.int (nI (a4 + 1)), .float a0, .ref 65]) (h' := Hp S2) 1 (fun Z => by rw [← nI_add a4 1]; rfl) ?_
  obtain ⟨n3, f4, e, hi, hw⟩ := hw
  refine wp_st (pc' := 1516) (L' := [some (.float a0), some (.ref 0), some (.ref 65), some (.ref 91), some (.int (nI a4)), some (.int x1), j6]) (st' := [.int (f4 (nI (a4 + 1)).toNatClampNeg), .ref 65]) (h' := Hp S2) 1 (fun Z => outI_eq (E := E) (h := Hp S2) e hi [.ref 65] (fun st => Z (d + 1) m_law_law 1516 [some (.float a0), some (.ref 0), some (.ref 65), some (.ref 91), some (.int (nI a4)), some (.int x1), j6] st (Hp S2))) ?_
  refine wp_st (pc' := 1520) (L' := [some (.float a0), some (.ref 0), some (.ref 65), some (.ref 91), some (.int (nI a4)), some (.int x1), j6]) (st' := [.int 2, .int (nI a4), .float a0, .int (f4 (nI (a4 + 1)).toNatClampNeg), .ref 65]) (h' := Hp S2) 3 (fun Z => rfl) ?_
  refine wp_st (pc' := 1521) (L' := [some (.float a0), some (.ref 0), some (.ref 65), some (.ref 91), some (.int (nI a4)), some (.int x1), j6]) (st' := [.int (nI (a4 + 2)), .float a0, .int (f4 (nI (a4 + 1)).toNatClampNeg), .ref 65]) (h' := Hp S2) 1 (fun Z => by rw [← nI_add a4 2]; rfl) ?_
  obtain ⟨n5, f6, e, hi, hw⟩ := hw
  refine wp_st (pc' := 1522) (L' := [some (.float a0), some (.ref 0), some (.ref 65), some (.ref 91), some (.int (nI a4)), some (.int x1), j6]) (st' := [.int (f6 (nI (a4 + 2)).toNatClampNeg), .int (f4 (nI (a4 + 1)).toNatClampNeg), .ref 65]) (h' := Hp S2) 1 (fun Z => outI_eq (E := E) (h := Hp S2) e hi [.int (f4 (nI (a4 + 1)).toNatClampNeg), .ref 65] (fun st => Z (d + 1) m_law_law 1522 [some (.float a0), some (.ref 0), some (.ref 65), some (.ref 91), some (.int (nI a4)), some (.int x1), j6] st (Hp S2))) ?_
  refine wp_st (pc' := 1526) (L' := [some (.float a0), some (.ref 0), some (.ref 65), some (.ref 91), some (.int (nI a4)), some (.int x1), j6]) (st' := [.int 3, .int (nI a4), .float a0, .int (f6 (nI (a4 + 2)).toNatClampNeg), .int (f4 (nI (a4 + 1)).toNatClampNeg), .ref 65]) (h' := Hp S2) 3 (fun Z => rfl) ?_
  refine wp_st (pc' := 1527) (L' := [some (.float a0), some (.ref 0), some (.ref 65), some (.ref 91), some (.int (nI a4)), some (.int x1), j6]) (st' := [.int (nI (a4 + 3)), .float a0, .int (f6 (nI (a4 + 2)).toNatClampNeg), .int (f4 (nI (a4 + 1)).toNatClampNeg), .ref 65]) (h' := Hp S2) 1 (fun Z => by rw [← nI_add a4 3]; rfl) ?_
  obtain ⟨n7, f8, e, hi, hw⟩ := hw
  refine wp_st (pc' := 1528) (L' := [some (.float a0), some (.ref 0), some (.ref 65), some (.ref 91), some (.int (nI a4)), some (.int x1), j6]) (st' := [.int (f8 (nI (a4 + 3)).toNatClampNeg), .int (f6 (nI (a4 + 2)).toNatClampNeg), .int (f4 (nI (a4 + 1)).toNatClampNeg), .ref 65]) (h' := Hp S2) 1 (fun Z => outI_eq (E := E) (h := Hp S2) e hi [.int (f6 (nI (a4 + 2)).toNatClampNeg), .int (f4 (nI (a4 + 1)).toNatClampNeg), .ref 65] (fun st => Z (d + 1) m_law_law 1528 [some (.float a0), some (.ref 0), some (.ref 65), some (.ref 91), some (.int (nI a4)), some (.int x1), j6] st (Hp S2))) ?_
  by_cases hc : (f8 (nI (a4 + 3)).toNatClampNeg) = 0
  · rw [if_pos hc] at hw
    refine wp_st (pc' := 1535) (L' := [some (.float a0), some (.ref 0), some (.ref 65), some (.ref 91), some (.int (nI a4)), some (.int x1), j6]) (st' := [.int (f6 (nI (a4 + 2)).toNatClampNeg), .int (f4 (nI (a4 + 1)).toNatClampNeg), .ref 65]) (h' := Hp S2) 1 (fun Z => if_pos hc) ?_
    exact wp_st 1 (fun Z => rfl) (show wp E (d + 1) m_law_law 1536 [some (.float a0), some (.ref 0), some (.ref 65), some (.ref 91), some (.int (nI a4)), some (.int x1), j6] [.int 0, .int (f6 (nI (a4 + 2)).toNatClampNeg), .int (f4 (nI (a4 + 1)).toNatClampNeg), .ref 65] (Hp S2) (QI Q) from (hw j6))
  · rw [if_neg hc] at hw
    refine wp_st (pc' := 1531) (L' := [some (.float a0), some (.ref 0), some (.ref 65), some (.ref 91), some (.int (nI a4)), some (.int x1), j6]) (st' := [.int (f6 (nI (a4 + 2)).toNatClampNeg), .int (f4 (nI (a4 + 1)).toNatClampNeg), .ref 65]) (h' := Hp S2) 1 (fun Z => if_neg hc) ?_
    exact wp_st 2 (fun Z => rfl) (show wp E (d + 1) m_law_law 1536 [some (.float a0), some (.ref 0), some (.ref 65), some (.ref 91), some (.int (nI a4)), some (.int x1), j6] [.int 1, .int (f6 (nI (a4 + 2)).toNatClampNeg), .int (f4 (nI (a4 + 1)).toNatClampNeg), .ref 65] (Hp S2) (QI Q) from (hw j6))
set_option maxRecDepth 4000 in
theorem w_law_law_1536 {E : zX} {d : Nat} {S : St} {a0 : UInt32} {a4 : Nat} {a5 : Int32} {s1 : Int32} {s2 : Int32} {s3 : Int32} {Q : Int32 → St → Prop} (hd : 1 ≤ d) 
    (hw : k_m_see E (d - 1) S s1 s2 s3 (fun x1 S2 =>
    k_m_thrown E (d - 1) S2 (fun x3 S4 =>
    if x3 = a5 then (
      if a5 = 0 then (
        if (lg_cmp (catL (S4 91 0) (S4 91 1)) (Int32.toInt64 x1)) = 0 then (
          k_law_law_2231 E d S4 a0 a4 Q)
        else (
          Q (0 : Int32) S4))
      else (
        k_law_law_2231 E d S4 a0 a4 Q))
    else (
      Q (0 : Int32) S4)))) :
    k_law_law_1536 E d S a0 a4 a5 s1 s2 s3 Q := by
  obtain ⟨d, rfl⟩ := Nat.exists_eq_add_of_le' hd
  intro j6
  show wp E (d + 1) m_law_law 1536 [some (.float a0), some (.ref 0), some (.ref 65), some (.ref 91), some (.int (nI a4)), some (.int a5), j6] [.int s3, .int s2, .int s1, .ref 65] (Hp S) (QI Q)
  refine wp_call (pc' := 1539) (rest := []) (fun Z => rfl) (isO_of sh65) hw ?_
  rintro o h1 ⟨x1, S2, rfl, rfl, hw⟩
  refine ⟨_, rfl, ?_⟩
  show wp E (d + 1) m_law_law 1539 [some (.float a0), some (.ref 0), some (.ref 65), some (.ref 91), some (.int (nI a4)), some (.int a5), j6] [.int x1] (Hp S2) (QI Q)
  refine wp_st (pc' := 1542) (L' := [some (.float a0), some (.ref 0), some (.ref 65), some (.ref 91), some (.int (nI a4)), some (.int a5), some (.int x1)]) (st' := [.ref 65]) (h' := Hp S2) 2 (fun Z => rfl) ?_
  refine wp_call (pc' := 1545) (rest := []) (fun Z => rfl) (isO_of sh65) hw ?_
  rintro o h1 ⟨x3, S4, rfl, rfl, hw⟩
  refine ⟨_, rfl, ?_⟩
  show wp E (d + 1) m_law_law 1545 [some (.float a0), some (.ref 0), some (.ref 65), some (.ref 91), some (.int (nI a4)), some (.int a5), some (.int x1)] [.int x3] (Hp S4) (QI Q)
  refine wp_st (pc' := 1547) (L' := [some (.float a0), some (.ref 0), some (.ref 65), some (.ref 91), some (.int (nI a4)), some (.int a5), some (.int x1)]) (st' := [.int a5, .int x3]) (h' := Hp S4) 1 (fun Z => rfl) ?_
  by_cases hc : x3 = a5
  · rw [if_pos hc] at hw
    refine wp_st (pc' := 1552) (L' := [some (.float a0), some (.ref 0), some (.ref 65), some (.ref 91), some (.int (nI a4)), some (.int a5), some (.int x1)]) (st' := []) (h' := Hp S4) 1 (fun Z => if_pos hc) ?_
    refine wp_st (pc' := 1554) (L' := [some (.float a0), some (.ref 0), some (.ref 65), some (.ref 91), some (.int (nI a4)), some (.int a5), some (.int x1)]) (st' := [.int a5]) (h' := Hp S4) 1 (fun Z => rfl) ?_
    by_cases hc : a5 = 0
    · rw [if_pos hc] at hw
      refine wp_st (pc' := 1557) (L' := [some (.float a0), some (.ref 0), some (.ref 65), some (.ref 91), some (.int (nI a4)), some (.int a5), some (.int x1)]) (st' := []) (h' := Hp S4) 1 (fun Z => if_pos hc) ?_
      refine wp_st (pc' := 1559) (L' := [some (.float a0), some (.ref 0), some (.ref 65), some (.ref 91), some (.int (nI a4)), some (.int a5), some (.int x1)]) (st' := [.int 0, .ref 91]) (h' := Hp S4) 2 (fun Z => rfl) ?_
      refine wp_st (pc' := 1560) (L' := [some (.float a0), some (.ref 0), some (.ref 65), some (.ref 91), some (.int (nI a4)), some (.int a5), some (.int x1)]) (st' := [.long (catL (S4 91 0) (S4 91 1))]) (h' := Hp S4) 1 (fun Z => ldJ0 (E := E) sh91 (by decide) [] (fun st => Z (d + 1) m_law_law 1560 [some (.float a0), some (.ref 0), some (.ref 65), some (.ref 91), some (.int (nI a4)), some (.int a5), some (.int x1)] st (Hp S4))) ?_
      refine wp_st (pc' := 1564) (L' := [some (.float a0), some (.ref 0), some (.ref 65), some (.ref 91), some (.int (nI a4)), some (.int a5), some (.int x1)]) (st' := [.int (lg_cmp (catL (S4 91 0) (S4 91 1)) (Int32.toInt64 x1))]) (h' := Hp S4) 3 (fun Z => rfl) ?_
      by_cases hc : (lg_cmp (catL (S4 91 0) (S4 91 1)) (Int32.toInt64 x1)) = 0
      · rw [if_pos hc] at hw
        refine wp_st (pc' := 1569) (L' := [some (.float a0), some (.ref 0), some (.ref 65), some (.ref 91), some (.int (nI a4)), some (.int a5), some (.int x1)]) (st' := []) (h' := Hp S4) 1 (fun Z => if_pos hc) ?_
        exact wp_st 1 (fun Z => rfl) (show wp E (d + 1) m_law_law 2231 [some (.float a0), some (.ref 0), some (.ref 65), some (.ref 91), some (.int (nI a4)), some (.int a5), some (.int x1)] [] (Hp S4) (QI Q) from (hw (some (.int a5)) (some (.int x1))))
      · rw [if_neg hc] at hw
        refine wp_st (pc' := 1567) (L' := [some (.float a0), some (.ref 0), some (.ref 65), some (.ref 91), some (.int (nI a4)), some (.int a5), some (.int x1)]) (st' := []) (h' := Hp S4) 1 (fun Z => if_neg hc) ?_
        refine wp_st (pc' := 1568) (L' := [some (.float a0), some (.ref 0), some (.ref 65), some (.ref 91), some (.int (nI a4)), some (.int a5), some (.int x1)]) (st' := [.int 0]) (h' := Hp S4) 1 (fun Z => rfl) ?_
        exact wp_ret (fun Z => rfl) ⟨_, _, rfl, rfl, hw⟩
    · rw [if_neg hc] at hw
      refine wp_st (pc' := 1569) (L' := [some (.float a0), some (.ref 0), some (.ref 65), some (.ref 91), some (.int (nI a4)), some (.int a5), some (.int x1)]) (st' := []) (h' := Hp S4) 1 (fun Z => if_neg hc) ?_
      exact wp_st 1 (fun Z => rfl) (show wp E (d + 1) m_law_law 2231 [some (.float a0), some (.ref 0), some (.ref 65), some (.ref 91), some (.int (nI a4)), some (.int a5), some (.int x1)] [] (Hp S4) (QI Q) from (hw (some (.int a5)) (some (.int x1))))
  · rw [if_neg hc] at hw
    refine wp_st (pc' := 1550) (L' := [some (.float a0), some (.ref 0), some (.ref 65), some (.ref 91), some (.int (nI a4)), some (.int a5), some (.int x1)]) (st' := []) (h' := Hp S4) 1 (fun Z => if_neg hc) ?_
    refine wp_st (pc' := 1551) (L' := [some (.float a0), some (.ref 0), some (.ref 65), some (.ref 91), some (.int (nI a4)), some (.int a5), some (.int x1)]) (st' := [.int 0]) (h' := Hp S4) 1 (fun Z => rfl) ?_
    exact wp_ret (fun Z => rfl) ⟨_, _, rfl, rfl, hw⟩
set_option maxRecDepth 4000 in
theorem w_law_law_1572 {E : zX} {d : Nat} {S : St} {a0 : UInt32} {a4 : Nat} {Q : Int32 → St → Prop} (hd : 1 ≤ d) 
    (hw : k_x_forget E (d - 1) S (fun S2 =>
    k_m_forget E (d - 1) S2 (fun S4 =>
    k_law_law_2231 E d S4 a0 a4 Q))) :
    k_law_law_1572 E d S a0 a4 Q := by
  obtain ⟨d, rfl⟩ := Nat.exists_eq_add_of_le' hd
  intro j5 j6
  show wp E (d + 1) m_law_law 1572 [some (.float a0), some (.ref 0), some (.ref 65), some (.ref 91), some (.int (nI a4)), j5, j6] [] (Hp S) (QI Q)
  refine wp_st (pc' := 1573) (L' := [some (.float a0), some (.ref 0), some (.ref 65), some (.ref 91), some (.int (nI a4)), j5, j6]) (st' := [.ref 0]) (h' := Hp S) 1 (fun Z => rfl) ?_
  refine wp_call (pc' := 1576) (rest := []) (fun Z => rfl) (isO_of sh0) hw ?_
  rintro o h1 ⟨S2, rfl, rfl, hw⟩
  refine ⟨_, rfl, ?_⟩
  show wp E (d + 1) m_law_law 1576 [some (.float a0), some (.ref 0), some (.ref 65), some (.ref 91), some (.int (nI a4)), j5, j6] [] (Hp S2) (QI Q)
  refine wp_st (pc' := 1577) (L' := [some (.float a0), some (.ref 0), some (.ref 65), some (.ref 91), some (.int (nI a4)), j5, j6]) (st' := [.ref 65]) (h' := Hp S2) 1 (fun Z => rfl) ?_
  refine wp_call (pc' := 1580) (rest := []) (fun Z => rfl) (isO_of sh65) hw ?_
  rintro o h1 ⟨S4, rfl, rfl, hw⟩
  refine ⟨_, rfl, ?_⟩
  show wp E (d + 1) m_law_law 1580 [some (.float a0), some (.ref 0), some (.ref 65), some (.ref 91), some (.int (nI a4)), j5, j6] [] (Hp S4) (QI Q)
  exact wp_st 1 (fun Z => rfl) (show wp E (d + 1) m_law_law 2231 [some (.float a0), some (.ref 0), some (.ref 65), some (.ref 91), some (.int (nI a4)), j5, j6] [] (Hp S4) (QI Q) from (hw j5 j6))
set_option maxRecDepth 4000 in
theorem w_law_law_1583 {E : zX} {d : Nat} {S : St} {a0 : UInt32} {a4 : Nat} {Q : Int32 → St → Prop} (hd : 1 ≤ d) 
    (hw : ∃ (n1 : Nat) (f2 : Nat → Int32), out E a0 = some (0, n1, f2) ∧ ix (nI (a4 + 1)) n1 ∧
    k_law_milder E (d - 1) S (f2 (nI (a4 + 1)).toNatClampNeg) (fun x3 S4 =>
    ∃ (n5 : Nat) (f6 : Nat → Int32), out E a0 = some (0, n5, f6) ∧ ix (nI (a4 + 1)) n5 ∧
    k_m_milder E (d - 1) S4 (f6 (nI (a4 + 1)).toNatClampNeg) (fun x7 S8 =>
    k_m_thrown E (d - 1) S8 (fun x9 S10 =>
    if x9 = x3 then (
      if x3 = 0 then (
        if (lg_cmp (catL (S10 91 0) (S10 91 1)) (Int32.toInt64 x7)) = 0 then (
          k_law_law_2231 E d S10 a0 a4 Q)
        else (
          Q (0 : Int32) S10))
      else (
        k_law_law_2231 E d S10 a0 a4 Q))
    else (
      Q (0 : Int32) S10))))) :
    k_law_law_1583 E d S a0 a4 Q := by
  obtain ⟨d, rfl⟩ := Nat.exists_eq_add_of_le' hd
  intro j5 j6
  show wp E (d + 1) m_law_law 1583 [some (.float a0), some (.ref 0), some (.ref 65), some (.ref 91), some (.int (nI a4)), j5, j6] [] (Hp S) (QI Q)
  refine wp_st (pc' := 1588) (L' := [some (.float a0), some (.ref 0), some (.ref 65), some (.ref 91), some (.int (nI a4)), j5, j6]) (st' := [.int 1, .int (nI a4), .float a0, .ref 0]) (h' := Hp S) 4 (fun Z => rfl) ?_
  refine wp_st (pc' := 1589) (L' := [some (.float a0), some (.ref 0), some (.ref 65), some (.ref 91), some (.int (nI a4)), j5, j6]) (st' := [.int (nI (a4 + 1)), .float a0, .ref 0]) (h' := Hp S) 1 (fun Z => by rw [← nI_add a4 1]; rfl) ?_
  obtain ⟨n1, f2, e, hi, hw⟩ := hw
  refine wp_st (pc' := 1590) (L' := [some (.float a0), some (.ref 0), some (.ref 65), some (.ref 91), some (.int (nI a4)), j5, j6]) (st' := [.int (f2 (nI (a4 + 1)).toNatClampNeg), .ref 0]) (h' := Hp S) 1 (fun Z => outI_eq (E := E) (h := Hp S) e hi [.ref 0] (fun st => Z (d + 1) m_law_law 1590 [some (.float a0), some (.ref 0), some (.ref 65), some (.ref 91), some (.int (nI a4)), j5, j6] st (Hp S))) ?_
  refine wp_st (pc' := 1591) (L' := [some (.float a0), some (.ref 0), some (.ref 65), some (.ref 91), some (.int (nI a4)), j5, j6]) (st' := [.ref 91, .int (f2 (nI (a4 + 1)).toNatClampNeg), .ref 0]) (h' := Hp S) 1 (fun Z => rfl) ?_
  refine wp_call (pc' := 1594) (rest := []) (fun Z => rfl) rfl hw ?_
  rintro o h1 ⟨x3, S4, rfl, rfl, hw⟩
  refine ⟨_, rfl, ?_⟩
  show wp E (d + 1) m_law_law 1594 [some (.float a0), some (.ref 0), some (.ref 65), some (.ref 91), some (.int (nI a4)), j5, j6] [.int x3] (Hp S4) (QI Q)
  refine wp_st (pc' := 1601) (L' := [some (.float a0), some (.ref 0), some (.ref 65), some (.ref 91), some (.int (nI a4)), some (.int x3), j6]) (st' := [.int 1, .int (nI a4), .float a0, .ref 65]) (h' := Hp S4) 5 (fun Z => rfl) ?_
  refine wp_st (pc' := 1602) (L' := [some (.float a0), some (.ref 0), some (.ref 65), some (.ref 91), some (.int (nI a4)), some (.int x3), j6]) (st' := [.int (nI (a4 + 1)), .float a0, .ref 65]) (h' := Hp S4) 1 (fun Z => by rw [← nI_add a4 1]; rfl) ?_
  obtain ⟨n5, f6, e, hi, hw⟩ := hw
  refine wp_st (pc' := 1603) (L' := [some (.float a0), some (.ref 0), some (.ref 65), some (.ref 91), some (.int (nI a4)), some (.int x3), j6]) (st' := [.int (f6 (nI (a4 + 1)).toNatClampNeg), .ref 65]) (h' := Hp S4) 1 (fun Z => outI_eq (E := E) (h := Hp S4) e hi [.ref 65] (fun st => Z (d + 1) m_law_law 1603 [some (.float a0), some (.ref 0), some (.ref 65), some (.ref 91), some (.int (nI a4)), some (.int x3), j6] st (Hp S4))) ?_
  refine wp_call (pc' := 1606) (rest := []) (fun Z => rfl) (isO_of sh65) hw ?_
  rintro o h1 ⟨x7, S8, rfl, rfl, hw⟩
  refine ⟨_, rfl, ?_⟩
  show wp E (d + 1) m_law_law 1606 [some (.float a0), some (.ref 0), some (.ref 65), some (.ref 91), some (.int (nI a4)), some (.int x3), j6] [.int x7] (Hp S8) (QI Q)
  refine wp_st (pc' := 1609) (L' := [some (.float a0), some (.ref 0), some (.ref 65), some (.ref 91), some (.int (nI a4)), some (.int x3), some (.int x7)]) (st' := [.ref 65]) (h' := Hp S8) 2 (fun Z => rfl) ?_
  refine wp_call (pc' := 1612) (rest := []) (fun Z => rfl) (isO_of sh65) hw ?_
  rintro o h1 ⟨x9, S10, rfl, rfl, hw⟩
  refine ⟨_, rfl, ?_⟩
  show wp E (d + 1) m_law_law 1612 [some (.float a0), some (.ref 0), some (.ref 65), some (.ref 91), some (.int (nI a4)), some (.int x3), some (.int x7)] [.int x9] (Hp S10) (QI Q)
  refine wp_st (pc' := 1614) (L' := [some (.float a0), some (.ref 0), some (.ref 65), some (.ref 91), some (.int (nI a4)), some (.int x3), some (.int x7)]) (st' := [.int x3, .int x9]) (h' := Hp S10) 1 (fun Z => rfl) ?_
  by_cases hc : x9 = x3
  · rw [if_pos hc] at hw
    refine wp_st (pc' := 1619) (L' := [some (.float a0), some (.ref 0), some (.ref 65), some (.ref 91), some (.int (nI a4)), some (.int x3), some (.int x7)]) (st' := []) (h' := Hp S10) 1 (fun Z => if_pos hc) ?_
    refine wp_st (pc' := 1621) (L' := [some (.float a0), some (.ref 0), some (.ref 65), some (.ref 91), some (.int (nI a4)), some (.int x3), some (.int x7)]) (st' := [.int x3]) (h' := Hp S10) 1 (fun Z => rfl) ?_
    by_cases hc : x3 = 0
    · rw [if_pos hc] at hw
      refine wp_st (pc' := 1624) (L' := [some (.float a0), some (.ref 0), some (.ref 65), some (.ref 91), some (.int (nI a4)), some (.int x3), some (.int x7)]) (st' := []) (h' := Hp S10) 1 (fun Z => if_pos hc) ?_
      refine wp_st (pc' := 1626) (L' := [some (.float a0), some (.ref 0), some (.ref 65), some (.ref 91), some (.int (nI a4)), some (.int x3), some (.int x7)]) (st' := [.int 0, .ref 91]) (h' := Hp S10) 2 (fun Z => rfl) ?_
      refine wp_st (pc' := 1627) (L' := [some (.float a0), some (.ref 0), some (.ref 65), some (.ref 91), some (.int (nI a4)), some (.int x3), some (.int x7)]) (st' := [.long (catL (S10 91 0) (S10 91 1))]) (h' := Hp S10) 1 (fun Z => ldJ0 (E := E) sh91 (by decide) [] (fun st => Z (d + 1) m_law_law 1627 [some (.float a0), some (.ref 0), some (.ref 65), some (.ref 91), some (.int (nI a4)), some (.int x3), some (.int x7)] st (Hp S10))) ?_
      refine wp_st (pc' := 1631) (L' := [some (.float a0), some (.ref 0), some (.ref 65), some (.ref 91), some (.int (nI a4)), some (.int x3), some (.int x7)]) (st' := [.int (lg_cmp (catL (S10 91 0) (S10 91 1)) (Int32.toInt64 x7))]) (h' := Hp S10) 3 (fun Z => rfl) ?_
      by_cases hc : (lg_cmp (catL (S10 91 0) (S10 91 1)) (Int32.toInt64 x7)) = 0
      · rw [if_pos hc] at hw
        refine wp_st (pc' := 1636) (L' := [some (.float a0), some (.ref 0), some (.ref 65), some (.ref 91), some (.int (nI a4)), some (.int x3), some (.int x7)]) (st' := []) (h' := Hp S10) 1 (fun Z => if_pos hc) ?_
        exact wp_st 1 (fun Z => rfl) (show wp E (d + 1) m_law_law 2231 [some (.float a0), some (.ref 0), some (.ref 65), some (.ref 91), some (.int (nI a4)), some (.int x3), some (.int x7)] [] (Hp S10) (QI Q) from (hw (some (.int x3)) (some (.int x7))))
      · rw [if_neg hc] at hw
        refine wp_st (pc' := 1634) (L' := [some (.float a0), some (.ref 0), some (.ref 65), some (.ref 91), some (.int (nI a4)), some (.int x3), some (.int x7)]) (st' := []) (h' := Hp S10) 1 (fun Z => if_neg hc) ?_
        refine wp_st (pc' := 1635) (L' := [some (.float a0), some (.ref 0), some (.ref 65), some (.ref 91), some (.int (nI a4)), some (.int x3), some (.int x7)]) (st' := [.int 0]) (h' := Hp S10) 1 (fun Z => rfl) ?_
        exact wp_ret (fun Z => rfl) ⟨_, _, rfl, rfl, hw⟩
    · rw [if_neg hc] at hw
      refine wp_st (pc' := 1636) (L' := [some (.float a0), some (.ref 0), some (.ref 65), some (.ref 91), some (.int (nI a4)), some (.int x3), some (.int x7)]) (st' := []) (h' := Hp S10) 1 (fun Z => if_neg hc) ?_
      exact wp_st 1 (fun Z => rfl) (show wp E (d + 1) m_law_law 2231 [some (.float a0), some (.ref 0), some (.ref 65), some (.ref 91), some (.int (nI a4)), some (.int x3), some (.int x7)] [] (Hp S10) (QI Q) from (hw (some (.int x3)) (some (.int x7))))
  · rw [if_neg hc] at hw
    refine wp_st (pc' := 1617) (L' := [some (.float a0), some (.ref 0), some (.ref 65), some (.ref 91), some (.int (nI a4)), some (.int x3), some (.int x7)]) (st' := []) (h' := Hp S10) 1 (fun Z => if_neg hc) ?_
    refine wp_st (pc' := 1618) (L' := [some (.float a0), some (.ref 0), some (.ref 65), some (.ref 91), some (.int (nI a4)), some (.int x3), some (.int x7)]) (st' := [.int 0]) (h' := Hp S10) 1 (fun Z => rfl) ?_
    exact wp_ret (fun Z => rfl) ⟨_, _, rfl, rfl, hw⟩
set_option maxRecDepth 4000 in
theorem w_law_law_1639 {E : zX} {d : Nat} {S : St} {a0 : UInt32} {a4 : Nat} {Q : Int32 → St → Prop} (hd : 1 ≤ d) 
    (hw : ∃ (n1 : Nat) (f2 : Nat → Int32), out E a0 = some (0, n1, f2) ∧ ix (nI (a4 + 1)) n1 ∧
    k_law_look E (d - 1) S (f2 (nI (a4 + 1)).toNatClampNeg) (fun x3 S4 =>
    ∃ (n5 : Nat) (f6 : Nat → Int32), out E a0 = some (0, n5, f6) ∧ ix (nI (a4 + 1)) n5 ∧
    k_m_look E (d - 1) S4 (f6 (nI (a4 + 1)).toNatClampNeg) (fun x7 S8 =>
    k_m_thrown E (d - 1) S8 (fun x9 S10 =>
    if x9 = x3 then (
      if x3 = 0 then (
        if (lg_cmp (catL (S10 91 0) (S10 91 1)) (Int32.toInt64 x7)) = 0 then (
          k_law_law_2231 E d S10 a0 a4 Q)
        else (
          Q (0 : Int32) S10))
      else (
        k_law_law_2231 E d S10 a0 a4 Q))
    else (
      Q (0 : Int32) S10))))) :
    k_law_law_1639 E d S a0 a4 Q := by
  obtain ⟨d, rfl⟩ := Nat.exists_eq_add_of_le' hd
  intro j5 j6
  show wp E (d + 1) m_law_law 1639 [some (.float a0), some (.ref 0), some (.ref 65), some (.ref 91), some (.int (nI a4)), j5, j6] [] (Hp S) (QI Q)
  refine wp_st (pc' := 1644) (L' := [some (.float a0), some (.ref 0), some (.ref 65), some (.ref 91), some (.int (nI a4)), j5, j6]) (st' := [.int 1, .int (nI a4), .float a0, .ref 0]) (h' := Hp S) 4 (fun Z => rfl) ?_
  refine wp_st (pc' := 1645) (L' := [some (.float a0), some (.ref 0), some (.ref 65), some (.ref 91), some (.int (nI a4)), j5, j6]) (st' := [.int (nI (a4 + 1)), .float a0, .ref 0]) (h' := Hp S) 1 (fun Z => by rw [← nI_add a4 1]; rfl) ?_
  obtain ⟨n1, f2, e, hi, hw⟩ := hw
  refine wp_st (pc' := 1646) (L' := [some (.float a0), some (.ref 0), some (.ref 65), some (.ref 91), some (.int (nI a4)), j5, j6]) (st' := [.int (f2 (nI (a4 + 1)).toNatClampNeg), .ref 0]) (h' := Hp S) 1 (fun Z => outI_eq (E := E) (h := Hp S) e hi [.ref 0] (fun st => Z (d + 1) m_law_law 1646 [some (.float a0), some (.ref 0), some (.ref 65), some (.ref 91), some (.int (nI a4)), j5, j6] st (Hp S))) ?_
  refine wp_st (pc' := 1647) (L' := [some (.float a0), some (.ref 0), some (.ref 65), some (.ref 91), some (.int (nI a4)), j5, j6]) (st' := [.ref 91, .int (f2 (nI (a4 + 1)).toNatClampNeg), .ref 0]) (h' := Hp S) 1 (fun Z => rfl) ?_
  refine wp_call (pc' := 1650) (rest := []) (fun Z => rfl) rfl hw ?_
  rintro o h1 ⟨x3, S4, rfl, rfl, hw⟩
  refine ⟨_, rfl, ?_⟩
  show wp E (d + 1) m_law_law 1650 [some (.float a0), some (.ref 0), some (.ref 65), some (.ref 91), some (.int (nI a4)), j5, j6] [.int x3] (Hp S4) (QI Q)
  refine wp_st (pc' := 1657) (L' := [some (.float a0), some (.ref 0), some (.ref 65), some (.ref 91), some (.int (nI a4)), some (.int x3), j6]) (st' := [.int 1, .int (nI a4), .float a0, .ref 65]) (h' := Hp S4) 5 (fun Z => rfl) ?_
  refine wp_st (pc' := 1658) (L' := [some (.float a0), some (.ref 0), some (.ref 65), some (.ref 91), some (.int (nI a4)), some (.int x3), j6]) (st' := [.int (nI (a4 + 1)), .float a0, .ref 65]) (h' := Hp S4) 1 (fun Z => by rw [← nI_add a4 1]; rfl) ?_
  obtain ⟨n5, f6, e, hi, hw⟩ := hw
  refine wp_st (pc' := 1659) (L' := [some (.float a0), some (.ref 0), some (.ref 65), some (.ref 91), some (.int (nI a4)), some (.int x3), j6]) (st' := [.int (f6 (nI (a4 + 1)).toNatClampNeg), .ref 65]) (h' := Hp S4) 1 (fun Z => outI_eq (E := E) (h := Hp S4) e hi [.ref 65] (fun st => Z (d + 1) m_law_law 1659 [some (.float a0), some (.ref 0), some (.ref 65), some (.ref 91), some (.int (nI a4)), some (.int x3), j6] st (Hp S4))) ?_
  refine wp_call (pc' := 1662) (rest := []) (fun Z => rfl) (isO_of sh65) hw ?_
  rintro o h1 ⟨x7, S8, rfl, rfl, hw⟩
  refine ⟨_, rfl, ?_⟩
  show wp E (d + 1) m_law_law 1662 [some (.float a0), some (.ref 0), some (.ref 65), some (.ref 91), some (.int (nI a4)), some (.int x3), j6] [.int x7] (Hp S8) (QI Q)
  refine wp_st (pc' := 1665) (L' := [some (.float a0), some (.ref 0), some (.ref 65), some (.ref 91), some (.int (nI a4)), some (.int x3), some (.int x7)]) (st' := [.ref 65]) (h' := Hp S8) 2 (fun Z => rfl) ?_
  refine wp_call (pc' := 1668) (rest := []) (fun Z => rfl) (isO_of sh65) hw ?_
  rintro o h1 ⟨x9, S10, rfl, rfl, hw⟩
  refine ⟨_, rfl, ?_⟩
  show wp E (d + 1) m_law_law 1668 [some (.float a0), some (.ref 0), some (.ref 65), some (.ref 91), some (.int (nI a4)), some (.int x3), some (.int x7)] [.int x9] (Hp S10) (QI Q)
  refine wp_st (pc' := 1670) (L' := [some (.float a0), some (.ref 0), some (.ref 65), some (.ref 91), some (.int (nI a4)), some (.int x3), some (.int x7)]) (st' := [.int x3, .int x9]) (h' := Hp S10) 1 (fun Z => rfl) ?_
  by_cases hc : x9 = x3
  · rw [if_pos hc] at hw
    refine wp_st (pc' := 1675) (L' := [some (.float a0), some (.ref 0), some (.ref 65), some (.ref 91), some (.int (nI a4)), some (.int x3), some (.int x7)]) (st' := []) (h' := Hp S10) 1 (fun Z => if_pos hc) ?_
    refine wp_st (pc' := 1677) (L' := [some (.float a0), some (.ref 0), some (.ref 65), some (.ref 91), some (.int (nI a4)), some (.int x3), some (.int x7)]) (st' := [.int x3]) (h' := Hp S10) 1 (fun Z => rfl) ?_
    by_cases hc : x3 = 0
    · rw [if_pos hc] at hw
      refine wp_st (pc' := 1680) (L' := [some (.float a0), some (.ref 0), some (.ref 65), some (.ref 91), some (.int (nI a4)), some (.int x3), some (.int x7)]) (st' := []) (h' := Hp S10) 1 (fun Z => if_pos hc) ?_
      refine wp_st (pc' := 1682) (L' := [some (.float a0), some (.ref 0), some (.ref 65), some (.ref 91), some (.int (nI a4)), some (.int x3), some (.int x7)]) (st' := [.int 0, .ref 91]) (h' := Hp S10) 2 (fun Z => rfl) ?_
      refine wp_st (pc' := 1683) (L' := [some (.float a0), some (.ref 0), some (.ref 65), some (.ref 91), some (.int (nI a4)), some (.int x3), some (.int x7)]) (st' := [.long (catL (S10 91 0) (S10 91 1))]) (h' := Hp S10) 1 (fun Z => ldJ0 (E := E) sh91 (by decide) [] (fun st => Z (d + 1) m_law_law 1683 [some (.float a0), some (.ref 0), some (.ref 65), some (.ref 91), some (.int (nI a4)), some (.int x3), some (.int x7)] st (Hp S10))) ?_
      refine wp_st (pc' := 1687) (L' := [some (.float a0), some (.ref 0), some (.ref 65), some (.ref 91), some (.int (nI a4)), some (.int x3), some (.int x7)]) (st' := [.int (lg_cmp (catL (S10 91 0) (S10 91 1)) (Int32.toInt64 x7))]) (h' := Hp S10) 3 (fun Z => rfl) ?_
      by_cases hc : (lg_cmp (catL (S10 91 0) (S10 91 1)) (Int32.toInt64 x7)) = 0
      · rw [if_pos hc] at hw
        refine wp_st (pc' := 1692) (L' := [some (.float a0), some (.ref 0), some (.ref 65), some (.ref 91), some (.int (nI a4)), some (.int x3), some (.int x7)]) (st' := []) (h' := Hp S10) 1 (fun Z => if_pos hc) ?_
        exact wp_st 1 (fun Z => rfl) (show wp E (d + 1) m_law_law 2231 [some (.float a0), some (.ref 0), some (.ref 65), some (.ref 91), some (.int (nI a4)), some (.int x3), some (.int x7)] [] (Hp S10) (QI Q) from (hw (some (.int x3)) (some (.int x7))))
      · rw [if_neg hc] at hw
        refine wp_st (pc' := 1690) (L' := [some (.float a0), some (.ref 0), some (.ref 65), some (.ref 91), some (.int (nI a4)), some (.int x3), some (.int x7)]) (st' := []) (h' := Hp S10) 1 (fun Z => if_neg hc) ?_
        refine wp_st (pc' := 1691) (L' := [some (.float a0), some (.ref 0), some (.ref 65), some (.ref 91), some (.int (nI a4)), some (.int x3), some (.int x7)]) (st' := [.int 0]) (h' := Hp S10) 1 (fun Z => rfl) ?_
        exact wp_ret (fun Z => rfl) ⟨_, _, rfl, rfl, hw⟩
    · rw [if_neg hc] at hw
      refine wp_st (pc' := 1692) (L' := [some (.float a0), some (.ref 0), some (.ref 65), some (.ref 91), some (.int (nI a4)), some (.int x3), some (.int x7)]) (st' := []) (h' := Hp S10) 1 (fun Z => if_neg hc) ?_
      exact wp_st 1 (fun Z => rfl) (show wp E (d + 1) m_law_law 2231 [some (.float a0), some (.ref 0), some (.ref 65), some (.ref 91), some (.int (nI a4)), some (.int x3), some (.int x7)] [] (Hp S10) (QI Q) from (hw (some (.int x3)) (some (.int x7))))
  · rw [if_neg hc] at hw
    refine wp_st (pc' := 1673) (L' := [some (.float a0), some (.ref 0), some (.ref 65), some (.ref 91), some (.int (nI a4)), some (.int x3), some (.int x7)]) (st' := []) (h' := Hp S10) 1 (fun Z => if_neg hc) ?_
    refine wp_st (pc' := 1674) (L' := [some (.float a0), some (.ref 0), some (.ref 65), some (.ref 91), some (.int (nI a4)), some (.int x3), some (.int x7)]) (st' := [.int 0]) (h' := Hp S10) 1 (fun Z => rfl) ?_
    exact wp_ret (fun Z => rfl) ⟨_, _, rfl, rfl, hw⟩
set_option maxRecDepth 4000 in
theorem w_law_law_1695 {E : zX} {d : Nat} {S : St} {a0 : UInt32} {a4 : Nat} {Q : Int32 → St → Prop} (hd : 1 ≤ d) 
    (hw : ∃ (n1 : Nat) (f2 : Nat → Int32), out E a0 = some (0, n1, f2) ∧ ix (nI (a4 + 1)) n1 ∧
    ∃ (n3 : Nat) (f4 : Nat → Int32), out E a0 = some (0, n3, f4) ∧ ix (nI (a4 + 2)) n3 ∧
    ∃ (n5 : Nat) (f6 : Nat → Int32), out E a0 = some (0, n5, f6) ∧ ix (nI (a4 + 3)) n5 ∧
    k_law_boys E (d - 1) S (f2 (nI (a4 + 1)).toNatClampNeg) (f4 (nI (a4 + 2)).toNatClampNeg) (f6 (nI (a4 + 3)).toNatClampNeg) (fun x7 S8 =>
    ∃ (n9 : Nat) (f10 : Nat → Int32), out E a0 = some (0, n9, f10) ∧ ix (nI (a4 + 1)) n9 ∧
    ∃ (n11 : Nat) (f12 : Nat → Int32), out E a0 = some (0, n11, f12) ∧ ix (nI (a4 + 2)) n11 ∧
    ∃ (n13 : Nat) (f14 : Nat → Int32), out E a0 = some (0, n13, f14) ∧ ix (nI (a4 + 3)) n13 ∧
    k_m_boys E (d - 1) S8 (f10 (nI (a4 + 1)).toNatClampNeg) (f12 (nI (a4 + 2)).toNatClampNeg) (f14 (nI (a4 + 3)).toNatClampNeg) (fun x15 S16 =>
    k_m_thrown E (d - 1) S16 (fun x17 S18 =>
    if x17 = x7 then (
      if x7 = 0 then (
        if (lg_cmp (catL (S18 91 0) (S18 91 1)) (Int32.toInt64 x15)) = 0 then (
          k_law_law_2231 E d S18 a0 a4 Q)
        else (
          Q (0 : Int32) S18))
      else (
        k_law_law_2231 E d S18 a0 a4 Q))
    else (
      Q (0 : Int32) S18))))) :
    k_law_law_1695 E d S a0 a4 Q := by
  obtain ⟨d, rfl⟩ := Nat.exists_eq_add_of_le' hd
  intro j5 j6
  show wp E (d + 1) m_law_law 1695 [some (.float a0), some (.ref 0), some (.ref 65), some (.ref 91), some (.int (nI a4)), j5, j6] [] (Hp S) (QI Q)
  refine wp_st (pc' := 1700) (L' := [some (.float a0), some (.ref 0), some (.ref 65), some (.ref 91), some (.int (nI a4)), j5, j6]) (st' := [.int 1, .int (nI a4), .float a0, .ref 0]) (h' := Hp S) 4 (fun Z => rfl) ?_
  refine wp_st (pc' := 1701) (L' := [some (.float a0), some (.ref 0), some (.ref 65), some (.ref 91), some (.int (nI a4)), j5, j6]) (st' := [.int (nI (a4 + 1)), .float a0, .ref 0]) (h' := Hp S) 1 (fun Z => by rw [← nI_add a4 1]; rfl) ?_
  obtain ⟨n1, f2, e, hi, hw⟩ := hw
  refine wp_st (pc' := 1702) (L' := [some (.float a0), some (.ref 0), some (.ref 65), some (.ref 91), some (.int (nI a4)), j5, j6]) (st' := [.int (f2 (nI (a4 + 1)).toNatClampNeg), .ref 0]) (h' := Hp S) 1 (fun Z => outI_eq (E := E) (h := Hp S) e hi [.ref 0] (fun st => Z (d + 1) m_law_law 1702 [some (.float a0), some (.ref 0), some (.ref 65), some (.ref 91), some (.int (nI a4)), j5, j6] st (Hp S))) ?_
  refine wp_st (pc' := 1706) (L' := [some (.float a0), some (.ref 0), some (.ref 65), some (.ref 91), some (.int (nI a4)), j5, j6]) (st' := [.int 2, .int (nI a4), .float a0, .int (f2 (nI (a4 + 1)).toNatClampNeg), .ref 0]) (h' := Hp S) 3 (fun Z => rfl) ?_
  refine wp_st (pc' := 1707) (L' := [some (.float a0), some (.ref 0), some (.ref 65), some (.ref 91), some (.int (nI a4)), j5, j6]) (st' := [.int (nI (a4 + 2)), .float a0, .int (f2 (nI (a4 + 1)).toNatClampNeg), .ref 0]) (h' := Hp S) 1 (fun Z => by rw [← nI_add a4 2]; rfl) ?_
  obtain ⟨n3, f4, e, hi, hw⟩ := hw
  refine wp_st (pc' := 1708) (L' := [some (.float a0), some (.ref 0), some (.ref 65), some (.ref 91), some (.int (nI a4)), j5, j6]) (st' := [.int (f4 (nI (a4 + 2)).toNatClampNeg), .int (f2 (nI (a4 + 1)).toNatClampNeg), .ref 0]) (h' := Hp S) 1 (fun Z => outI_eq (E := E) (h := Hp S) e hi [.int (f2 (nI (a4 + 1)).toNatClampNeg), .ref 0] (fun st => Z (d + 1) m_law_law 1708 [some (.float a0), some (.ref 0), some (.ref 65), some (.ref 91), some (.int (nI a4)), j5, j6] st (Hp S))) ?_
  refine wp_st (pc' := 1712) (L' := [some (.float a0), some (.ref 0), some (.ref 65), some (.ref 91), some (.int (nI a4)), j5, j6]) (st' := [.int 3, .int (nI a4), .float a0, .int (f4 (nI (a4 + 2)).toNatClampNeg), .int (f2 (nI (a4 + 1)).toNatClampNeg), .ref 0]) (h' := Hp S) 3 (fun Z => rfl) ?_
  refine wp_st (pc' := 1713) (L' := [some (.float a0), some (.ref 0), some (.ref 65), some (.ref 91), some (.int (nI a4)), j5, j6]) (st' := [.int (nI (a4 + 3)), .float a0, .int (f4 (nI (a4 + 2)).toNatClampNeg), .int (f2 (nI (a4 + 1)).toNatClampNeg), .ref 0]) (h' := Hp S) 1 (fun Z => by rw [← nI_add a4 3]; rfl) ?_
  obtain ⟨n5, f6, e, hi, hw⟩ := hw
  refine wp_st (pc' := 1714) (L' := [some (.float a0), some (.ref 0), some (.ref 65), some (.ref 91), some (.int (nI a4)), j5, j6]) (st' := [.int (f6 (nI (a4 + 3)).toNatClampNeg), .int (f4 (nI (a4 + 2)).toNatClampNeg), .int (f2 (nI (a4 + 1)).toNatClampNeg), .ref 0]) (h' := Hp S) 1 (fun Z => outI_eq (E := E) (h := Hp S) e hi [.int (f4 (nI (a4 + 2)).toNatClampNeg), .int (f2 (nI (a4 + 1)).toNatClampNeg), .ref 0] (fun st => Z (d + 1) m_law_law 1714 [some (.float a0), some (.ref 0), some (.ref 65), some (.ref 91), some (.int (nI a4)), j5, j6] st (Hp S))) ?_
  refine wp_st (pc' := 1715) (L' := [some (.float a0), some (.ref 0), some (.ref 65), some (.ref 91), some (.int (nI a4)), j5, j6]) (st' := [.ref 91, .int (f6 (nI (a4 + 3)).toNatClampNeg), .int (f4 (nI (a4 + 2)).toNatClampNeg), .int (f2 (nI (a4 + 1)).toNatClampNeg), .ref 0]) (h' := Hp S) 1 (fun Z => rfl) ?_
  refine wp_call (pc' := 1718) (rest := []) (fun Z => rfl) rfl hw ?_
  rintro o h1 ⟨x7, S8, rfl, rfl, hw⟩
  refine ⟨_, rfl, ?_⟩
  show wp E (d + 1) m_law_law 1718 [some (.float a0), some (.ref 0), some (.ref 65), some (.ref 91), some (.int (nI a4)), j5, j6] [.int x7] (Hp S8) (QI Q)
  refine wp_st (pc' := 1725) (L' := [some (.float a0), some (.ref 0), some (.ref 65), some (.ref 91), some (.int (nI a4)), some (.int x7), j6]) (st' := [.int 1, .int (nI a4), .float a0, .ref 65]) (h' := Hp S8) 5 (fun Z => rfl) ?_
  refine wp_st (pc' := 1726) (L' := [some (.float a0), some (.ref 0), some (.ref 65), some (.ref 91), some (.int (nI a4)), some (.int x7), j6]) (st' := [.int (nI (a4 + 1)), .float a0, .ref 65]) (h' := Hp S8) 1 (fun Z => by rw [← nI_add a4 1]; rfl) ?_
  obtain ⟨n9, f10, e, hi, hw⟩ := hw
  refine wp_st (pc' := 1727) (L' := [some (.float a0), some (.ref 0), some (.ref 65), some (.ref 91), some (.int (nI a4)), some (.int x7), j6]) (st' := [.int (f10 (nI (a4 + 1)).toNatClampNeg), .ref 65]) (h' := Hp S8) 1 (fun Z => outI_eq (E := E) (h := Hp S8) e hi [.ref 65] (fun st => Z (d + 1) m_law_law 1727 [some (.float a0), some (.ref 0), some (.ref 65), some (.ref 91), some (.int (nI a4)), some (.int x7), j6] st (Hp S8))) ?_
  refine wp_st (pc' := 1731) (L' := [some (.float a0), some (.ref 0), some (.ref 65), some (.ref 91), some (.int (nI a4)), some (.int x7), j6]) (st' := [.int 2, .int (nI a4), .float a0, .int (f10 (nI (a4 + 1)).toNatClampNeg), .ref 65]) (h' := Hp S8) 3 (fun Z => rfl) ?_
  refine wp_st (pc' := 1732) (L' := [some (.float a0), some (.ref 0), some (.ref 65), some (.ref 91), some (.int (nI a4)), some (.int x7), j6]) (st' := [.int (nI (a4 + 2)), .float a0, .int (f10 (nI (a4 + 1)).toNatClampNeg), .ref 65]) (h' := Hp S8) 1 (fun Z => by rw [← nI_add a4 2]; rfl) ?_
  obtain ⟨n11, f12, e, hi, hw⟩ := hw
  refine wp_st (pc' := 1733) (L' := [some (.float a0), some (.ref 0), some (.ref 65), some (.ref 91), some (.int (nI a4)), some (.int x7), j6]) (st' := [.int (f12 (nI (a4 + 2)).toNatClampNeg), .int (f10 (nI (a4 + 1)).toNatClampNeg), .ref 65]) (h' := Hp S8) 1 (fun Z => outI_eq (E := E) (h := Hp S8) e hi [.int (f10 (nI (a4 + 1)).toNatClampNeg), .ref 65] (fun st => Z (d + 1) m_law_law 1733 [some (.float a0), some (.ref 0), some (.ref 65), some (.ref 91), some (.int (nI a4)), some (.int x7), j6] st (Hp S8))) ?_
  refine wp_st (pc' := 1737) (L' := [some (.float a0), some (.ref 0), some (.ref 65), some (.ref 91), some (.int (nI a4)), some (.int x7), j6]) (st' := [.int 3, .int (nI a4), .float a0, .int (f12 (nI (a4 + 2)).toNatClampNeg), .int (f10 (nI (a4 + 1)).toNatClampNeg), .ref 65]) (h' := Hp S8) 3 (fun Z => rfl) ?_
  refine wp_st (pc' := 1738) (L' := [some (.float a0), some (.ref 0), some (.ref 65), some (.ref 91), some (.int (nI a4)), some (.int x7), j6]) (st' := [.int (nI (a4 + 3)), .float a0, .int (f12 (nI (a4 + 2)).toNatClampNeg), .int (f10 (nI (a4 + 1)).toNatClampNeg), .ref 65]) (h' := Hp S8) 1 (fun Z => by rw [← nI_add a4 3]; rfl) ?_
  obtain ⟨n13, f14, e, hi, hw⟩ := hw
  refine wp_st (pc' := 1739) (L' := [some (.float a0), some (.ref 0), some (.ref 65), some (.ref 91), some (.int (nI a4)), some (.int x7), j6]) (st' := [.int (f14 (nI (a4 + 3)).toNatClampNeg), .int (f12 (nI (a4 + 2)).toNatClampNeg), .int (f10 (nI (a4 + 1)).toNatClampNeg), .ref 65]) (h' := Hp S8) 1 (fun Z => outI_eq (E := E) (h := Hp S8) e hi [.int (f12 (nI (a4 + 2)).toNatClampNeg), .int (f10 (nI (a4 + 1)).toNatClampNeg), .ref 65] (fun st => Z (d + 1) m_law_law 1739 [some (.float a0), some (.ref 0), some (.ref 65), some (.ref 91), some (.int (nI a4)), some (.int x7), j6] st (Hp S8))) ?_
  refine wp_call (pc' := 1742) (rest := []) (fun Z => rfl) (isO_of sh65) hw ?_
  rintro o h1 ⟨x15, S16, rfl, rfl, hw⟩
  refine ⟨_, rfl, ?_⟩
  show wp E (d + 1) m_law_law 1742 [some (.float a0), some (.ref 0), some (.ref 65), some (.ref 91), some (.int (nI a4)), some (.int x7), j6] [.int x15] (Hp S16) (QI Q)
  refine wp_st (pc' := 1745) (L' := [some (.float a0), some (.ref 0), some (.ref 65), some (.ref 91), some (.int (nI a4)), some (.int x7), some (.int x15)]) (st' := [.ref 65]) (h' := Hp S16) 2 (fun Z => rfl) ?_
  refine wp_call (pc' := 1748) (rest := []) (fun Z => rfl) (isO_of sh65) hw ?_
  rintro o h1 ⟨x17, S18, rfl, rfl, hw⟩
  refine ⟨_, rfl, ?_⟩
  show wp E (d + 1) m_law_law 1748 [some (.float a0), some (.ref 0), some (.ref 65), some (.ref 91), some (.int (nI a4)), some (.int x7), some (.int x15)] [.int x17] (Hp S18) (QI Q)
  refine wp_st (pc' := 1750) (L' := [some (.float a0), some (.ref 0), some (.ref 65), some (.ref 91), some (.int (nI a4)), some (.int x7), some (.int x15)]) (st' := [.int x7, .int x17]) (h' := Hp S18) 1 (fun Z => rfl) ?_
  by_cases hc : x17 = x7
  · rw [if_pos hc] at hw
    refine wp_st (pc' := 1755) (L' := [some (.float a0), some (.ref 0), some (.ref 65), some (.ref 91), some (.int (nI a4)), some (.int x7), some (.int x15)]) (st' := []) (h' := Hp S18) 1 (fun Z => if_pos hc) ?_
    refine wp_st (pc' := 1757) (L' := [some (.float a0), some (.ref 0), some (.ref 65), some (.ref 91), some (.int (nI a4)), some (.int x7), some (.int x15)]) (st' := [.int x7]) (h' := Hp S18) 1 (fun Z => rfl) ?_
    by_cases hc : x7 = 0
    · rw [if_pos hc] at hw
      refine wp_st (pc' := 1760) (L' := [some (.float a0), some (.ref 0), some (.ref 65), some (.ref 91), some (.int (nI a4)), some (.int x7), some (.int x15)]) (st' := []) (h' := Hp S18) 1 (fun Z => if_pos hc) ?_
      refine wp_st (pc' := 1762) (L' := [some (.float a0), some (.ref 0), some (.ref 65), some (.ref 91), some (.int (nI a4)), some (.int x7), some (.int x15)]) (st' := [.int 0, .ref 91]) (h' := Hp S18) 2 (fun Z => rfl) ?_
      refine wp_st (pc' := 1763) (L' := [some (.float a0), some (.ref 0), some (.ref 65), some (.ref 91), some (.int (nI a4)), some (.int x7), some (.int x15)]) (st' := [.long (catL (S18 91 0) (S18 91 1))]) (h' := Hp S18) 1 (fun Z => ldJ0 (E := E) sh91 (by decide) [] (fun st => Z (d + 1) m_law_law 1763 [some (.float a0), some (.ref 0), some (.ref 65), some (.ref 91), some (.int (nI a4)), some (.int x7), some (.int x15)] st (Hp S18))) ?_
      refine wp_st (pc' := 1767) (L' := [some (.float a0), some (.ref 0), some (.ref 65), some (.ref 91), some (.int (nI a4)), some (.int x7), some (.int x15)]) (st' := [.int (lg_cmp (catL (S18 91 0) (S18 91 1)) (Int32.toInt64 x15))]) (h' := Hp S18) 3 (fun Z => rfl) ?_
      by_cases hc : (lg_cmp (catL (S18 91 0) (S18 91 1)) (Int32.toInt64 x15)) = 0
      · rw [if_pos hc] at hw
        refine wp_st (pc' := 1772) (L' := [some (.float a0), some (.ref 0), some (.ref 65), some (.ref 91), some (.int (nI a4)), some (.int x7), some (.int x15)]) (st' := []) (h' := Hp S18) 1 (fun Z => if_pos hc) ?_
        exact wp_st 1 (fun Z => rfl) (show wp E (d + 1) m_law_law 2231 [some (.float a0), some (.ref 0), some (.ref 65), some (.ref 91), some (.int (nI a4)), some (.int x7), some (.int x15)] [] (Hp S18) (QI Q) from (hw (some (.int x7)) (some (.int x15))))
      · rw [if_neg hc] at hw
        refine wp_st (pc' := 1770) (L' := [some (.float a0), some (.ref 0), some (.ref 65), some (.ref 91), some (.int (nI a4)), some (.int x7), some (.int x15)]) (st' := []) (h' := Hp S18) 1 (fun Z => if_neg hc) ?_
        refine wp_st (pc' := 1771) (L' := [some (.float a0), some (.ref 0), some (.ref 65), some (.ref 91), some (.int (nI a4)), some (.int x7), some (.int x15)]) (st' := [.int 0]) (h' := Hp S18) 1 (fun Z => rfl) ?_
        exact wp_ret (fun Z => rfl) ⟨_, _, rfl, rfl, hw⟩
    · rw [if_neg hc] at hw
      refine wp_st (pc' := 1772) (L' := [some (.float a0), some (.ref 0), some (.ref 65), some (.ref 91), some (.int (nI a4)), some (.int x7), some (.int x15)]) (st' := []) (h' := Hp S18) 1 (fun Z => if_neg hc) ?_
      exact wp_st 1 (fun Z => rfl) (show wp E (d + 1) m_law_law 2231 [some (.float a0), some (.ref 0), some (.ref 65), some (.ref 91), some (.int (nI a4)), some (.int x7), some (.int x15)] [] (Hp S18) (QI Q) from (hw (some (.int x7)) (some (.int x15))))
  · rw [if_neg hc] at hw
    refine wp_st (pc' := 1753) (L' := [some (.float a0), some (.ref 0), some (.ref 65), some (.ref 91), some (.int (nI a4)), some (.int x7), some (.int x15)]) (st' := []) (h' := Hp S18) 1 (fun Z => if_neg hc) ?_
    refine wp_st (pc' := 1754) (L' := [some (.float a0), some (.ref 0), some (.ref 65), some (.ref 91), some (.int (nI a4)), some (.int x7), some (.int x15)]) (st' := [.int 0]) (h' := Hp S18) 1 (fun Z => rfl) ?_
    exact wp_ret (fun Z => rfl) ⟨_, _, rfl, rfl, hw⟩
set_option maxRecDepth 4000 in
theorem w_law_law_1775 {E : zX} {d : Nat} {S : St} {a0 : UInt32} {a4 : Nat} {Q : Int32 → St → Prop} (hd : 1 ≤ d) 
    (hw : ∃ (n1 : Nat) (f2 : Nat → Int32), out E a0 = some (0, n1, f2) ∧ ix (nI (a4 + 1)) n1 ∧
    ∃ (n3 : Nat) (f4 : Nat → Int32), out E a0 = some (0, n3, f4) ∧ ix (nI (a4 + 2)) n3 ∧
    ∃ (n5 : Nat) (f6 : Nat → Int32), out E a0 = some (0, n5, f6) ∧ ix (nI (a4 + 3)) n5 ∧
    k_law_game E (d - 1) S (f2 (nI (a4 + 1)).toNatClampNeg) (f4 (nI (a4 + 2)).toNatClampNeg) (f6 (nI (a4 + 3)).toNatClampNeg) (fun x7 S8 =>
    ∃ (n9 : Nat) (f10 : Nat → Int32), out E a0 = some (0, n9, f10) ∧ ix (nI (a4 + 1)) n9 ∧
    ∃ (n11 : Nat) (f12 : Nat → Int32), out E a0 = some (0, n11, f12) ∧ ix (nI (a4 + 2)) n11 ∧
    ∃ (n13 : Nat) (f14 : Nat → Int32), out E a0 = some (0, n13, f14) ∧ ix (nI (a4 + 3)) n13 ∧
    k_m_game E (d - 1) S8 (f10 (nI (a4 + 1)).toNatClampNeg) (f12 (nI (a4 + 2)).toNatClampNeg) (f14 (nI (a4 + 3)).toNatClampNeg) (fun x15 S16 =>
    k_m_thrown E (d - 1) S16 (fun x17 S18 =>
    if x17 = x7 then (
      if x7 = 0 then (
        if (lg_cmp (catL (S18 91 0) (S18 91 1)) (Int32.toInt64 x15)) = 0 then (
          k_law_law_2231 E d S18 a0 a4 Q)
        else (
          Q (0 : Int32) S18))
      else (
        k_law_law_2231 E d S18 a0 a4 Q))
    else (
      Q (0 : Int32) S18))))) :
    k_law_law_1775 E d S a0 a4 Q := by
  obtain ⟨d, rfl⟩ := Nat.exists_eq_add_of_le' hd
  intro j5 j6
  show wp E (d + 1) m_law_law 1775 [some (.float a0), some (.ref 0), some (.ref 65), some (.ref 91), some (.int (nI a4)), j5, j6] [] (Hp S) (QI Q)
  refine wp_st (pc' := 1780) (L' := [some (.float a0), some (.ref 0), some (.ref 65), some (.ref 91), some (.int (nI a4)), j5, j6]) (st' := [.int 1, .int (nI a4), .float a0, .ref 0]) (h' := Hp S) 4 (fun Z => rfl) ?_
  refine wp_st (pc' := 1781) (L' := [some (.float a0), some (.ref 0), some (.ref 65), some (.ref 91), some (.int (nI a4)), j5, j6]) (st' := [.int (nI (a4 + 1)), .float a0, .ref 0]) (h' := Hp S) 1 (fun Z => by rw [← nI_add a4 1]; rfl) ?_
  obtain ⟨n1, f2, e, hi, hw⟩ := hw
  refine wp_st (pc' := 1782) (L' := [some (.float a0), some (.ref 0), some (.ref 65), some (.ref 91), some (.int (nI a4)), j5, j6]) (st' := [.int (f2 (nI (a4 + 1)).toNatClampNeg), .ref 0]) (h' := Hp S) 1 (fun Z => outI_eq (E := E) (h := Hp S) e hi [.ref 0] (fun st => Z (d + 1) m_law_law 1782 [some (.float a0), some (.ref 0), some (.ref 65), some (.ref 91), some (.int (nI a4)), j5, j6] st (Hp S))) ?_
  refine wp_st (pc' := 1786) (L' := [some (.float a0), some (.ref 0), some (.ref 65), some (.ref 91), some (.int (nI a4)), j5, j6]) (st' := [.int 2, .int (nI a4), .float a0, .int (f2 (nI (a4 + 1)).toNatClampNeg), .ref 0]) (h' := Hp S) 3 (fun Z => rfl) ?_
  refine wp_st (pc' := 1787) (L' := [some (.float a0), some (.ref 0), some (.ref 65), some (.ref 91), some (.int (nI a4)), j5, j6]) (st' := [.int (nI (a4 + 2)), .float a0, .int (f2 (nI (a4 + 1)).toNatClampNeg), .ref 0]) (h' := Hp S) 1 (fun Z => by rw [← nI_add a4 2]; rfl) ?_
  obtain ⟨n3, f4, e, hi, hw⟩ := hw
  refine wp_st (pc' := 1788) (L' := [some (.float a0), some (.ref 0), some (.ref 65), some (.ref 91), some (.int (nI a4)), j5, j6]) (st' := [.int (f4 (nI (a4 + 2)).toNatClampNeg), .int (f2 (nI (a4 + 1)).toNatClampNeg), .ref 0]) (h' := Hp S) 1 (fun Z => outI_eq (E := E) (h := Hp S) e hi [.int (f2 (nI (a4 + 1)).toNatClampNeg), .ref 0] (fun st => Z (d + 1) m_law_law 1788 [some (.float a0), some (.ref 0), some (.ref 65), some (.ref 91), some (.int (nI a4)), j5, j6] st (Hp S))) ?_
  refine wp_st (pc' := 1792) (L' := [some (.float a0), some (.ref 0), some (.ref 65), some (.ref 91), some (.int (nI a4)), j5, j6]) (st' := [.int 3, .int (nI a4), .float a0, .int (f4 (nI (a4 + 2)).toNatClampNeg), .int (f2 (nI (a4 + 1)).toNatClampNeg), .ref 0]) (h' := Hp S) 3 (fun Z => rfl) ?_
  refine wp_st (pc' := 1793) (L' := [some (.float a0), some (.ref 0), some (.ref 65), some (.ref 91), some (.int (nI a4)), j5, j6]) (st' := [.int (nI (a4 + 3)), .float a0, .int (f4 (nI (a4 + 2)).toNatClampNeg), .int (f2 (nI (a4 + 1)).toNatClampNeg), .ref 0]) (h' := Hp S) 1 (fun Z => by rw [← nI_add a4 3]; rfl) ?_
  obtain ⟨n5, f6, e, hi, hw⟩ := hw
  refine wp_st (pc' := 1794) (L' := [some (.float a0), some (.ref 0), some (.ref 65), some (.ref 91), some (.int (nI a4)), j5, j6]) (st' := [.int (f6 (nI (a4 + 3)).toNatClampNeg), .int (f4 (nI (a4 + 2)).toNatClampNeg), .int (f2 (nI (a4 + 1)).toNatClampNeg), .ref 0]) (h' := Hp S) 1 (fun Z => outI_eq (E := E) (h := Hp S) e hi [.int (f4 (nI (a4 + 2)).toNatClampNeg), .int (f2 (nI (a4 + 1)).toNatClampNeg), .ref 0] (fun st => Z (d + 1) m_law_law 1794 [some (.float a0), some (.ref 0), some (.ref 65), some (.ref 91), some (.int (nI a4)), j5, j6] st (Hp S))) ?_
  refine wp_st (pc' := 1795) (L' := [some (.float a0), some (.ref 0), some (.ref 65), some (.ref 91), some (.int (nI a4)), j5, j6]) (st' := [.ref 91, .int (f6 (nI (a4 + 3)).toNatClampNeg), .int (f4 (nI (a4 + 2)).toNatClampNeg), .int (f2 (nI (a4 + 1)).toNatClampNeg), .ref 0]) (h' := Hp S) 1 (fun Z => rfl) ?_
  refine wp_call (pc' := 1798) (rest := []) (fun Z => rfl) rfl hw ?_
  rintro o h1 ⟨x7, S8, rfl, rfl, hw⟩
  refine ⟨_, rfl, ?_⟩
  show wp E (d + 1) m_law_law 1798 [some (.float a0), some (.ref 0), some (.ref 65), some (.ref 91), some (.int (nI a4)), j5, j6] [.int x7] (Hp S8) (QI Q)
  refine wp_st (pc' := 1805) (L' := [some (.float a0), some (.ref 0), some (.ref 65), some (.ref 91), some (.int (nI a4)), some (.int x7), j6]) (st' := [.int 1, .int (nI a4), .float a0, .ref 65]) (h' := Hp S8) 5 (fun Z => rfl) ?_
  refine wp_st (pc' := 1806) (L' := [some (.float a0), some (.ref 0), some (.ref 65), some (.ref 91), some (.int (nI a4)), some (.int x7), j6]) (st' := [.int (nI (a4 + 1)), .float a0, .ref 65]) (h' := Hp S8) 1 (fun Z => by rw [← nI_add a4 1]; rfl) ?_
  obtain ⟨n9, f10, e, hi, hw⟩ := hw
  refine wp_st (pc' := 1807) (L' := [some (.float a0), some (.ref 0), some (.ref 65), some (.ref 91), some (.int (nI a4)), some (.int x7), j6]) (st' := [.int (f10 (nI (a4 + 1)).toNatClampNeg), .ref 65]) (h' := Hp S8) 1 (fun Z => outI_eq (E := E) (h := Hp S8) e hi [.ref 65] (fun st => Z (d + 1) m_law_law 1807 [some (.float a0), some (.ref 0), some (.ref 65), some (.ref 91), some (.int (nI a4)), some (.int x7), j6] st (Hp S8))) ?_
  refine wp_st (pc' := 1811) (L' := [some (.float a0), some (.ref 0), some (.ref 65), some (.ref 91), some (.int (nI a4)), some (.int x7), j6]) (st' := [.int 2, .int (nI a4), .float a0, .int (f10 (nI (a4 + 1)).toNatClampNeg), .ref 65]) (h' := Hp S8) 3 (fun Z => rfl) ?_
  refine wp_st (pc' := 1812) (L' := [some (.float a0), some (.ref 0), some (.ref 65), some (.ref 91), some (.int (nI a4)), some (.int x7), j6]) (st' := [.int (nI (a4 + 2)), .float a0, .int (f10 (nI (a4 + 1)).toNatClampNeg), .ref 65]) (h' := Hp S8) 1 (fun Z => by rw [← nI_add a4 2]; rfl) ?_
  obtain ⟨n11, f12, e, hi, hw⟩ := hw
  refine wp_st (pc' := 1813) (L' := [some (.float a0), some (.ref 0), some (.ref 65), some (.ref 91), some (.int (nI a4)), some (.int x7), j6]) (st' := [.int (f12 (nI (a4 + 2)).toNatClampNeg), .int (f10 (nI (a4 + 1)).toNatClampNeg), .ref 65]) (h' := Hp S8) 1 (fun Z => outI_eq (E := E) (h := Hp S8) e hi [.int (f10 (nI (a4 + 1)).toNatClampNeg), .ref 65] (fun st => Z (d + 1) m_law_law 1813 [some (.float a0), some (.ref 0), some (.ref 65), some (.ref 91), some (.int (nI a4)), some (.int x7), j6] st (Hp S8))) ?_
  refine wp_st (pc' := 1817) (L' := [some (.float a0), some (.ref 0), some (.ref 65), some (.ref 91), some (.int (nI a4)), some (.int x7), j6]) (st' := [.int 3, .int (nI a4), .float a0, .int (f12 (nI (a4 + 2)).toNatClampNeg), .int (f10 (nI (a4 + 1)).toNatClampNeg), .ref 65]) (h' := Hp S8) 3 (fun Z => rfl) ?_
  refine wp_st (pc' := 1818) (L' := [some (.float a0), some (.ref 0), some (.ref 65), some (.ref 91), some (.int (nI a4)), some (.int x7), j6]) (st' := [.int (nI (a4 + 3)), .float a0, .int (f12 (nI (a4 + 2)).toNatClampNeg), .int (f10 (nI (a4 + 1)).toNatClampNeg), .ref 65]) (h' := Hp S8) 1 (fun Z => by rw [← nI_add a4 3]; rfl) ?_
  obtain ⟨n13, f14, e, hi, hw⟩ := hw
  refine wp_st (pc' := 1819) (L' := [some (.float a0), some (.ref 0), some (.ref 65), some (.ref 91), some (.int (nI a4)), some (.int x7), j6]) (st' := [.int (f14 (nI (a4 + 3)).toNatClampNeg), .int (f12 (nI (a4 + 2)).toNatClampNeg), .int (f10 (nI (a4 + 1)).toNatClampNeg), .ref 65]) (h' := Hp S8) 1 (fun Z => outI_eq (E := E) (h := Hp S8) e hi [.int (f12 (nI (a4 + 2)).toNatClampNeg), .int (f10 (nI (a4 + 1)).toNatClampNeg), .ref 65] (fun st => Z (d + 1) m_law_law 1819 [some (.float a0), some (.ref 0), some (.ref 65), some (.ref 91), some (.int (nI a4)), some (.int x7), j6] st (Hp S8))) ?_
  refine wp_call (pc' := 1822) (rest := []) (fun Z => rfl) (isO_of sh65) hw ?_
  rintro o h1 ⟨x15, S16, rfl, rfl, hw⟩
  refine ⟨_, rfl, ?_⟩
  show wp E (d + 1) m_law_law 1822 [some (.float a0), some (.ref 0), some (.ref 65), some (.ref 91), some (.int (nI a4)), some (.int x7), j6] [.int x15] (Hp S16) (QI Q)
  refine wp_st (pc' := 1825) (L' := [some (.float a0), some (.ref 0), some (.ref 65), some (.ref 91), some (.int (nI a4)), some (.int x7), some (.int x15)]) (st' := [.ref 65]) (h' := Hp S16) 2 (fun Z => rfl) ?_
  refine wp_call (pc' := 1828) (rest := []) (fun Z => rfl) (isO_of sh65) hw ?_
  rintro o h1 ⟨x17, S18, rfl, rfl, hw⟩
  refine ⟨_, rfl, ?_⟩
  show wp E (d + 1) m_law_law 1828 [some (.float a0), some (.ref 0), some (.ref 65), some (.ref 91), some (.int (nI a4)), some (.int x7), some (.int x15)] [.int x17] (Hp S18) (QI Q)
  refine wp_st (pc' := 1830) (L' := [some (.float a0), some (.ref 0), some (.ref 65), some (.ref 91), some (.int (nI a4)), some (.int x7), some (.int x15)]) (st' := [.int x7, .int x17]) (h' := Hp S18) 1 (fun Z => rfl) ?_
  by_cases hc : x17 = x7
  · rw [if_pos hc] at hw
    refine wp_st (pc' := 1835) (L' := [some (.float a0), some (.ref 0), some (.ref 65), some (.ref 91), some (.int (nI a4)), some (.int x7), some (.int x15)]) (st' := []) (h' := Hp S18) 1 (fun Z => if_pos hc) ?_
    refine wp_st (pc' := 1837) (L' := [some (.float a0), some (.ref 0), some (.ref 65), some (.ref 91), some (.int (nI a4)), some (.int x7), some (.int x15)]) (st' := [.int x7]) (h' := Hp S18) 1 (fun Z => rfl) ?_
    by_cases hc : x7 = 0
    · rw [if_pos hc] at hw
      refine wp_st (pc' := 1840) (L' := [some (.float a0), some (.ref 0), some (.ref 65), some (.ref 91), some (.int (nI a4)), some (.int x7), some (.int x15)]) (st' := []) (h' := Hp S18) 1 (fun Z => if_pos hc) ?_
      refine wp_st (pc' := 1842) (L' := [some (.float a0), some (.ref 0), some (.ref 65), some (.ref 91), some (.int (nI a4)), some (.int x7), some (.int x15)]) (st' := [.int 0, .ref 91]) (h' := Hp S18) 2 (fun Z => rfl) ?_
      refine wp_st (pc' := 1843) (L' := [some (.float a0), some (.ref 0), some (.ref 65), some (.ref 91), some (.int (nI a4)), some (.int x7), some (.int x15)]) (st' := [.long (catL (S18 91 0) (S18 91 1))]) (h' := Hp S18) 1 (fun Z => ldJ0 (E := E) sh91 (by decide) [] (fun st => Z (d + 1) m_law_law 1843 [some (.float a0), some (.ref 0), some (.ref 65), some (.ref 91), some (.int (nI a4)), some (.int x7), some (.int x15)] st (Hp S18))) ?_
      refine wp_st (pc' := 1847) (L' := [some (.float a0), some (.ref 0), some (.ref 65), some (.ref 91), some (.int (nI a4)), some (.int x7), some (.int x15)]) (st' := [.int (lg_cmp (catL (S18 91 0) (S18 91 1)) (Int32.toInt64 x15))]) (h' := Hp S18) 3 (fun Z => rfl) ?_
      by_cases hc : (lg_cmp (catL (S18 91 0) (S18 91 1)) (Int32.toInt64 x15)) = 0
      · rw [if_pos hc] at hw
        refine wp_st (pc' := 1852) (L' := [some (.float a0), some (.ref 0), some (.ref 65), some (.ref 91), some (.int (nI a4)), some (.int x7), some (.int x15)]) (st' := []) (h' := Hp S18) 1 (fun Z => if_pos hc) ?_
        exact wp_st 1 (fun Z => rfl) (show wp E (d + 1) m_law_law 2231 [some (.float a0), some (.ref 0), some (.ref 65), some (.ref 91), some (.int (nI a4)), some (.int x7), some (.int x15)] [] (Hp S18) (QI Q) from (hw (some (.int x7)) (some (.int x15))))
      · rw [if_neg hc] at hw
        refine wp_st (pc' := 1850) (L' := [some (.float a0), some (.ref 0), some (.ref 65), some (.ref 91), some (.int (nI a4)), some (.int x7), some (.int x15)]) (st' := []) (h' := Hp S18) 1 (fun Z => if_neg hc) ?_
        refine wp_st (pc' := 1851) (L' := [some (.float a0), some (.ref 0), some (.ref 65), some (.ref 91), some (.int (nI a4)), some (.int x7), some (.int x15)]) (st' := [.int 0]) (h' := Hp S18) 1 (fun Z => rfl) ?_
        exact wp_ret (fun Z => rfl) ⟨_, _, rfl, rfl, hw⟩
    · rw [if_neg hc] at hw
      refine wp_st (pc' := 1852) (L' := [some (.float a0), some (.ref 0), some (.ref 65), some (.ref 91), some (.int (nI a4)), some (.int x7), some (.int x15)]) (st' := []) (h' := Hp S18) 1 (fun Z => if_neg hc) ?_
      exact wp_st 1 (fun Z => rfl) (show wp E (d + 1) m_law_law 2231 [some (.float a0), some (.ref 0), some (.ref 65), some (.ref 91), some (.int (nI a4)), some (.int x7), some (.int x15)] [] (Hp S18) (QI Q) from (hw (some (.int x7)) (some (.int x15))))
  · rw [if_neg hc] at hw
    refine wp_st (pc' := 1833) (L' := [some (.float a0), some (.ref 0), some (.ref 65), some (.ref 91), some (.int (nI a4)), some (.int x7), some (.int x15)]) (st' := []) (h' := Hp S18) 1 (fun Z => if_neg hc) ?_
    refine wp_st (pc' := 1834) (L' := [some (.float a0), some (.ref 0), some (.ref 65), some (.ref 91), some (.int (nI a4)), some (.int x7), some (.int x15)]) (st' := [.int 0]) (h' := Hp S18) 1 (fun Z => rfl) ?_
    exact wp_ret (fun Z => rfl) ⟨_, _, rfl, rfl, hw⟩
set_option maxRecDepth 4000 in
theorem w_law_law_1855 {E : zX} {d : Nat} {S : St} {a0 : UInt32} {a4 : Nat} {Q : Int32 → St → Prop} (hd : 1 ≤ d) 
    (hw : ∃ (n1 : Nat) (f2 : Nat → Int32), out E a0 = some (0, n1, f2) ∧ ix (nI (a4 + 1)) n1 ∧
    ∃ (n3 : Nat) (f4 : Nat → Int32), out E a0 = some (0, n3, f4) ∧ ix (nI (a4 + 2)) n3 ∧
    ∃ (n5 : Nat) (f6 : Nat → Int32), out E a0 = some (0, n5, f6) ∧ ix (nI (a4 + 3)) n5 ∧
    k_law_years E (d - 1) S (f2 (nI (a4 + 1)).toNatClampNeg) (f4 (nI (a4 + 2)).toNatClampNeg) (f6 (nI (a4 + 3)).toNatClampNeg) (fun x7 S8 =>
    ∃ (n9 : Nat) (f10 : Nat → Int32), out E a0 = some (0, n9, f10) ∧ ix (nI (a4 + 1)) n9 ∧
    ∃ (n11 : Nat) (f12 : Nat → Int32), out E a0 = some (0, n11, f12) ∧ ix (nI (a4 + 2)) n11 ∧
    ∃ (n13 : Nat) (f14 : Nat → Int32), out E a0 = some (0, n13, f14) ∧ ix (nI (a4 + 3)) n13 ∧
    k_m_years E (d - 1) S8 (f10 (nI (a4 + 1)).toNatClampNeg) (f12 (nI (a4 + 2)).toNatClampNeg) (f14 (nI (a4 + 3)).toNatClampNeg) (fun x15 S16 =>
    k_m_thrown E (d - 1) S16 (fun x17 S18 =>
    if x17 = x7 then (
      if x7 = 0 then (
        if (lg_cmp (catL (S18 91 0) (S18 91 1)) (Int32.toInt64 x15)) = 0 then (
          k_law_law_2231 E d S18 a0 a4 Q)
        else (
          Q (0 : Int32) S18))
      else (
        k_law_law_2231 E d S18 a0 a4 Q))
    else (
      Q (0 : Int32) S18))))) :
    k_law_law_1855 E d S a0 a4 Q := by
  obtain ⟨d, rfl⟩ := Nat.exists_eq_add_of_le' hd
  intro j5 j6
  show wp E (d + 1) m_law_law 1855 [some (.float a0), some (.ref 0), some (.ref 65), some (.ref 91), some (.int (nI a4)), j5, j6] [] (Hp S) (QI Q)
  refine wp_st (pc' := 1860) (L' := [some (.float a0), some (.ref 0), some (.ref 65), some (.ref 91), some (.int (nI a4)), j5, j6]) (st' := [.int 1, .int (nI a4), .float a0, .ref 0]) (h' := Hp S) 4 (fun Z => rfl) ?_
  refine wp_st (pc' := 1861) (L' := [some (.float a0), some (.ref 0), some (.ref 65), some (.ref 91), some (.int (nI a4)), j5, j6]) (st' := [.int (nI (a4 + 1)), .float a0, .ref 0]) (h' := Hp S) 1 (fun Z => by rw [← nI_add a4 1]; rfl) ?_
  obtain ⟨n1, f2, e, hi, hw⟩ := hw
  refine wp_st (pc' := 1862) (L' := [some (.float a0), some (.ref 0), some (.ref 65), some (.ref 91), some (.int (nI a4)), j5, j6]) (st' := [.int (f2 (nI (a4 + 1)).toNatClampNeg), .ref 0]) (h' := Hp S) 1 (fun Z => outI_eq (E := E) (h := Hp S) e hi [.ref 0] (fun st => Z (d + 1) m_law_law 1862 [some (.float a0), some (.ref 0), some (.ref 65), some (.ref 91), some (.int (nI a4)), j5, j6] st (Hp S))) ?_
  refine wp_st (pc' := 1866) (L' := [some (.float a0), some (.ref 0), some (.ref 65), some (.ref 91), some (.int (nI a4)), j5, j6]) (st' := [.int 2, .int (nI a4), .float a0, .int (f2 (nI (a4 + 1)).toNatClampNeg), .ref 0]) (h' := Hp S) 3 (fun Z => rfl) ?_
  refine wp_st (pc' := 1867) (L' := [some (.float a0), some (.ref 0), some (.ref 65), some (.ref 91), some (.int (nI a4)), j5, j6]) (st' := [.int (nI (a4 + 2)), .float a0, .int (f2 (nI (a4 + 1)).toNatClampNeg), .ref 0]) (h' := Hp S) 1 (fun Z => by rw [← nI_add a4 2]; rfl) ?_
  obtain ⟨n3, f4, e, hi, hw⟩ := hw
  refine wp_st (pc' := 1868) (L' := [some (.float a0), some (.ref 0), some (.ref 65), some (.ref 91), some (.int (nI a4)), j5, j6]) (st' := [.int (f4 (nI (a4 + 2)).toNatClampNeg), .int (f2 (nI (a4 + 1)).toNatClampNeg), .ref 0]) (h' := Hp S) 1 (fun Z => outI_eq (E := E) (h := Hp S) e hi [.int (f2 (nI (a4 + 1)).toNatClampNeg), .ref 0] (fun st => Z (d + 1) m_law_law 1868 [some (.float a0), some (.ref 0), some (.ref 65), some (.ref 91), some (.int (nI a4)), j5, j6] st (Hp S))) ?_
  refine wp_st (pc' := 1872) (L' := [some (.float a0), some (.ref 0), some (.ref 65), some (.ref 91), some (.int (nI a4)), j5, j6]) (st' := [.int 3, .int (nI a4), .float a0, .int (f4 (nI (a4 + 2)).toNatClampNeg), .int (f2 (nI (a4 + 1)).toNatClampNeg), .ref 0]) (h' := Hp S) 3 (fun Z => rfl) ?_
  refine wp_st (pc' := 1873) (L' := [some (.float a0), some (.ref 0), some (.ref 65), some (.ref 91), some (.int (nI a4)), j5, j6]) (st' := [.int (nI (a4 + 3)), .float a0, .int (f4 (nI (a4 + 2)).toNatClampNeg), .int (f2 (nI (a4 + 1)).toNatClampNeg), .ref 0]) (h' := Hp S) 1 (fun Z => by rw [← nI_add a4 3]; rfl) ?_
  obtain ⟨n5, f6, e, hi, hw⟩ := hw
  refine wp_st (pc' := 1874) (L' := [some (.float a0), some (.ref 0), some (.ref 65), some (.ref 91), some (.int (nI a4)), j5, j6]) (st' := [.int (f6 (nI (a4 + 3)).toNatClampNeg), .int (f4 (nI (a4 + 2)).toNatClampNeg), .int (f2 (nI (a4 + 1)).toNatClampNeg), .ref 0]) (h' := Hp S) 1 (fun Z => outI_eq (E := E) (h := Hp S) e hi [.int (f4 (nI (a4 + 2)).toNatClampNeg), .int (f2 (nI (a4 + 1)).toNatClampNeg), .ref 0] (fun st => Z (d + 1) m_law_law 1874 [some (.float a0), some (.ref 0), some (.ref 65), some (.ref 91), some (.int (nI a4)), j5, j6] st (Hp S))) ?_
  refine wp_st (pc' := 1875) (L' := [some (.float a0), some (.ref 0), some (.ref 65), some (.ref 91), some (.int (nI a4)), j5, j6]) (st' := [.ref 91, .int (f6 (nI (a4 + 3)).toNatClampNeg), .int (f4 (nI (a4 + 2)).toNatClampNeg), .int (f2 (nI (a4 + 1)).toNatClampNeg), .ref 0]) (h' := Hp S) 1 (fun Z => rfl) ?_
  refine wp_call (pc' := 1878) (rest := []) (fun Z => rfl) rfl hw ?_
  rintro o h1 ⟨x7, S8, rfl, rfl, hw⟩
  refine ⟨_, rfl, ?_⟩
  show wp E (d + 1) m_law_law 1878 [some (.float a0), some (.ref 0), some (.ref 65), some (.ref 91), some (.int (nI a4)), j5, j6] [.int x7] (Hp S8) (QI Q)
  refine wp_st (pc' := 1885) (L' := [some (.float a0), some (.ref 0), some (.ref 65), some (.ref 91), some (.int (nI a4)), some (.int x7), j6]) (st' := [.int 1, .int (nI a4), .float a0, .ref 65]) (h' := Hp S8) 5 (fun Z => rfl) ?_
  refine wp_st (pc' := 1886) (L' := [some (.float a0), some (.ref 0), some (.ref 65), some (.ref 91), some (.int (nI a4)), some (.int x7), j6]) (st' := [.int (nI (a4 + 1)), .float a0, .ref 65]) (h' := Hp S8) 1 (fun Z => by rw [← nI_add a4 1]; rfl) ?_
  obtain ⟨n9, f10, e, hi, hw⟩ := hw
  refine wp_st (pc' := 1887) (L' := [some (.float a0), some (.ref 0), some (.ref 65), some (.ref 91), some (.int (nI a4)), some (.int x7), j6]) (st' := [.int (f10 (nI (a4 + 1)).toNatClampNeg), .ref 65]) (h' := Hp S8) 1 (fun Z => outI_eq (E := E) (h := Hp S8) e hi [.ref 65] (fun st => Z (d + 1) m_law_law 1887 [some (.float a0), some (.ref 0), some (.ref 65), some (.ref 91), some (.int (nI a4)), some (.int x7), j6] st (Hp S8))) ?_
  refine wp_st (pc' := 1891) (L' := [some (.float a0), some (.ref 0), some (.ref 65), some (.ref 91), some (.int (nI a4)), some (.int x7), j6]) (st' := [.int 2, .int (nI a4), .float a0, .int (f10 (nI (a4 + 1)).toNatClampNeg), .ref 65]) (h' := Hp S8) 3 (fun Z => rfl) ?_
  refine wp_st (pc' := 1892) (L' := [some (.float a0), some (.ref 0), some (.ref 65), some (.ref 91), some (.int (nI a4)), some (.int x7), j6]) (st' := [.int (nI (a4 + 2)), .float a0, .int (f10 (nI (a4 + 1)).toNatClampNeg), .ref 65]) (h' := Hp S8) 1 (fun Z => by rw [← nI_add a4 2]; rfl) ?_
  obtain ⟨n11, f12, e, hi, hw⟩ := hw
  refine wp_st (pc' := 1893) (L' := [some (.float a0), some (.ref 0), some (.ref 65), some (.ref 91), some (.int (nI a4)), some (.int x7), j6]) (st' := [.int (f12 (nI (a4 + 2)).toNatClampNeg), .int (f10 (nI (a4 + 1)).toNatClampNeg), .ref 65]) (h' := Hp S8) 1 (fun Z => outI_eq (E := E) (h := Hp S8) e hi [.int (f10 (nI (a4 + 1)).toNatClampNeg), .ref 65] (fun st => Z (d + 1) m_law_law 1893 [some (.float a0), some (.ref 0), some (.ref 65), some (.ref 91), some (.int (nI a4)), some (.int x7), j6] st (Hp S8))) ?_
  refine wp_st (pc' := 1897) (L' := [some (.float a0), some (.ref 0), some (.ref 65), some (.ref 91), some (.int (nI a4)), some (.int x7), j6]) (st' := [.int 3, .int (nI a4), .float a0, .int (f12 (nI (a4 + 2)).toNatClampNeg), .int (f10 (nI (a4 + 1)).toNatClampNeg), .ref 65]) (h' := Hp S8) 3 (fun Z => rfl) ?_
  refine wp_st (pc' := 1898) (L' := [some (.float a0), some (.ref 0), some (.ref 65), some (.ref 91), some (.int (nI a4)), some (.int x7), j6]) (st' := [.int (nI (a4 + 3)), .float a0, .int (f12 (nI (a4 + 2)).toNatClampNeg), .int (f10 (nI (a4 + 1)).toNatClampNeg), .ref 65]) (h' := Hp S8) 1 (fun Z => by rw [← nI_add a4 3]; rfl) ?_
  obtain ⟨n13, f14, e, hi, hw⟩ := hw
  refine wp_st (pc' := 1899) (L' := [some (.float a0), some (.ref 0), some (.ref 65), some (.ref 91), some (.int (nI a4)), some (.int x7), j6]) (st' := [.int (f14 (nI (a4 + 3)).toNatClampNeg), .int (f12 (nI (a4 + 2)).toNatClampNeg), .int (f10 (nI (a4 + 1)).toNatClampNeg), .ref 65]) (h' := Hp S8) 1 (fun Z => outI_eq (E := E) (h := Hp S8) e hi [.int (f12 (nI (a4 + 2)).toNatClampNeg), .int (f10 (nI (a4 + 1)).toNatClampNeg), .ref 65] (fun st => Z (d + 1) m_law_law 1899 [some (.float a0), some (.ref 0), some (.ref 65), some (.ref 91), some (.int (nI a4)), some (.int x7), j6] st (Hp S8))) ?_
  refine wp_call (pc' := 1902) (rest := []) (fun Z => rfl) (isO_of sh65) hw ?_
  rintro o h1 ⟨x15, S16, rfl, rfl, hw⟩
  refine ⟨_, rfl, ?_⟩
  show wp E (d + 1) m_law_law 1902 [some (.float a0), some (.ref 0), some (.ref 65), some (.ref 91), some (.int (nI a4)), some (.int x7), j6] [.int x15] (Hp S16) (QI Q)
  refine wp_st (pc' := 1905) (L' := [some (.float a0), some (.ref 0), some (.ref 65), some (.ref 91), some (.int (nI a4)), some (.int x7), some (.int x15)]) (st' := [.ref 65]) (h' := Hp S16) 2 (fun Z => rfl) ?_
  refine wp_call (pc' := 1908) (rest := []) (fun Z => rfl) (isO_of sh65) hw ?_
  rintro o h1 ⟨x17, S18, rfl, rfl, hw⟩
  refine ⟨_, rfl, ?_⟩
  show wp E (d + 1) m_law_law 1908 [some (.float a0), some (.ref 0), some (.ref 65), some (.ref 91), some (.int (nI a4)), some (.int x7), some (.int x15)] [.int x17] (Hp S18) (QI Q)
  refine wp_st (pc' := 1910) (L' := [some (.float a0), some (.ref 0), some (.ref 65), some (.ref 91), some (.int (nI a4)), some (.int x7), some (.int x15)]) (st' := [.int x7, .int x17]) (h' := Hp S18) 1 (fun Z => rfl) ?_
  by_cases hc : x17 = x7
  · rw [if_pos hc] at hw
    refine wp_st (pc' := 1915) (L' := [some (.float a0), some (.ref 0), some (.ref 65), some (.ref 91), some (.int (nI a4)), some (.int x7), some (.int x15)]) (st' := []) (h' := Hp S18) 1 (fun Z => if_pos hc) ?_
    refine wp_st (pc' := 1917) (L' := [some (.float a0), some (.ref 0), some (.ref 65), some (.ref 91), some (.int (nI a4)), some (.int x7), some (.int x15)]) (st' := [.int x7]) (h' := Hp S18) 1 (fun Z => rfl) ?_
    by_cases hc : x7 = 0
    · rw [if_pos hc] at hw
      refine wp_st (pc' := 1920) (L' := [some (.float a0), some (.ref 0), some (.ref 65), some (.ref 91), some (.int (nI a4)), some (.int x7), some (.int x15)]) (st' := []) (h' := Hp S18) 1 (fun Z => if_pos hc) ?_
      refine wp_st (pc' := 1922) (L' := [some (.float a0), some (.ref 0), some (.ref 65), some (.ref 91), some (.int (nI a4)), some (.int x7), some (.int x15)]) (st' := [.int 0, .ref 91]) (h' := Hp S18) 2 (fun Z => rfl) ?_
      refine wp_st (pc' := 1923) (L' := [some (.float a0), some (.ref 0), some (.ref 65), some (.ref 91), some (.int (nI a4)), some (.int x7), some (.int x15)]) (st' := [.long (catL (S18 91 0) (S18 91 1))]) (h' := Hp S18) 1 (fun Z => ldJ0 (E := E) sh91 (by decide) [] (fun st => Z (d + 1) m_law_law 1923 [some (.float a0), some (.ref 0), some (.ref 65), some (.ref 91), some (.int (nI a4)), some (.int x7), some (.int x15)] st (Hp S18))) ?_
      refine wp_st (pc' := 1927) (L' := [some (.float a0), some (.ref 0), some (.ref 65), some (.ref 91), some (.int (nI a4)), some (.int x7), some (.int x15)]) (st' := [.int (lg_cmp (catL (S18 91 0) (S18 91 1)) (Int32.toInt64 x15))]) (h' := Hp S18) 3 (fun Z => rfl) ?_
      by_cases hc : (lg_cmp (catL (S18 91 0) (S18 91 1)) (Int32.toInt64 x15)) = 0
      · rw [if_pos hc] at hw
        refine wp_st (pc' := 1932) (L' := [some (.float a0), some (.ref 0), some (.ref 65), some (.ref 91), some (.int (nI a4)), some (.int x7), some (.int x15)]) (st' := []) (h' := Hp S18) 1 (fun Z => if_pos hc) ?_
        exact wp_st 1 (fun Z => rfl) (show wp E (d + 1) m_law_law 2231 [some (.float a0), some (.ref 0), some (.ref 65), some (.ref 91), some (.int (nI a4)), some (.int x7), some (.int x15)] [] (Hp S18) (QI Q) from (hw (some (.int x7)) (some (.int x15))))
      · rw [if_neg hc] at hw
        refine wp_st (pc' := 1930) (L' := [some (.float a0), some (.ref 0), some (.ref 65), some (.ref 91), some (.int (nI a4)), some (.int x7), some (.int x15)]) (st' := []) (h' := Hp S18) 1 (fun Z => if_neg hc) ?_
        refine wp_st (pc' := 1931) (L' := [some (.float a0), some (.ref 0), some (.ref 65), some (.ref 91), some (.int (nI a4)), some (.int x7), some (.int x15)]) (st' := [.int 0]) (h' := Hp S18) 1 (fun Z => rfl) ?_
        exact wp_ret (fun Z => rfl) ⟨_, _, rfl, rfl, hw⟩
    · rw [if_neg hc] at hw
      refine wp_st (pc' := 1932) (L' := [some (.float a0), some (.ref 0), some (.ref 65), some (.ref 91), some (.int (nI a4)), some (.int x7), some (.int x15)]) (st' := []) (h' := Hp S18) 1 (fun Z => if_neg hc) ?_
      exact wp_st 1 (fun Z => rfl) (show wp E (d + 1) m_law_law 2231 [some (.float a0), some (.ref 0), some (.ref 65), some (.ref 91), some (.int (nI a4)), some (.int x7), some (.int x15)] [] (Hp S18) (QI Q) from (hw (some (.int x7)) (some (.int x15))))
  · rw [if_neg hc] at hw
    refine wp_st (pc' := 1913) (L' := [some (.float a0), some (.ref 0), some (.ref 65), some (.ref 91), some (.int (nI a4)), some (.int x7), some (.int x15)]) (st' := []) (h' := Hp S18) 1 (fun Z => if_neg hc) ?_
    refine wp_st (pc' := 1914) (L' := [some (.float a0), some (.ref 0), some (.ref 65), some (.ref 91), some (.int (nI a4)), some (.int x7), some (.int x15)]) (st' := [.int 0]) (h' := Hp S18) 1 (fun Z => rfl) ?_
    exact wp_ret (fun Z => rfl) ⟨_, _, rfl, rfl, hw⟩
set_option maxRecDepth 4000 in
theorem w_law_law_1935 {E : zX} {d : Nat} {S : St} {a0 : UInt32} {a4 : Nat} {Q : Int32 → St → Prop} (hd : 1 ≤ d) 
    (hw : ∃ (n1 : Nat) (f2 : Nat → Int32), out E a0 = some (0, n1, f2) ∧ ix (nI (a4 + 1)) n1 ∧
    ∃ (n3 : Nat) (f4 : Nat → Int32), out E a0 = some (0, n3, f4) ∧ ix (nI (a4 + 2)) n3 ∧
    k_law_cell E (d - 1) S (f2 (nI (a4 + 1)).toNatClampNeg) (f4 (nI (a4 + 2)).toNatClampNeg) (fun x5 S6 =>
    ∃ (n7 : Nat) (f8 : Nat → Int32), out E a0 = some (0, n7, f8) ∧ ix (nI (a4 + 1)) n7 ∧
    ∃ (n9 : Nat) (f10 : Nat → Int32), out E a0 = some (0, n9, f10) ∧ ix (nI (a4 + 2)) n9 ∧
    k_m_cell E (d - 1) S6 (f8 (nI (a4 + 1)).toNatClampNeg) (f10 (nI (a4 + 2)).toNatClampNeg) (fun x11 S12 =>
    k_m_thrown E (d - 1) S12 (fun x13 S14 =>
    if x13 = x5 then (
      if x5 = 0 then (
        if (lg_cmp (catL (S14 91 0) (S14 91 1)) (Int32.toInt64 x11)) = 0 then (
          k_law_law_2231 E d S14 a0 a4 Q)
        else (
          Q (0 : Int32) S14))
      else (
        k_law_law_2231 E d S14 a0 a4 Q))
    else (
      Q (0 : Int32) S14))))) :
    k_law_law_1935 E d S a0 a4 Q := by
  obtain ⟨d, rfl⟩ := Nat.exists_eq_add_of_le' hd
  intro j5 j6
  show wp E (d + 1) m_law_law 1935 [some (.float a0), some (.ref 0), some (.ref 65), some (.ref 91), some (.int (nI a4)), j5, j6] [] (Hp S) (QI Q)
  refine wp_st (pc' := 1940) (L' := [some (.float a0), some (.ref 0), some (.ref 65), some (.ref 91), some (.int (nI a4)), j5, j6]) (st' := [.int 1, .int (nI a4), .float a0, .ref 0]) (h' := Hp S) 4 (fun Z => rfl) ?_
  refine wp_st (pc' := 1941) (L' := [some (.float a0), some (.ref 0), some (.ref 65), some (.ref 91), some (.int (nI a4)), j5, j6]) (st' := [.int (nI (a4 + 1)), .float a0, .ref 0]) (h' := Hp S) 1 (fun Z => by rw [← nI_add a4 1]; rfl) ?_
  obtain ⟨n1, f2, e, hi, hw⟩ := hw
  refine wp_st (pc' := 1942) (L' := [some (.float a0), some (.ref 0), some (.ref 65), some (.ref 91), some (.int (nI a4)), j5, j6]) (st' := [.int (f2 (nI (a4 + 1)).toNatClampNeg), .ref 0]) (h' := Hp S) 1 (fun Z => outI_eq (E := E) (h := Hp S) e hi [.ref 0] (fun st => Z (d + 1) m_law_law 1942 [some (.float a0), some (.ref 0), some (.ref 65), some (.ref 91), some (.int (nI a4)), j5, j6] st (Hp S))) ?_
  refine wp_st (pc' := 1946) (L' := [some (.float a0), some (.ref 0), some (.ref 65), some (.ref 91), some (.int (nI a4)), j5, j6]) (st' := [.int 2, .int (nI a4), .float a0, .int (f2 (nI (a4 + 1)).toNatClampNeg), .ref 0]) (h' := Hp S) 3 (fun Z => rfl) ?_
  refine wp_st (pc' := 1947) (L' := [some (.float a0), some (.ref 0), some (.ref 65), some (.ref 91), some (.int (nI a4)), j5, j6]) (st' := [.int (nI (a4 + 2)), .float a0, .int (f2 (nI (a4 + 1)).toNatClampNeg), .ref 0]) (h' := Hp S) 1 (fun Z => by rw [← nI_add a4 2]; rfl) ?_
  obtain ⟨n3, f4, e, hi, hw⟩ := hw
  refine wp_st (pc' := 1948) (L' := [some (.float a0), some (.ref 0), some (.ref 65), some (.ref 91), some (.int (nI a4)), j5, j6]) (st' := [.int (f4 (nI (a4 + 2)).toNatClampNeg), .int (f2 (nI (a4 + 1)).toNatClampNeg), .ref 0]) (h' := Hp S) 1 (fun Z => outI_eq (E := E) (h := Hp S) e hi [.int (f2 (nI (a4 + 1)).toNatClampNeg), .ref 0] (fun st => Z (d + 1) m_law_law 1948 [some (.float a0), some (.ref 0), some (.ref 65), some (.ref 91), some (.int (nI a4)), j5, j6] st (Hp S))) ?_
  refine wp_st (pc' := 1949) (L' := [some (.float a0), some (.ref 0), some (.ref 65), some (.ref 91), some (.int (nI a4)), j5, j6]) (st' := [.ref 91, .int (f4 (nI (a4 + 2)).toNatClampNeg), .int (f2 (nI (a4 + 1)).toNatClampNeg), .ref 0]) (h' := Hp S) 1 (fun Z => rfl) ?_
  refine wp_call (pc' := 1952) (rest := []) (fun Z => rfl) rfl hw ?_
  rintro o h1 ⟨x5, S6, rfl, rfl, hw⟩
  refine ⟨_, rfl, ?_⟩
  show wp E (d + 1) m_law_law 1952 [some (.float a0), some (.ref 0), some (.ref 65), some (.ref 91), some (.int (nI a4)), j5, j6] [.int x5] (Hp S6) (QI Q)
  refine wp_st (pc' := 1959) (L' := [some (.float a0), some (.ref 0), some (.ref 65), some (.ref 91), some (.int (nI a4)), some (.int x5), j6]) (st' := [.int 1, .int (nI a4), .float a0, .ref 65]) (h' := Hp S6) 5 (fun Z => rfl) ?_
  refine wp_st (pc' := 1960) (L' := [some (.float a0), some (.ref 0), some (.ref 65), some (.ref 91), some (.int (nI a4)), some (.int x5), j6]) (st' := [.int (nI (a4 + 1)), .float a0, .ref 65]) (h' := Hp S6) 1 (fun Z => by rw [← nI_add a4 1]; rfl) ?_
  obtain ⟨n7, f8, e, hi, hw⟩ := hw
  refine wp_st (pc' := 1961) (L' := [some (.float a0), some (.ref 0), some (.ref 65), some (.ref 91), some (.int (nI a4)), some (.int x5), j6]) (st' := [.int (f8 (nI (a4 + 1)).toNatClampNeg), .ref 65]) (h' := Hp S6) 1 (fun Z => outI_eq (E := E) (h := Hp S6) e hi [.ref 65] (fun st => Z (d + 1) m_law_law 1961 [some (.float a0), some (.ref 0), some (.ref 65), some (.ref 91), some (.int (nI a4)), some (.int x5), j6] st (Hp S6))) ?_
  refine wp_st (pc' := 1965) (L' := [some (.float a0), some (.ref 0), some (.ref 65), some (.ref 91), some (.int (nI a4)), some (.int x5), j6]) (st' := [.int 2, .int (nI a4), .float a0, .int (f8 (nI (a4 + 1)).toNatClampNeg), .ref 65]) (h' := Hp S6) 3 (fun Z => rfl) ?_
  refine wp_st (pc' := 1966) (L' := [some (.float a0), some (.ref 0), some (.ref 65), some (.ref 91), some (.int (nI a4)), some (.int x5), j6]) (st' := [.int (nI (a4 + 2)), .float a0, .int (f8 (nI (a4 + 1)).toNatClampNeg), .ref 65]) (h' := Hp S6) 1 (fun Z => by rw [← nI_add a4 2]; rfl) ?_
  obtain ⟨n9, f10, e, hi, hw⟩ := hw
  refine wp_st (pc' := 1967) (L' := [some (.float a0), some (.ref 0), some (.ref 65), some (.ref 91), some (.int (nI a4)), some (.int x5), j6]) (st' := [.int (f10 (nI (a4 + 2)).toNatClampNeg), .int (f8 (nI (a4 + 1)).toNatClampNeg), .ref 65]) (h' := Hp S6) 1 (fun Z => outI_eq (E := E) (h := Hp S6) e hi [.int (f8 (nI (a4 + 1)).toNatClampNeg), .ref 65] (fun st => Z (d + 1) m_law_law 1967 [some (.float a0), some (.ref 0), some (.ref 65), some (.ref 91), some (.int (nI a4)), some (.int x5), j6] st (Hp S6))) ?_
  refine wp_call (pc' := 1970) (rest := []) (fun Z => rfl) (isO_of sh65) hw ?_
  rintro o h1 ⟨x11, S12, rfl, rfl, hw⟩
  refine ⟨_, rfl, ?_⟩
  show wp E (d + 1) m_law_law 1970 [some (.float a0), some (.ref 0), some (.ref 65), some (.ref 91), some (.int (nI a4)), some (.int x5), j6] [.int x11] (Hp S12) (QI Q)
  refine wp_st (pc' := 1973) (L' := [some (.float a0), some (.ref 0), some (.ref 65), some (.ref 91), some (.int (nI a4)), some (.int x5), some (.int x11)]) (st' := [.ref 65]) (h' := Hp S12) 2 (fun Z => rfl) ?_
  refine wp_call (pc' := 1976) (rest := []) (fun Z => rfl) (isO_of sh65) hw ?_
  rintro o h1 ⟨x13, S14, rfl, rfl, hw⟩
  refine ⟨_, rfl, ?_⟩
  show wp E (d + 1) m_law_law 1976 [some (.float a0), some (.ref 0), some (.ref 65), some (.ref 91), some (.int (nI a4)), some (.int x5), some (.int x11)] [.int x13] (Hp S14) (QI Q)
  refine wp_st (pc' := 1978) (L' := [some (.float a0), some (.ref 0), some (.ref 65), some (.ref 91), some (.int (nI a4)), some (.int x5), some (.int x11)]) (st' := [.int x5, .int x13]) (h' := Hp S14) 1 (fun Z => rfl) ?_
  by_cases hc : x13 = x5
  · rw [if_pos hc] at hw
    refine wp_st (pc' := 1983) (L' := [some (.float a0), some (.ref 0), some (.ref 65), some (.ref 91), some (.int (nI a4)), some (.int x5), some (.int x11)]) (st' := []) (h' := Hp S14) 1 (fun Z => if_pos hc) ?_
    refine wp_st (pc' := 1985) (L' := [some (.float a0), some (.ref 0), some (.ref 65), some (.ref 91), some (.int (nI a4)), some (.int x5), some (.int x11)]) (st' := [.int x5]) (h' := Hp S14) 1 (fun Z => rfl) ?_
    by_cases hc : x5 = 0
    · rw [if_pos hc] at hw
      refine wp_st (pc' := 1988) (L' := [some (.float a0), some (.ref 0), some (.ref 65), some (.ref 91), some (.int (nI a4)), some (.int x5), some (.int x11)]) (st' := []) (h' := Hp S14) 1 (fun Z => if_pos hc) ?_
      refine wp_st (pc' := 1990) (L' := [some (.float a0), some (.ref 0), some (.ref 65), some (.ref 91), some (.int (nI a4)), some (.int x5), some (.int x11)]) (st' := [.int 0, .ref 91]) (h' := Hp S14) 2 (fun Z => rfl) ?_
      refine wp_st (pc' := 1991) (L' := [some (.float a0), some (.ref 0), some (.ref 65), some (.ref 91), some (.int (nI a4)), some (.int x5), some (.int x11)]) (st' := [.long (catL (S14 91 0) (S14 91 1))]) (h' := Hp S14) 1 (fun Z => ldJ0 (E := E) sh91 (by decide) [] (fun st => Z (d + 1) m_law_law 1991 [some (.float a0), some (.ref 0), some (.ref 65), some (.ref 91), some (.int (nI a4)), some (.int x5), some (.int x11)] st (Hp S14))) ?_
      refine wp_st (pc' := 1995) (L' := [some (.float a0), some (.ref 0), some (.ref 65), some (.ref 91), some (.int (nI a4)), some (.int x5), some (.int x11)]) (st' := [.int (lg_cmp (catL (S14 91 0) (S14 91 1)) (Int32.toInt64 x11))]) (h' := Hp S14) 3 (fun Z => rfl) ?_
      by_cases hc : (lg_cmp (catL (S14 91 0) (S14 91 1)) (Int32.toInt64 x11)) = 0
      · rw [if_pos hc] at hw
        refine wp_st (pc' := 2000) (L' := [some (.float a0), some (.ref 0), some (.ref 65), some (.ref 91), some (.int (nI a4)), some (.int x5), some (.int x11)]) (st' := []) (h' := Hp S14) 1 (fun Z => if_pos hc) ?_
        exact wp_st 1 (fun Z => rfl) (show wp E (d + 1) m_law_law 2231 [some (.float a0), some (.ref 0), some (.ref 65), some (.ref 91), some (.int (nI a4)), some (.int x5), some (.int x11)] [] (Hp S14) (QI Q) from (hw (some (.int x5)) (some (.int x11))))
      · rw [if_neg hc] at hw
        refine wp_st (pc' := 1998) (L' := [some (.float a0), some (.ref 0), some (.ref 65), some (.ref 91), some (.int (nI a4)), some (.int x5), some (.int x11)]) (st' := []) (h' := Hp S14) 1 (fun Z => if_neg hc) ?_
        refine wp_st (pc' := 1999) (L' := [some (.float a0), some (.ref 0), some (.ref 65), some (.ref 91), some (.int (nI a4)), some (.int x5), some (.int x11)]) (st' := [.int 0]) (h' := Hp S14) 1 (fun Z => rfl) ?_
        exact wp_ret (fun Z => rfl) ⟨_, _, rfl, rfl, hw⟩
    · rw [if_neg hc] at hw
      refine wp_st (pc' := 2000) (L' := [some (.float a0), some (.ref 0), some (.ref 65), some (.ref 91), some (.int (nI a4)), some (.int x5), some (.int x11)]) (st' := []) (h' := Hp S14) 1 (fun Z => if_neg hc) ?_
      exact wp_st 1 (fun Z => rfl) (show wp E (d + 1) m_law_law 2231 [some (.float a0), some (.ref 0), some (.ref 65), some (.ref 91), some (.int (nI a4)), some (.int x5), some (.int x11)] [] (Hp S14) (QI Q) from (hw (some (.int x5)) (some (.int x11))))
  · rw [if_neg hc] at hw
    refine wp_st (pc' := 1981) (L' := [some (.float a0), some (.ref 0), some (.ref 65), some (.ref 91), some (.int (nI a4)), some (.int x5), some (.int x11)]) (st' := []) (h' := Hp S14) 1 (fun Z => if_neg hc) ?_
    refine wp_st (pc' := 1982) (L' := [some (.float a0), some (.ref 0), some (.ref 65), some (.ref 91), some (.int (nI a4)), some (.int x5), some (.int x11)]) (st' := [.int 0]) (h' := Hp S14) 1 (fun Z => rfl) ?_
    exact wp_ret (fun Z => rfl) ⟨_, _, rfl, rfl, hw⟩
set_option maxRecDepth 4000 in
theorem w_law_law_2003 {E : zX} {d : Nat} {S : St} {a0 : UInt32} {a4 : Nat} {Q : Int32 → St → Prop} (hd : 1 ≤ d) 
    (hw : ∃ (n1 : Nat) (f2 : Nat → Int32), out E a0 = some (0, n1, f2) ∧ ix (nI (a4 + 1)) n1 ∧
    ∃ (n3 : Nat) (f4 : Nat → Int32), out E a0 = some (0, n3, f4) ∧ ix (nI (a4 + 2)) n3 ∧
    k_law_when E (d - 1) S (f2 (nI (a4 + 1)).toNatClampNeg) (f4 (nI (a4 + 2)).toNatClampNeg) (fun x5 S6 =>
    ∃ (n7 : Nat) (f8 : Nat → Int32), out E a0 = some (0, n7, f8) ∧ ix (nI (a4 + 1)) n7 ∧
    ∃ (n9 : Nat) (f10 : Nat → Int32), out E a0 = some (0, n9, f10) ∧ ix (nI (a4 + 2)) n9 ∧
    k_m_when E (d - 1) S6 (f8 (nI (a4 + 1)).toNatClampNeg) (f10 (nI (a4 + 2)).toNatClampNeg) (fun x11 S12 =>
    k_m_thrown E (d - 1) S12 (fun x13 S14 =>
    if x13 = x5 then (
      if x5 = 0 then (
        if (lg_cmp (catL (S14 91 0) (S14 91 1)) (Int32.toInt64 x11)) = 0 then (
          k_law_law_2231 E d S14 a0 a4 Q)
        else (
          Q (0 : Int32) S14))
      else (
        k_law_law_2231 E d S14 a0 a4 Q))
    else (
      Q (0 : Int32) S14))))) :
    k_law_law_2003 E d S a0 a4 Q := by
  obtain ⟨d, rfl⟩ := Nat.exists_eq_add_of_le' hd
  intro j5 j6
  show wp E (d + 1) m_law_law 2003 [some (.float a0), some (.ref 0), some (.ref 65), some (.ref 91), some (.int (nI a4)), j5, j6] [] (Hp S) (QI Q)
  refine wp_st (pc' := 2008) (L' := [some (.float a0), some (.ref 0), some (.ref 65), some (.ref 91), some (.int (nI a4)), j5, j6]) (st' := [.int 1, .int (nI a4), .float a0, .ref 0]) (h' := Hp S) 4 (fun Z => rfl) ?_
  refine wp_st (pc' := 2009) (L' := [some (.float a0), some (.ref 0), some (.ref 65), some (.ref 91), some (.int (nI a4)), j5, j6]) (st' := [.int (nI (a4 + 1)), .float a0, .ref 0]) (h' := Hp S) 1 (fun Z => by rw [← nI_add a4 1]; rfl) ?_
  obtain ⟨n1, f2, e, hi, hw⟩ := hw
  refine wp_st (pc' := 2010) (L' := [some (.float a0), some (.ref 0), some (.ref 65), some (.ref 91), some (.int (nI a4)), j5, j6]) (st' := [.int (f2 (nI (a4 + 1)).toNatClampNeg), .ref 0]) (h' := Hp S) 1 (fun Z => outI_eq (E := E) (h := Hp S) e hi [.ref 0] (fun st => Z (d + 1) m_law_law 2010 [some (.float a0), some (.ref 0), some (.ref 65), some (.ref 91), some (.int (nI a4)), j5, j6] st (Hp S))) ?_
  refine wp_st (pc' := 2014) (L' := [some (.float a0), some (.ref 0), some (.ref 65), some (.ref 91), some (.int (nI a4)), j5, j6]) (st' := [.int 2, .int (nI a4), .float a0, .int (f2 (nI (a4 + 1)).toNatClampNeg), .ref 0]) (h' := Hp S) 3 (fun Z => rfl) ?_
  refine wp_st (pc' := 2015) (L' := [some (.float a0), some (.ref 0), some (.ref 65), some (.ref 91), some (.int (nI a4)), j5, j6]) (st' := [.int (nI (a4 + 2)), .float a0, .int (f2 (nI (a4 + 1)).toNatClampNeg), .ref 0]) (h' := Hp S) 1 (fun Z => by rw [← nI_add a4 2]; rfl) ?_
  obtain ⟨n3, f4, e, hi, hw⟩ := hw
  refine wp_st (pc' := 2016) (L' := [some (.float a0), some (.ref 0), some (.ref 65), some (.ref 91), some (.int (nI a4)), j5, j6]) (st' := [.int (f4 (nI (a4 + 2)).toNatClampNeg), .int (f2 (nI (a4 + 1)).toNatClampNeg), .ref 0]) (h' := Hp S) 1 (fun Z => outI_eq (E := E) (h := Hp S) e hi [.int (f2 (nI (a4 + 1)).toNatClampNeg), .ref 0] (fun st => Z (d + 1) m_law_law 2016 [some (.float a0), some (.ref 0), some (.ref 65), some (.ref 91), some (.int (nI a4)), j5, j6] st (Hp S))) ?_
  refine wp_st (pc' := 2017) (L' := [some (.float a0), some (.ref 0), some (.ref 65), some (.ref 91), some (.int (nI a4)), j5, j6]) (st' := [.ref 91, .int (f4 (nI (a4 + 2)).toNatClampNeg), .int (f2 (nI (a4 + 1)).toNatClampNeg), .ref 0]) (h' := Hp S) 1 (fun Z => rfl) ?_
  refine wp_call (pc' := 2020) (rest := []) (fun Z => rfl) rfl hw ?_
  rintro o h1 ⟨x5, S6, rfl, rfl, hw⟩
  refine ⟨_, rfl, ?_⟩
  show wp E (d + 1) m_law_law 2020 [some (.float a0), some (.ref 0), some (.ref 65), some (.ref 91), some (.int (nI a4)), j5, j6] [.int x5] (Hp S6) (QI Q)
  refine wp_st (pc' := 2027) (L' := [some (.float a0), some (.ref 0), some (.ref 65), some (.ref 91), some (.int (nI a4)), some (.int x5), j6]) (st' := [.int 1, .int (nI a4), .float a0, .ref 65]) (h' := Hp S6) 5 (fun Z => rfl) ?_
  refine wp_st (pc' := 2028) (L' := [some (.float a0), some (.ref 0), some (.ref 65), some (.ref 91), some (.int (nI a4)), some (.int x5), j6]) (st' := [.int (nI (a4 + 1)), .float a0, .ref 65]) (h' := Hp S6) 1 (fun Z => by rw [← nI_add a4 1]; rfl) ?_
  obtain ⟨n7, f8, e, hi, hw⟩ := hw
  refine wp_st (pc' := 2029) (L' := [some (.float a0), some (.ref 0), some (.ref 65), some (.ref 91), some (.int (nI a4)), some (.int x5), j6]) (st' := [.int (f8 (nI (a4 + 1)).toNatClampNeg), .ref 65]) (h' := Hp S6) 1 (fun Z => outI_eq (E := E) (h := Hp S6) e hi [.ref 65] (fun st => Z (d + 1) m_law_law 2029 [some (.float a0), some (.ref 0), some (.ref 65), some (.ref 91), some (.int (nI a4)), some (.int x5), j6] st (Hp S6))) ?_
  refine wp_st (pc' := 2033) (L' := [some (.float a0), some (.ref 0), some (.ref 65), some (.ref 91), some (.int (nI a4)), some (.int x5), j6]) (st' := [.int 2, .int (nI a4), .float a0, .int (f8 (nI (a4 + 1)).toNatClampNeg), .ref 65]) (h' := Hp S6) 3 (fun Z => rfl) ?_
  refine wp_st (pc' := 2034) (L' := [some (.float a0), some (.ref 0), some (.ref 65), some (.ref 91), some (.int (nI a4)), some (.int x5), j6]) (st' := [.int (nI (a4 + 2)), .float a0, .int (f8 (nI (a4 + 1)).toNatClampNeg), .ref 65]) (h' := Hp S6) 1 (fun Z => by rw [← nI_add a4 2]; rfl) ?_
  obtain ⟨n9, f10, e, hi, hw⟩ := hw
  refine wp_st (pc' := 2035) (L' := [some (.float a0), some (.ref 0), some (.ref 65), some (.ref 91), some (.int (nI a4)), some (.int x5), j6]) (st' := [.int (f10 (nI (a4 + 2)).toNatClampNeg), .int (f8 (nI (a4 + 1)).toNatClampNeg), .ref 65]) (h' := Hp S6) 1 (fun Z => outI_eq (E := E) (h := Hp S6) e hi [.int (f8 (nI (a4 + 1)).toNatClampNeg), .ref 65] (fun st => Z (d + 1) m_law_law 2035 [some (.float a0), some (.ref 0), some (.ref 65), some (.ref 91), some (.int (nI a4)), some (.int x5), j6] st (Hp S6))) ?_
  refine wp_call (pc' := 2038) (rest := []) (fun Z => rfl) (isO_of sh65) hw ?_
  rintro o h1 ⟨x11, S12, rfl, rfl, hw⟩
  refine ⟨_, rfl, ?_⟩
  show wp E (d + 1) m_law_law 2038 [some (.float a0), some (.ref 0), some (.ref 65), some (.ref 91), some (.int (nI a4)), some (.int x5), j6] [.int x11] (Hp S12) (QI Q)
  refine wp_st (pc' := 2041) (L' := [some (.float a0), some (.ref 0), some (.ref 65), some (.ref 91), some (.int (nI a4)), some (.int x5), some (.int x11)]) (st' := [.ref 65]) (h' := Hp S12) 2 (fun Z => rfl) ?_
  refine wp_call (pc' := 2044) (rest := []) (fun Z => rfl) (isO_of sh65) hw ?_
  rintro o h1 ⟨x13, S14, rfl, rfl, hw⟩
  refine ⟨_, rfl, ?_⟩
  show wp E (d + 1) m_law_law 2044 [some (.float a0), some (.ref 0), some (.ref 65), some (.ref 91), some (.int (nI a4)), some (.int x5), some (.int x11)] [.int x13] (Hp S14) (QI Q)
  refine wp_st (pc' := 2046) (L' := [some (.float a0), some (.ref 0), some (.ref 65), some (.ref 91), some (.int (nI a4)), some (.int x5), some (.int x11)]) (st' := [.int x5, .int x13]) (h' := Hp S14) 1 (fun Z => rfl) ?_
  by_cases hc : x13 = x5
  · rw [if_pos hc] at hw
    refine wp_st (pc' := 2051) (L' := [some (.float a0), some (.ref 0), some (.ref 65), some (.ref 91), some (.int (nI a4)), some (.int x5), some (.int x11)]) (st' := []) (h' := Hp S14) 1 (fun Z => if_pos hc) ?_
    refine wp_st (pc' := 2053) (L' := [some (.float a0), some (.ref 0), some (.ref 65), some (.ref 91), some (.int (nI a4)), some (.int x5), some (.int x11)]) (st' := [.int x5]) (h' := Hp S14) 1 (fun Z => rfl) ?_
    by_cases hc : x5 = 0
    · rw [if_pos hc] at hw
      refine wp_st (pc' := 2056) (L' := [some (.float a0), some (.ref 0), some (.ref 65), some (.ref 91), some (.int (nI a4)), some (.int x5), some (.int x11)]) (st' := []) (h' := Hp S14) 1 (fun Z => if_pos hc) ?_
      refine wp_st (pc' := 2058) (L' := [some (.float a0), some (.ref 0), some (.ref 65), some (.ref 91), some (.int (nI a4)), some (.int x5), some (.int x11)]) (st' := [.int 0, .ref 91]) (h' := Hp S14) 2 (fun Z => rfl) ?_
      refine wp_st (pc' := 2059) (L' := [some (.float a0), some (.ref 0), some (.ref 65), some (.ref 91), some (.int (nI a4)), some (.int x5), some (.int x11)]) (st' := [.long (catL (S14 91 0) (S14 91 1))]) (h' := Hp S14) 1 (fun Z => ldJ0 (E := E) sh91 (by decide) [] (fun st => Z (d + 1) m_law_law 2059 [some (.float a0), some (.ref 0), some (.ref 65), some (.ref 91), some (.int (nI a4)), some (.int x5), some (.int x11)] st (Hp S14))) ?_
      refine wp_st (pc' := 2063) (L' := [some (.float a0), some (.ref 0), some (.ref 65), some (.ref 91), some (.int (nI a4)), some (.int x5), some (.int x11)]) (st' := [.int (lg_cmp (catL (S14 91 0) (S14 91 1)) (Int32.toInt64 x11))]) (h' := Hp S14) 3 (fun Z => rfl) ?_
      by_cases hc : (lg_cmp (catL (S14 91 0) (S14 91 1)) (Int32.toInt64 x11)) = 0
      · rw [if_pos hc] at hw
        refine wp_st (pc' := 2068) (L' := [some (.float a0), some (.ref 0), some (.ref 65), some (.ref 91), some (.int (nI a4)), some (.int x5), some (.int x11)]) (st' := []) (h' := Hp S14) 1 (fun Z => if_pos hc) ?_
        exact wp_st 1 (fun Z => rfl) (show wp E (d + 1) m_law_law 2231 [some (.float a0), some (.ref 0), some (.ref 65), some (.ref 91), some (.int (nI a4)), some (.int x5), some (.int x11)] [] (Hp S14) (QI Q) from (hw (some (.int x5)) (some (.int x11))))
      · rw [if_neg hc] at hw
        refine wp_st (pc' := 2066) (L' := [some (.float a0), some (.ref 0), some (.ref 65), some (.ref 91), some (.int (nI a4)), some (.int x5), some (.int x11)]) (st' := []) (h' := Hp S14) 1 (fun Z => if_neg hc) ?_
        refine wp_st (pc' := 2067) (L' := [some (.float a0), some (.ref 0), some (.ref 65), some (.ref 91), some (.int (nI a4)), some (.int x5), some (.int x11)]) (st' := [.int 0]) (h' := Hp S14) 1 (fun Z => rfl) ?_
        exact wp_ret (fun Z => rfl) ⟨_, _, rfl, rfl, hw⟩
    · rw [if_neg hc] at hw
      refine wp_st (pc' := 2068) (L' := [some (.float a0), some (.ref 0), some (.ref 65), some (.ref 91), some (.int (nI a4)), some (.int x5), some (.int x11)]) (st' := []) (h' := Hp S14) 1 (fun Z => if_neg hc) ?_
      exact wp_st 1 (fun Z => rfl) (show wp E (d + 1) m_law_law 2231 [some (.float a0), some (.ref 0), some (.ref 65), some (.ref 91), some (.int (nI a4)), some (.int x5), some (.int x11)] [] (Hp S14) (QI Q) from (hw (some (.int x5)) (some (.int x11))))
  · rw [if_neg hc] at hw
    refine wp_st (pc' := 2049) (L' := [some (.float a0), some (.ref 0), some (.ref 65), some (.ref 91), some (.int (nI a4)), some (.int x5), some (.int x11)]) (st' := []) (h' := Hp S14) 1 (fun Z => if_neg hc) ?_
    refine wp_st (pc' := 2050) (L' := [some (.float a0), some (.ref 0), some (.ref 65), some (.ref 91), some (.int (nI a4)), some (.int x5), some (.int x11)]) (st' := [.int 0]) (h' := Hp S14) 1 (fun Z => rfl) ?_
    exact wp_ret (fun Z => rfl) ⟨_, _, rfl, rfl, hw⟩
set_option maxRecDepth 4000 in
theorem w_law_law_2071 {E : zX} {d : Nat} {S : St} {a0 : UInt32} {a4 : Nat} {Q : Int32 → St → Prop} (hd : 1 ≤ d) 
    (hw : ∃ (n1 : Nat) (f2 : Nat → Int32), out E a0 = some (0, n1, f2) ∧ ix (nI (a4 + 1)) n1 ∧
    ∃ (n3 : Nat) (f4 : Nat → Int32), out E a0 = some (0, n3, f4) ∧ ix (nI (a4 + 2)) n3 ∧
    k_law_ahead E (d - 1) S (f2 (nI (a4 + 1)).toNatClampNeg) (f4 (nI (a4 + 2)).toNatClampNeg) (fun x5 S6 =>
    ∃ (n7 : Nat) (f8 : Nat → Int32), out E a0 = some (0, n7, f8) ∧ ix (nI (a4 + 1)) n7 ∧
    ∃ (n9 : Nat) (f10 : Nat → Int32), out E a0 = some (0, n9, f10) ∧ ix (nI (a4 + 2)) n9 ∧
    k_m_ahead E (d - 1) S6 (f8 (nI (a4 + 1)).toNatClampNeg) (f10 (nI (a4 + 2)).toNatClampNeg) (fun x11 S12 =>
    k_m_thrown E (d - 1) S12 (fun x13 S14 =>
    if x13 = x5 then (
      if x5 = 0 then (
        if (lg_cmp (catL (S14 91 0) (S14 91 1)) (Int32.toInt64 x11)) = 0 then (
          k_law_law_2231 E d S14 a0 a4 Q)
        else (
          Q (0 : Int32) S14))
      else (
        k_law_law_2231 E d S14 a0 a4 Q))
    else (
      Q (0 : Int32) S14))))) :
    k_law_law_2071 E d S a0 a4 Q := by
  obtain ⟨d, rfl⟩ := Nat.exists_eq_add_of_le' hd
  intro j5 j6
  show wp E (d + 1) m_law_law 2071 [some (.float a0), some (.ref 0), some (.ref 65), some (.ref 91), some (.int (nI a4)), j5, j6] [] (Hp S) (QI Q)
  refine wp_st (pc' := 2076) (L' := [some (.float a0), some (.ref 0), some (.ref 65), some (.ref 91), some (.int (nI a4)), j5, j6]) (st' := [.int 1, .int (nI a4), .float a0, .ref 0]) (h' := Hp S) 4 (fun Z => rfl) ?_
  refine wp_st (pc' := 2077) (L' := [some (.float a0), some (.ref 0), some (.ref 65), some (.ref 91), some (.int (nI a4)), j5, j6]) (st' := [.int (nI (a4 + 1)), .float a0, .ref 0]) (h' := Hp S) 1 (fun Z => by rw [← nI_add a4 1]; rfl) ?_
  obtain ⟨n1, f2, e, hi, hw⟩ := hw
  refine wp_st (pc' := 2078) (L' := [some (.float a0), some (.ref 0), some (.ref 65), some (.ref 91), some (.int (nI a4)), j5, j6]) (st' := [.int (f2 (nI (a4 + 1)).toNatClampNeg), .ref 0]) (h' := Hp S) 1 (fun Z => outI_eq (E := E) (h := Hp S) e hi [.ref 0] (fun st => Z (d + 1) m_law_law 2078 [some (.float a0), some (.ref 0), some (.ref 65), some (.ref 91), some (.int (nI a4)), j5, j6] st (Hp S))) ?_
  refine wp_st (pc' := 2082) (L' := [some (.float a0), some (.ref 0), some (.ref 65), some (.ref 91), some (.int (nI a4)), j5, j6]) (st' := [.int 2, .int (nI a4), .float a0, .int (f2 (nI (a4 + 1)).toNatClampNeg), .ref 0]) (h' := Hp S) 3 (fun Z => rfl) ?_
  refine wp_st (pc' := 2083) (L' := [some (.float a0), some (.ref 0), some (.ref 65), some (.ref 91), some (.int (nI a4)), j5, j6]) (st' := [.int (nI (a4 + 2)), .float a0, .int (f2 (nI (a4 + 1)).toNatClampNeg), .ref 0]) (h' := Hp S) 1 (fun Z => by rw [← nI_add a4 2]; rfl) ?_
  obtain ⟨n3, f4, e, hi, hw⟩ := hw
  refine wp_st (pc' := 2084) (L' := [some (.float a0), some (.ref 0), some (.ref 65), some (.ref 91), some (.int (nI a4)), j5, j6]) (st' := [.int (f4 (nI (a4 + 2)).toNatClampNeg), .int (f2 (nI (a4 + 1)).toNatClampNeg), .ref 0]) (h' := Hp S) 1 (fun Z => outI_eq (E := E) (h := Hp S) e hi [.int (f2 (nI (a4 + 1)).toNatClampNeg), .ref 0] (fun st => Z (d + 1) m_law_law 2084 [some (.float a0), some (.ref 0), some (.ref 65), some (.ref 91), some (.int (nI a4)), j5, j6] st (Hp S))) ?_
  refine wp_st (pc' := 2085) (L' := [some (.float a0), some (.ref 0), some (.ref 65), some (.ref 91), some (.int (nI a4)), j5, j6]) (st' := [.ref 91, .int (f4 (nI (a4 + 2)).toNatClampNeg), .int (f2 (nI (a4 + 1)).toNatClampNeg), .ref 0]) (h' := Hp S) 1 (fun Z => rfl) ?_
  refine wp_call (pc' := 2088) (rest := []) (fun Z => rfl) rfl hw ?_
  rintro o h1 ⟨x5, S6, rfl, rfl, hw⟩
  refine ⟨_, rfl, ?_⟩
  show wp E (d + 1) m_law_law 2088 [some (.float a0), some (.ref 0), some (.ref 65), some (.ref 91), some (.int (nI a4)), j5, j6] [.int x5] (Hp S6) (QI Q)
  refine wp_st (pc' := 2095) (L' := [some (.float a0), some (.ref 0), some (.ref 65), some (.ref 91), some (.int (nI a4)), some (.int x5), j6]) (st' := [.int 1, .int (nI a4), .float a0, .ref 65]) (h' := Hp S6) 5 (fun Z => rfl) ?_
  refine wp_st (pc' := 2096) (L' := [some (.float a0), some (.ref 0), some (.ref 65), some (.ref 91), some (.int (nI a4)), some (.int x5), j6]) (st' := [.int (nI (a4 + 1)), .float a0, .ref 65]) (h' := Hp S6) 1 (fun Z => by rw [← nI_add a4 1]; rfl) ?_
  obtain ⟨n7, f8, e, hi, hw⟩ := hw
  refine wp_st (pc' := 2097) (L' := [some (.float a0), some (.ref 0), some (.ref 65), some (.ref 91), some (.int (nI a4)), some (.int x5), j6]) (st' := [.int (f8 (nI (a4 + 1)).toNatClampNeg), .ref 65]) (h' := Hp S6) 1 (fun Z => outI_eq (E := E) (h := Hp S6) e hi [.ref 65] (fun st => Z (d + 1) m_law_law 2097 [some (.float a0), some (.ref 0), some (.ref 65), some (.ref 91), some (.int (nI a4)), some (.int x5), j6] st (Hp S6))) ?_
  refine wp_st (pc' := 2101) (L' := [some (.float a0), some (.ref 0), some (.ref 65), some (.ref 91), some (.int (nI a4)), some (.int x5), j6]) (st' := [.int 2, .int (nI a4), .float a0, .int (f8 (nI (a4 + 1)).toNatClampNeg), .ref 65]) (h' := Hp S6) 3 (fun Z => rfl) ?_
  refine wp_st (pc' := 2102) (L' := [some (.float a0), some (.ref 0), some (.ref 65), some (.ref 91), some (.int (nI a4)), some (.int x5), j6]) (st' := [.int (nI (a4 + 2)), .float a0, .int (f8 (nI (a4 + 1)).toNatClampNeg), .ref 65]) (h' := Hp S6) 1 (fun Z => by rw [← nI_add a4 2]; rfl) ?_
  obtain ⟨n9, f10, e, hi, hw⟩ := hw
  refine wp_st (pc' := 2103) (L' := [some (.float a0), some (.ref 0), some (.ref 65), some (.ref 91), some (.int (nI a4)), some (.int x5), j6]) (st' := [.int (f10 (nI (a4 + 2)).toNatClampNeg), .int (f8 (nI (a4 + 1)).toNatClampNeg), .ref 65]) (h' := Hp S6) 1 (fun Z => outI_eq (E := E) (h := Hp S6) e hi [.int (f8 (nI (a4 + 1)).toNatClampNeg), .ref 65] (fun st => Z (d + 1) m_law_law 2103 [some (.float a0), some (.ref 0), some (.ref 65), some (.ref 91), some (.int (nI a4)), some (.int x5), j6] st (Hp S6))) ?_
  refine wp_call (pc' := 2106) (rest := []) (fun Z => rfl) (isO_of sh65) hw ?_
  rintro o h1 ⟨x11, S12, rfl, rfl, hw⟩
  refine ⟨_, rfl, ?_⟩
  show wp E (d + 1) m_law_law 2106 [some (.float a0), some (.ref 0), some (.ref 65), some (.ref 91), some (.int (nI a4)), some (.int x5), j6] [.int x11] (Hp S12) (QI Q)
  refine wp_st (pc' := 2109) (L' := [some (.float a0), some (.ref 0), some (.ref 65), some (.ref 91), some (.int (nI a4)), some (.int x5), some (.int x11)]) (st' := [.ref 65]) (h' := Hp S12) 2 (fun Z => rfl) ?_
  refine wp_call (pc' := 2112) (rest := []) (fun Z => rfl) (isO_of sh65) hw ?_
  rintro o h1 ⟨x13, S14, rfl, rfl, hw⟩
  refine ⟨_, rfl, ?_⟩
  show wp E (d + 1) m_law_law 2112 [some (.float a0), some (.ref 0), some (.ref 65), some (.ref 91), some (.int (nI a4)), some (.int x5), some (.int x11)] [.int x13] (Hp S14) (QI Q)
  refine wp_st (pc' := 2114) (L' := [some (.float a0), some (.ref 0), some (.ref 65), some (.ref 91), some (.int (nI a4)), some (.int x5), some (.int x11)]) (st' := [.int x5, .int x13]) (h' := Hp S14) 1 (fun Z => rfl) ?_
  by_cases hc : x13 = x5
  · rw [if_pos hc] at hw
    refine wp_st (pc' := 2119) (L' := [some (.float a0), some (.ref 0), some (.ref 65), some (.ref 91), some (.int (nI a4)), some (.int x5), some (.int x11)]) (st' := []) (h' := Hp S14) 1 (fun Z => if_pos hc) ?_
    refine wp_st (pc' := 2121) (L' := [some (.float a0), some (.ref 0), some (.ref 65), some (.ref 91), some (.int (nI a4)), some (.int x5), some (.int x11)]) (st' := [.int x5]) (h' := Hp S14) 1 (fun Z => rfl) ?_
    by_cases hc : x5 = 0
    · rw [if_pos hc] at hw
      refine wp_st (pc' := 2124) (L' := [some (.float a0), some (.ref 0), some (.ref 65), some (.ref 91), some (.int (nI a4)), some (.int x5), some (.int x11)]) (st' := []) (h' := Hp S14) 1 (fun Z => if_pos hc) ?_
      refine wp_st (pc' := 2126) (L' := [some (.float a0), some (.ref 0), some (.ref 65), some (.ref 91), some (.int (nI a4)), some (.int x5), some (.int x11)]) (st' := [.int 0, .ref 91]) (h' := Hp S14) 2 (fun Z => rfl) ?_
      refine wp_st (pc' := 2127) (L' := [some (.float a0), some (.ref 0), some (.ref 65), some (.ref 91), some (.int (nI a4)), some (.int x5), some (.int x11)]) (st' := [.long (catL (S14 91 0) (S14 91 1))]) (h' := Hp S14) 1 (fun Z => ldJ0 (E := E) sh91 (by decide) [] (fun st => Z (d + 1) m_law_law 2127 [some (.float a0), some (.ref 0), some (.ref 65), some (.ref 91), some (.int (nI a4)), some (.int x5), some (.int x11)] st (Hp S14))) ?_
      refine wp_st (pc' := 2131) (L' := [some (.float a0), some (.ref 0), some (.ref 65), some (.ref 91), some (.int (nI a4)), some (.int x5), some (.int x11)]) (st' := [.int (lg_cmp (catL (S14 91 0) (S14 91 1)) (Int32.toInt64 x11))]) (h' := Hp S14) 3 (fun Z => rfl) ?_
      by_cases hc : (lg_cmp (catL (S14 91 0) (S14 91 1)) (Int32.toInt64 x11)) = 0
      · rw [if_pos hc] at hw
        refine wp_st (pc' := 2136) (L' := [some (.float a0), some (.ref 0), some (.ref 65), some (.ref 91), some (.int (nI a4)), some (.int x5), some (.int x11)]) (st' := []) (h' := Hp S14) 1 (fun Z => if_pos hc) ?_
        exact wp_st 1 (fun Z => rfl) (show wp E (d + 1) m_law_law 2231 [some (.float a0), some (.ref 0), some (.ref 65), some (.ref 91), some (.int (nI a4)), some (.int x5), some (.int x11)] [] (Hp S14) (QI Q) from (hw (some (.int x5)) (some (.int x11))))
      · rw [if_neg hc] at hw
        refine wp_st (pc' := 2134) (L' := [some (.float a0), some (.ref 0), some (.ref 65), some (.ref 91), some (.int (nI a4)), some (.int x5), some (.int x11)]) (st' := []) (h' := Hp S14) 1 (fun Z => if_neg hc) ?_
        refine wp_st (pc' := 2135) (L' := [some (.float a0), some (.ref 0), some (.ref 65), some (.ref 91), some (.int (nI a4)), some (.int x5), some (.int x11)]) (st' := [.int 0]) (h' := Hp S14) 1 (fun Z => rfl) ?_
        exact wp_ret (fun Z => rfl) ⟨_, _, rfl, rfl, hw⟩
    · rw [if_neg hc] at hw
      refine wp_st (pc' := 2136) (L' := [some (.float a0), some (.ref 0), some (.ref 65), some (.ref 91), some (.int (nI a4)), some (.int x5), some (.int x11)]) (st' := []) (h' := Hp S14) 1 (fun Z => if_neg hc) ?_
      exact wp_st 1 (fun Z => rfl) (show wp E (d + 1) m_law_law 2231 [some (.float a0), some (.ref 0), some (.ref 65), some (.ref 91), some (.int (nI a4)), some (.int x5), some (.int x11)] [] (Hp S14) (QI Q) from (hw (some (.int x5)) (some (.int x11))))
  · rw [if_neg hc] at hw
    refine wp_st (pc' := 2117) (L' := [some (.float a0), some (.ref 0), some (.ref 65), some (.ref 91), some (.int (nI a4)), some (.int x5), some (.int x11)]) (st' := []) (h' := Hp S14) 1 (fun Z => if_neg hc) ?_
    refine wp_st (pc' := 2118) (L' := [some (.float a0), some (.ref 0), some (.ref 65), some (.ref 91), some (.int (nI a4)), some (.int x5), some (.int x11)]) (st' := [.int 0]) (h' := Hp S14) 1 (fun Z => rfl) ?_
    exact wp_ret (fun Z => rfl) ⟨_, _, rfl, rfl, hw⟩
set_option maxRecDepth 4000 in
theorem w_law_law_2139 {E : zX} {d : Nat} {S : St} {a0 : UInt32} {a4 : Nat} {Q : Int32 → St → Prop} (hd : 1 ≤ d) 
    (hw : ∃ (n1 : Nat) (f2 : Nat → Int32), out E a0 = some (0, n1, f2) ∧ ix (nI (a4 + 1)) n1 ∧
    ∃ (n3 : Nat) (f4 : Nat → Int32), out E a0 = some (0, n3, f4) ∧ ix (nI (a4 + 2)) n3 ∧
    k_law_stays E (d - 1) S (f2 (nI (a4 + 1)).toNatClampNeg) (f4 (nI (a4 + 2)).toNatClampNeg) (fun x5 S6 =>
    ∃ (n7 : Nat) (f8 : Nat → Int32), out E a0 = some (0, n7, f8) ∧ ix (nI (a4 + 1)) n7 ∧
    ∃ (n9 : Nat) (f10 : Nat → Int32), out E a0 = some (0, n9, f10) ∧ ix (nI (a4 + 2)) n9 ∧
    k_m_stays E (d - 1) S6 (f8 (nI (a4 + 1)).toNatClampNeg) (f10 (nI (a4 + 2)).toNatClampNeg) (fun x11 S12 =>
    k_m_thrown E (d - 1) S12 (fun x13 S14 =>
    if x13 = x5 then (
      if x5 = 0 then (
        if (lg_cmp (catL (S14 91 0) (S14 91 1)) (Int32.toInt64 x11)) = 0 then (
          k_law_law_2231 E d S14 a0 a4 Q)
        else (
          Q (0 : Int32) S14))
      else (
        k_law_law_2231 E d S14 a0 a4 Q))
    else (
      Q (0 : Int32) S14))))) :
    k_law_law_2139 E d S a0 a4 Q := by
  obtain ⟨d, rfl⟩ := Nat.exists_eq_add_of_le' hd
  intro j5 j6
  show wp E (d + 1) m_law_law 2139 [some (.float a0), some (.ref 0), some (.ref 65), some (.ref 91), some (.int (nI a4)), j5, j6] [] (Hp S) (QI Q)
  refine wp_st (pc' := 2144) (L' := [some (.float a0), some (.ref 0), some (.ref 65), some (.ref 91), some (.int (nI a4)), j5, j6]) (st' := [.int 1, .int (nI a4), .float a0, .ref 0]) (h' := Hp S) 4 (fun Z => rfl) ?_
  refine wp_st (pc' := 2145) (L' := [some (.float a0), some (.ref 0), some (.ref 65), some (.ref 91), some (.int (nI a4)), j5, j6]) (st' := [.int (nI (a4 + 1)), .float a0, .ref 0]) (h' := Hp S) 1 (fun Z => by rw [← nI_add a4 1]; rfl) ?_
  obtain ⟨n1, f2, e, hi, hw⟩ := hw
  refine wp_st (pc' := 2146) (L' := [some (.float a0), some (.ref 0), some (.ref 65), some (.ref 91), some (.int (nI a4)), j5, j6]) (st' := [.int (f2 (nI (a4 + 1)).toNatClampNeg), .ref 0]) (h' := Hp S) 1 (fun Z => outI_eq (E := E) (h := Hp S) e hi [.ref 0] (fun st => Z (d + 1) m_law_law 2146 [some (.float a0), some (.ref 0), some (.ref 65), some (.ref 91), some (.int (nI a4)), j5, j6] st (Hp S))) ?_
  refine wp_st (pc' := 2150) (L' := [some (.float a0), some (.ref 0), some (.ref 65), some (.ref 91), some (.int (nI a4)), j5, j6]) (st' := [.int 2, .int (nI a4), .float a0, .int (f2 (nI (a4 + 1)).toNatClampNeg), .ref 0]) (h' := Hp S) 3 (fun Z => rfl) ?_
  refine wp_st (pc' := 2151) (L' := [some (.float a0), some (.ref 0), some (.ref 65), some (.ref 91), some (.int (nI a4)), j5, j6]) (st' := [.int (nI (a4 + 2)), .float a0, .int (f2 (nI (a4 + 1)).toNatClampNeg), .ref 0]) (h' := Hp S) 1 (fun Z => by rw [← nI_add a4 2]; rfl) ?_
  obtain ⟨n3, f4, e, hi, hw⟩ := hw
  refine wp_st (pc' := 2152) (L' := [some (.float a0), some (.ref 0), some (.ref 65), some (.ref 91), some (.int (nI a4)), j5, j6]) (st' := [.int (f4 (nI (a4 + 2)).toNatClampNeg), .int (f2 (nI (a4 + 1)).toNatClampNeg), .ref 0]) (h' := Hp S) 1 (fun Z => outI_eq (E := E) (h := Hp S) e hi [.int (f2 (nI (a4 + 1)).toNatClampNeg), .ref 0] (fun st => Z (d + 1) m_law_law 2152 [some (.float a0), some (.ref 0), some (.ref 65), some (.ref 91), some (.int (nI a4)), j5, j6] st (Hp S))) ?_
  refine wp_st (pc' := 2153) (L' := [some (.float a0), some (.ref 0), some (.ref 65), some (.ref 91), some (.int (nI a4)), j5, j6]) (st' := [.ref 91, .int (f4 (nI (a4 + 2)).toNatClampNeg), .int (f2 (nI (a4 + 1)).toNatClampNeg), .ref 0]) (h' := Hp S) 1 (fun Z => rfl) ?_
  refine wp_call (pc' := 2156) (rest := []) (fun Z => rfl) rfl hw ?_
  rintro o h1 ⟨x5, S6, rfl, rfl, hw⟩
  refine ⟨_, rfl, ?_⟩
  show wp E (d + 1) m_law_law 2156 [some (.float a0), some (.ref 0), some (.ref 65), some (.ref 91), some (.int (nI a4)), j5, j6] [.int x5] (Hp S6) (QI Q)
  refine wp_st (pc' := 2163) (L' := [some (.float a0), some (.ref 0), some (.ref 65), some (.ref 91), some (.int (nI a4)), some (.int x5), j6]) (st' := [.int 1, .int (nI a4), .float a0, .ref 65]) (h' := Hp S6) 5 (fun Z => rfl) ?_
  refine wp_st (pc' := 2164) (L' := [some (.float a0), some (.ref 0), some (.ref 65), some (.ref 91), some (.int (nI a4)), some (.int x5), j6]) (st' := [.int (nI (a4 + 1)), .float a0, .ref 65]) (h' := Hp S6) 1 (fun Z => by rw [← nI_add a4 1]; rfl) ?_
  obtain ⟨n7, f8, e, hi, hw⟩ := hw
  refine wp_st (pc' := 2165) (L' := [some (.float a0), some (.ref 0), some (.ref 65), some (.ref 91), some (.int (nI a4)), some (.int x5), j6]) (st' := [.int (f8 (nI (a4 + 1)).toNatClampNeg), .ref 65]) (h' := Hp S6) 1 (fun Z => outI_eq (E := E) (h := Hp S6) e hi [.ref 65] (fun st => Z (d + 1) m_law_law 2165 [some (.float a0), some (.ref 0), some (.ref 65), some (.ref 91), some (.int (nI a4)), some (.int x5), j6] st (Hp S6))) ?_
  refine wp_st (pc' := 2169) (L' := [some (.float a0), some (.ref 0), some (.ref 65), some (.ref 91), some (.int (nI a4)), some (.int x5), j6]) (st' := [.int 2, .int (nI a4), .float a0, .int (f8 (nI (a4 + 1)).toNatClampNeg), .ref 65]) (h' := Hp S6) 3 (fun Z => rfl) ?_
  refine wp_st (pc' := 2170) (L' := [some (.float a0), some (.ref 0), some (.ref 65), some (.ref 91), some (.int (nI a4)), some (.int x5), j6]) (st' := [.int (nI (a4 + 2)), .float a0, .int (f8 (nI (a4 + 1)).toNatClampNeg), .ref 65]) (h' := Hp S6) 1 (fun Z => by rw [← nI_add a4 2]; rfl) ?_
  obtain ⟨n9, f10, e, hi, hw⟩ := hw
  refine wp_st (pc' := 2171) (L' := [some (.float a0), some (.ref 0), some (.ref 65), some (.ref 91), some (.int (nI a4)), some (.int x5), j6]) (st' := [.int (f10 (nI (a4 + 2)).toNatClampNeg), .int (f8 (nI (a4 + 1)).toNatClampNeg), .ref 65]) (h' := Hp S6) 1 (fun Z => outI_eq (E := E) (h := Hp S6) e hi [.int (f8 (nI (a4 + 1)).toNatClampNeg), .ref 65] (fun st => Z (d + 1) m_law_law 2171 [some (.float a0), some (.ref 0), some (.ref 65), some (.ref 91), some (.int (nI a4)), some (.int x5), j6] st (Hp S6))) ?_
  refine wp_call (pc' := 2174) (rest := []) (fun Z => rfl) (isO_of sh65) hw ?_
  rintro o h1 ⟨x11, S12, rfl, rfl, hw⟩
  refine ⟨_, rfl, ?_⟩
  show wp E (d + 1) m_law_law 2174 [some (.float a0), some (.ref 0), some (.ref 65), some (.ref 91), some (.int (nI a4)), some (.int x5), j6] [.int x11] (Hp S12) (QI Q)
  refine wp_st (pc' := 2177) (L' := [some (.float a0), some (.ref 0), some (.ref 65), some (.ref 91), some (.int (nI a4)), some (.int x5), some (.int x11)]) (st' := [.ref 65]) (h' := Hp S12) 2 (fun Z => rfl) ?_
  refine wp_call (pc' := 2180) (rest := []) (fun Z => rfl) (isO_of sh65) hw ?_
  rintro o h1 ⟨x13, S14, rfl, rfl, hw⟩
  refine ⟨_, rfl, ?_⟩
  show wp E (d + 1) m_law_law 2180 [some (.float a0), some (.ref 0), some (.ref 65), some (.ref 91), some (.int (nI a4)), some (.int x5), some (.int x11)] [.int x13] (Hp S14) (QI Q)
  refine wp_st (pc' := 2182) (L' := [some (.float a0), some (.ref 0), some (.ref 65), some (.ref 91), some (.int (nI a4)), some (.int x5), some (.int x11)]) (st' := [.int x5, .int x13]) (h' := Hp S14) 1 (fun Z => rfl) ?_
  by_cases hc : x13 = x5
  · rw [if_pos hc] at hw
    refine wp_st (pc' := 2187) (L' := [some (.float a0), some (.ref 0), some (.ref 65), some (.ref 91), some (.int (nI a4)), some (.int x5), some (.int x11)]) (st' := []) (h' := Hp S14) 1 (fun Z => if_pos hc) ?_
    refine wp_st (pc' := 2189) (L' := [some (.float a0), some (.ref 0), some (.ref 65), some (.ref 91), some (.int (nI a4)), some (.int x5), some (.int x11)]) (st' := [.int x5]) (h' := Hp S14) 1 (fun Z => rfl) ?_
    by_cases hc : x5 = 0
    · rw [if_pos hc] at hw
      refine wp_st (pc' := 2192) (L' := [some (.float a0), some (.ref 0), some (.ref 65), some (.ref 91), some (.int (nI a4)), some (.int x5), some (.int x11)]) (st' := []) (h' := Hp S14) 1 (fun Z => if_pos hc) ?_
      refine wp_st (pc' := 2194) (L' := [some (.float a0), some (.ref 0), some (.ref 65), some (.ref 91), some (.int (nI a4)), some (.int x5), some (.int x11)]) (st' := [.int 0, .ref 91]) (h' := Hp S14) 2 (fun Z => rfl) ?_
      refine wp_st (pc' := 2195) (L' := [some (.float a0), some (.ref 0), some (.ref 65), some (.ref 91), some (.int (nI a4)), some (.int x5), some (.int x11)]) (st' := [.long (catL (S14 91 0) (S14 91 1))]) (h' := Hp S14) 1 (fun Z => ldJ0 (E := E) sh91 (by decide) [] (fun st => Z (d + 1) m_law_law 2195 [some (.float a0), some (.ref 0), some (.ref 65), some (.ref 91), some (.int (nI a4)), some (.int x5), some (.int x11)] st (Hp S14))) ?_
      refine wp_st (pc' := 2199) (L' := [some (.float a0), some (.ref 0), some (.ref 65), some (.ref 91), some (.int (nI a4)), some (.int x5), some (.int x11)]) (st' := [.int (lg_cmp (catL (S14 91 0) (S14 91 1)) (Int32.toInt64 x11))]) (h' := Hp S14) 3 (fun Z => rfl) ?_
      by_cases hc : (lg_cmp (catL (S14 91 0) (S14 91 1)) (Int32.toInt64 x11)) = 0
      · rw [if_pos hc] at hw
        refine wp_st (pc' := 2204) (L' := [some (.float a0), some (.ref 0), some (.ref 65), some (.ref 91), some (.int (nI a4)), some (.int x5), some (.int x11)]) (st' := []) (h' := Hp S14) 1 (fun Z => if_pos hc) ?_
        exact wp_st 1 (fun Z => rfl) (show wp E (d + 1) m_law_law 2231 [some (.float a0), some (.ref 0), some (.ref 65), some (.ref 91), some (.int (nI a4)), some (.int x5), some (.int x11)] [] (Hp S14) (QI Q) from (hw (some (.int x5)) (some (.int x11))))
      · rw [if_neg hc] at hw
        refine wp_st (pc' := 2202) (L' := [some (.float a0), some (.ref 0), some (.ref 65), some (.ref 91), some (.int (nI a4)), some (.int x5), some (.int x11)]) (st' := []) (h' := Hp S14) 1 (fun Z => if_neg hc) ?_
        refine wp_st (pc' := 2203) (L' := [some (.float a0), some (.ref 0), some (.ref 65), some (.ref 91), some (.int (nI a4)), some (.int x5), some (.int x11)]) (st' := [.int 0]) (h' := Hp S14) 1 (fun Z => rfl) ?_
        exact wp_ret (fun Z => rfl) ⟨_, _, rfl, rfl, hw⟩
    · rw [if_neg hc] at hw
      refine wp_st (pc' := 2204) (L' := [some (.float a0), some (.ref 0), some (.ref 65), some (.ref 91), some (.int (nI a4)), some (.int x5), some (.int x11)]) (st' := []) (h' := Hp S14) 1 (fun Z => if_neg hc) ?_
      exact wp_st 1 (fun Z => rfl) (show wp E (d + 1) m_law_law 2231 [some (.float a0), some (.ref 0), some (.ref 65), some (.ref 91), some (.int (nI a4)), some (.int x5), some (.int x11)] [] (Hp S14) (QI Q) from (hw (some (.int x5)) (some (.int x11))))
  · rw [if_neg hc] at hw
    refine wp_st (pc' := 2185) (L' := [some (.float a0), some (.ref 0), some (.ref 65), some (.ref 91), some (.int (nI a4)), some (.int x5), some (.int x11)]) (st' := []) (h' := Hp S14) 1 (fun Z => if_neg hc) ?_
    refine wp_st (pc' := 2186) (L' := [some (.float a0), some (.ref 0), some (.ref 65), some (.ref 91), some (.int (nI a4)), some (.int x5), some (.int x11)]) (st' := [.int 0]) (h' := Hp S14) 1 (fun Z => rfl) ?_
    exact wp_ret (fun Z => rfl) ⟨_, _, rfl, rfl, hw⟩
set_option maxRecDepth 4000 in
theorem w_law_law_2207 {E : zX} {d : Nat} {S : St} {a0 : UInt32} {a4 : Nat} {Q : Int32 → St → Prop} (hd : 1 ≤ d) 
    (hw : k_x_image E (d - 1) S (fun S2 =>
    k_m_image E (d - 1) S2 (fun S4 =>
    k_law_law_2231 E d S4 a0 a4 Q))) :
    k_law_law_2207 E d S a0 a4 Q := by
  obtain ⟨d, rfl⟩ := Nat.exists_eq_add_of_le' hd
  intro j5 j6
  show wp E (d + 1) m_law_law 2207 [some (.float a0), some (.ref 0), some (.ref 65), some (.ref 91), some (.int (nI a4)), j5, j6] [] (Hp S) (QI Q)
  refine wp_st (pc' := 2208) (L' := [some (.float a0), some (.ref 0), some (.ref 65), some (.ref 91), some (.int (nI a4)), j5, j6]) (st' := [.ref 0]) (h' := Hp S) 1 (fun Z => rfl) ?_
  refine wp_call (pc' := 2211) (rest := []) (fun Z => rfl) (isO_of sh0) hw ?_
  rintro o h1 ⟨S2, rfl, rfl, hw⟩
  refine ⟨_, rfl, ?_⟩
  show wp E (d + 1) m_law_law 2211 [some (.float a0), some (.ref 0), some (.ref 65), some (.ref 91), some (.int (nI a4)), j5, j6] [] (Hp S2) (QI Q)
  refine wp_st (pc' := 2212) (L' := [some (.float a0), some (.ref 0), some (.ref 65), some (.ref 91), some (.int (nI a4)), j5, j6]) (st' := [.ref 65]) (h' := Hp S2) 1 (fun Z => rfl) ?_
  refine wp_call (pc' := 2215) (rest := []) (fun Z => rfl) (isO_of sh65) hw ?_
  rintro o h1 ⟨S4, rfl, rfl, hw⟩
  refine ⟨_, rfl, ?_⟩
  show wp E (d + 1) m_law_law 2215 [some (.float a0), some (.ref 0), some (.ref 65), some (.ref 91), some (.int (nI a4)), j5, j6] [] (Hp S4) (QI Q)
  exact wp_st 1 (fun Z => rfl) (show wp E (d + 1) m_law_law 2231 [some (.float a0), some (.ref 0), some (.ref 65), some (.ref 91), some (.int (nI a4)), j5, j6] [] (Hp S4) (QI Q) from (hw j5 j6))
set_option maxRecDepth 4000 in
theorem w_law_law_2218 {E : zX} {d : Nat} {S : St} {a0 : UInt32} {a4 : Nat} {Q : Int32 → St → Prop} (hd : 1 ≤ d) 
    (hw : k_x_restore E (d - 1) S (fun x1 S2 =>
    k_m_restore E (d - 1) S2 (fun x3 S4 =>
    if x1 = x3 then (
      k_law_law_2231 E d S4 a0 a4 Q)
    else (
      Q (0 : Int32) S4)))) :
    k_law_law_2218 E d S a0 a4 Q := by
  obtain ⟨d, rfl⟩ := Nat.exists_eq_add_of_le' hd
  intro j5 j6
  show wp E (d + 1) m_law_law 2218 [some (.float a0), some (.ref 0), some (.ref 65), some (.ref 91), some (.int (nI a4)), j5, j6] [] (Hp S) (QI Q)
  refine wp_st (pc' := 2219) (L' := [some (.float a0), some (.ref 0), some (.ref 65), some (.ref 91), some (.int (nI a4)), j5, j6]) (st' := [.ref 0]) (h' := Hp S) 1 (fun Z => rfl) ?_
  refine wp_call (pc' := 2222) (rest := []) (fun Z => rfl) (isO_of sh0) hw ?_
  rintro o h1 ⟨x1, S2, rfl, rfl, hw⟩
  refine ⟨_, rfl, ?_⟩
  show wp E (d + 1) m_law_law 2222 [some (.float a0), some (.ref 0), some (.ref 65), some (.ref 91), some (.int (nI a4)), j5, j6] [.int x1] (Hp S2) (QI Q)
  refine wp_st (pc' := 2223) (L' := [some (.float a0), some (.ref 0), some (.ref 65), some (.ref 91), some (.int (nI a4)), j5, j6]) (st' := [.ref 65, .int x1]) (h' := Hp S2) 1 (fun Z => rfl) ?_
  refine wp_call (pc' := 2226) (rest := [.int x1]) (fun Z => rfl) (isO_of sh65) hw ?_
  rintro o h1 ⟨x3, S4, rfl, rfl, hw⟩
  refine ⟨_, rfl, ?_⟩
  show wp E (d + 1) m_law_law 2226 [some (.float a0), some (.ref 0), some (.ref 65), some (.ref 91), some (.int (nI a4)), j5, j6] [.int x3, .int x1] (Hp S4) (QI Q)
  by_cases hc : x1 = x3
  · rw [if_pos hc] at hw
    refine wp_st (pc' := 2231) (L' := [some (.float a0), some (.ref 0), some (.ref 65), some (.ref 91), some (.int (nI a4)), j5, j6]) (st' := []) (h' := Hp S4) 1 (fun Z => if_pos hc) ?_
    exact (show wp E (d + 1) m_law_law 2231 [some (.float a0), some (.ref 0), some (.ref 65), some (.ref 91), some (.int (nI a4)), j5, j6] [] (Hp S4) (QI Q) from (hw j5 j6))
  · rw [if_neg hc] at hw
    refine wp_st (pc' := 2229) (L' := [some (.float a0), some (.ref 0), some (.ref 65), some (.ref 91), some (.int (nI a4)), j5, j6]) (st' := []) (h' := Hp S4) 1 (fun Z => if_neg hc) ?_
    refine wp_st (pc' := 2230) (L' := [some (.float a0), some (.ref 0), some (.ref 65), some (.ref 91), some (.int (nI a4)), j5, j6]) (st' := [.int 0]) (h' := Hp S4) 1 (fun Z => rfl) ?_
    exact wp_ret (fun Z => rfl) ⟨_, _, rfl, rfl, hw⟩
set_option maxRecDepth 4000 in
theorem w_law_law_2231 {E : zX} {d : Nat} {S : St} {a0 : UInt32} {a4 : Nat} {Q : Int32 → St → Prop} (hd : 1 ≤ d) 
    (hw : k_law_law_23 E d S a0 (a4 + 6) Q) :
    k_law_law_2231 E d S a0 a4 Q := by
  obtain ⟨d, rfl⟩ := Nat.exists_eq_add_of_le' hd
  intro j5 j6
  show wp E (d + 1) m_law_law 2231 [some (.float a0), some (.ref 0), some (.ref 65), some (.ref 91), some (.int (nI a4)), j5, j6] [] (Hp S) (QI Q)
  refine wp_st (pc' := 2234) (L' := [some (.float a0), some (.ref 0), some (.ref 65), some (.ref 91), some (.int (nI (a4 + 6))), j5, j6]) (st' := []) (h' := Hp S) 1 (fun Z => by rw [← nI_add a4 6]; rfl) ?_
  exact wp_st 1 (fun Z => rfl) (show wp E (d + 1) m_law_law 23 [some (.float a0), some (.ref 0), some (.ref 65), some (.ref 91), some (.int (nI (a4 + 6))), j5, j6] [] (Hp S) (QI Q) from (hw j5 j6))

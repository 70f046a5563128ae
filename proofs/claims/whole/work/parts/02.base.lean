def isNestW : Cond → Bool
  | .methodLinkNest _ _ _ _ => true
  | _ => false
def GW : List Cond := lw_tbl.filter goodWord
def NW : List Cond := lw_tbl.filter isNestW
/-! ===== the abstract machine: values, pools, one step ===== -/
abbrev AV : Type := Int32 ⊕ (Int64 ⊕ Option (Nat × Nat × Nat))
abbrev vI (x : Int32) : AV := Sum.inl x
abbrev vL (x : Int64) : AV := Sum.inr (Sum.inl x)
abbrev vN : AV := Sum.inr (Sum.inr none)
abbrev vR (c j a : Nat) : AV := Sum.inr (Sum.inr (some (c, j, a)))
def isL : AV → Bool
  | .inr (.inl _) => true
  | _ => false
/-- a pool: how many objects of a class there are; int fields, long fields, int arrays, long arrays, references, arrays of references, by object, slot (and place) -/
abbrev PS : Type := Nat × (Nat → Nat → Int32) × (Nat → Nat → Int64) × (Nat → Nat → Nat → Int32) × (Nat → Nat → Nat → Int64) × (Nat → Nat → Option Nat) × (Nat → Nat → Nat → Option Nat)
def gN (P : PS) : Nat := P.1
def gI (P : PS) (j a : Nat) : Int32 := P.2.1 j a
def gL (P : PS) (j a : Nat) : Int64 := P.2.2.1 j a
def gA (P : PS) (j a i : Nat) : Int32 := P.2.2.2.1 j a i
def gB (P : PS) (j a i : Nat) : Int64 := P.2.2.2.2.1 j a i
def gO (P : PS) (j a : Nat) : Option Nat := P.2.2.2.2.2.1 j a
def gR (P : PS) (j a i : Nat) : Option Nat := P.2.2.2.2.2.2 j a i
def u2 {α : Type} (f : Nat → Nat → α) (j a : Nat) (v : α) : Nat → Nat → α := fun j' a' => if a' = a then (if j' = j then v else f j' a') else f j' a'
def u3 {α : Type} (f : Nat → Nat → Nat → α) (j a i : Nat) (v : α) : Nat → Nat → Nat → α := fun j' a' i' => if a' = a then (if j' = j then (if i' = i then v else f j' a' i') else f j' a' i') else f j' a' i'
def sI (P : PS) (j a : Nat) (v : Int32) : PS := (P.1, u2 P.2.1 j a v, P.2.2)
def sL (P : PS) (j a : Nat) (v : Int64) : PS := (P.1, P.2.1, u2 P.2.2.1 j a v, P.2.2.2)
def sA (P : PS) (j a i : Nat) (v : Int32) : PS := (P.1, P.2.1, P.2.2.1, u3 P.2.2.2.1 j a i v, P.2.2.2.2)
def sB (P : PS) (j a i : Nat) (v : Int64) : PS := (P.1, P.2.1, P.2.2.1, P.2.2.2.1, u3 P.2.2.2.2.1 j a i v, P.2.2.2.2.2)
def sO (P : PS) (j a : Nat) (v : Option Nat) : PS := (P.1, P.2.1, P.2.2.1, P.2.2.2.1, P.2.2.2.2.1, u2 P.2.2.2.2.2.1 j a v, P.2.2.2.2.2.2)
def sR (P : PS) (j a i : Nat) (v : Option Nat) : PS := (P.1, P.2.1, P.2.2.1, P.2.2.2.1, P.2.2.2.2.1, P.2.2.2.2.2.1, u3 P.2.2.2.2.2.2 j a i v)
/-- a whole int array put in another's place -/
def sW (P : PS) (j a : Nat) (f : Nat → Int32) : PS := (P.1, P.2.1, P.2.2.1, fun j' a' => if a' = a then (if j' = j then f else P.2.2.2.1 j' a') else P.2.2.2.1 j' a', P.2.2.2.2)
def zPS : PS := (0, fun _ _ => 0, fun _ _ => 0, fun _ _ _ => 0, fun _ _ _ => 0, fun _ _ => none, fun _ _ _ => none)
def hp (hs : List PS) (c : Nat) : PS := hs.getD c zPS
/-- an instruction, where it goes on, its target, its constant, its switch -/
abbrev ME : Type := Instr × Nat × Nat × AV × List (Int32 × Nat)
/-- a method: table, length, name, bytes, locals, answer, own class -/
abbrev MI : Type := (Nat → Option ME) × Nat × MethodName × ByteArray × Nat × Option FieldType × Nat
def ent (M : MI) (pc : Nat) : Option ME := bif Nat.blt pc M.2.1 then M.1 pc else none
def lk : List (Nat × AV) → Nat → Option AV
  | [], _ => none
  | (k, v) :: t, i => bif Nat.beq k i then some v else lk t i
def st1 (lv : List (Nat × AV)) (i : Nat) (v : AV) : List (Nat × AV) := (i, v) :: lv.filter (fun q => !(Nat.beq q.1 i) && !(Nat.beq (q.1 + 1) i && isL q.2))
def st2 (lv : List (Nat × AV)) (i : Nat) (v : AV) : List (Nat × AV) := (i, v) :: lv.filter (fun q => !(Nat.beq q.1 i) && (!(Nat.beq q.1 (i + 1)) && !(Nat.beq (q.1 + 1) i && isL q.2)))
def ldI (lv : List (Nat × AV)) (k : Nat) (f : Int32 → Prop) : Prop := match lk lv k with
  | some (.inl x) => f x
  | _ => False
def ldL (lv : List (Nat × AV)) (k : Nat) (f : Int64 → Prop) : Prop := match lk lv k with
  | some (.inr (.inl x)) => f x
  | _ => False
def ldA (lv : List (Nat × AV)) (k : Nat) (f : AV → Prop) : Prop := match lk lv k with
  | some (.inr (.inr o)) => f (.inr (.inr o))
  | _ => False
def bI (st : List AV) (f : Int32 → Int32 → List AV → Prop) : Prop := match st with
  | .inl y :: .inl x :: r => f x y r
  | _ => False
def bL (st : List AV) (f : Int64 → Int64 → List AV → Prop) : Prop := match st with
  | .inr (.inl y) :: .inr (.inl x) :: r => f x y r
  | _ => False
def bS (st : List AV) (f : Int64 → Int32 → List AV → Prop) : Prop := match st with
  | .inl y :: .inr (.inl x) :: r => f x y r
  | _ => False
def pI (st : List AV) (f : Int32 → List AV → Prop) : Prop := match st with
  | .inl x :: r => f x r
  | _ => False
def pL (st : List AV) (f : Int64 → List AV → Prop) : Prop := match st with
  | .inr (.inl x) :: r => f x r
  | _ => False
def pA (st : List AV) (f : Option (Nat × Nat × Nat) → List AV → Prop) : Prop := match st with
  | .inr (.inr o) :: r => f o r
  | _ => False
def pR (st : List AV) (f : Nat → Nat → Nat → List AV → Prop) : Prop := match st with
  | .inr (.inr (some (c, j, a))) :: r => f c j a r
  | _ => False
/-- a place in a list of numbers: index, the array's class, object, slot -/
def pX (st : List AV) (f : Int32 → Nat → Nat → Nat → List AV → Prop) : Prop := match st with
  | .inl i :: .inr (.inr (some (c, j, a + 1))) :: r => f i c j a r
  | _ => False
def oM (o : Option Nat) (k0 : Prop) (k1 : Nat → Prop) : Prop := match o with
  | none => k0
  | some k => k1 k
def cN (v : AV) (k : Nat → Nat → Nat → Prop) : Prop := match v with
  | .inr (.inr (some (a, b, c))) => k a b c
  | _ => False
def swK (x : Int32) (k : Nat → Prop) (dflt : Nat) : List (Int32 × Nat) → Prop
  | [] => k dflt
  | (v, t) :: r => (x = v → k t) ∧ (¬ x = v → swK x k dflt r)
def rV (r : Option AV) (k : Prop) : Prop := match r with
  | none => k
  | _ => False
def rI (r : Option AV) (k : Int32 → Prop) : Prop := match r with
  | some (.inl x) => k x
  | _ => False
def rL (r : Option AV) (k : Int64 → Prop) : Prop := match r with
  | some (.inr (.inl x)) => k x
  | _ => False
def rR (c : Nat) (r : Option AV) (k0 : Prop) (k1 : Nat → Prop) : Prop := match r with
  | some (.inr (.inr none)) => k0
  | some (.inr (.inr (some (c', j, 0)))) => c' = c ∧ k1 j
  | _ => False
def hx1 (h : List PS) (k : PS → List PS → Prop) : Prop := match h with
  | P0 :: R => k P0 R
  | _ => False
def hx2 (h : List PS) (k : PS → PS → List PS → Prop) : Prop := match h with
  | P0 :: P1 :: R => k P0 P1 R
  | _ => False
def hx3 (h : List PS) (k : PS → PS → PS → List PS → Prop) : Prop := match h with
  | P0 :: P1 :: P2 :: R => k P0 P1 P2 R
  | _ => False
def hx4 (h : List PS) (k : PS → PS → PS → PS → List PS → Prop) : Prop := match h with
  | P0 :: P1 :: P2 :: P3 :: R => k P0 P1 P2 P3 R
  | _ => False
def hx5 (h : List PS) (k : PS → PS → PS → PS → PS → List PS → Prop) : Prop := match h with
  | P0 :: P1 :: P2 :: P3 :: P4 :: R => k P0 P1 P2 P3 P4 R
  | _ => False
def hx6 (h : List PS) (k : PS → PS → PS → PS → PS → PS → List PS → Prop) : Prop := match h with
  | P0 :: P1 :: P2 :: P3 :: P4 :: P5 :: R => k P0 P1 P2 P3 P4 P5 R
  | _ => False
def hx7 (h : List PS) (k : PS → PS → PS → PS → PS → PS → PS → List PS → Prop) : Prop := match h with
  | P0 :: P1 :: P2 :: P3 :: P4 :: P5 :: P6 :: R => k P0 P1 P2 P3 P4 P5 P6 R
  | _ => False
def hx8 (h : List PS) (k : PS → PS → PS → PS → PS → PS → PS → PS → List PS → Prop) : Prop := match h with
  | P0 :: P1 :: P2 :: P3 :: P4 :: P5 :: P6 :: P7 :: R => k P0 P1 P2 P3 P4 P5 P6 P7 R
  | _ => False
def hx9 (h : List PS) (k : PS → PS → PS → PS → PS → PS → PS → PS → PS → List PS → Prop) : Prop := match h with
  | P0 :: P1 :: P2 :: P3 :: P4 :: P5 :: P6 :: P7 :: P8 :: R => k P0 P1 P2 P3 P4 P5 P6 P7 P8 R
  | _ => False
def hx10 (h : List PS) (k : PS → PS → PS → PS → PS → PS → PS → PS → PS → PS → List PS → Prop) : Prop := match h with
  | P0 :: P1 :: P2 :: P3 :: P4 :: P5 :: P6 :: P7 :: P8 :: P9 :: R => k P0 P1 P2 P3 P4 P5 P6 P7 P8 P9 R
  | _ => False
def hx11 (h : List PS) (k : PS → PS → PS → PS → PS → PS → PS → PS → PS → PS → PS → List PS → Prop) : Prop := match h with
  | P0 :: P1 :: P2 :: P3 :: P4 :: P5 :: P6 :: P7 :: P8 :: P9 :: P10 :: R => k P0 P1 P2 P3 P4 P5 P6 P7 P8 P9 P10 R
  | _ => False
def hx12 (h : List PS) (k : PS → PS → PS → PS → PS → PS → PS → PS → PS → PS → PS → PS → List PS → Prop) : Prop := match h with
  | P0 :: P1 :: P2 :: P3 :: P4 :: P5 :: P6 :: P7 :: P8 :: P9 :: P10 :: P11 :: R => k P0 P1 P2 P3 P4 P5 P6 P7 P8 P9 P10 P11 R
  | _ => False
def hx13 (h : List PS) (k : PS → PS → PS → PS → PS → PS → PS → PS → PS → PS → PS → PS → PS → List PS → Prop) : Prop := match h with
  | P0 :: P1 :: P2 :: P3 :: P4 :: P5 :: P6 :: P7 :: P8 :: P9 :: P10 :: P11 :: P12 :: R => k P0 P1 P2 P3 P4 P5 P6 P7 P8 P9 P10 P11 P12 R
  | _ => False
/-- the heap's first pools, named -/
def hxs (p : Nat) (h : List PS) (k : List PS → Prop) : Prop := match p with
  | 0 => k h
  | 1 => hx1 h fun P0 R => k (P0 :: R)
  | 2 => hx2 h fun P0 P1 R => k (P0 :: P1 :: R)
  | 3 => hx3 h fun P0 P1 P2 R => k (P0 :: P1 :: P2 :: R)
  | 4 => hx4 h fun P0 P1 P2 P3 R => k (P0 :: P1 :: P2 :: P3 :: R)
  | 5 => hx5 h fun P0 P1 P2 P3 P4 R => k (P0 :: P1 :: P2 :: P3 :: P4 :: R)
  | 6 => hx6 h fun P0 P1 P2 P3 P4 P5 R => k (P0 :: P1 :: P2 :: P3 :: P4 :: P5 :: R)
  | 7 => hx7 h fun P0 P1 P2 P3 P4 P5 P6 R => k (P0 :: P1 :: P2 :: P3 :: P4 :: P5 :: P6 :: R)
  | 8 => hx8 h fun P0 P1 P2 P3 P4 P5 P6 P7 R => k (P0 :: P1 :: P2 :: P3 :: P4 :: P5 :: P6 :: P7 :: R)
  | 9 => hx9 h fun P0 P1 P2 P3 P4 P5 P6 P7 P8 R => k (P0 :: P1 :: P2 :: P3 :: P4 :: P5 :: P6 :: P7 :: P8 :: R)
  | 10 => hx10 h fun P0 P1 P2 P3 P4 P5 P6 P7 P8 P9 R => k (P0 :: P1 :: P2 :: P3 :: P4 :: P5 :: P6 :: P7 :: P8 :: P9 :: R)
  | 11 => hx11 h fun P0 P1 P2 P3 P4 P5 P6 P7 P8 P9 P10 R => k (P0 :: P1 :: P2 :: P3 :: P4 :: P5 :: P6 :: P7 :: P8 :: P9 :: P10 :: R)
  | 12 => hx12 h fun P0 P1 P2 P3 P4 P5 P6 P7 P8 P9 P10 P11 R => k (P0 :: P1 :: P2 :: P3 :: P4 :: P5 :: P6 :: P7 :: P8 :: P9 :: P10 :: P11 :: R)
  | _ => hx13 h fun P0 P1 P2 P3 P4 P5 P6 P7 P8 P9 P10 P11 P12 R => k (P0 :: P1 :: P2 :: P3 :: P4 :: P5 :: P6 :: P7 :: P8 :: P9 :: P10 :: P11 :: P12 :: R)
theorem hxs_of {p : Nat} {h : List PS} {k : List PS → Prop} (H : hxs p h k) : k h := by
  unfold hxs at H
  split at H
  · exact H
  all_goals
    simp only [hx1, hx2, hx3, hx4, hx5, hx6, hx7, hx8, hx9, hx10, hx11, hx12, hx13] at H
    split at H
    · exact H
    · exact H.elim
def rtK (kind : Nat) (c : Nat) (r : Option AV) (rest : List AV) (k : List AV → Prop) : Prop := match kind with
  | 0 => rV r (k rest)
  | 1 => rI r fun x => k (vI x :: rest)
  | 2 => rL r fun x => k (vL x :: rest)
  | _ => rR c r (k (vN :: rest)) fun j => k (vR c j 0 :: rest)
theorem rtK_of {kind c : Nat} {r : Option AV} {rest : List AV} {k : List AV → Prop} (H : rtK kind c r rest k) : k (r.toList ++ rest) := by
  unfold rtK at H
  split at H
  · unfold rV at H; split at H
    · exact H
    · exact H.elim
  · unfold rI at H; split at H
    · exact H
    · exact H.elim
  · unfold rL at H; split at H
    · exact H
    · exact H.elim
  · unfold rR at H; split at H
    · exact H
    · obtain ⟨rfl, H⟩ := H; exact H
    · exact H.elim

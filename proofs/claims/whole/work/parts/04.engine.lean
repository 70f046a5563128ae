/-! ===== the engine: what the machine's heap holds, contracts, a method's run from a place ===== -/
def zc (ρ : Nat → Nat → Nat → Nat) : AV → Value
  | .inl x => .int x
  | .inr (.inl x) => .long x
  | .inr (.inr none) => .null
  | .inr (.inr (some (c, j, a))) => .ref (ρ c j a)
def fval (ρ : Nat → Nat → Nat → Nat) (c j : Nat) (P : PS) (a : Nat) : Value := match (ly c a).1 with
  | 0 => .int (gI P j a)
  | 1 => .long (gL P j a)
  | 2 => .int (gI P j a)
  | 7 => va_rf ((gO P j a).map fun k => ρ (ly c a).2 k 0)
  | 9 => .ref (ρ ((ly c a).2 / 100) ((ly c a).2 % 100) 0)
  | _ => .ref (ρ c j (a + 1))
def fv (ρ : Nat → Nat → Nat → Nat) (c j : Nat) (P : PS) : List Value := (List.range (nf c)).map (fval ρ c j P)
/-- the array in slot a -/
def ae (aC : Nat → ClassId) (ρ : Nat → Nat → Nat → Nat) (c j : Nat) (P : PS) (a : Nat) : Option va_E := match (ly c a).1 with
  | 3 => some (.inl (aC 0, (ly c a).2, .inl (gA P j a)))
  | 4 => some (.inl (aC 1, (ly c a).2, .inr (.inl (gB P j a))))
  | 5 => some (.inl (aC 2, (ly c a).2, .inl (gA P j a)))
  | 6 => some (.inl (aC 3, (ly c a).2, .inl (gA P j a)))
  | 8 => some (.inl (aC (10 + (ly c a).2 % 100), (ly c a).2 / 100, .inr (.inr (.inr (.inr fun i => (gR P j a i).map fun k => ρ ((ly c a).2 % 100) k 0)))))
  | _ => none
def ce (aC : Nat → ClassId) (ρ : Nat → Nat → Nat → Nat) (hs : List PS) (c j : Nat) : Nat → Option va_E
  | 0 => some (.inr (c, fv ρ c j (hp hs c)))
  | a + 1 => ae aC ρ c j (hp hs c) a
def cn (hs : List PS) (c : Nat) : Nat := gN (hp hs c)
def isAr (k : Nat) : Bool := Nat.beq k 3 || Nat.beq k 4 || Nat.beq k 5 || Nat.beq k 6 || Nat.beq k 8
/-- a cell that there is -/
def vc (hs : List PS) (c j : Nat) : Nat → Prop
  | 0 => c < 13 ∧ j < cn hs c
  | a + 1 => (c < 13 ∧ j < cn hs c) ∧ a < nf c ∧ isAr (ly c a).1 = true
def vv (hs : List PS) : AV → Prop
  | .inr (.inr (some (c, j, a))) => vc hs c j a
  | _ => True
def wf (hs : List PS) : Prop := hs.length = 13 ∧ ∀ c j, c < 13 → j < cn hs c → ∀ a, a < nf c →
  ((ly c a).1 = 7 → ∀ k, gO (hp hs c) j a = some k → vc hs (ly c a).2 k 0) ∧ ((ly c a).1 = 8 → ∀ i k, gR (hp hs c) j a i = some k → vc hs ((ly c a).2 % 100) k 0) ∧ ((ly c a).1 = 9 → vc hs ((ly c a).2 / 100) ((ly c a).2 % 100) 0)
def RelH (D : va_G) (aC : Nat → ClassId) (ρ : Nat → Nat → Nat → Nat) (hs : List PS) (H : Heap) : Prop :=
  (∀ c j a e, vc hs c j a → ce aC ρ hs c j a = some e → va_at D zcl (ρ c j a, e) H) ∧
  (∀ c j a c' j' a', vc hs c j a → vc hs c' j' a' → ρ c j a = ρ c' j' a' → c = c' ∧ j = j' ∧ a = a')
def tys (aC : Nat → ClassId) : List (ClassId × FieldType) := [(aC 0, .int), (aC 1, .long), (aC 2, .byte), (aC 3, .boolean), (aC 13, .object RX3), (aC 16, .object RX7)]
def KK (D : va_G) (aC : Nat → ClassId) (U : State) : Prop := va_K D zcl (tys aC) U ∧ ∀ w ∈ NW, va_Nw w U
def zA (ρ : Nat → Nat → Nat → Nat) (hs : List PS) (sz : Nat) : Nat → Prop := fun q => (∃ c j a, vc hs c j a ∧ q = ρ c j a) ∨ sz ≤ q
def ext (ρ : Nat → Nat → Nat → Nat) (hs : List PS) (ρ' : Nat → Nat → Nat → Nat) (hs' : List PS) (sz : Nat) : Prop :=
  (∀ c, cn hs c ≤ cn hs' c) ∧ (∀ c j a, j < cn hs c → ρ' c j a = ρ c j a) ∧ (∀ c j a, vc hs' c j a → cn hs c ≤ j → sz ≤ ρ' c j a)
def zPc (D : va_G) (aC : Nat → ClassId) (ρ : Nat → Nat → Nat → Nat) (hs : List PS) (sz : Nat) (av : List AV) : Array Value → State → Prop := fun v U =>
  v = (av.map (zc ρ)).toArray ∧ U.heap.size = sz ∧ RelH D aC ρ hs U.heap ∧ KK D aC U
def zQ (D : va_G) (aC : Nat → ClassId) (ρ : Nat → Nat → Nat → Nat) (hs : List PS) (sz : Nat) (Q : Option AV → List PS → Prop) : Array Value → State → Outcome → State → Prop := fun _ st o t =>
  ∃ (r : Option AV) (hs' : List PS) (ρ' : Nat → Nat → Nat → Nat), o = .returned (r.map (zc ρ')) ∧ Q r hs' ∧ RelH D aC ρ' hs' t.heap ∧ wf hs' ∧ (∀ v, r = some v → vv hs' v) ∧ ext ρ hs ρ' hs' sz ∧ va_F (zA ρ hs sz) st t
def WS (M : MI) : List Cond := Cond.code M.2.2.1 M.2.2.2.1 M.2.2.2.2.1 M.2.2.2.2.2.1 :: GW
def rmd (d mc ms : Nat) : Room := { frames := d + 1, cells := mc, slots := ms, locals := 64 * (d + 1) }
/-- a method's contract: from the arguments av and the heap hs it comes to an answer and a heap of which Q holds -/
def TriM (M : MI) (d mc ms : Nat) (av : List AV) (hs : List PS) (Q : Option AV → List PS → Prop) : Prop :=
  ∀ (l : Launch) (D : va_G) (aC : Nat → ClassId) (ρ : Nat → Nat → Nat → Nat) (sz : Nat), wf hs → (∀ v ∈ av, vv hs v) →
    Met l M.2.2.1 (WS M) (rmd d mc ms) (zPc D aC ρ hs sz av) (zQ D aC ρ hs sz Q) mc ms (zA ρ hs sz)
def Tri (i d : Nat) (av : List AV) (hs : List PS) (Q : Option AV → List PS → Prop) : Prop := TriM (mt i) d 0 0 av hs Q
def Cx (p : Program) (s : State) (m : MethodId) (args : Array Value) (meth : Method) (c : Code) (M : MI) (D : va_G) (aC : Nat → ClassId) (sz : Nat) : Prop :=
  p.tables.exec = Jvm.exec ∧ c.code = M.2.2.2.1 ∧ c.maxLocals = M.2.2.2.2.1 ∧ s.vm.findClass (rn M.2.2.2.2.2.2) = some m.cls ∧ (∀ w ∈ GW, w.before args s = true) ∧ KK D aC s ∧ meth.sig.returnType = M.2.2.2.2.2.1 ∧ meth.locks = false ∧ s.heap.size = sz
/-- from the place pc with these locals, this stack and this heap the method comes to an end of which Q holds -/
def Go (M : MI) (z : Nat × Nat × Nat × Nat) (d : Nat) (pc : Nat) (lv : List (Nat × AV)) (st : List AV) (hs : List PS) (Q : Option AV → List PS → Prop) : Prop :=
  ∀ (p : Program) (l : Launch) (e : Env) (s : State) (m : MethodId) (args : Array Value) (below : List Frame) (meth : Method) (c : Code) (H : Heap) (locs : List Loc) (ls : Array Slot) (D : va_G) (aC : Nat → ClassId) (ρ0 : Nat → Nat → Nat → Nat) (hs0 : List PS) (ρ : Nat → Nat → Nat → Nat) (sz : Nat),
    Cx p s m args meth c M D aC sz → z.1 ≤ z.2.2.1 ∧ z.2.1 ≤ z.2.2.2 → wf hs → (∀ q ∈ lv, vv hs q.2) → (∀ v ∈ st, vv hs v) → RelH D aC ρ hs H → lv_has ls M.2.2.2.2.1 (lv.map fun q => (q.1, zc ρ q.2)) → ext ρ0 hs0 ρ hs sz → va_S (zA ρ0 hs0 sz) s.heap H locs →
    W p l e (rmd d z.2.2.1 z.2.2.2) s m args below meth c H locs z.1 z.2.1 (MQ below (zQ D aC ρ0 hs0 sz Q) args s z.2.2.1 z.2.2.2 (zA ρ0 hs0 sz)) (F0 m pc ls (st.map (zc ρ)))
def catS : List AV → Nat
  | [] => 0
  | v :: t => (bif isL v then 2 else 1) + catS t
def recv (c : Nat) (av : List AV) : Bool := match av with
  | .inr (.inr (some (c', _, 0))) :: _ => Nat.beq c c'
  | _ => false
def putK (k : Nat) (tc : Nat) (st : List AV) (c j0 a : Nat) (hs : List PS) (f : List AV → List PS → Prop) : Prop := match k with
  | 0 => pI st fun x r => f r (hs.set c (sI (hp hs c) j0 a x))
  | 2 => pI st fun x r => (x = 0 ∨ x = 1) ∧ f r (hs.set c (sI (hp hs c) j0 a x))
  | 1 => pL st fun x r => f r (hs.set c (sL (hp hs c) j0 a x))
  | 7 => pA st fun o r => match o with
    | none => f r (hs.set c (sO (hp hs c) j0 a none))
    | some (c', k', a') => bif Nat.beq c' tc && Nat.beq a' 0 then f r (hs.set c (sO (hp hs c) j0 a (some k'))) else False
  | _ => False
def getK (k : Nat) (tc : Nat) (c j a : Nat) (r : List AV) (hs : List PS) (f : List AV → Prop) : Prop := match k with
  | 0 => f (vI (gI (hp hs c) j a) :: r)
  | 1 => f (vL (gL (hp hs c) j a) :: r)
  | 2 => f (vI (gI (hp hs c) j a) :: r)
  | 3 => f (vR c j (a + 1) :: r)
  | 4 => f (vR c j (a + 1) :: r)
  | 5 => f (vR c j (a + 1) :: r)
  | 6 => f (vR c j (a + 1) :: r)
  | 8 => f (vR c j (a + 1) :: r)
  | 7 => oM (gO (hp hs c) j a) (f (vN :: r)) fun k => f (vR tc k 0 :: r)
  | 9 => f (vR (tc / 100) (tc % 100) 0 :: r)
  | _ => False
/-- Math's methods and arraycopy -/
def spK (i : Nat) (st : List AV) (hs : List PS) (f : List AV → List PS → Prop) : Prop := match i with
  | 9001 => bI st fun x y r => f (vI (if x < y then y else x) :: r) hs
  | 9002 => bI st fun x y r => f (vI (if y < x then y else x) :: r) hs
  | 9003 => pI st fun x r => f (vI (if 0 ≤ x then x else 0 - x) :: r) hs
  | 9004 => pL st fun x r => f (vL (if 0 < x then x else -x) :: r) hs
  | 9999 => match st with
    | .inl n :: .inl dp :: .inr (.inr (some (c1, j1, a1 + 1))) :: .inl sp :: .inr (.inr (some (c0, j0, a0 + 1))) :: r =>
      bif Nat.beq (ly c0 a0).1 3 && Nat.beq (ly c1 a1).1 3 then (¬ sp < 0) ∧ (¬ dp < 0) ∧ (¬ n < 0) ∧ sp.toNatClampNeg + n.toNatClampNeg ≤ (ly c0 a0).2 ∧ dp.toNatClampNeg + n.toNatClampNeg ≤ (ly c1 a1).2 ∧ (¬ (c0 = c1 ∧ j0 = j1 ∧ a0 = a1)) ∧ f r (hs.set c1 (sW (hp hs c1) j1 a1 (va_cpy (gA (hp hs c0) j0 a0) (gA (hp hs c1) j1 a1) sp.toNatClampNeg dp.toNatClampNeg n.toNatClampNeg))) else False
    | _ => False
  | _ => False
def q1I (st : List AV) (f : Int32 → Prop) : Prop := match st with
  | [.inl x] => f x
  | _ => False
def q1L (st : List AV) (f : Int64 → Prop) : Prop := match st with
  | [.inr (.inl x)] => f x
  | _ => False
def q1A (st : List AV) (f : Option (Nat × Nat × Nat) → Prop) : Prop := match st with
  | [.inr (.inr o)] => f o
  | _ => False
def q0 (st : List AV) (f : Prop) : Prop := match st with
  | [] => f
  | _ => False
def rtT (t : Option FieldType) (x : Int32) (f : Prop) : Prop := match t with
  | some .int => f
  | some .boolean => (x = 0 ∨ x = 1) ∧ f
  | _ => False
/-- one instruction -/
def stp (M : MI) (d p : Nat) (K : Nat → List (Nat × AV) → List AV → List PS → Prop) (Q : Option AV → List PS → Prop) (pc : Nat) (lv : List (Nat × AV)) (st : List AV) (hs : List PS) : Prop :=
  match ent M pc with
  | none => False
  | some (i, nx, tg, cv, sw) =>
    match i with
    | .iconst _ => K nx lv (cv :: st) hs
    | .bipush _ => K nx lv (cv :: st) hs
    | .sipush _ => K nx lv (cv :: st) hs
    | .lconst _ => K nx lv (cv :: st) hs
    | .ldc _ => K nx lv (cv :: st) hs
    | .ldc_w _ => K nx lv (cv :: st) hs
    | .ldc2_w _ => K nx lv (cv :: st) hs
    | .aconst_null => K nx lv (vN :: st) hs
    | .iload k => ldI lv k fun x => K nx lv (vI x :: st) hs
    | .iload_n k => ldI lv k.val fun x => K nx lv (vI x :: st) hs
    | .lload k => ldL lv k fun x => K nx lv (vL x :: st) hs
    | .lload_n k => ldL lv k.val fun x => K nx lv (vL x :: st) hs
    | .aload k => ldA lv k fun v => K nx lv (v :: st) hs
    | .aload_n k => ldA lv k.val fun v => K nx lv (v :: st) hs
    | .istore k => pI st fun x r => K nx (st1 lv k (vI x)) r hs
    | .istore_n k => pI st fun x r => K nx (st1 lv k.val (vI x)) r hs
    | .lstore k => pL st fun x r => K nx (st2 lv k (vL x)) r hs
    | .lstore_n k => pL st fun x r => K nx (st2 lv k.val (vL x)) r hs
    | .astore k => pA st fun o r => K nx (st1 lv k (.inr (.inr o))) r hs
    | .astore_n k => pA st fun o r => K nx (st1 lv k.val (.inr (.inr o))) r hs
    | .iinc k _ => pI [cv] fun n _ => ldI lv k fun x => K nx (st1 lv k (vI (x + n))) st hs
    | .iadd => bI st fun x y r => K nx lv (vI (x + y) :: r) hs
    | .isub => bI st fun x y r => K nx lv (vI (x - y) :: r) hs
    | .imul => bI st fun x y r => K nx lv (vI (x * y) :: r) hs
    | .iand => bI st fun x y r => K nx lv (vI (x &&& y) :: r) hs
    | .ior => bI st fun x y r => K nx lv (vI (x ||| y) :: r) hs
    | .ixor => bI st fun x y r => K nx lv (vI (x ^^^ y) :: r) hs
    | .idiv => bI st fun x y r => (¬ y = 0) ∧ K nx lv (vI (x / y) :: r) hs
    | .irem => bI st fun x y r => (¬ y = 0) ∧ K nx lv (vI (x - x / y * y) :: r) hs
    | .ineg => pI st fun x r => K nx lv (vI (-x) :: r) hs
    | .ishl => bI st fun x y r => K nx lv (vI (x <<< (y &&& 31)) :: r) hs
    | .ishr => bI st fun x y r => K nx lv (vI (x >>> (y &&& 31)) :: r) hs
    | .iushr => bI st fun x y r => K nx lv (vI ((x.toUInt32 >>> (y.toUInt32 &&& Int32.toUInt32 31)).toInt32) :: r) hs
    | .ladd => bL st fun x y r => K nx lv (vL (x + y) :: r) hs
    | .lsub => bL st fun x y r => K nx lv (vL (x - y) :: r) hs
    | .lmul => bL st fun x y r => K nx lv (vL (x * y) :: r) hs
    | .land => bL st fun x y r => K nx lv (vL (x &&& y) :: r) hs
    | .lor => bL st fun x y r => K nx lv (vL (x ||| y) :: r) hs
    | .lxor => bL st fun x y r => K nx lv (vL (x ^^^ y) :: r) hs
    | .ldiv => bL st fun x y r => (¬ y = 0) ∧ K nx lv (vL (x / y) :: r) hs
    | .lrem => bL st fun x y r => (¬ y = 0) ∧ K nx lv (vL (x - x / y * y) :: r) hs
    | .lneg => pL st fun x r => K nx lv (vL (-x) :: r) hs
    | .lshl => bS st fun x y r => K nx lv (vL (x <<< (y.toInt64 &&& 63)) :: r) hs
    | .lushr => bS st fun x y r => K nx lv (vL ((x.toUInt64 >>> (y.toInt64.toUInt64 &&& Int64.toUInt64 63)).toInt64) :: r) hs
    | .lcmp => bL st fun x y r => K nx lv (vI (lg_cmp x y) :: r) hs
    | .i2l => pI st fun x r => K nx lv (vL x.toInt64 :: r) hs
    | .l2i => pL st fun x r => K nx lv (vI x.toInt32 :: r) hs
    | .i2b => pI st fun x r => K nx lv (vI x.toInt8.toInt32 :: r) hs
    | .dup => match st with
      | v :: r => bif isL v then False else K nx lv (v :: v :: r) hs
      | _ => False
    | .pop => match st with
      | v :: r => bif isL v then False else K nx lv r hs
      | _ => False
    | .dup2 => match st with
      | v :: w :: r => bif isL v then K nx lv (v :: v :: w :: r) hs else bif isL w then False else K nx lv (v :: w :: v :: w :: r) hs
      | _ => False
    | .getfield _ => cN cv fun c a _ => pR st fun c' j a' r => bif Nat.beq c' c && Nat.beq a' 0 then getK (ly c a).1 (ly c a).2 c j a r hs fun s => K nx lv s hs else False
    | .putfield _ => cN cv fun c a _ => match st with
      | v :: .inr (.inr (some (c', j, a'))) :: r => bif Nat.beq c' c && Nat.beq a' 0 then putK (ly c a).1 (ly c a).2 (v :: r) c j a hs fun s h => K nx lv s h else False
      | _ => False
    | .iaload => pX st fun i c j a r => bif Nat.beq (ly c a).1 3 then vp_in i (ly c a).2 ∧ K nx lv (vI (gA (hp hs c) j a i.toNatClampNeg) :: r) hs else False
    | .laload => pX st fun i c j a r => bif Nat.beq (ly c a).1 4 then vp_in i (ly c a).2 ∧ K nx lv (vL (gB (hp hs c) j a i.toNatClampNeg) :: r) hs else False
    | .baload => pX st fun i c j a r => bif Nat.beq (ly c a).1 5 || Nat.beq (ly c a).1 6 then vp_in i (ly c a).2 ∧ K nx lv (vI (gA (hp hs c) j a i.toNatClampNeg) :: r) hs else False
    | .aaload => pX st fun i c j a r => bif Nat.beq (ly c a).1 8 then vp_in i ((ly c a).2 / 100) ∧ oM (gR (hp hs c) j a i.toNatClampNeg) (K nx lv (vN :: r) hs) fun k => K nx lv (vR ((ly c a).2 % 100) k 0 :: r) hs else False
    | .iastore => pI st fun x s => pX s fun i c j a r => bif Nat.beq (ly c a).1 3 then vp_in i (ly c a).2 ∧ K nx lv r (hs.set c (sA (hp hs c) j a i.toNatClampNeg x)) else False
    | .lastore => pL st fun x s => pX s fun i c j a r => bif Nat.beq (ly c a).1 4 then vp_in i (ly c a).2 ∧ K nx lv r (hs.set c (sB (hp hs c) j a i.toNatClampNeg x)) else False
    | .bastore => pI st fun x s => pX s fun i c j a r => bif Nat.beq (ly c a).1 5 then vp_in i (ly c a).2 ∧ K nx lv r (hs.set c (sA (hp hs c) j a i.toNatClampNeg x.toInt8.toInt32)) else bif Nat.beq (ly c a).1 6 then vp_in i (ly c a).2 ∧ (x = 0 ∨ x = 1) ∧ K nx lv r (hs.set c (sA (hp hs c) j a i.toNatClampNeg x)) else False
    | .aastore => pA st fun o s => pX s fun i c j a r => bif Nat.beq (ly c a).1 8 then vp_in i ((ly c a).2 / 100) ∧ (match o with
      | none => K nx lv r (hs.set c (sR (hp hs c) j a i.toNatClampNeg none))
      | some (c', k', a') => bif Nat.beq c' ((ly c a).2 % 100) && Nat.beq a' 0 then K nx lv r (hs.set c (sR (hp hs c) j a i.toNatClampNeg (some k'))) else False) else False
    | .arraylength => pR st fun c j a r => match a with
      | a + 1 => bif Nat.beq (ly c a).1 3 || Nat.beq (ly c a).1 4 || Nat.beq (ly c a).1 5 || Nat.beq (ly c a).1 6 then K nx lv (vI (nI (ly c a).2) :: r) hs else False
      | _ => False
    | .goto _ => K tg lv st hs
    | .ifCond cd _ => pI st fun x r => match cd with
      | .eq => (x = 0 → K tg lv r hs) ∧ (¬ x = 0 → K nx lv r hs)
      | .ne => (¬ x = 0 → K tg lv r hs) ∧ (x = 0 → K nx lv r hs)
      | .lt => (x < 0 → K tg lv r hs) ∧ (¬ x < 0 → K nx lv r hs)
      | .ge => (0 ≤ x → K tg lv r hs) ∧ (¬ 0 ≤ x → K nx lv r hs)
      | .gt => (0 < x → K tg lv r hs) ∧ (¬ 0 < x → K nx lv r hs)
      | .le => (x ≤ 0 → K tg lv r hs) ∧ (¬ x ≤ 0 → K nx lv r hs)
    | .if_icmp cd _ => bI st fun x y r => match cd with
      | .eq => (x = y → K tg lv r hs) ∧ (¬ x = y → K nx lv r hs)
      | .ne => (¬ x = y → K tg lv r hs) ∧ (x = y → K nx lv r hs)
      | .lt => (x < y → K tg lv r hs) ∧ (¬ x < y → K nx lv r hs)
      | .ge => (y ≤ x → K tg lv r hs) ∧ (¬ y ≤ x → K nx lv r hs)
      | .gt => (y < x → K tg lv r hs) ∧ (¬ y < x → K nx lv r hs)
      | .le => (x ≤ y → K tg lv r hs) ∧ (¬ x ≤ y → K nx lv r hs)
    | .ifnull _ => pA st fun o r => match o with
      | none => K tg lv r hs
      | some _ => K nx lv r hs
    | .ifnonnull _ => pA st fun o r => match o with
      | none => K nx lv r hs
      | some _ => K tg lv r hs
    | .tableswitch _ _ _ _ => pI st fun x r => swK x (fun t => K t lv r hs) tg sw
    | .lookupswitch _ _ => pI st fun x r => swK x (fun t => K t lv r hs) tg sw
    | .ireturn => q1I st fun x => rtT M.2.2.2.2.2.1 x (Q (some (vI x)) hs)
    | .lreturn => q1L st fun x => Q (some (vL x)) hs
    | .areturn => q1A st fun o => Q (some (.inr (.inr o))) hs
    | .return_ => q0 st (Q none hs)
    | .invokevirtual _ => cN cv fun i n k => match d with
      | 0 => False
      | d + 1 => bif Nat.ble n st.length && Nat.ble (catS (st.drop n)) 8 && recv (k / 1000) (st.take n).reverse then Tri i d (st.take n).reverse hs (fun r h => hxs p h fun h => rtK (k % 10) (k % 1000 / 10) r (st.drop n) fun s => K nx lv s h) else False
    | .invokestatic _ => cN cv fun i n k => bif Nat.blt i 9000 then (match d with
      | 0 => False
      | d + 1 => bif Nat.ble n st.length && Nat.ble (catS (st.drop n)) 8 then Tri i d (st.take n).reverse hs (fun r h => hxs p h fun h => rtK (k % 10) (k % 1000 / 10) r (st.drop n) fun s => K nx lv s h) else False) else spK i st hs fun s h => bif Nat.ble (catS s) 8 then K nx lv s h else False
    | _ => False
/-- from a place on, up to the cuts -/
def wpb (M : MI) (z : Nat × Nat × Nat × Nat) (d p : Nat) (cuts : List Nat) (Q : Option AV → List PS → Prop) : Nat → Nat → List (Nat × AV) → List AV → List PS → Prop
  | 0, _, _, _, _ => False
  | k + 1, pc, lv, st, hs => stp M d p (fun pc' lv' st' hs' => bif cuts.elem pc' then Go M z d pc' lv' st' hs' Q else wpb M z d p cuts Q k pc' lv' st' hs') Q pc lv st hs

/-! ===== the constructors of a BOOK and of the Model, by program (gen_ctor.py) ===== -/
def mi_2 : MI := (fun _ => none, 0, yX0_init, cX0_init, 1, none, 2)
set_option maxRecDepth 20000 in
theorem cwi_2 : Cond.code mi_2.2.2.1 mi_2.2.2.2.1 mi_2.2.2.2.2.1 mi_2.2.2.2.2.2.1 ∈ GW := gw_in (in_2 _ (List.mem_of_getElem? (i := 115) rfl)) rfl
theorem ib_2 : iB mi_2 2 := ⟨cwi_2, wGW_ok (i := 126) (by decide +kernel), by decide, rfl, ⟨by decide, by decide, by decide +kernel⟩, rfl, wGW_ok (i := 466) (by decide +kernel), wGW_ok (i := 464) (by decide +kernel), rfl, by decide⟩
theorem il_2 : Cond.methodLink (rn 2) 3 Lib.objectInit ∈ GW := wGW_ok (i := 468) (by decide +kernel)
def ops_2 : List OP := [(.bipush 32, 4, 9, 0, 0, 0), (.bipush 32, 3, 15, 1, 0, 0), (.bipush 32, 3, 19, 2, 0, 0), (.bipush 32, 3, 22, 3, 0, 0), (.sipush 1024, 3, 25, 4, 0, 0)]
def fi_2 : Nat → Int32 := fun _ => 0
theorem ok_2 : ckOs mi_2.2.2.2.1 2 2 fi_2 4 ops_2 = true := by decide +kernel
theorem od_2 : ckD 2 fi_2 ops_2 = true := by decide +kernel
theorem oc_2 : ∀ o ∈ ops_2, o.2.1 = 8 → Cond.classLink (rn 2) o.2.2.2.2.1 (rn ((ly 2 o.2.2.2.1).2 % 100)) ∈ GW := by
  intro o ho h8
  have : (ops_2.all fun o => !(Nat.beq o.2.1 8)) = true := by decide +kernel
  have := List.all_eq_true.mp this o ho
  rw [h8] at this
  cases this
theorem sz_2 : sumC ops_2 = 5 ∧ sumS 2 ops_2 = 1152 := by decide +kernel
theorem tc_2 {d : Nat} {hs : List PS} {QI : List PS → Prop} (hw : wf hs) (hT : Tri 1 d [vR 2 (cn hs 2) 0] (hs.set 2 (nwO (hp hs 2) fi_2 (fun _ => none))) (fun r h => r = none ∧ QI h)) : TriI mi_2 2 (d + 1) (sumC ops_2) (sumS 2 ops_2) hs QI := TriI_call hw ib_2 (by decide +kernel) rfl (by decide) (by decide +kernel) (by decide +kernel) il_2 ok_2 oc_2 od_2 (by decide +kernel) (i := 1) (x := 28) (by decide +kernel) (by decide +kernel) (by decide +kernel) (by decide +kernel) (by decide +kernel) (by decide +kernel) hT
def mi_0 : MI := (fun _ => none, 0, yX12_init, cX12_init, 1, none, 0)
set_option maxRecDepth 20000 in
theorem cwi_0 : Cond.code mi_0.2.2.1 mi_0.2.2.2.1 mi_0.2.2.2.2.1 mi_0.2.2.2.2.2.1 ∈ GW := gw_in (in_6 _ (List.mem_of_getElem? (i := 97) rfl)) rfl
theorem ib_0 : iB mi_0 0 := ⟨cwi_0, wGW_ok (i := 128) (by decide +kernel), by decide, rfl, ⟨by decide, by decide, by decide +kernel⟩, rfl, wGW_ok (i := 1408) (by decide +kernel), wGW_ok (i := 1406) (by decide +kernel), rfl, by decide⟩
theorem il_0 : Cond.methodLink (rn 0) 1 Lib.objectInit ∈ GW := wGW_ok (i := 1410) (by decide +kernel)
def ops_0 : List OP := [(.sipush 1500, 3, 7, 0, 0, 0), (.iconst (-1), 0, 13, 3, 0, 0), (.bipush 12, 3, 17, 11, 0, 0), (.bipush 12, 3, 20, 12, 0, 0), (.bipush 32, 3, 23, 13, 0, 0), (.bipush 32, 3, 26, 14, 0, 0), (.bipush 32, 3, 29, 15, 0, 0), (.bipush 32, 3, 32, 16, 0, 0), (.bipush 32, 3, 35, 17, 0, 0), (.bipush 32, 3, 38, 18, 0, 0), (.bipush 12, 6, 41, 19, 0, 0), (.bipush 32, 4, 45, 20, 0, 0), (.sipush 3072, 3, 49, 23, 0, 0), (.sipush 256, 3, 52, 24, 0, 0), (.bipush 12, 3, 55, 25, 0, 0), (.bipush 12, 3, 58, 26, 0, 0), (.sipush 256, 6, 61, 27, 0, 0), (.sipush 140, 3, 64, 30, 0, 0), (.sipush 140, 3, 67, 31, 0, 0), (.sipush 140, 3, 70, 32, 0, 0), (.sipush 140, 3, 73, 33, 0, 0), (.bipush 12, 3, 76, 34, 0, 0), (.sipush 140, 3, 79, 35, 0, 0), (.sipush 256, 3, 82, 36, 0, 0), (.sipush 140, 6, 85, 37, 0, 0), (.sipush 256, 3, 88, 40, 0, 0), (.sipush 256, 6, 91, 41, 0, 0), (.bipush 12, 3, 94, 42, 0, 0), (.sipush 1024, 3, 97, 44, 0, 0), (.bipush 36, 3, 100, 45, 0, 0), (.bipush 6, 3, 103, 46, 0, 0), (.sipush 1200, 3, 106, 47, 0, 0), (.bipush 12, 3, 109, 60, 0, 0), (.bipush 12, 3, 112, 61, 0, 0), (.bipush 12, 3, 115, 62, 0, 0), (.bipush 12, 6, 118, 63, 0, 0), (.bipush 32, 3, 121, 68, 0, 0), (.sipush 300, 3, 124, 69, 0, 0), (.sipush 300, 3, 127, 70, 0, 0), (.bipush 7, 3, 130, 71, 0, 0), (.bipush 6, 3, 133, 72, 0, 0), (.sipush 300, 3, 136, 73, 0, 0), (.sipush 300, 3, 139, 74, 0, 0), (.bipush 7, 3, 142, 75, 0, 0), (.bipush 6, 3, 145, 76, 0, 0), (.sipush 300, 3, 148, 77, 0, 0), (.bipush 50, 3, 151, 78, 0, 0), (.bipush 9, 3, 154, 79, 0, 0), (.iconst 3, 6, 157, 87, 0, 0), (.sipush 768, 6, 160, 88, 0, 0), (.sipush 9216, 3, 163, 89, 0, 0), (.bipush 36, 3, 166, 90, 0, 0), (.bipush 36, 3, 169, 91, 0, 0), (.iconst 3, 3, 172, 92, 0, 0), (.iconst 3, 3, 175, 93, 0, 0)]
def fi_0 : Nat → Int32 := fun a => if a = 3 then -1 else 0
theorem ok_0 : ckOs mi_0.2.2.2.1 0 0 fi_0 4 ops_0 = true := by decide +kernel
theorem od_0 : ckD 0 fi_0 ops_0 = true := by decide +kernel
theorem oc_0 : ∀ o ∈ ops_0, o.2.1 = 8 → Cond.classLink (rn 0) o.2.2.2.2.1 (rn ((ly 0 o.2.2.2.1).2 % 100)) ∈ GW := by
  intro o ho h8
  have : (ops_0.all fun o => !(Nat.beq o.2.1 8)) = true := by decide +kernel
  have := List.all_eq_true.mp this o ho
  rw [h8] at this
  cases this
theorem sz_0 : sumC ops_0 = 54 ∧ sumS 0 ops_0 = 20996 := by decide +kernel
theorem tc_0 {d : Nat} {hs : List PS} {QI : List PS → Prop} (hw : wf hs) (hT : Tri 187 d [vR 0 (cn hs 0) 0] (hs.set 0 (nwO (hp hs 0) fi_0 (fun _ => none))) (fun r h => r = none ∧ QI h)) : TriI mi_0 0 (d + 1) (sumC ops_0) (sumS 0 ops_0) hs QI := TriI_call hw ib_0 (by decide +kernel) rfl (by decide) (by decide +kernel) (by decide +kernel) il_0 ok_0 oc_0 od_0 (by decide +kernel) (i := 187) (x := 178) (by decide +kernel) (by decide +kernel) (by decide +kernel) (by decide +kernel) (by decide +kernel) (by decide +kernel) hT
theorem ti_2 {d : Nat} {P0 P1 P2 : PS} {R : List PS} {QI : List PS → Prop} (hw : wf (P0 :: P1 :: P2 :: R)) (h : ∀ P2', SsC (gN P2) [] P2' → TdC (gN P2) plain P2' → FrB (gN P2) (nwO P2 fi_2 (fun _ => none)) P2' → QI (P0 :: P1 :: P2' :: R)) : TriI mi_2 2 (d + 1) (sumC ops_2) (sumS 2 ops_2) (P0 :: P1 :: P2 :: R) QI :=
  tc_2 hw (C_clear (j := gN P2) (fun P2' a b f => ⟨rfl, h P2' a b f⟩))
theorem M_plain {d : Nat} {P : PS} {R : List PS} {Q : Option AV → List PS → Prop} (h : ∀ P', (∀ k, k < 12 → gA P' 0 12 k = iI (plain k)) → Fr [] [] [12] [] P P' → Q none (P' :: R)) : Tri 187 (d + 1) [vR 0 0 0] (P :: R) Q := by
  have key : ∀ (m k : Nat) (A : PS), k + m = 12 → (∀ j, j < k → gA A 0 12 j = iI (plain j)) → Fr [] [] [12] [] P A → cX12_plain_2 (0, 0, 0, 0) d (iI (k : Nat)) A R Q := by
    intro m
    induction m with
    | zero =>
      intro k A hk ht hf
      refine gX12_plain_2 ?_
      unfold fX12_plain_2
      rw [show (12 : Int32) = iI 12 from rfl, iI_le (by omega) (by omega) (by omega) (by omega)]
      exact ⟨fun _ => h A (fun j hj => ht j (by omega)) hf, fun g => absurd (by omega) g⟩
    | succ m ih =>
      intro k A hk ht hf
      refine gX12_plain_2 ?_
      unfold fX12_plain_2
      rw [show (12 : Int32) = iI 12 from rfl, iI_le (by omega) (by omega) (by omega) (by omega)]
      refine ⟨fun g => absurd g (by omega), fun _ => M_plainOf (k := k) (by omega) ?_⟩
      dsimp only [hx1, rI]
      rw [iI_cl (a := (k : Nat)) (by omega) (by omega), Int.toNat_natCast, show iI (k : Nat) + 1 = iI ((k + 1 : Nat)) from iI_add _ 1]
      refine ⟨vpk (by omega) (by omega), ih (k + 1) _ (by omega) (fun j hj => ?_) (hf.sA (by simp))⟩
      rw [gA_sA, if_pos rfl, if_pos rfl]
      by_cases c : j = k
      · rw [if_pos c, c]
      · rw [if_neg c]; exact ht j (by omega)
  refine enX12_plain ?_
  unfold fX12_plain_0
  exact key 12 0 P (by omega) (fun j hj => absurd hj (Nat.not_lt_zero j)) Fr.rf
theorem ti_0 {d : Nat} {P0 : PS} {R : List PS} {QI : List PS → Prop} (hw : wf (P0 :: R)) (h0 : gN P0 = 0) (h : ∀ P', (∀ k, k < 12 → gA P' 0 12 k = iI (plain k)) → Fr [] [] [12] [] (nwO P0 fi_0 (fun _ => none)) P' → QI (P' :: R)) : TriI mi_0 0 (d + 2) (sumC ops_0) (sumS 0 ops_0) (P0 :: R) QI := by
  refine tc_0 hw ?_
  rw [show cn (P0 :: R) 0 = 0 from h0]
  exact M_plain (fun P' a f => ⟨rfl, h P' a f⟩)

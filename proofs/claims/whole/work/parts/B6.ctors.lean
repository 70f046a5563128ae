/-! ===== constructors, by program (gen_ctor.py) ===== -/
def mi_3 : MI := (fun _ => none, 0, yX3_init, cX3_init, 1, none, 3)
set_option maxRecDepth 20000 in
theorem cwi_3 : Cond.code mi_3.2.2.1 mi_3.2.2.2.1 mi_3.2.2.2.2.1 mi_3.2.2.2.2.2.1 ∈ GW := gw_in (in_3 _ (List.mem_of_getElem? (i := 223) rfl)) rfl
theorem ib_3 : iB mi_3 3 := ⟨cwi_3, wGW_ok (i := 130) (by decide +kernel), by decide, rfl, ⟨by decide, by decide, by decide +kernel⟩, rfl, wGW_ok (i := 814) (by decide +kernel), wGW_ok (i := 812) (by decide +kernel), rfl, by decide⟩
theorem il_3 : Cond.methodLink (rn 3) 3 Lib.objectInit ∈ GW := wGW_ok (i := 816) (by decide +kernel)
def ops_3 : List OP := [(.bipush 12, 3, 9, 0, 0, 0), (.bipush 12, 3, 15, 1, 0, 0), (.bipush 12, 3, 18, 2, 0, 0), (.bipush 12, 3, 21, 3, 0, 0), (.bipush 16, 3, 24, 4, 0, 0), (.iconst 0, 0, 27, 5, 0, 0), (.iconst 0, 0, 31, 6, 0, 0), (.iconst 0, 0, 34, 7, 0, 0), (.bipush 15, 3, 37, 8, 0, 0), (.sipush 200, 4, 40, 9, 0, 0), (.iconst (-1), 0, 44, 10, 0, 0), (.iconst 0, 0, 47, 11, 0, 0), (.iconst 0, 0, 50, 12, 0, 0)]
def fi_3 : Nat → Int32 := fun a => if a = 10 then -1 else 0
theorem ok_3 : ckOs mi_3.2.2.2.1 3 3 fi_3 4 ops_3 = true := by decide +kernel
theorem od_3 : ckD 3 fi_3 ops_3 = true := by decide +kernel
theorem oc_3 : ∀ o ∈ ops_3, o.2.1 = 8 → Cond.classLink (rn 3) o.2.2.2.2.1 (rn ((ly 3 o.2.2.2.1).2 % 100)) ∈ GW := by
  intro o ho h8
  have : (ops_3.all fun o => !(Nat.beq o.2.1 8)) = true := by decide +kernel
  have := List.all_eq_true.mp this o ho
  rw [h8] at this
  cases this
theorem ti_3 {d : Nat} {hs : List PS} (hw : wf hs) : TriI mi_3 3 d (sumC ops_3) (sumS 3 ops_3) hs (fun h => h = hs.set 3 (nwO (hp hs 3) fi_3 (fun _ => none))) := TriI_ops hw ib_3 (by decide +kernel) rfl (by decide) (by decide +kernel) (by decide +kernel) il_3 ok_3 oc_3 od_3 (by decide +kernel) (by decide +kernel)
theorem sz_3 : sumC ops_3 = 7 ∧ sumS 3 ops_3 = 279 := by decide +kernel
def mi_10 : MI := (fun _ => none, 0, yX1_init, cX1_init, 1, none, 10)
set_option maxRecDepth 20000 in
theorem cwi_10 : Cond.code mi_10.2.2.1 mi_10.2.2.2.1 mi_10.2.2.2.2.1 mi_10.2.2.2.2.2.1 ∈ GW := gw_in (in_1 _ (List.mem_of_getElem? (i := 148) rfl)) rfl
theorem ib_10 : iB mi_10 10 := ⟨cwi_10, wGW_ok (i := 119) (by decide +kernel), by decide, rfl, ⟨by decide, by decide, by decide +kernel⟩, rfl, wGW_ok (i := 259) (by decide +kernel), wGW_ok (i := 257) (by decide +kernel), rfl, by decide⟩
theorem il_10 : Cond.methodLink (rn 10) 3 Lib.objectInit ∈ GW := wGW_ok (i := 261) (by decide +kernel)
def ops_10 : List OP := []
def fi_10 : Nat → Int32 := fun _ => 0
theorem ok_10 : ckOs mi_10.2.2.2.1 10 10 fi_10 4 ops_10 = true := by decide +kernel
theorem od_10 : ckD 10 fi_10 ops_10 = true := by decide +kernel
theorem oc_10 : ∀ o ∈ ops_10, o.2.1 = 8 → Cond.classLink (rn 10) o.2.2.2.2.1 (rn ((ly 10 o.2.2.2.1).2 % 100)) ∈ GW := by
  intro o ho h8
  have : (ops_10.all fun o => !(Nat.beq o.2.1 8)) = true := by decide +kernel
  have := List.all_eq_true.mp this o ho
  rw [h8] at this
  cases this
theorem ti_10 {d : Nat} {hs : List PS} (hw : wf hs) : TriI mi_10 10 d (sumC ops_10) (sumS 10 ops_10) hs (fun h => h = hs.set 10 (nwO (hp hs 10) fi_10 (fun _ => none))) := TriI_ops hw ib_10 (by decide +kernel) rfl (by decide) (by decide +kernel) (by decide +kernel) il_10 ok_10 oc_10 od_10 (by decide +kernel) (by decide +kernel)
theorem sz_10 : sumC ops_10 = 0 ∧ sumS 10 ops_10 = 0 := by decide +kernel
def mi_8 : MI := (fun _ => none, 0, yX2_init, cX2_init, 1, none, 8)
set_option maxRecDepth 20000 in
theorem cwi_8 : Cond.code mi_8.2.2.1 mi_8.2.2.2.1 mi_8.2.2.2.2.1 mi_8.2.2.2.2.2.1 ∈ GW := gw_in (in_2 _ (List.mem_of_getElem? (i := 18) rfl)) rfl
theorem ib_8 : iB mi_8 8 := ⟨cwi_8, wGW_ok (i := 123) (by decide +kernel), by decide, rfl, ⟨by decide, by decide, by decide +kernel⟩, rfl, wGW_ok (i := 369) (by decide +kernel), wGW_ok (i := 367) (by decide +kernel), rfl, by decide⟩
theorem il_8 : Cond.methodLink (rn 8) 3 Lib.objectInit ∈ GW := wGW_ok (i := 371) (by decide +kernel)
def ops_8 : List OP := [(.sipush 480, 3, 9, 0, 0, 0), (.bipush 6, 3, 15, 1, 0, 0), (.bipush 6, 3, 18, 2, 0, 0), (.bipush 6, 3, 21, 3, 0, 0)]
def fi_8 : Nat → Int32 := fun _ => 0
theorem ok_8 : ckOs mi_8.2.2.2.1 8 8 fi_8 4 ops_8 = true := by decide +kernel
theorem od_8 : ckD 8 fi_8 ops_8 = true := by decide +kernel
theorem oc_8 : ∀ o ∈ ops_8, o.2.1 = 8 → Cond.classLink (rn 8) o.2.2.2.2.1 (rn ((ly 8 o.2.2.2.1).2 % 100)) ∈ GW := by
  intro o ho h8
  have : (ops_8.all fun o => !(Nat.beq o.2.1 8)) = true := by decide +kernel
  have := List.all_eq_true.mp this o ho
  rw [h8] at this
  cases this
theorem ti_8 {d : Nat} {hs : List PS} (hw : wf hs) : TriI mi_8 8 d (sumC ops_8) (sumS 8 ops_8) hs (fun h => h = hs.set 8 (nwO (hp hs 8) fi_8 (fun _ => none))) := TriI_ops hw ib_8 (by decide +kernel) rfl (by decide) (by decide +kernel) (by decide +kernel) il_8 ok_8 oc_8 od_8 (by decide +kernel) (by decide +kernel)
theorem sz_8 : sumC ops_8 = 4 ∧ sumS 8 ops_8 = 498 := by decide +kernel
def mi_9 : MI := (fun _ => none, 0, yX4_init, cX4_init, 1, none, 9)
set_option maxRecDepth 20000 in
theorem cwi_9 : Cond.code mi_9.2.2.1 mi_9.2.2.2.1 mi_9.2.2.2.2.1 mi_9.2.2.2.2.2.1 ∈ GW := gw_in (in_1 _ (List.mem_of_getElem? (i := 158) rfl)) rfl
theorem ib_9 : iB mi_9 9 := ⟨cwi_9, wGW_ok (i := 120) (by decide +kernel), by decide, rfl, ⟨by decide, by decide, by decide +kernel⟩, rfl, wGW_ok (i := 269) (by decide +kernel), wGW_ok (i := 267) (by decide +kernel), rfl, by decide⟩
theorem il_9 : Cond.methodLink (rn 9) 3 Lib.objectInit ∈ GW := wGW_ok (i := 271) (by decide +kernel)
def ops_9 : List OP := [(.sipush 256, 3, 9, 0, 0, 0), (.sipush 256, 3, 15, 1, 0, 0)]
def fi_9 : Nat → Int32 := fun _ => 0
theorem ok_9 : ckOs mi_9.2.2.2.1 9 9 fi_9 4 ops_9 = true := by decide +kernel
theorem od_9 : ckD 9 fi_9 ops_9 = true := by decide +kernel
theorem oc_9 : ∀ o ∈ ops_9, o.2.1 = 8 → Cond.classLink (rn 9) o.2.2.2.2.1 (rn ((ly 9 o.2.2.2.1).2 % 100)) ∈ GW := by
  intro o ho h8
  have : (ops_9.all fun o => !(Nat.beq o.2.1 8)) = true := by decide +kernel
  have := List.all_eq_true.mp this o ho
  rw [h8] at this
  cases this
theorem ti_9 {d : Nat} {hs : List PS} (hw : wf hs) : TriI mi_9 9 d (sumC ops_9) (sumS 9 ops_9) hs (fun h => h = hs.set 9 (nwO (hp hs 9) fi_9 (fun _ => none))) := TriI_ops hw ib_9 (by decide +kernel) rfl (by decide) (by decide +kernel) (by decide +kernel) il_9 ok_9 oc_9 od_9 (by decide +kernel) (by decide +kernel)
theorem sz_9 : sumC ops_9 = 2 ∧ sumS 9 ops_9 = 512 := by decide +kernel
def mi_4 : MI := (fun _ => none, 0, yX5_init, cX5_init, 1, none, 4)
set_option maxRecDepth 20000 in
theorem cwi_4 : Cond.code mi_4.2.2.1 mi_4.2.2.2.1 mi_4.2.2.2.2.1 mi_4.2.2.2.2.2.1 ∈ GW := gw_in (in_2 _ (List.mem_of_getElem? (i := 213) rfl)) rfl
theorem ib_4 : iB mi_4 4 := ⟨cwi_4, wGW_ok (i := 127) (by decide +kernel), by decide, rfl, ⟨by decide, by decide, by decide +kernel⟩, rfl, wGW_ok (i := 564) (by decide +kernel), wGW_ok (i := 562) (by decide +kernel), rfl, by decide⟩
theorem il_4 : Cond.methodLink (rn 4) 3 Lib.objectInit ∈ GW := wGW_ok (i := 566) (by decide +kernel)
def ops_4 : List OP := [(.sipush 400, 3, 9, 0, 0, 0), (.bipush 6, 3, 15, 1, 0, 0), (.bipush 6, 3, 18, 2, 0, 0), (.bipush 41, 3, 21, 3, 0, 0), (.iconst 0, 0, 24, 4, 0, 0), (.iconst 0, 0, 28, 5, 0, 0), (.iconst 0, 0, 31, 6, 0, 0)]
def fi_4 : Nat → Int32 := fun _ => 0
theorem ok_4 : ckOs mi_4.2.2.2.1 4 4 fi_4 4 ops_4 = true := by decide +kernel
theorem od_4 : ckD 4 fi_4 ops_4 = true := by decide +kernel
theorem oc_4 : ∀ o ∈ ops_4, o.2.1 = 8 → Cond.classLink (rn 4) o.2.2.2.2.1 (rn ((ly 4 o.2.2.2.1).2 % 100)) ∈ GW := by
  intro o ho h8
  have : (ops_4.all fun o => !(Nat.beq o.2.1 8)) = true := by decide +kernel
  have := List.all_eq_true.mp this o ho
  rw [h8] at this
  cases this
theorem ti_4 {d : Nat} {hs : List PS} (hw : wf hs) : TriI mi_4 4 d (sumC ops_4) (sumS 4 ops_4) hs (fun h => h = hs.set 4 (nwO (hp hs 4) fi_4 (fun _ => none))) := TriI_ops hw ib_4 (by decide +kernel) rfl (by decide) (by decide +kernel) (by decide +kernel) il_4 ok_4 oc_4 od_4 (by decide +kernel) (by decide +kernel)
theorem sz_4 : sumC ops_4 = 4 ∧ sumS 4 ops_4 = 453 := by decide +kernel
def mi_11 : MI := (fun _ => none, 0, yX6_init, cX6_init, 1, none, 11)
set_option maxRecDepth 20000 in
theorem cwi_11 : Cond.code mi_11.2.2.1 mi_11.2.2.2.1 mi_11.2.2.2.2.1 mi_11.2.2.2.2.2.1 ∈ GW := gw_in (in_1 _ (List.mem_of_getElem? (i := 199) rfl)) rfl
theorem ib_11 : iB mi_11 11 := ⟨cwi_11, wGW_ok (i := 121) (by decide +kernel), by decide, rfl, ⟨by decide, by decide, by decide +kernel⟩, rfl, wGW_ok (i := 310) (by decide +kernel), wGW_ok (i := 308) (by decide +kernel), rfl, by decide⟩
theorem il_11 : Cond.methodLink (rn 11) 3 Lib.objectInit ∈ GW := wGW_ok (i := 312) (by decide +kernel)
def ops_11 : List OP := []
def fi_11 : Nat → Int32 := fun _ => 0
theorem ok_11 : ckOs mi_11.2.2.2.1 11 11 fi_11 4 ops_11 = true := by decide +kernel
theorem od_11 : ckD 11 fi_11 ops_11 = true := by decide +kernel
theorem oc_11 : ∀ o ∈ ops_11, o.2.1 = 8 → Cond.classLink (rn 11) o.2.2.2.2.1 (rn ((ly 11 o.2.2.2.1).2 % 100)) ∈ GW := by
  intro o ho h8
  have : (ops_11.all fun o => !(Nat.beq o.2.1 8)) = true := by decide +kernel
  have := List.all_eq_true.mp this o ho
  rw [h8] at this
  cases this
theorem ti_11 {d : Nat} {hs : List PS} (hw : wf hs) : TriI mi_11 11 d (sumC ops_11) (sumS 11 ops_11) hs (fun h => h = hs.set 11 (nwO (hp hs 11) fi_11 (fun _ => none))) := TriI_ops hw ib_11 (by decide +kernel) rfl (by decide) (by decide +kernel) (by decide +kernel) il_11 ok_11 oc_11 od_11 (by decide +kernel) (by decide +kernel)
theorem sz_11 : sumC ops_11 = 0 ∧ sumS 11 ops_11 = 0 := by decide +kernel
def mi_6 : MI := (fun _ => none, 0, yX7_init, cX7_init, 1, none, 6)
set_option maxRecDepth 20000 in
theorem cwi_6 : Cond.code mi_6.2.2.1 mi_6.2.2.2.1 mi_6.2.2.2.2.1 mi_6.2.2.2.2.2.1 ∈ GW := gw_in (in_2 _ (List.mem_of_getElem? (i := 77) rfl)) rfl
theorem ib_6 : iB mi_6 6 := ⟨cwi_6, wGW_ok (i := 125) (by decide +kernel), by decide, rfl, ⟨by decide, by decide, by decide +kernel⟩, rfl, wGW_ok (i := 428) (by decide +kernel), wGW_ok (i := 426) (by decide +kernel), rfl, by decide⟩
theorem il_6 : Cond.methodLink (rn 6) 3 Lib.objectInit ∈ GW := wGW_ok (i := 430) (by decide +kernel)
def ops_6 : List OP := [(.bipush 12, 8, 11, 0, 9, 0), (.bipush 12, 3, 17, 1, 0, 0), (.bipush 12, 3, 21, 2, 0, 0), (.bipush 16, 3, 24, 3, 0, 0), (.iconst 0, 0, 27, 4, 0, 0), (.iconst 0, 0, 31, 5, 0, 0), (.iconst 0, 0, 34, 6, 0, 0), (.iconst 0, 2, 37, 7, 0, 0)]
def fi_6 : Nat → Int32 := fun _ => 0
theorem ok_6 : ckOs mi_6.2.2.2.1 6 6 fi_6 4 ops_6 = true := by decide +kernel
theorem od_6 : ckD 6 fi_6 ops_6 = true := by decide +kernel
theorem oc_6 : ∀ o ∈ ops_6, o.2.1 = 8 → Cond.classLink (rn 6) o.2.2.2.2.1 (rn ((ly 6 o.2.2.2.1).2 % 100)) ∈ GW := by
  intro o ho h8
  have hk : (9, 3) = (o.2.2.2.2.1, (ly 6 o.2.2.2.1).2 % 100) := by
    have : (ops_6.all fun o => !(Nat.beq o.2.1 8) || (Nat.beq o.2.2.2.2.1 9 && Nat.beq ((ly 6 o.2.2.2.1).2 % 100) 3)) = true := by decide +kernel
    have := List.all_eq_true.mp this o ho
    rw [h8] at this
    have := ck2 this
    rw [Nat.eq_of_beq_eq_true this.1, Nat.eq_of_beq_eq_true this.2]
  rw [← (Prod.mk.inj hk).1, ← (Prod.mk.inj hk).2]
  exact wGW_ok (i := 431) (by decide +kernel)
theorem ti_6 {d : Nat} {hs : List PS} (hw : wf hs) : TriI mi_6 6 d (sumC ops_6) (sumS 6 ops_6) hs (fun h => h = hs.set 6 (nwO (hp hs 6) fi_6 (fun _ => none))) := TriI_ops hw ib_6 (by decide +kernel) rfl (by decide) (by decide +kernel) (by decide +kernel) il_6 ok_6 oc_6 od_6 (by decide +kernel) (by decide +kernel)
theorem sz_6 : sumC ops_6 = 4 ∧ sumS 6 ops_6 = 52 := by decide +kernel
def mi_5 : MI := (fun _ => none, 0, yX8_init, cX8_init, 1, none, 5)
set_option maxRecDepth 20000 in
theorem cwi_5 : Cond.code mi_5.2.2.1 mi_5.2.2.2.1 mi_5.2.2.2.2.1 mi_5.2.2.2.2.2.1 ∈ GW := gw_in (in_1 _ (List.mem_of_getElem? (i := 206) rfl)) rfl
theorem ib_5 : iB mi_5 5 := ⟨cwi_5, wGW_ok (i := 122) (by decide +kernel), by decide, rfl, ⟨by decide, by decide, by decide +kernel⟩, rfl, wGW_ok (i := 317) (by decide +kernel), wGW_ok (i := 315) (by decide +kernel), rfl, by decide⟩
theorem il_5 : Cond.methodLink (rn 5) 3 Lib.objectInit ∈ GW := wGW_ok (i := 319) (by decide +kernel)
def ops_5 : List OP := [(.bipush 100, 3, 9, 0, 0, 0), (.bipush 100, 3, 15, 1, 0, 0), (.bipush 32, 3, 18, 2, 0, 0), (.bipush 33, 3, 21, 3, 0, 0), (.iconst 0, 2, 24, 10, 0, 0), (.iconst 0, 2, 28, 11, 0, 0), (.iconst 0, 2, 31, 12, 0, 0), (.iconst 0, 2, 34, 13, 0, 0)]
def fi_5 : Nat → Int32 := fun _ => 0
theorem ok_5 : ckOs mi_5.2.2.2.1 5 5 fi_5 4 ops_5 = true := by decide +kernel
theorem od_5 : ckD 5 fi_5 ops_5 = true := by decide +kernel
theorem oc_5 : ∀ o ∈ ops_5, o.2.1 = 8 → Cond.classLink (rn 5) o.2.2.2.2.1 (rn ((ly 5 o.2.2.2.1).2 % 100)) ∈ GW := by
  intro o ho h8
  have : (ops_5.all fun o => !(Nat.beq o.2.1 8)) = true := by decide +kernel
  have := List.all_eq_true.mp this o ho
  rw [h8] at this
  cases this
theorem ti_5 {d : Nat} {hs : List PS} (hw : wf hs) : TriI mi_5 5 d (sumC ops_5) (sumS 5 ops_5) hs (fun h => h = hs.set 5 (nwO (hp hs 5) fi_5 (fun _ => none))) := TriI_ops hw ib_5 (by decide +kernel) rfl (by decide) (by decide +kernel) (by decide +kernel) il_5 ok_5 oc_5 od_5 (by decide +kernel) (by decide +kernel)
theorem sz_5 : sumC ops_5 = 4 ∧ sumS 5 ops_5 = 265 := by decide +kernel
def mi_7 : MI := (fun _ => none, 0, yX10_init, cX10_init, 1, none, 7)
set_option maxRecDepth 20000 in
theorem cwi_7 : Cond.code mi_7.2.2.1 mi_7.2.2.2.1 mi_7.2.2.2.2.1 mi_7.2.2.2.2.2.1 ∈ GW := gw_in (in_2 _ (List.mem_of_getElem? (i := 43) rfl)) rfl
theorem ib_7 : iB mi_7 7 := ⟨cwi_7, wGW_ok (i := 124) (by decide +kernel), by decide, rfl, ⟨by decide, by decide, by decide +kernel⟩, rfl, wGW_ok (i := 394) (by decide +kernel), wGW_ok (i := 392) (by decide +kernel), rfl, by decide⟩
theorem il_7 : Cond.methodLink (rn 7) 3 Lib.objectInit ∈ GW := wGW_ok (i := 396) (by decide +kernel)
def ops_7 : List OP := []
def fi_7 : Nat → Int32 := fun _ => 0
theorem ok_7 : ckOs mi_7.2.2.2.1 7 7 fi_7 4 ops_7 = true := by decide +kernel
theorem od_7 : ckD 7 fi_7 ops_7 = true := by decide +kernel
theorem oc_7 : ∀ o ∈ ops_7, o.2.1 = 8 → Cond.classLink (rn 7) o.2.2.2.2.1 (rn ((ly 7 o.2.2.2.1).2 % 100)) ∈ GW := by
  intro o ho h8
  have : (ops_7.all fun o => !(Nat.beq o.2.1 8)) = true := by decide +kernel
  have := List.all_eq_true.mp this o ho
  rw [h8] at this
  cases this
theorem ti_7 {d : Nat} {hs : List PS} (hw : wf hs) : TriI mi_7 7 d (sumC ops_7) (sumS 7 ops_7) hs (fun h => h = hs.set 7 (nwO (hp hs 7) fi_7 (fun _ => none))) := TriI_ops hw ib_7 (by decide +kernel) rfl (by decide) (by decide +kernel) (by decide +kernel) il_7 ok_7 oc_7 od_7 (by decide +kernel) (by decide +kernel)
theorem sz_7 : sumC ops_7 = 0 ∧ sumS 7 ops_7 = 0 := by decide +kernel

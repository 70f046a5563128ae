/-! ===== the constructor of a TEXT ===== -/
def mi_1 : MI := (fun _ => none, 0, yX9_init, cX9_init, 3, none, 1)
set_option maxRecDepth 20000 in
theorem cwi_1 : Cond.code mi_1.2.2.1 mi_1.2.2.2.1 mi_1.2.2.2.2.1 mi_1.2.2.2.2.2.1 ∈ GW := gw_in (in_1 _ (List.mem_of_getElem? (i := 34) rfl)) rfl
theorem ib_1 : iB mi_1 1 := ⟨cwi_1, wGW_ok (i := 114) (by decide +kernel), by decide, rfl, ⟨by decide, by decide, by decide +kernel⟩, rfl, wGW_ok (i := 145) (by decide +kernel), wGW_ok (i := 143) (by decide +kernel), rfl, by decide⟩
theorem il_1 : Cond.methodLink (rn 1) 3 Lib.objectInit ∈ GW := wGW_ok (i := 147) (by decide +kernel)
def ops_1 : List OP := [(.sipush 1500, 5, 9, 0, 0, 0), (.iconst 0, 0, 15, 1, 0, 0), (.iconst 0, 0, 19, 2, 0, 0), (.iconst (-1), 0, 22, 3, 0, 0), (.iconst 0, 0, 25, 4, 0, 0), (.iconst 0, 0, 28, 5, 0, 0), (.iconst 0, 0, 31, 6, 0, 0), (.lconst 0, 1, 34, 7, 0, 0), (.iconst 0, 0, 38, 8, 0, 0), (.iconst 0, 0, 41, 9, 0, 0), (.iconst 0, 0, 44, 10, 0, 0), (.iconst 0, 2, 47, 11, 0, 0), (.bipush 27, 4, 51, 12, 0, 0)]
def fi_1 : Nat → Int32 := fun a => if a = 3 then -1 else 0
theorem ok_1 : ckOs mi_1.2.2.2.1 1 1 fi_1 4 ops_1 = true := by decide +kernel
theorem od_1 : ckD 1 fi_1 ops_1 = true := by decide +kernel
theorem oc_1 : ∀ o ∈ ops_1, o.2.1 = 8 → Cond.classLink (rn 1) o.2.2.2.2.1 (rn ((ly 1 o.2.2.2.1).2 % 100)) ∈ GW := by
  intro o ho h8
  have : (ops_1.all fun o => !(Nat.beq o.2.1 8)) = true := by decide +kernel
  have := List.all_eq_true.mp this o ho
  rw [h8] at this
  cases this
theorem sz_1 : sumC ops_1 = 2 ∧ sumS 1 ops_1 = 1527 := by decide +kernel
theorem dt_76 : decode cX9_init 76 = .ok (.iconst 0, 1) := by decide +kernel
theorem dt_77 : decode cX9_init 77 = .ok (.istore_n 1, 1) := by decide +kernel
theorem dt_78 : decode cX9_init 78 = .ok (.iload_n 1, 1) := by decide +kernel
theorem dt_79 : decode cX9_init 79 = .ok (.ldc 55, 2) := by decide +kernel
theorem dt_81 : decode cX9_init 81 = .ok (.invokevirtual 57, 3) := by decide +kernel
theorem dt_84 : decode cX9_init 84 = .ok (.if_icmp .ge 60, 3) := by decide +kernel
theorem dt_87 : decode cX9_init 87 = .ok (.iload_n 1, 1) := by decide +kernel
theorem dt_88 : decode cX9_init 88 = .ok (.sipush 216, 3) := by decide +kernel
theorem dt_91 : decode cX9_init 91 = .ok (.if_icmp .ge 53, 3) := by decide +kernel
theorem dt_94 : decode cX9_init 94 = .ok (.ldc 55, 2) := by decide +kernel
theorem dt_96 : decode cX9_init 96 = .ok (.iload_n 1, 1) := by decide +kernel
theorem dt_97 : decode cX9_init 97 = .ok (.invokevirtual 62, 3) := by decide +kernel
theorem dt_100 : decode cX9_init 100 = .ok (.istore_n 2, 1) := by decide +kernel
theorem dt_101 : decode cX9_init 101 = .ok (.iload_n 2, 1) := by decide +kernel
theorem dt_102 : decode cX9_init 102 = .ok (.bipush 32, 2) := by decide +kernel
theorem dt_104 : decode cX9_init 104 = .ok (.if_icmp .eq 34, 3) := by decide +kernel
theorem dt_107 : decode cX9_init 107 = .ok (.aload_n 0, 1) := by decide +kernel
theorem dt_108 : decode cX9_init 108 = .ok (.getfield 51, 3) := by decide +kernel
theorem dt_111 : decode cX9_init 111 = .ok (.iload_n 1, 1) := by decide +kernel
theorem dt_112 : decode cX9_init 112 = .ok (.bipush 8, 2) := by decide +kernel
theorem dt_114 : decode cX9_init 114 = .ok (.idiv, 1) := by decide +kernel
theorem dt_115 : decode cX9_init 115 = .ok (.aload_n 0, 1) := by decide +kernel
theorem dt_116 : decode cX9_init 116 = .ok (.getfield 51, 3) := by decide +kernel
theorem dt_119 : decode cX9_init 119 = .ok (.iload_n 1, 1) := by decide +kernel
theorem dt_120 : decode cX9_init 120 = .ok (.bipush 8, 2) := by decide +kernel
theorem dt_122 : decode cX9_init 122 = .ok (.idiv, 1) := by decide +kernel
theorem dt_123 : decode cX9_init 123 = .ok (.laload, 1) := by decide +kernel
theorem dt_124 : decode cX9_init 124 = .ok (.ldc2_w 66, 3) := by decide +kernel
theorem dt_127 : decode cX9_init 127 = .ok (.lmul, 1) := by decide +kernel
theorem dt_128 : decode cX9_init 128 = .ok (.iload_n 2, 1) := by decide +kernel
theorem dt_129 : decode cX9_init 129 = .ok (.i2l, 1) := by decide +kernel
theorem dt_130 : decode cX9_init 130 = .ok (.ladd, 1) := by decide +kernel
theorem dt_131 : decode cX9_init 131 = .ok (.ldc2_w 68, 3) := by decide +kernel
theorem dt_134 : decode cX9_init 134 = .ok (.lsub, 1) := by decide +kernel
theorem dt_135 : decode cX9_init 135 = .ok (.lconst 1, 1) := by decide +kernel
theorem dt_136 : decode cX9_init 136 = .ok (.ladd, 1) := by decide +kernel
theorem dt_137 : decode cX9_init 137 = .ok (.lastore, 1) := by decide +kernel
theorem dt_138 : decode cX9_init 138 = .ok (.iinc 1 1, 3) := by decide +kernel
theorem dt_141 : decode cX9_init 141 = .ok (.goto (-63), 3) := by decide +kernel
theorem dt_144 : decode cX9_init 144 = .ok (.return_, 1) := by decide +kernel
theorem ft_51 : (1, 51, 1, 12, 226) ∈ FT := by
  obtain ⟨t, h⟩ := any_FT (own := 1) (idx := 51) (c := 1) (a := 12) (by decide +kernel)
  have : t = 226 := by
    have hh : (FT.all fun e => !(Nat.beq e.1 1 && Nat.beq e.2.1 51) || Nat.beq e.2.2.2.2 226) = true := by decide +kernel
    have := List.all_eq_true.mp hh _ h
    exact Nat.eq_of_beq_eq_true this
  rw [← this]; exact h
theorem cj_66 : Cond.constantLong (rn 1) 66 32 ∈ GW := wGW_ok (i := 197) (by decide +kernel)
theorem cj_68 : Cond.constantLong (rn 1) 68 97 ∈ GW := wGW_ok (i := 198) (by decide +kernel)

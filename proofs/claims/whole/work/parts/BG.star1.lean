/-! ===== the constructor of the class: what its code says ===== -/
def mi_12 : MI := (fun _ => none, 0, yX11_init, cX11_init, 2, none, 12)
set_option maxRecDepth 20000 in
theorem cwi_12 : Cond.code mi_12.2.2.1 mi_12.2.2.2.1 mi_12.2.2.2.2.1 mi_12.2.2.2.2.2.1 ∈ GW := gw_in (in_1 _ (List.mem_of_getElem? (i := 26) rfl)) rfl
theorem ib_12 : iB mi_12 12 := ⟨cwi_12, wGW_ok (i := 113) (by decide +kernel), by decide, rfl, ⟨by decide, by decide, by decide +kernel⟩, rfl, wGW_ok (i := 137) (by decide +kernel), wGW_ok (i := 135) (by decide +kernel), rfl, by decide⟩
theorem il_12 : Cond.methodLink (rn 12) 1 Lib.objectInit ∈ GW := wGW_ok (i := 139) (by decide +kernel)
theorem ds_0 : decode cX11_init 0 = .ok (.aload_n 0, 1) := by decide +kernel
theorem ds_1 : decode cX11_init 1 = .ok (.invokespecial 1, 3) := by decide +kernel
theorem ds_4 : decode cX11_init 4 = .ok (.aload_n 0, 1) := by decide +kernel
theorem ds_5 : decode cX11_init 5 = .ok (.new 7, 3) := by decide +kernel
theorem ds_8 : decode cX11_init 8 = .ok (.dup, 1) := by decide +kernel
theorem ds_9 : decode cX11_init 9 = .ok (.invokespecial 9, 3) := by decide +kernel
theorem ds_12 : decode cX11_init 12 = .ok (.putfield 10, 3) := by decide +kernel
theorem ds_15 : decode cX11_init 15 = .ok (.aload_n 0, 1) := by decide +kernel
theorem ds_16 : decode cX11_init 16 = .ok (.new 16, 3) := by decide +kernel
theorem ds_19 : decode cX11_init 19 = .ok (.dup, 1) := by decide +kernel
theorem ds_20 : decode cX11_init 20 = .ok (.invokespecial 18, 3) := by decide +kernel
theorem ds_23 : decode cX11_init 23 = .ok (.putfield 19, 3) := by decide +kernel
theorem ds_26 : decode cX11_init 26 = .ok (.aload_n 0, 1) := by decide +kernel
theorem ds_27 : decode cX11_init 27 = .ok (.new 23, 3) := by decide +kernel
theorem ds_30 : decode cX11_init 30 = .ok (.dup, 1) := by decide +kernel
theorem ds_31 : decode cX11_init 31 = .ok (.invokespecial 25, 3) := by decide +kernel
theorem ds_34 : decode cX11_init 34 = .ok (.putfield 26, 3) := by decide +kernel
theorem ds_37 : decode cX11_init 37 = .ok (.aload_n 0, 1) := by decide +kernel
theorem ds_38 : decode cX11_init 38 = .ok (.new 30, 3) := by decide +kernel
theorem ds_41 : decode cX11_init 41 = .ok (.dup, 1) := by decide +kernel
theorem ds_42 : decode cX11_init 42 = .ok (.invokespecial 32, 3) := by decide +kernel
theorem ds_45 : decode cX11_init 45 = .ok (.putfield 33, 3) := by decide +kernel
theorem ds_48 : decode cX11_init 48 = .ok (.aload_n 0, 1) := by decide +kernel
theorem ds_49 : decode cX11_init 49 = .ok (.new 37, 3) := by decide +kernel
theorem ds_52 : decode cX11_init 52 = .ok (.dup, 1) := by decide +kernel
theorem ds_53 : decode cX11_init 53 = .ok (.invokespecial 39, 3) := by decide +kernel
theorem ds_56 : decode cX11_init 56 = .ok (.putfield 40, 3) := by decide +kernel
theorem ds_59 : decode cX11_init 59 = .ok (.aload_n 0, 1) := by decide +kernel
theorem ds_60 : decode cX11_init 60 = .ok (.new 44, 3) := by decide +kernel
theorem ds_63 : decode cX11_init 63 = .ok (.dup, 1) := by decide +kernel
theorem ds_64 : decode cX11_init 64 = .ok (.invokespecial 46, 3) := by decide +kernel
theorem ds_67 : decode cX11_init 67 = .ok (.putfield 47, 3) := by decide +kernel
theorem ds_70 : decode cX11_init 70 = .ok (.aload_n 0, 1) := by decide +kernel
theorem ds_71 : decode cX11_init 71 = .ok (.new 51, 3) := by decide +kernel
theorem ds_74 : decode cX11_init 74 = .ok (.dup, 1) := by decide +kernel
theorem ds_75 : decode cX11_init 75 = .ok (.invokespecial 53, 3) := by decide +kernel
theorem ds_78 : decode cX11_init 78 = .ok (.putfield 54, 3) := by decide +kernel
theorem ds_81 : decode cX11_init 81 = .ok (.aload_n 0, 1) := by decide +kernel
theorem ds_82 : decode cX11_init 82 = .ok (.new 58, 3) := by decide +kernel
theorem ds_85 : decode cX11_init 85 = .ok (.dup, 1) := by decide +kernel
theorem ds_86 : decode cX11_init 86 = .ok (.invokespecial 60, 3) := by decide +kernel
theorem ds_89 : decode cX11_init 89 = .ok (.putfield 61, 3) := by decide +kernel
theorem ds_92 : decode cX11_init 92 = .ok (.aload_n 0, 1) := by decide +kernel
theorem ds_93 : decode cX11_init 93 = .ok (.iconst 3, 1) := by decide +kernel
theorem ds_94 : decode cX11_init 94 = .ok (.anewarray 58, 3) := by decide +kernel
theorem ds_97 : decode cX11_init 97 = .ok (.putfield 65, 3) := by decide +kernel
theorem ds_100 : decode cX11_init 100 = .ok (.aload_n 0, 1) := by decide +kernel
theorem ds_101 : decode cX11_init 101 = .ok (.bipush 8, 2) := by decide +kernel
theorem ds_103 : decode cX11_init 103 = .ok (.newarray .int, 2) := by decide +kernel
theorem ds_105 : decode cX11_init 105 = .ok (.putfield 69, 3) := by decide +kernel
theorem ds_108 : decode cX11_init 108 = .ok (.aload_n 0, 1) := by decide +kernel
theorem ds_109 : decode cX11_init 109 = .ok (.bipush 12, 2) := by decide +kernel
theorem ds_111 : decode cX11_init 111 = .ok (.newarray .int, 2) := by decide +kernel
theorem ds_113 : decode cX11_init 113 = .ok (.putfield 73, 3) := by decide +kernel
theorem ds_116 : decode cX11_init 116 = .ok (.aload_n 0, 1) := by decide +kernel
theorem ds_117 : decode cX11_init 117 = .ok (.new 76, 3) := by decide +kernel
theorem ds_120 : decode cX11_init 120 = .ok (.dup, 1) := by decide +kernel
theorem ds_121 : decode cX11_init 121 = .ok (.invokespecial 78, 3) := by decide +kernel
theorem ds_124 : decode cX11_init 124 = .ok (.putfield 79, 3) := by decide +kernel
theorem ds_127 : decode cX11_init 127 = .ok (.aload_n 0, 1) := by decide +kernel
theorem ds_128 : decode cX11_init 128 = .ok (.new 76, 3) := by decide +kernel
theorem ds_131 : decode cX11_init 131 = .ok (.dup, 1) := by decide +kernel
theorem ds_132 : decode cX11_init 132 = .ok (.invokespecial 78, 3) := by decide +kernel
theorem ds_135 : decode cX11_init 135 = .ok (.putfield 83, 3) := by decide +kernel
theorem ds_138 : decode cX11_init 138 = .ok (.aload_n 0, 1) := by decide +kernel
theorem ds_139 : decode cX11_init 139 = .ok (.new 86, 3) := by decide +kernel
theorem ds_142 : decode cX11_init 142 = .ok (.dup, 1) := by decide +kernel
theorem ds_143 : decode cX11_init 143 = .ok (.invokespecial 88, 3) := by decide +kernel
theorem ds_146 : decode cX11_init 146 = .ok (.putfield 89, 3) := by decide +kernel
theorem ds_149 : decode cX11_init 149 = .ok (.aload_n 0, 1) := by decide +kernel
theorem ds_150 : decode cX11_init 150 = .ok (.new 86, 3) := by decide +kernel
theorem ds_153 : decode cX11_init 153 = .ok (.dup, 1) := by decide +kernel
theorem ds_154 : decode cX11_init 154 = .ok (.invokespecial 88, 3) := by decide +kernel
theorem ds_157 : decode cX11_init 157 = .ok (.putfield 93, 3) := by decide +kernel
theorem ds_160 : decode cX11_init 160 = .ok (.iconst 0, 1) := by decide +kernel
theorem ds_161 : decode cX11_init 161 = .ok (.istore_n 1, 1) := by decide +kernel
theorem ds_162 : decode cX11_init 162 = .ok (.iload_n 1, 1) := by decide +kernel
theorem ds_163 : decode cX11_init 163 = .ok (.iconst 3, 1) := by decide +kernel
theorem ds_164 : decode cX11_init 164 = .ok (.if_icmp .ge 22, 3) := by decide +kernel
theorem ds_167 : decode cX11_init 167 = .ok (.aload_n 0, 1) := by decide +kernel
theorem ds_168 : decode cX11_init 168 = .ok (.getfield 65, 3) := by decide +kernel
theorem ds_171 : decode cX11_init 171 = .ok (.iload_n 1, 1) := by decide +kernel
theorem ds_172 : decode cX11_init 172 = .ok (.new 58, 3) := by decide +kernel
theorem ds_175 : decode cX11_init 175 = .ok (.dup, 1) := by decide +kernel
theorem ds_176 : decode cX11_init 176 = .ok (.invokespecial 60, 3) := by decide +kernel
theorem ds_179 : decode cX11_init 179 = .ok (.aastore, 1) := by decide +kernel
theorem ds_180 : decode cX11_init 180 = .ok (.iinc 1 1, 3) := by decide +kernel
theorem ds_183 : decode cX11_init 183 = .ok (.goto (-21), 3) := by decide +kernel
theorem ds_186 : decode cX11_init 186 = .ok (.return_, 1) := by decide +kernel
theorem cl12_1 : Cond.classLink (rn 12) 7 (rn 1) ∈ GW := wGW_ok (i := 142) (by decide +kernel)
theorem ct12_1 : (Cond.methodLink (rn 12) 9 mi_1.2.2.1 ∈ GW) ∨ ∃ host, Cond.methodLinkNest (rn 12) 9 mi_1.2.2.1 (rn host) ∈ NW := Or.inl (wGW_ok (i := 144) (by decide +kernel))
theorem cl12_10 : Cond.classLink (rn 12) 16 (rn 10) ∈ GW := wGW_ok (i := 256) (by decide +kernel)
theorem ct12_10 : (Cond.methodLink (rn 12) 18 mi_10.2.2.1 ∈ GW) ∨ ∃ host, Cond.methodLinkNest (rn 12) 18 mi_10.2.2.1 (rn host) ∈ NW := Or.inr ⟨12, wNW_ok (i := 258) (by decide +kernel)⟩
theorem cl12_9 : Cond.classLink (rn 12) 23 (rn 9) ∈ GW := wGW_ok (i := 266) (by decide +kernel)
theorem ct12_9 : (Cond.methodLink (rn 12) 25 mi_9.2.2.1 ∈ GW) ∨ ∃ host, Cond.methodLinkNest (rn 12) 25 mi_9.2.2.1 (rn host) ∈ NW := Or.inr ⟨12, wNW_ok (i := 268) (by decide +kernel)⟩
theorem cl12_11 : Cond.classLink (rn 12) 30 (rn 11) ∈ GW := wGW_ok (i := 307) (by decide +kernel)
theorem ct12_11 : (Cond.methodLink (rn 12) 32 mi_11.2.2.1 ∈ GW) ∨ ∃ host, Cond.methodLinkNest (rn 12) 32 mi_11.2.2.1 (rn host) ∈ NW := Or.inr ⟨12, wNW_ok (i := 309) (by decide +kernel)⟩
theorem cl12_5 : Cond.classLink (rn 12) 37 (rn 5) ∈ GW := wGW_ok (i := 314) (by decide +kernel)
theorem ct12_5 : (Cond.methodLink (rn 12) 39 mi_5.2.2.1 ∈ GW) ∨ ∃ host, Cond.methodLinkNest (rn 12) 39 mi_5.2.2.1 (rn host) ∈ NW := Or.inr ⟨12, wNW_ok (i := 316) (by decide +kernel)⟩
theorem cl12_8 : Cond.classLink (rn 12) 44 (rn 8) ∈ GW := wGW_ok (i := 366) (by decide +kernel)
theorem ct12_8 : (Cond.methodLink (rn 12) 46 mi_8.2.2.1 ∈ GW) ∨ ∃ host, Cond.methodLinkNest (rn 12) 46 mi_8.2.2.1 (rn host) ∈ NW := Or.inr ⟨12, wNW_ok (i := 368) (by decide +kernel)⟩
theorem cl12_7 : Cond.classLink (rn 12) 51 (rn 7) ∈ GW := wGW_ok (i := 391) (by decide +kernel)
theorem ct12_7 : (Cond.methodLink (rn 12) 53 mi_7.2.2.1 ∈ GW) ∨ ∃ host, Cond.methodLinkNest (rn 12) 53 mi_7.2.2.1 (rn host) ∈ NW := Or.inr ⟨12, wNW_ok (i := 393) (by decide +kernel)⟩
theorem cl12_6 : Cond.classLink (rn 12) 58 (rn 6) ∈ GW := wGW_ok (i := 425) (by decide +kernel)
theorem ct12_6 : (Cond.methodLink (rn 12) 60 mi_6.2.2.1 ∈ GW) ∨ ∃ host, Cond.methodLinkNest (rn 12) 60 mi_6.2.2.1 (rn host) ∈ NW := Or.inr ⟨12, wNW_ok (i := 427) (by decide +kernel)⟩
theorem cl12_2 : Cond.classLink (rn 12) 76 (rn 2) ∈ GW := wGW_ok (i := 463) (by decide +kernel)
theorem ct12_2 : (Cond.methodLink (rn 12) 78 mi_2.2.2.1 ∈ GW) ∨ ∃ host, Cond.methodLinkNest (rn 12) 78 mi_2.2.2.1 (rn host) ∈ NW := Or.inl (wGW_ok (i := 465) (by decide +kernel))
theorem cl12_4 : Cond.classLink (rn 12) 86 (rn 4) ∈ GW := wGW_ok (i := 561) (by decide +kernel)
theorem ct12_4 : (Cond.methodLink (rn 12) 88 mi_4.2.2.1 ∈ GW) ∨ ∃ host, Cond.methodLinkNest (rn 12) 88 mi_4.2.2.1 (rn host) ∈ NW := Or.inr ⟨12, wNW_ok (i := 563) (by decide +kernel)⟩
def ops_12 : List OP := [(.iconst 3, 8, 65, 8, 58, 0), (.bipush 8, 3, 69, 9, 0, 0), (.bipush 12, 3, 73, 10, 0, 0)]
theorem ok_12 : ckOs mi_12.2.2.2.1 12 12 (fun _ => 0) 92 ops_12 = true := by decide +kernel
theorem oc_12 : ∀ o ∈ ops_12, o.2.1 = 8 → Cond.classLink (rn 12) o.2.2.2.2.1 (rn ((ly 12 o.2.2.2.1).2 % 100)) ∈ GW := by
  intro o ho h8
  have hk : (58, 6) = (o.2.2.2.2.1, (ly 12 o.2.2.2.1).2 % 100) := by
    have : (ops_12.all fun o => !(Nat.beq o.2.1 8) || (Nat.beq o.2.2.2.2.1 58 && Nat.beq ((ly 12 o.2.2.2.1).2 % 100) 6)) = true := by decide +kernel
    have := List.all_eq_true.mp this o ho
    rw [h8] at this
    have := ck2 this
    rw [Nat.eq_of_beq_eq_true this.1, Nat.eq_of_beq_eq_true this.2]
  rw [← (Prod.mk.inj hk).1, ← (Prod.mk.inj hk).2]
  exact cl12_6
theorem ft_65 : ∃ t, (12, 65, 12, 8, t) ∈ FT := any_FT (by decide +kernel)

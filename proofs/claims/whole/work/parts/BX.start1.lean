/-! ===== the start: the String of the words ===== -/
abbrev tSx : Term := .string "StarEye$Text" 55
abbrev tSv : Term := .field tSx "java/lang/String" "value" "[B"
theorem wi_ex : Cond.exactly tSx "java/lang/String" ∈ flatC (Jvm.Cond.and given_1 narrow_1) := by decide +kernel
theorem wi_co : Cond.eq (.field tSx "java/lang/String" "coder" "B") (.int 0) ∈ flatC (Jvm.Cond.and given_1 narrow_1) := by decide +kernel
theorem wi_ar : Cond.arrayOf tSv .byte ∈ flatC (Jvm.Cond.and given_1 narrow_1) := by decide +kernel
theorem wi_le : Cond.eq (.length tSv) (.int (Int32.ofNat 216)) ∈ flatC (Jvm.Cond.and given_1 narrow_1) := by decide +kernel
theorem wi_el : (flatC (Jvm.Cond.and given_1 narrow_1)).drop 39 = (List.range 216).map fun j => Cond.eq (.elem tSv (.int (Int32.ofNat j))) (.int (SB.getD j 0)) := by decide +kernel
theorem wi_cs : Cond.eq (.static "java/lang/String" "COMPACT_STRINGS" "Z") (.int 1) ∈ flatC (Jvm.Cond.and given_1 narrow_1) := by decide +kernel
theorem wi_fm : Cond.isRef (.static "jdk/internal/util/Preconditions" "SIOOBE_FORMATTER" "Ljava/util/function/BiFunction;") ∈ flatC (Jvm.Cond.and given_1 narrow_1) := by decide +kernel
theorem wi_l1 : Cond.laysStatic "java/lang/String" "COMPACT_STRINGS" "Z" ∈ lw_tbl := by decide +kernel
theorem wi_l2 : Cond.laysStatic "jdk/internal/util/Preconditions" "SIOOBE_FORMATTER" "Ljava/util/function/BiFunction;" ∈ lw_tbl := by decide +kernel
theorem wi_i1 : Cond.initialized "java/lang/String" ∈ lw_tbl := by decide +kernel
theorem wi_i2 : Cond.initialized "jdk/internal/util/Preconditions" ∈ lw_tbl := by decide +kernel
theorem wi_sr : Cond.stringRef (rn 1) 55 OTX ∈ lw_tbl := by decide +kernel
theorem start_E {args : Array Value} {s : State} (hts : ∀ w ∈ lw_tbl, w.before args s = true) (hgv : (Jvm.Cond.and given_1 narrow_1).before args s = true) : ∃ (aK aV : Nat) (v9 : Value), StE s.heap.size aK aV v9 s s.heap ∧ vk_R (rn 1) 55 OTX aK s := by
  have hf := flat_of_before _ hgv
  have hA : ∀ a : Nat, a < s.heap.size → ¬ (fun q : Nat => s.heap.size ≤ q) a := fun a h g => absurd h (Nat.not_lt.mpr g)
  have z0 : ∀ {i : Nat}, i < 1 → i = 0 := fun h => by omega
  obtain ⟨adK, adV, hK, hev⟩ := vk_Sof (args := args) (s := s) (N := 1) (tm := fun _ => tSx) (len := [216]) (byt := [SB]) (A := fun q : Nat => s.heap.size ≤ q) (fun i hi => by rw [z0 hi]; decide) (fun i hi => hf _ wi_ex) (fun i hi => hf _ wi_co) (fun i hi => hf _ wi_ar) (fun i hi => by rw [z0 hi]; exact hf _ wi_le) (fun i hi j hj => by
    rw [z0 hi] at hj ⊢
    refine hf _ (List.mem_of_mem_drop (i := 39) ?_)
    rw [wi_el]
    exact List.mem_map.mpr ⟨j, List.mem_range.mpr hj, rfl⟩) (fun i j hi hj hne => absurd ((z0 hi).trans (z0 hj).symm) hne) hA
  have hS : vk_S 1 [216] [SB] (fun _ => adK 0) (fun _ => adV 0) (fun q : Nat => s.heap.size ≤ q) s s.heap := ⟨fun i hi => by
    have := hK.1 0 (by omega)
    rw [z0 hi]; exact this, fun i j hi hj _ => by omega⟩
  have hR : vk_R (rn 1) 55 OTX (adK 0) s := vk_R.of (hts _ wi_sr) (hev 0 (by omega))
  have hZ := va_Zof (A := fun q : Nat => s.heap.size ≤ q) (hts _ wi_l1) (hts _ wi_i1) (Cond.eq_int (hf _ wi_cs) rfl) hA
  rcases va_Zqof (A := fun q : Nat => s.heap.size ≤ q) (hts _ wi_l2) (hts _ wi_i2) (hf _ wi_fm) hA with h9 | ⟨t, h9⟩
  · exact ⟨adK 0, adV 0, .null, ⟨hS, hZ, h9, rfl⟩, hR⟩
  · exact ⟨adK 0, adV 0, .ref t, ⟨hS, hZ, h9, rfl⟩, hR⟩

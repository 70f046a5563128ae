/-! ===== the start: the classes, the arrays' classes, the String ===== -/
theorem inst_c {c : Nat} (h : c < 13) : Cond.instantiable (rn c) (nf c) ∈ GW := by
  match c, h with
  | 0, _ => exact ib_0.2.2.2.2.2.2.2.1
  | 1, _ => exact ib_1.2.2.2.2.2.2.2.1
  | 2, _ => exact ib_2.2.2.2.2.2.2.2.1
  | 3, _ => exact ib_3.2.2.2.2.2.2.2.1
  | 4, _ => exact ib_4.2.2.2.2.2.2.2.1
  | 5, _ => exact ib_5.2.2.2.2.2.2.2.1
  | 6, _ => exact ib_6.2.2.2.2.2.2.2.1
  | 7, _ => exact ib_7.2.2.2.2.2.2.2.1
  | 8, _ => exact ib_8.2.2.2.2.2.2.2.1
  | 9, _ => exact ib_9.2.2.2.2.2.2.2.1
  | 10, _ => exact ib_10.2.2.2.2.2.2.2.1
  | 11, _ => exact ib_11.2.2.2.2.2.2.2.1
  | 12, _ => exact ib_12.2.2.2.2.2.2.2.1
theorem arr_p {ty : FieldType} {args : Array Value} {s : State} (h : (Cond.arrayClass ty).before args s = true) (hp : ∀ C, ty ≠ .object C) : ∃ cA, ArrOfT s cA ty ∧ va_RA s cA ty := by
  obtain ⟨cA, kA, comp, f1, f2, f3⟩ := Cond.arrayClass_spec h
  refine ⟨cA, fun N z => ⟨(fun k h => by cases h), kA, f2, comp, f3⟩, ?_⟩
  unfold va_RA
  cases ty with
  | object C => exact absurd rfl (hp C)
  | _ => exact f1
theorem arr_o {C : String} {args : Array Value} {s : State} (h : (Cond.arrayOver (.object C)).before args s = true) : ∃ cA, ArrOfT s cA (.object C) ∧ va_RA s cA (.object C) := by
  obtain ⟨comp, cA, kA, f1, _, f2, f3, f4⟩ := Cond.arrayOver_spec h
  exact ⟨cA, fun N z => ⟨(fun k h => by cases h), kA, f2, comp, f3⟩, kA, comp, f2, f3, f1, f4⟩
theorem wi_int : Cond.arrayClass .int ∈ lw_tbl := by decide +kernel
theorem wi_long : Cond.arrayClass .long ∈ lw_tbl := by decide +kernel
theorem wi_byte : Cond.arrayClass .byte ∈ lw_tbl := by decide +kernel
theorem wi_bool : Cond.arrayClass .boolean ∈ lw_tbl := by decide +kernel
theorem wi_pic : Cond.arrayOver (.object (rn 3)) ∈ lw_tbl := by decide +kernel
theorem wi_sto : Cond.arrayOver (.object (rn 6)) ∈ lw_tbl := by decide +kernel
theorem nw_tab {w : Cond} (h : w ∈ NW) : w.onTables = true := by
  have hn := (List.mem_filter.mp h).2
  cases w with
  | methodLinkNest q i x b => rfl
  | _ => cases hn
theorem start_K {args : Array Value} {s : State} (hts : ∀ w ∈ lw_tbl, w.before args s = true) : ∃ (D : va_G) (aC : Nat → ClassId), KK D aC s ∧ va_AO (rn 3) s ∧ va_AO (rn 6) s := by
  have hg : ∀ w ∈ GW, w.before args s = true := fun w hw => hts w (List.mem_filter.mp hw).1
  have h : ∀ c : Nat, ∃ q : ClassId × (Nat → Nat), c < 13 → u_Kn s (rn c) (tX c) (nf c) q.1 q.2 := fun c => by
    by_cases hc : c < 13
    · obtain ⟨cC, iS, hk⟩ := u_known (N := nf c) hg (clF hc).2.1 (hg _ (inst_c hc))
      exact ⟨(cC, iS), fun _ => hk⟩
    · exact ⟨(0, fun _ => 0), fun g => absurd g hc⟩
  obtain ⟨F, hF⟩ := Classical.axiomOfChoice h
  obtain ⟨a0, k0⟩ := arr_p (hts _ wi_int) (fun C g => by cases g)
  obtain ⟨a1, k1⟩ := arr_p (hts _ wi_long) (fun C g => by cases g)
  obtain ⟨a2, k2⟩ := arr_p (hts _ wi_byte) (fun C g => by cases g)
  obtain ⟨a3, k3⟩ := arr_p (hts _ wi_bool) (fun C g => by cases g)
  obtain ⟨a4, k4⟩ := arr_o (hts _ wi_pic)
  obtain ⟨a5, k5⟩ := arr_o (hts _ wi_sto)
  refine ⟨(fun c => (F c).1, fun c => (F c).2), fun k => if k = 0 then a0 else if k = 1 then a1 else if k = 2 then a2 else if k = 3 then a3 else if k = 13 then a4 else a5, ⟨⟨fun c q hq => ?_, fun k q hq => ?_⟩, fun w hw => ?_⟩, va_AO.of (hts _ wi_pic), va_AO.of (hts _ wi_sto)⟩
  · have hc : c < 13 := by
      obtain ⟨g, _⟩ := List.getElem?_eq_some_iff.mp hq
      exact g
    have e := (clF hc).1
    rw [e] at hq
    have e2 := Option.some.inj hq
    rw [← e2]
    exact hF c hc
  · match k, hq with
    | 0, hq => cases hq; exact k0
    | 1, hq => cases hq; exact k1
    | 2, hq => cases hq; exact k2
    | 3, hq => cases hq; exact k3
    | 4, hq => cases hq; exact k4
    | 5, hq => cases hq; exact k5
    | k + 6, hq => cases hq
  · exact va_Nw.of (nw_tab hw) (hts w (List.mem_filter.mp hw).1)

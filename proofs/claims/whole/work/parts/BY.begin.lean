/-! ===== the beginning: both objects new ===== -/
theorem inv_0 {T B1 B P' : PS} (hO : OwC T) (fT : Fr [] [] [] [12] (nwO zPS fi_1 (fun _ => none)) T) (t0 : TdC 0 plain B1) (s0 : SsC 0 [] B1) (f0 : FrB 0 (nwO zPS fi_2 (fun _ => none)) B1) (f1 : FrB 1 (nwO B1 fi_2 (fun _ => none)) B) (a : ∀ k, k < 12 → gA P' 0 12 k = iI (plain k)) (fP : Fr [] [] [12] [] (nwO zPS fi_0 (fun _ => none)) P') : INV [P', T, B, zPS, pRu, (nwO zPS fi_5 (fun _ => none)), pT4, (nwO zPS fi_7 (fun _ => none)), (nwO zPS fi_8 (fun _ => none)), (nwO zPS fi_9 (fun _ => none)), (nwO zPS fi_10 (fun _ => none)), (nwO zPS fi_11 (fun _ => none)), pS3] := by
  have pI : ∀ k, gI P' 0 k = fi_0 k := fun k => (fP.2.1 k (by simp)).trans (nw_I (P := zPS) k)
  have pA : ∀ k i, k ≠ 12 → gA P' 0 k i = 0 := fun k i hk => (fP.2.2.2.1 k i (by simpa using hk)).trans (congrFun (nw_A (P := zPS) (fI := fi_0) (fO := fun _ => none) k) i)
  have tI : ∀ k, gI T 0 k = fi_1 k := fun k => (fT.2.1 k (by simp)).trans (nw_I (P := zPS) k)
  have g1 : gN B1 = 1 := f0.1.1
  have n0 : ¬ 0 = B1.1 := fun g => by have : gN B1 = B1.1 := rfl; omega
  have b0 := f1.1.2 0 (by decide)
  have bI : ∀ k, gI B 0 k = gI B1 0 k := fun k => (b0.1 k).trans (by show (if 0 = B1.1 then _ else _) = _; rw [if_neg n0])
  have bA : ∀ k i, gA B 0 k i = gA B1 0 k i := fun k i => (b0.2.2.1 k i).trans (by show (if 0 = B1.1 then (fun _ => (0 : Int32)) else gA B1 0 k) i = _; rw [if_neg n0])
  have d0 : DgC 0 B := fun u hu => by
    rw [bA, f0.2]
    exact congrFun (nw_A (P := zPS) (fI := fi_2) (fO := fun _ => none) 4) _
  have d1 : DgC 1 B := fun u hu => by
    rw [f1.2, ← g1]
    exact congrFun (nw_A (P := B1) (fI := fi_2) (fO := fun _ => none) 4) _
  refine ⟨P', T, B, zPS, pRu, nwO zPS fi_5 (fun _ => none), pT4, nwO zPS fi_7 (fun _ => none), nwO zPS fi_8 (fun _ => none), nwO zPS fi_9 (fun _ => none), nwO zPS fi_10 (fun _ => none), nwO zPS fi_11 (fun _ => none), pS3, fun _ => 0, 0, ((0 : Int), (-1 : Int)), [], plain, 0, 1, y0, 0, (fun _ => False, fun _ _ => 0), [], 0, 0, 1, rfl, ⟨Tp0 (pI _), Tc0 (tI _), ⟨pI _, pI _⟩, ⟨tI _, tI _⟩, hO⟩, ⟨⟨⟨pI _, Nat.zero_le _, fun s hs => (by cases hs), fun i hi => absurd hi (Nat.not_lt_zero i)⟩, a⟩, fok_plain, ⟨⟨by rw [bI]; exact s0.1, Nat.zero_le _, fun s hs => (by cases hs), fun i hi => absurd hi (Nat.not_lt_zero i)⟩, fun k hk => by rw [bI]; exact t0 k hk, fun u v hu => absurd hu (Nat.not_lt_zero u)⟩, ⟨d0, d1, by decide⟩, rfl, rfl⟩, iu_0 ⟨rfl, rfl, rfl, rfl⟩, ⟨?_, ?_, ?_, ⟨fun q hq => absurd hq (Nat.not_lt_zero q), fun i hi => hi.elim⟩, fun q q' hq => absurd hq (Nat.not_lt_zero q), fun i hi => hi.elim⟩, fun k hk => ?_, ⟨rl_0 (pI _) (pI _), law_0 ⟨rfl, rfl, rfl⟩, rk_0.1, rk_0.2.1, rk_0.2.2, by decide, rfl, rfl⟩, fun k hk => ?_⟩
  · exact ⟨pI _, Nat.zero_le _, pI _, ⟨by decide, by decide⟩, fun c r hc hr => pA _ _ (by decide), fun q hq => absurd hq (Nat.not_lt_zero q)⟩
  · refine ⟨rfl, rfl, ?_, FpC_0 (fun i _ => rfl), fun q hq => absurd hq (Nat.not_lt_zero q)⟩
    show (0 : Int32) = iI ((frN (fun _ _ => false) : Nat) : Int)
    rw [frN_0]; rfl
  · exact ⟨Nat.zero_le _, ⟨by decide, by decide⟩, fun q hq => absurd hq (Nat.not_lt_zero q)⟩
  · have e1 : gA P' 0 87 k = 0 := pA _ _ (by decide)
    have e2 : gI pT4 (k + 1) 7 = 0 := by
      rcases (show k = 0 ∨ k = 1 ∨ k = 2 by omega) with g | g | g <;> subst g <;> rfl
    rw [e1, e2]
    exact ⟨Iff.rfl, fun g => absurd rfl g⟩
  · rcases (show k = 0 ∨ k = 1 ∨ k = 2 by omega) with g | g | g <;> subst g <;> rfl
theorem dl_0 : decode code 0 = .ok (.new 7, 3) := by decide +kernel
theorem dl_3 : decode code 3 = .ok (.dup, 1) := by decide +kernel
theorem dl_4 : decode code 4 = .ok (.invokespecial 9, 3) := by decide +kernel
theorem dl_7 : decode code 7 = .ok (.astore_n 1, 1) := by decide +kernel
theorem dl_8 : decode code 8 = .ok (.new 10, 3) := by decide +kernel
theorem dl_11 : decode code 11 = .ok (.dup, 1) := by decide +kernel
theorem dl_12 : decode code 12 = .ok (.invokespecial 12, 3) := by decide +kernel
theorem dl_15 : decode code 15 = .ok (.astore_n 2, 1) := by decide +kernel
theorem dl_16 : decode code 16 = .ok (.iconst 0, 1) := by decide +kernel
theorem dl_17 : decode code 17 = .ok (.istore_n 3, 1) := by decide +kernel
theorem wl_1 : Cond.classLink (rn 13) 7 (rn 12) ∈ lw_tbl := by decide +kernel
theorem wl_2 : Cond.methodLink (rn 13) 9 mi_12.2.2.1 ∈ lw_tbl := by decide +kernel
theorem wl_3 : Cond.classLink (rn 13) 10 (rn 0) ∈ lw_tbl := by decide +kernel
theorem wl_4 : Cond.methodLink (rn 13) 12 mi_0.2.2.1 ∈ lw_tbl := by decide +kernel

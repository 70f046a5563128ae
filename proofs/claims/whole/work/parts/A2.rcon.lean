/-! ===== expressions: each way of the grammar ===== -/
section RS3
variable {b : Nat → Int} {n : Nat}
theorem u_bad {w q u : Nat} (hu : u ≤ 40) (h : ¬ unt (tkq b n q) ∨ 40 ≤ u ∨ (isC (tkq b n q) 40 ∧ 6 < w)) : U_er b n w q u (erT (tkq b n q)) := by
  intro now S out hn hd
  have nt : ¬ (now = 0 ∧ isW (tkq b n q) w_not) := fun g => by
    rcases hn with h1 | h1
    · omega
    · exact h1.2 g.2
  have n2 : now ≠ 2 := by rcases hn with h1 | h1 <;> omega
  refine Run.bad b n (nd0 n2) ?_
  rw [mst0 n2]
  unfold opM
  rw [if_pos]
  by_cases c : unt (tkq b n q)
  · rcases h with g | g | g
    · exact absurd c g
    · exact Or.inr (Or.inl ⟨c, by omega⟩)
    · exact Or.inr (Or.inr ⟨Or.inr g.1, by omega⟩)
  · exact Or.inl ⟨nt, c⟩
theorem u_stp {now w q u : Nat} {S : List Int} {out : List NT} (hn : nwU b n now q) (hd : dpS S = w) (hu : u < 40) (hc : unt (tkq b n q)) (hw : isC (tkq b n q) 40 → w ≤ 6) : now ≠ 2 ∧ mst b n (now, q, S, u, out) = (if isC (tkq b n q) 40 then .inl (0, (tkq b n q).2.2.1, 30 :: S, u + 1, out) else .inl (2, (tkq b n q).2.2.1, S, u + 1, out ++ [ntc (tkq b n q)])) := by
  have nt : ¬ (now = 0 ∧ isW (tkq b n q) w_not) := fun g => by
    rcases hn with h1 | h1
    · omega
    · exact h1.2 g.2
  have n2 : now ≠ 2 := by rcases hn with h1 | h1 <;> omega
  refine ⟨n2, ?_⟩
  rw [mst0 n2]
  unfold opM
  rw [if_neg (by
    rintro (g | g | g)
    · exact g.2 hc
    · omega
    · rcases g.1 with g1 | g1
      · exact nt g1
      · have := hw g1; omega), if_neg nt]
theorem u_val {w q u : Nat} (hq : q ≤ n) (hc : unt (tkq b n q)) (h4 : ¬ isC (tkq b n q) 40) (hu : u < 40) : U_ok b n w q u (tkq b n q).2.2.1 (u + 1) [ntc (tkq b n q)] := by
  have tl := tq_lt b n hq (by
    rcases hc with g | g | g
    · exact Or.inr (Or.inl g)
    · exact absurd g h4
    · exact Or.inl ((knw_c _).2.2 g))
  have v1 : vals [ntc (tkq b n q)] = 1 := by unfold vals; rw [if_pos (ntc_lt _).1]; rfl
  refine ⟨fun now S out o hn hd r => ?_, ⟨tl.1, tl.2, by show 1 + q ≤ _; omega, PF_v (ntc_lt _).1, by rw [v1]; omega, by omega⟩⟩
  have s := u_stp (S := S) (out := out) hn hd hu hc (fun g => absurd g h4)
  rw [if_neg h4] at s
  exact Run.step b n (nd0 s.1) s.2 r
theorem u_par {w q u : Nat} {e : PE} (h4 : isC (tkq b n q) 40) (hu : u < 40) (hw : w ≤ 6) (h : E_er b n (w + 1) (tkq b n q).2.2.1 (u + 1) e) : U_er b n w q u e := by
  intro now S out hn hd
  have s := u_stp (S := S) (out := out) hn hd hu (Or.inr (Or.inl h4)) (fun _ => hw)
  rw [if_pos h4] at s
  refine Run.step b n (nd0 s.1) s.2 (h (30 :: S) out (Or.inl rfl) ?_)
  show dpS S + (if (30 : Int) = 30 ∨ (30 : Int) = 22 then 1 else 0) = w + 1
  rw [if_pos (Or.inl rfl)]; omega
theorem u_cl {w q u q1 u1 : Nat} {C : List NT} (h4 : isC (tkq b n q) 40) (hu : u < 40) (hw : w ≤ 6) (h : E_ok b n (w + 1) (tkq b n q).2.2.1 (u + 1) q1 u1 C) (hc : ¬ isC (tkq b n q1) 41) : U_er b n w q u (erT (tkq b n q1)) := by
  intro now S out hn hd
  have s := u_stp (S := S) (out := out) hn hd hu (Or.inr (Or.inl h4)) (fun _ => hw)
  rw [if_pos h4] at s
  refine Run.step b n (nd0 s.1) s.2 (h.1 (30 :: S) out _ (Or.inl rfl) ?_ (fun T out' _ _ hf h1 h0 => ?_))
  · show dpS S + (if (30 : Int) = 30 ∨ (30 : Int) = 22 then 1 else 0) = w + 1
    rw [if_pos (Or.inl rfl)]; omega
  · refine Run.bad b n (fun g => g.2.2 (List.mem_append.mpr (Or.inr (List.mem_cons_self ..)))) ?_
    rw [mst2]
    exact sg_end hf h1 h0 (fun g => hc g.1)
theorem u_ok {w q u q1 u1 : Nat} {C : List NT} (hq : q ≤ n) (h4 : isC (tkq b n q) 40) (hu : u < 40) (hw : w ≤ 6) (h : E_ok b n (w + 1) (tkq b n q).2.2.1 (u + 1) q1 u1 C) (hc : isC (tkq b n q1) 41) : U_ok b n w q u (tkq b n q1).2.2.1 u1 C := by
  have tl := tq_lt b n hq (Or.inr (Or.inr h4.1))
  have wf := h.2
  have tl1 := tq_lt b n wf.2.1 (Or.inr (Or.inr hc.1))
  unfold Wf at wf
  refine ⟨fun now S out o hn hd r => ?_, ⟨by omega, tl1.2, by omega, wf.2.2.2.1, by omega, by omega⟩⟩
  have s := u_stp (S := S) (out := out) hn hd hu (Or.inr (Or.inl h4)) (fun _ => hw)
  rw [if_pos h4] at s
  refine Run.step b n (nd0 s.1) s.2 (h.1 (30 :: S) out _ (Or.inl rfl) ?_ (fun T out' hT ho hf h1 h0 => ?_))
  · show dpS S + (if (30 : Int) = 30 ∨ (30 : Int) = 22 then 1 else 0) = w + 1
    rw [if_pos (Or.inl rfl)]; omega
  · have m : 30 ∈ T ++ 30 :: S := List.mem_append.mpr (Or.inr (List.mem_cons_self ..))
    refine Run.step b n (s' := (2, (tkq b n q1).2.2.1, S, u1, out ++ C)) (fun g => g.2.2 m) ?_ r
    rw [mst2]
    unfold sgM
    rw [if_pos ⟨hc, m⟩, stl_app (m := 0) (S := 30 :: S) (Or.inl rfl) T out' (rng_mo hT (by omega)), ho]
    rfl
theorem l_end {w q u : Nat} (hq : q ≤ n) (hu : u ≤ 40) (h : rk (opc (tkq b n q)) ≠ 26) : L_ok b n w q u q u [] := ⟨fun T S out o hT _ _ k => k T out hT (by rw [List.append_nil]) h, Wl.nl hq hu⟩
theorem rk26 {q : Nat} (h : rk (opc (tkq b n q)) = 26) : (opc (tkq b n q) = 26 ∨ opc (tkq b n q) = 27) ∧ ((tkq b n q).1 = 1 ∨ (tkq b n q).1 = 2 ∨ (tkq b n q).1 = 4) := by
  have h1 := rk_26.mp h
  refine ⟨h1, ?_⟩
  rcases opc_t (t := tkq b n q) (by omega) with g | g
  · exact Or.inr (Or.inr g)
  · exact Or.inl g
theorem dp1 {a : Int} {S : List Int} (h : a ≠ 30 ∧ a ≠ 22) : dpS (a :: S) = dpS S := by
  show dpS S + (if a = 30 ∨ a = 22 then 1 else 0) = _
  rw [if_neg (by omega)]; omega
theorem l_bad {w q u : Nat} {e : PE} (h : rk (opc (tkq b n q)) = 26) (hU : U_er b n w (tkq b n q).2.2.1 u e) : L_er b n w q u e := by
  intro T S out hT hS hd
  have o := (rk26 h).1
  refine Run.step b n (ndO (by omega)) (by rw [mst2, sg_op (by omega) h (by omega) hT hS, if_neg (by omega)]) (hU 1 _ _ (Or.inl rfl) ?_)
  rw [dp1 (by omega)]; exact hd
theorem l_b2 {w q u q1 u1 : Nat} {C : List NT} {e : PE} (h : rk (opc (tkq b n q)) = 26) (hU : U_ok b n w (tkq b n q).2.2.1 u q1 u1 C) (hL : L_er b n w q1 u1 e) : L_er b n w q u e := by
  intro T S out hT hS hd
  have o := (rk26 h).1
  refine Run.step b n (ndO (by omega)) (by rw [mst2, sg_op (by omega) h (by omega) hT hS, if_neg (by omega)]) (hU.1 1 _ _ _ (Or.inl rfl) (by rw [dp1 (by omega)]; exact hd) ?_)
  exact hL [opc (tkq b n q)] S _ (rng_1 (by omega)) hS hd
theorem l_ok {w q u q1 u1 q2 u2 : Nat} {C D : List NT} (hq : q ≤ n) (h : rk (opc (tkq b n q)) = 26) (hU : U_ok b n w (tkq b n q).2.2.1 u q1 u1 C) (hL : L_ok b n w q1 u1 q2 u2 D) : L_ok b n w q u q2 u2 (C ++ [(opc (tkq b n q), 0)] ++ D) := by
  have o := (rk26 h).1
  have tl := tq_lt b n hq (rk26 h).2
  refine ⟨fun T S out o' hT hS hd k => ?_, Wl.up tl.1 hU.2 hL.2 (by omega)⟩
  refine Run.step b n (ndO (by omega)) (by rw [mst2, sg_op (by omega) h (by omega) hT hS, if_neg (by omega)]) (hU.1 1 _ _ _ (Or.inl rfl) (by rw [dp1 (by omega)]; exact hd) ?_)
  refine hL.1 [opc (tkq b n q)] S _ _ (rng_1 (by omega)) hS hd (fun T' out' hT' ho hk => k T' out' hT' ?_ hk)
  rw [ho]
  simp only [List.append_assoc]; rfl
theorem s_bad {w q u : Nat} {e : PE} (h : U_er b n w q u e) : S_er b n w q u e := fun now S out hn _ hd => h now S out hn hd
theorem s_b2 {w q u q1 u1 : Nat} {C : List NT} {e : PE} (h : U_ok b n w q u q1 u1 C) (hL : L_er b n w q1 u1 e) : S_er b n w q u e := fun now S out hn hS hd => h.1 now S out _ hn hd (hL [] S _ rng_0 hS hd)
theorem s_ok {w q u q1 u1 q2 u2 : Nat} {C D : List NT} (h : U_ok b n w q u q1 u1 C) (hL : L_ok b n w q1 u1 q2 u2 D) : S_ok b n w q u q2 u2 (C ++ D) := ⟨fun now S out o hn hS hd k => h.1 now S out _ hn hd (hL.1 [] S _ _ rng_0 hS hd (fun T' out' hT' ho hk => k T' out' hT' (by rw [ho]; show out ++ C ++ [] ++ D = _; rw [List.append_nil, List.append_assoc]) hk)), h.2.wl hL.2⟩
theorem stO26 {S : List Int} (h : stO S) : stp_ 26 S := by
  rcases h with g | g
  · exact Or.inl g
  · exact Or.inr (by omega)
theorem n_stp {w q u : Nat} {S : List Int} {out : List NT} (h : isW (tkq b n q) w_not) (hd : dpS S = w) (hw : w ≤ 6) : mst b n (0, q, S, u, out) = .inl (0, (tkq b n q).2.2.1, 22 :: S, u, out) := by
  rw [mst0 (by decide)]
  unfold opM
  rw [if_neg (by
    rintro (g | g | g)
    · exact g.1 ⟨rfl, h⟩
    · exact not_unt h g.1
    · omega), if_pos ⟨rfl, h⟩]
theorem n_deep {w q u : Nat} (h : isW (tkq b n q) w_not) (hw : 6 < w) : O_er b n w q u (erT (tkq b n q)) := by
  intro S out _ hd
  refine Run.bad b n (nd0 (by decide)) ?_
  rw [mst0 (by decide)]
  unfold opM
  rw [if_pos (Or.inr (Or.inr ⟨Or.inl ⟨rfl, h⟩, by omega⟩))]
theorem dp22 {S : List Int} {w : Nat} (hd : dpS S = w) : dpS (22 :: S) = w + 1 := by
  show dpS S + (if (22 : Int) = 30 ∨ (22 : Int) = 22 then 1 else 0) = w + 1
  rw [if_pos (Or.inr rfl)]; omega
theorem n_bad {w q u : Nat} {e : PE} (h : isW (tkq b n q) w_not) (hw : w ≤ 6) (hO : O_er b n (w + 1) (tkq b n q).2.2.1 u e) : O_er b n w q u e := fun S out _ hd => Run.step b n (nd0 (by decide)) (n_stp h hd hw) (hO (22 :: S) out (Or.inr (Int.le_refl _)) (dp22 hd))
theorem n_ok {w q u q1 u1 : Nat} {C : List NT} (hq : q ≤ n) (h : isW (tkq b n q) w_not) (hw : w ≤ 6) (hO : O_ok b n (w + 1) (tkq b n q).2.2.1 u q1 u1 C) : O_ok b n w q u q1 u1 (C ++ [(22, 0)]) := by
  have tl := tq_lt b n hq (Or.inl h.1)
  have wf := hO.2
  unfold Wf at wf
  refine ⟨fun S out o _ hd k => ?_, ⟨by omega, by omega, by rw [List.length_append]; simp only [List.length_singleton]; omega, PF_n wf.2.2.2.1, by rw [vals_app, show vals [((22 : Int), (0 : Int))] = 0 from rfl]; omega, by omega⟩⟩
  refine Run.step b n (nd0 (by decide)) (n_stp h hd hw) (hO.1 (22 :: S) out _ (Or.inr (Int.le_refl _)) (dp22 hd) (fun T' out' hT' ho hf => ?_))
  have := k (T' ++ [22]) out' (rng_app hT' (rng_1 (by omega))) (by rw [emT_app, ← List.append_assoc, ho, List.append_assoc]; rfl) ⟨hf.1, fun r => by
    obtain ⟨T1, c, T2, e, r1, rc⟩ := hf.2 r
    exact ⟨T1, c, T2 ++ [22], by rw [e, List.append_assoc]; rfl, r1, rc⟩⟩
  rw [List.append_assoc] at this
  exact this
theorem o_bad {w q u : Nat} {e : PE} (h : ¬ isW (tkq b n q) w_not) (hS : S_er b n w q u e) : O_er b n w q u e := fun S out st hd => hS 0 S out (Or.inr ⟨rfl, h⟩) (stO26 st) hd
theorem o_one {w q u q1 u1 : Nat} {C : List NT} (h : ¬ isW (tkq b n q) w_not) (hS : S_ok b n w q u q1 u1 C) (h3 : rk (opc (tkq b n q1)) ≠ 23) : O_ok b n w q u q1 u1 C := ⟨fun S out o st hd k => hS.1 0 S out _ (Or.inr ⟨rfl, h⟩) (stO26 st) hd (fun T' out' hT' ho h6 => k T' out' (rng_mo hT' (by omega)) ho ⟨h6, fun r => absurd r h3⟩), hS.2⟩
theorem c_stp {T S : List Int} {q u : Nat} {out : List NT} (h3 : rk (opc (tkq b n q)) = 23) (hT : rng 26 T) (st : stO S) : mst b n (2, q, T ++ S, u, out) = .inl (1, (tkq b n q).2.2.1, opc (tkq b n q) :: S, u, out ++ emT T) := by
  have o := rk_23.mp h3
  rw [mst2]
  unfold sgM
  rw [if_neg (fun g => by have := opc_no (Or.inl g.1); omega), if_neg (by omega), if_pos h3, stl_app (stO26 st) T out hT, if_neg]
  intro g
  have : topS S = 23 ∨ topS S = 24 ∨ topS S = 25 := rk_23.mp g
  rcases st with s | s <;> omega
theorem o_b2 {w q u q1 u1 : Nat} {C : List NT} {e : PE} (h : ¬ isW (tkq b n q) w_not) (hS : S_ok b n w q u q1 u1 C) (h3 : rk (opc (tkq b n q1)) = 23) (hS2 : S_er b n w (tkq b n q1).2.2.1 u1 e) : O_er b n w q u e := fun S out st hd => by
  have o := rk_23.mp h3
  refine hS.1 0 S out _ (Or.inr ⟨rfl, h⟩) (stO26 st) hd (fun T' out' hT' ho h6 => ?_)
  refine Run.step b n (ndO (by omega)) (c_stp h3 hT' st) (hS2 1 _ _ (Or.inl rfl) (Or.inr (show opc (tkq b n q1) < 26 by omega)) (by rw [dp1 (by omega)]; exact hd))
theorem o_two {w q u q1 u1 q2 u2 : Nat} {C D : List NT} (h : ¬ isW (tkq b n q) w_not) (hS : S_ok b n w q u q1 u1 C) (h3 : rk (opc (tkq b n q1)) = 23) (hS2 : S_ok b n w (tkq b n q1).2.2.1 u1 q2 u2 D) : O_ok b n w q u q2 u2 (C ++ D ++ [(opc (tkq b n q1), 0)]) := by
  have o := rk_23.mp h3
  have w1 := hS.2
  have w2 := hS2.2
  have tl := tq_lt b n w1.2.1 (by
    rcases opc_t (t := tkq b n q1) (by omega) with g | g
    · exact Or.inr (Or.inr g)
    · exact Or.inl g)
  unfold Wf at w1 w2
  have e0 : vals [((opc (tkq b n q1) : Int), (0 : Int))] = 0 := by unfold vals; rw [if_neg (by show ¬ opc (tkq b n q1) < 20; omega)]; rfl
  refine ⟨fun S out o' st hd k => ?_, ⟨by omega, by omega, by rw [List.length_append, List.length_append]; simp only [List.length_singleton]; omega, PF_b w1.2.2.2.1 w2.2.2.2.1 (by omega), by rw [vals_app, vals_app, e0]; omega, by omega⟩⟩
  refine hS.1 0 S out _ (Or.inr ⟨rfl, h⟩) (stO26 st) hd (fun T' out' hT' ho h6 => ?_)
  refine Run.step b n (ndO (by omega)) (c_stp h3 hT' st) (hS2.1 1 _ _ _ (Or.inl rfl) (Or.inr (show opc (tkq b n q1) < 26 by omega)) (by rw [dp1 (by omega)]; exact hd) (fun T2 o2 hT2 ho2 h62 => ?_))
  have := k (T2 ++ [opc (tkq b n q1)]) o2 (rng_app (rng_mo hT2 (by omega)) (rng_1 (by omega))) (by rw [emT_app, ← List.append_assoc, ho2, ho]; simp only [List.append_assoc]; rfl) ⟨h62, fun _ => ⟨T2, opc (tkq b n q1), [], rfl, hT2, h3⟩⟩
  rw [List.append_assoc] at this
  exact this
theorem m_end {w q u : Nat} (hq : q ≤ n) (hu : u ≤ 40) (h : opc (tkq b n q) ≠ 21) : M_ok b n w q u q u [] := ⟨fun T S out o hT hf _ _ k => k T out hT (by rw [List.append_nil]) hf h, Wl.nl hq hu⟩
theorem op_t {q : Nat} (h : 0 ≤ opc (tkq b n q)) : (tkq b n q).1 = 1 ∨ (tkq b n q).1 = 2 ∨ (tkq b n q).1 = 4 := by
  rcases opc_t h with g | g
  · exact Or.inr (Or.inr g)
  · exact Or.inl g
theorem m_stp {T S : List Int} {q u : Nat} {out : List NT} (h : opc (tkq b n q) = 21) (hT : rng 21 T) (hS : stp_ 21 S) : mst b n (2, q, T ++ S, u, out) = .inl (0, (tkq b n q).2.2.1, 21 :: S, u, out ++ emT T) := by
  rw [mst2, sg_op (m := 21) (by omega) (by rw [h]; rfl) (by omega) hT hS, if_pos (Or.inl h), h]
theorem m_bad {w q u : Nat} {e : PE} (h : opc (tkq b n q) = 21) (hO : O_er b n w (tkq b n q).2.2.1 u e) : M_er b n w q u e := fun T S out hT _ hS hd => Run.step b n (ndO (by omega)) (m_stp h hT hS) (hO (21 :: S) _ (Or.inr (by show (21 : Int) ≤ 22; omega)) (by rw [dp1 (by omega)]; exact hd))
theorem m_b2 {w q u q1 u1 : Nat} {C : List NT} {e : PE} (h : opc (tkq b n q) = 21) (hO : O_ok b n w (tkq b n q).2.2.1 u q1 u1 C) (hM : M_er b n w q1 u1 e) : M_er b n w q u e := fun T S out hT _ hS hd => by
  refine Run.step b n (ndO (by omega)) (m_stp h hT hS) (hO.1 (21 :: S) _ _ (Or.inr (by show (21 : Int) ≤ 22; omega)) (by rw [dp1 (by omega)]; exact hd) (fun T' out' hT' ho hf => ?_))
  have := hM (T' ++ [21]) S out' (rng_app (rng_mo hT' (by omega)) (rng_1 (by omega))) ⟨hf.1, fun r => by
    obtain ⟨T1, c, T2, e, r1, rc⟩ := hf.2 r
    exact ⟨T1, c, T2 ++ [21], by rw [e, List.append_assoc]; rfl, r1, rc⟩⟩ hS hd
  rw [List.append_assoc] at this
  exact this
theorem m_ok {w q u q1 u1 q2 u2 : Nat} {C D : List NT} (hq : q ≤ n) (h : opc (tkq b n q) = 21) (hO : O_ok b n w (tkq b n q).2.2.1 u q1 u1 C) (hM : M_ok b n w q1 u1 q2 u2 D) : M_ok b n w q u q2 u2 (C ++ [(21, 0)] ++ D) := by
  have tl := tq_lt b n hq (op_t (by omega))
  refine ⟨fun T S out o hT _ hS hd k => ?_, Wl.up tl.1 hO.2 hM.2 (by omega)⟩
  refine Run.step b n (ndO (by omega)) (m_stp h hT hS) (hO.1 (21 :: S) _ _ (Or.inr (by show (21 : Int) ≤ 22; omega)) (by rw [dp1 (by omega)]; exact hd) (fun T' out' hT' ho hf => ?_))
  have := hM.1 (T' ++ [21]) S out' o (rng_app (rng_mo hT' (by omega)) (rng_1 (by omega))) ⟨hf.1, fun r => by
    obtain ⟨T1, c, T2, e, r1, rc⟩ := hf.2 r
    exact ⟨T1, c, T2 ++ [21], by rw [e, List.append_assoc]; rfl, r1, rc⟩⟩ hS hd (fun T2 o2 hT2 ho2 hf2 h2 => k T2 o2 hT2 (by rw [ho2, emT_app, ← List.append_assoc, ho]; simp only [List.append_assoc]; rfl) hf2 h2)
  rw [List.append_assoc] at this
  exact this
theorem stp21 {S : List Int} (h : stp_ 21 S) : stO S := by
  rcases h with g | g
  · exact Or.inl g
  · exact Or.inr (by omega)
theorem stp20 {S : List Int} (h : stp_ 20 S) : stp_ 21 S := by
  rcases h with g | g
  · exact Or.inl g
  · exact Or.inr (by omega)
theorem b_bad {w q u : Nat} {e : PE} (h : O_er b n w q u e) : B_er b n w q u e := fun S out st hd => h S out (stp21 st) hd
theorem b_b2 {w q u q1 u1 : Nat} {C : List NT} {e : PE} (h : O_ok b n w q u q1 u1 C) (hM : M_er b n w q1 u1 e) : B_er b n w q u e := fun S out st hd => h.1 S out _ (stp21 st) hd (fun T' out' hT' _ hf => hM T' S out' (rng_mo hT' (by omega)) hf st hd)
theorem b_ok {w q u q1 u1 q2 u2 : Nat} {C D : List NT} (h : O_ok b n w q u q1 u1 C) (hM : M_ok b n w q1 u1 q2 u2 D) : B_ok b n w q u q2 u2 (C ++ D) := ⟨fun S out o st hd k => h.1 S out _ (stp21 st) hd (fun T' out' hT' ho hf => hM.1 T' S out' o (rng_mo hT' (by omega)) hf st hd (fun T2 o2 hT2 ho2 hf2 h2 => k T2 o2 hT2 (by rw [ho2, ho, List.append_assoc]) hf2 h2)), h.2.wl hM.2⟩
theorem e_end {w q u : Nat} (hq : q ≤ n) (hu : u ≤ 40) (h : opc (tkq b n q) ≠ 20) : N_ok b n w q u q u [] := ⟨fun T S out o hT hf h1 _ _ k => k T out hT (by rw [List.append_nil]) hf h1 h, Wl.nl hq hu⟩
theorem e_stp {T S : List Int} {q u : Nat} {out : List NT} (h : opc (tkq b n q) = 20) (hT : rng 20 T) (hS : stp_ 20 S) : mst b n (2, q, T ++ S, u, out) = .inl (0, (tkq b n q).2.2.1, 20 :: S, u, out ++ emT T) := by
  rw [mst2, sg_op (m := 20) (by omega) (by rw [h]; rfl) (by omega) hT hS, if_pos (Or.inr h), h]
theorem el_bad {w q u : Nat} {e : PE} (h : opc (tkq b n q) = 20) (hB : B_er b n w (tkq b n q).2.2.1 u e) : N_er b n w q u e := fun T S out hT _ _ hS hd => Run.step b n (ndO (by omega)) (e_stp h hT hS) (hB (20 :: S) _ (Or.inr (by show (20 : Int) < 21; omega)) (by rw [dp1 (by omega)]; exact hd))
theorem el_b2 {w q u q1 u1 : Nat} {C : List NT} {e : PE} (h : opc (tkq b n q) = 20) (hB : B_ok b n w (tkq b n q).2.2.1 u q1 u1 C) (hN : N_er b n w q1 u1 e) : N_er b n w q u e := fun T S out hT _ _ hS hd => by
  refine Run.step b n (ndO (by omega)) (e_stp h hT hS) (hB.1 (20 :: S) _ _ (Or.inr (by show (20 : Int) < 21; omega)) (by rw [dp1 (by omega)]; exact hd) (fun T' out' hT' ho hf h1 => ?_))
  have := hN (T' ++ [20]) S out' (rng_app (rng_mo hT' (by omega)) (rng_1 (by omega))) ⟨hf.1, fun r => by
    obtain ⟨T1, c, T2, e, r1, rc⟩ := hf.2 r
    exact ⟨T1, c, T2 ++ [20], by rw [e, List.append_assoc]; rfl, r1, rc⟩⟩ h1 hS hd
  rw [List.append_assoc] at this
  exact this
theorem el_ok {w q u q1 u1 q2 u2 : Nat} {C D : List NT} (hq : q ≤ n) (h : opc (tkq b n q) = 20) (hB : B_ok b n w (tkq b n q).2.2.1 u q1 u1 C) (hN : N_ok b n w q1 u1 q2 u2 D) : N_ok b n w q u q2 u2 (C ++ [(20, 0)] ++ D) := by
  have tl := tq_lt b n hq (op_t (by omega))
  refine ⟨fun T S out o hT _ _ hS hd k => ?_, Wl.up tl.1 hB.2 hN.2 (by omega)⟩
  refine Run.step b n (ndO (by omega)) (e_stp h hT hS) (hB.1 (20 :: S) _ _ (Or.inr (by show (20 : Int) < 21; omega)) (by rw [dp1 (by omega)]; exact hd) (fun T' out' hT' ho hf h1 => ?_))
  have := hN.1 (T' ++ [20]) S out' o (rng_app (rng_mo hT' (by omega)) (rng_1 (by omega))) ⟨hf.1, fun r => by
    obtain ⟨T1, c, T2, e, r1, rc⟩ := hf.2 r
    exact ⟨T1, c, T2 ++ [20], by rw [e, List.append_assoc]; rfl, r1, rc⟩⟩ h1 hS hd (fun T2 o2 hT2 ho2 hf2 h12 h2 => k T2 o2 hT2 (by rw [ho2, emT_app, ← List.append_assoc, ho]; simp only [List.append_assoc]; rfl) hf2 h12 h2)
  rw [List.append_assoc] at this
  exact this
theorem ee_bad {w q u : Nat} {e : PE} (h : B_er b n w q u e) : E_er b n w q u e := fun S out st hd => h S out (stp20 st) hd
theorem ee_b2 {w q u q1 u1 : Nat} {C : List NT} {e : PE} (h : B_ok b n w q u q1 u1 C) (hN : N_er b n w q1 u1 e) : E_er b n w q u e := fun S out st hd => h.1 S out _ (stp20 st) hd (fun T' out' hT' _ hf h1 => hN T' S out' (rng_mo hT' (by omega)) hf h1 st hd)
theorem ee_ok {w q u q1 u1 q2 u2 : Nat} {C D : List NT} (h : B_ok b n w q u q1 u1 C) (hN : N_ok b n w q1 u1 q2 u2 D) : E_ok b n w q u q2 u2 (C ++ D) := ⟨fun S out o st hd k => h.1 S out _ (stp20 st) hd (fun T' out' hT' ho hf h1 => hN.1 T' S out' o (rng_mo hT' (by omega)) hf h1 st hd (fun T2 o2 hT2 ho2 hf2 h12 h2 => k T2 o2 hT2 (by rw [ho2, ho, List.append_assoc]) hf2 h12 h2)), h.2.wl hN.2⟩
/-- a whole expression and its end -/
theorem r_bad {q u : Nat} {out : List NT} {e : PE} (h : E_er b n 0 q u e) : Run b n (0, q, [], u, out) (.inr e) := h [] out (Or.inl rfl) rfl
theorem r_cl {q u q1 u1 : Nat} {C out : List NT} (h : E_ok b n 0 q u q1 u1 C) (hc : ¬ isC (tkq b n q1) 59) : Run b n (0, q, [], u, out) (.inr (erT (tkq b n q1))) := by
  refine h.1 [] out _ (Or.inl rfl) rfl (fun T out' hT ho hf h1 h0 => ?_)
  refine Run.bad b n (fun g => hc g.2.1) ?_
  rw [mst2]
  refine sg_end hf h1 h0 (fun g => ?_)
  rcases List.mem_append.mp g.2 with m | m
  · have := hT 30 m; omega
  · cases m
theorem r_ok {q u q1 u1 : Nat} {C out : List NT} (h : E_ok b n 0 q u q1 u1 C) (hc : isC (tkq b n q1) 59) : Run b n (0, q, [], u, out) (.inl (q1, u1, out ++ C)) := by
  refine h.1 [] out _ (Or.inl rfl) rfl (fun T out' hT ho hf h1 h0 => ?_)
  have d : dnS b n (2, q1, T ++ [], u1, out') := ⟨rfl, hc, fun m => by
    rcases List.mem_append.mp m with m | m
    · have := hT 30 m; omega
    · cases m⟩
  have r := Run.done b n d
  have e : (stl 0 (T ++ []) out').2 = out ++ C := by rw [stl_app (m := 0) (S := []) (Or.inl rfl) T out' (rng_mo hT (by omega))]; exact ho
  change Run b n (2, q1, T ++ [], u1, out') (.inl (q1, u1, (stl 0 (T ++ []) out').2)) at r
  rw [e] at r
  exact r
end RS3

theorem stl_mem {m a : Int} : ∀ (S : List Int) (out : List NT), a ∈ (stl m S out).1 → a ∈ S
  | [], out, h => h
  | c :: S, out, h => by
    unfold stl at h
    split at h
    · exact h
    · exact List.mem_cons_of_mem _ (stl_mem S _ h)
theorem stl0 : ∀ (S : List Int) (out : List NT), (∀ a ∈ S, 20 ≤ a ∧ a ≤ 30) → (30 ∈ S → ∃ S', (stl 0 S out).1 = 30 :: S') ∧ (30 ∉ S → (stl 0 S out).1 = [])
  | [], out, _ => ⟨fun h => (by cases h), fun _ => rfl⟩
  | c :: S, out, hv => by
    have hc := hv c (List.mem_cons_self ..)
    unfold stl
    by_cases e : c = 30
    · subst e
      rw [if_pos (Or.inl rfl)]
      exact ⟨fun _ => ⟨S, rfl⟩, fun h => absurd (List.mem_cons_self ..) h⟩
    · rw [if_neg (by omega)]
      have ih := stl0 S (out ++ [(c, 0)]) (fun a ha => hv a (List.mem_cons_of_mem _ ha))
      refine ⟨fun h => ih.1 ?_, fun h => ih.2 (fun g => h (List.mem_cons_of_mem _ g))⟩
      rcases List.mem_cons.mp h with g | g
      · exact absurd g.symm e
      · exact g
theorem stl_len (m : Int) (S : List Int) (out : List NT) : (stl m S out).2.length + (stl m S out).1.length = out.length + S.length := by
  have h := stl_cnt m S out
  have a := nop_opn S
  have c := nop_opn (stl m S out).1
  omega
theorem ms_tail {u : Nat} {S : List Int} {out : List NT} {P : PS} (hm : MsM (30 :: S) u out P) (hs : S.length < 299) : MsM S u out (sI (sI P 0 85 (gI P 0 85 - 1)) 0 86 (gI P 0 86 - 1)) := by
  have dl := dpS_le S
  have dp : dpS (30 :: S) = dpS S + 1 := by show dpS S + (if (30 : Int) = 30 ∨ (30 : Int) = 22 then 1 else 0) = _; rw [if_pos (Or.inl rfl)]
  refine ⟨hm.1, hm.2.1, hm.2.2.1, ?_, fun i hi => ?_, ?_⟩
  · show gI P 0 85 - 1 = _
    rw [show gI P 0 85 = _ from hm.2.2.2.1, show (1 : Int32) = iI 1 from rfl, iI_sub]
    refine congrArg iI ?_
    show ((S.length + 1 : Nat) : Int) - 1 = _; omega
  · have := hm.2.2.2.2.1 (i + 1) (by show i + 1 < S.length + 1; omega)
    rw [show (30 :: S).length - 1 - (i + 1) = S.length - 1 - i by show S.length + 1 - 1 - (i + 1) = _; omega] at this
    exact this
  · show gI P 0 86 - 1 = _
    rw [show gI P 0 86 = _ from hm.2.2.2.2.2, dp, show (1 : Int32) = iI 1 from rfl, iI_sub]
    refine congrArg iI ?_
    omega
theorem M_sgnR {d n q u : Nat} {b : Nat → Int} {S : List Int} {out : List NT} {P : PS} {R : List PS} {Q : Option AV → List PS → Prop} (hp : PrM true b n q P) (hm : MsM S u out P) (hv : ∀ a ∈ S, 20 ≤ a ∧ a ≤ 30) (hl : out.length + S.length < 298)
    (hy : ∀ s' P', sgM (tkq b n q) S u out = .inl s' → PrM true b n s'.2.1 P' → MsM s'.2.2.1 s'.2.2.2.1 s'.2.2.2.2 P' → Fr mcI [9] mcA [] P P' → Q (some (vI (iI (s'.1 : Nat)))) (P' :: R))
    (hn : ∀ e x P', sgM (tkq b n q) S u out = .inr e → FaM e P' → Fr mcI [9] mcA [] P P' → Q (some (vI x)) (P' :: R)) : Tri 273 (d + 3) [vR 0 0 0] (P :: R) Q := by
  have oc := opc_c (tkq b n q)
  have os := opc_s (t := tkq b n q)
  have sg : ∀ c : Int, 5 ≤ c → c < 256 → (gI P 0 6 = iI c ↔ isC (tkq b n q) c) := fun c h1 h2 => hp.sgn h1 h2
  have b1 := badF_bd (tok true b n q)
  have c203 : ∀ (S' : List Int) (out' : List NT) (A : PS), PrM true b n q A → MsM S' u out' A → S'.length < 299 → 0 ≤ opc (tkq b n q) → Fr mcI [9] mcA [] P A → sgM (tkq b n q) S u out = .inl (if opc (tkq b n q) = 21 ∨ opc (tkq b n q) = 20 then 0 else 1, (tkq b n q).2.2.1, opc (tkq b n q) :: S', u, out') → cX12_sign__203 (0, 0, 0, 0) (d + 2) (iI (opc (tkq b n q))) A R Q := by
    intro S' out' A pA mA lA o0 fA e
    refine gX12_sign__203 ?_
    unfold fX12_sign__203
    rw [show gI A 0 2 = iI 0 from pA.2.2.1]
    refine ⟨fun _ => ?_, fun g => absurd (by decide) g⟩
    refine M_hold (a := opc (tkq b n q)) rfl (by omega) mA lA (fun P' m' f' => ?_)
    dsimp only [hx1, rV]
    have f1 : Fr msI [] mcA [] A P' := f'.mono (by simp) (by simp) (by simp) (by simp)
    refine M_nx (P0 := P) (pA.ms f1) m' (t3 (op_t o0)) (fun P'' p'' m'' f'' => ?_)
    dsimp only [hx1, rV]
    have hh := hy _ P'' e p'' m'' (fA.trs ((frU f1).trs f''))
    simp (disch := omega) only [show (21 : Int32) = iI 21 from rfl, show (20 : Int32) = iI 20 from rfl, iI_eq]
    refine ⟨fun c => ?_, fun c => ⟨fun c1 => ?_, fun c1 => ?_⟩⟩
    · rw [if_pos (Or.inl c)] at hh; exact hh
    · rw [if_neg (by omega)] at hh; exact hh
    · rw [if_pos (Or.inr c1)] at hh; exact hh
  have blk1 : ¬ (isC (tkq b n q) 41 ∧ 30 ∈ S) → 0 ≤ opc (tkq b n q) → Tri 270 (d + 2) [vI (iI (opc (tkq b n q)))] (P :: R) (fun r3 h3 => hx1 h3 fun P0_3 R_3 => rI r3 fun y3 => (¬ y3 = 23 → Tri 270 (d + 2) [vI (iI (opc (tkq b n q)))] (P0_3 :: R_3) (fun r4 h4 => hx1 h4 fun P0_4 R_4 => rI r4 fun y4 => Tri 268 (d + 2) [vR 0 0 0, vI y4] (P0_4 :: R_4) (fun r5 h5 => hx1 h5 fun P0_5 R_5 => rV r5 (cX12_sign__203 (0, 0, 0, 0) (d + 2) (iI (opc (tkq b n q))) P0_5 R_5 Q)))) ∧ (y3 = 23 → Tri 268 (d + 2) [vR 0 0 0, vI 26] (P0_3 :: R_3) (fun r6 h6 => hx1 h6 fun P0_6 R_6 => rV r6 (Tri 265 (d + 2) [vR 0 0 0] (P0_6 :: R_6) (fun r7 h7 => hx1 h7 fun P0_7 R_7 => rI r7 fun y7 => Tri 270 (d + 2) [vI y7] (P0_7 :: R_7) (fun r8 h8 => hx1 h8 fun P0_8 R_8 => rI r8 fun y8 => (¬ y8 = 23 → cX12_sign__203 (0, 0, 0, 0) (d + 2) (iI (opc (tkq b n q))) P0_8 R_8 Q) ∧ (y8 = 23 → Tri 179 (d + 2) [vR 0 0 0, vI 2] (P0_8 :: R_8) (fun r9 h9 => hx1 h9 fun P0_9 R_9 => rV r9 (cX12_sign__203 (0, 0, 0, 0) (d + 2) (iI (opc (tkq b n q))) P0_9 R_9 Q)))))))) ) := by
    intro nc o0
    have rb : 20 ≤ rk (opc (tkq b n q)) ∧ rk (opc (tkq b n q)) ≤ 30 := by unfold rk; split; omega; split <;> omega
    refine M_rank rfl (by omega) ?_
    dsimp only [hx1, rI]
    rw [show (23 : Int32) = iI 23 from rfl, iI_eq (by omega) (by omega) (by omega) (by omega)]
    refine ⟨fun c => ?_, fun c => ?_⟩
    · refine M_rank rfl (by omega) ?_
      dsimp only [hx1, rI]
      refine enX12_settle (M_settle rfl (by omega) S out P hv (by omega) hm (fun P' m' f' => ?_))
      dsimp only [hx1, rV]
      have sl := stl_len (rk (opc (tkq b n q))) S out
      refine c203 _ _ P' (hp.ms f') m' (by omega) o0 (frU f') ?_
      unfold sgM
      rw [if_neg nc, if_neg (by omega), if_neg c]
    · refine enX12_settle (M_settle (m := 26) rfl (by omega) S out P hv (by omega) hm (fun P' m' f' => ?_))
      dsimp only [hx1, rV]
      have sl := stl_len 26 S out
      refine M_upper m' (by omega) ?_
      dsimp only [hx1, rI]
      have tb : 20 ≤ topS (stl 26 S out).1 ∧ topS (stl 26 S out).1 ≤ 30 := by
        cases hS : (stl 26 S out).1 with
        | nil => show 20 ≤ (30 : Int) ∧ (30 : Int) ≤ 30; omega
        | cons a S' => exact hv a (stl_mem S out (by rw [hS]; exact List.mem_cons_self ..))
      refine M_rank rfl (by omega) ?_
      dsimp only [hx1, rI]
      have rb2 : 20 ≤ rk (topS (stl 26 S out).1) ∧ rk (topS (stl 26 S out).1) ≤ 30 := by unfold rk; split; omega; split <;> omega
      rw [iI_eq (by omega) (by omega) (by omega) (by omega)]
      refine ⟨fun c1 => ?_, fun c1 => ?_⟩
      · refine c203 _ _ P' (hp.ms f') m' (by omega) o0 (frU f') ?_
        have o3 := rk_23.mp c
        unfold sgM
        rw [if_neg nc, if_neg (by omega), if_pos c, if_neg c1, if_neg (by omega)]
      · refine M_wrong2 (hp.ms f') (fun P'' f'' fa => ?_)
        dsimp only [hx1, rV]
        refine gX12_sign__203 ?_
        unfold fX12_sign__203
        rw [show gI P'' 0 2 = _ from fa.1, show (0 : Int32) = iI 0 from rfl, iI_le (by show -2147483648 ≤ badF (tok true b n q); omega) (by show badF (tok true b n q) < 2147483648; omega) (by omega) (by omega)]
        refine ⟨fun g => absurd g (by show ¬ badF (tok true b n q) ≤ 0; omega), fun _ => hn _ 2 P'' ?_ fa ((frU f').trs (f''.mono (by simp) (by simp) (by simp) (by simp)))⟩
        unfold sgM
        rw [if_neg nc, if_neg (by omega), if_pos c, if_pos c1]; rfl
  have blk2 : ¬ (isC (tkq b n q) 41 ∧ 30 ∈ S) → ¬ 0 ≤ opc (tkq b n q) → Tri 179 (d + 2) [vR 0 0 0, vI 2] (P :: R) (fun r10 h10 => hx1 h10 fun P0_10 R_10 => rV r10 (Q (some (vI 2)) (P0_10 :: R_10))) := by
    intro nc o0
    refine M_wrong2 hp (fun P' f fa => ?_)
    dsimp only [hx1, rV]
    refine hn _ 2 P' ?_ fa (f.mono (by simp) (by simp) (by simp) (by simp))
    unfold sgM
    rw [if_neg nc, if_pos (by omega)]; rfl
  have c101 : ∀ x : Int32, x = iI (opc (tkq b n q)) → cX12_sign__101 (0, 0, 0, 0) (d + 2) x P R Q := by
    intro x hx
    subst hx
    refine gX12_sign__101 ?_
    unfold fX12_sign__101
    have z0 : (0 : Int32) ≤ iI (opc (tkq b n q)) ↔ 0 ≤ opc (tkq b n q) := by rw [show (0 : Int32) = iI 0 from rfl]; exact iI_le (by omega) (by omega) (by omega) (by omega)
    have s41 : gI P 0 6 = (41 : Int32) ↔ isC (tkq b n q) 41 := sg 41 (by omega) (by omega)
    rw [z0, s41]
    refine ⟨fun c => ⟨fun o0 => blk1 (fun g => c g.1) o0, fun o0 => blk2 (fun g => c g.1) o0⟩, fun c => ?_⟩
    refine M_isOpen hm (by omega) hv ?_
    dsimp only [hx1, rI]
    rw [oI_dec]
    refine ⟨fun c1 => ⟨fun o0 => blk1 (fun g => c1 g.2) o0, fun o0 => blk2 (fun g => c1 g.2) o0⟩, fun c1 => ?_⟩
    have c1' := Decidable.not_not.mp c1
    obtain ⟨S', eS⟩ := (stl0 S out hv).1 c1'
    have sl := stl_len 0 S out
    have ls : (stl 0 S out).1.length = S'.length + 1 := by rw [eS]; rfl
    refine enX12_settle (M_settle (m := 0) rfl (by omega) S out P hv (by omega) hm (fun P' m' f' => ?_))
    dsimp only [hx1, rV]
    rw [eS] at m'
    have mt := ms_tail m' (by omega)
    have f1 : Fr msI [] mcA [] P (sI (sI P' 0 85 (gI P' 0 85 - 1)) 0 86 (gI P' 0 86 - 1)) := (f'.sI (by simp)).sI (by simp)
    refine M_nx (P0 := P) (hp.ms f1) mt (t3 (Or.inr (Or.inr c.1))) (fun P'' p'' m'' f'' => ?_)
    dsimp only [hx1, rV]
    refine hy (2, (tkq b n q).2.2.1, S', u, (stl 0 S out).2) P'' ?_ p'' m'' ((frU f1).trs f'')
    unfold sgM
    rw [if_pos ⟨c, c1'⟩, eS]; rfl
  refine enX12_sign_ ?_
  unfold fX12_sign__0
  have s43 : gI P 0 6 = (43 : Int32) ↔ isC (tkq b n q) 43 := sg 43 (by omega) (by omega)
  have s45 : gI P 0 6 = (45 : Int32) ↔ isC (tkq b n q) 45 := sg 45 (by omega) (by omega)
  have s61 : gI P 0 6 = (61 : Int32) ↔ isC (tkq b n q) 61 := sg 61 (by omega) (by omega)
  have s60 : gI P 0 6 = (60 : Int32) ↔ isC (tkq b n q) 60 := sg 60 (by omega) (by omega)
  have s62 : gI P 0 6 = (62 : Int32) ↔ isC (tkq b n q) 62 := sg 62 (by omega) (by omega)
  rw [s43, s45, s61, s60, s62]
  refine ⟨fun c1 => ⟨fun c2 => ⟨fun c3 => ⟨fun c4 => ⟨fun c5 => ?_, fun c5 => ?_⟩, fun c4 => ?_⟩, fun c3 => ?_⟩, fun c2 => ?_⟩, fun c1 => ?_⟩
  · refine M_isWord (w := w_and) hp rfl (by unfold lets; decide) (by decide) (fun a => ?_) (fun a => ?_)
    · dsimp only [hx1, rI]
      exact ⟨fun g => absurd g (by decide), fun _ => c101 _ (by rw [opc_21.mpr a]; rfl)⟩
    · dsimp only [hx1, rI]
      refine ⟨fun _ => ?_, fun g => absurd rfl g⟩
      refine M_isWord (w := w_or) hp rfl (by unfold lets; decide) (by decide) (fun a1 => ?_) (fun a1 => ?_)
      · dsimp only [hx1, rI]
        exact ⟨fun g => absurd g (by decide), fun _ => c101 _ (by rw [opc_20.mpr a1]; rfl)⟩
      · dsimp only [hx1, rI]
        refine ⟨fun _ => c101 _ ?_, fun g => absurd rfl g⟩
        have e1 : opc (tkq b n q) = -1 := by
          rcases oc with g | g | g | g | g | g | g | g
          · exact g
          · exact absurd (opc_20.mp g) a1
          · exact absurd (opc_21.mp g) a
          · exact absurd (os.2.2.1.mp g) c3
          · exact absurd (os.2.2.2.1.mp g) c4
          · exact absurd (os.2.2.2.2.mp g) c5
          · exact absurd (os.1.mp g) c1
          · exact absurd (os.2.1.mp g) c2
        rw [e1]; rfl
  · exact c101 _ (by rw [os.2.2.2.2.mpr c5]; rfl)
  · exact c101 _ (by rw [os.2.2.2.1.mpr c4]; rfl)
  · exact c101 _ (by rw [os.2.2.1.mpr c3]; rfl)
  · exact c101 _ (by rw [os.2.1.mpr c2]; rfl)
  · exact c101 _ (by rw [os.1.mpr c1]; rfl)

/-! ===== the class: all NAMINGS of so many points ===== -/
theorem unC_s (v : Nat → Nat) (n : Nat) : unC v (n + 1) = unC v n + (if v n = 32 then 1 else 0) := by
  show cnt (fun p => decide (v p = 32)) n + _ = _
  unfold unC
  by_cases c : v n = 32
  · rw [if_pos c, if_pos (decide_eq_true c)]
  · rw [if_neg c, if_neg (show ¬ decide (v n = 32) = true by rw [decide_eq_false c]; decide)]
theorem unC_up (v : Nat → Nat) (i s : Nat) : unC (upN v i s) (i + 1) = unC v i + (if s = 32 then 1 else 0) := by
  rw [unC_s, unC_congr (v := upN v i s) (v' := v) (fun q hq => by unfold upN; rw [if_neg (by omega)]), show upN v i s i = s by unfold upN; rw [if_pos rfl]]
theorem unC_gr (v : Nat → Nat) (i : Nat) : ∀ m, unC v i ≤ unC v (i + m) ∧ unC v (i + m) ≤ unC v i + m
  | 0 => ⟨Nat.le_refl _, Nat.le_refl _⟩
  | m + 1 => by
    have := unC_gr v i m
    rw [show i + (m + 1) = (i + m) + 1 by omega, unC_s]
    split <;> omega
theorem unC_le (v : Nat → Nat) (i : Nat) : unC v i ≤ i := cnt_le _ _
theorem ext1_nil {X Y : Nat → Int} {l : List SR} {o : Int} {u m i : Nat} {v : Nat → Nat} (h : u < unC v i ∨ unC v i + m < u) : ext1 X Y l o u m i v = [] := by
  refine List.eq_nil_iff_forall_not_mem.mpr (fun r hr => ?_)
  have g := ext1_ok m i v r hr
  have e := unC_congr (v := r) (v' := v) (n := i) g.1
  have := unC_gr r i m
  omega
theorem cat_skip {α : Type} {F : Nat → List α} {s : Nat} : ∀ n, s ≤ n → (∀ e, s ≤ e → e < n → F e = []) → cat F n = cat F s
  | 0, h, _ => by rw [show s = 0 by omega]
  | n + 1, h, hF => by
    by_cases c : s = n + 1
    · rw [c]
    · show cat F n ++ F n = _
      rw [hF n (by omega) (by omega), List.append_nil]
      exact cat_skip n (by omega) (fun e h1 h2 => hF e h1 (by omega))
theorem take_app {α : Type} (L M : List α) (n : Nat) : (L.take n ++ M).take n = (L ++ M).take n := by
  rw [List.take_append, List.take_append, List.take_take, Nat.min_self, List.length_take]
  by_cases c : n ≤ L.length
  · rw [show n - min n L.length = 0 by omega, show n - L.length = 0 by omega]
  · rw [show min n L.length = L.length by omega]
theorem bz_ex {x : Int32} (h : ¬ x = 0) : ∃ k, k < 32 ∧ bz x k = true ∧ ∀ e, e < k → bz x e = false := by
  have key : ∀ n, n ≤ 32 → (∀ e, e < n → bz x e = false) ∨ ∃ k, k < n ∧ bz x k = true ∧ ∀ e, e < k → bz x e = false := by
    intro n
    induction n with
    | zero => intro _; exact Or.inl (fun e he => absurd he (Nat.not_lt_zero e))
    | succ n ih =>
      intro hn
      rcases ih (by omega) with g | ⟨k, h1, h2⟩
      · cases hb : bz x n
        · refine Or.inl (fun e he => ?_)
          by_cases c : e = n
          · rw [c]; exact hb
          · exact g e (by omega)
        · exact Or.inr ⟨n, by omega, hb, g⟩
      · exact Or.inr ⟨k, by omega, h2⟩
  rcases key 32 (Nat.le_refl _) with g | g
  · exact absurd (bz_eq0.mpr g) h
  · exact g
section NAMEFROM
variable {d j kb A g : Nat} {X Y : Nat → Int} {l : List SR} {f : Nat → Int}
/-- what the namer knows while it names -/
def NgC (X Y : Nat → Int) (l : List SR) (o : Int) (A g : Nat) (P : PS) : Prop := PlC X Y A P ∧ (∀ r, r < A → ∀ p, p < r → FbC X Y l o p r P) ∧ gI P 0 5 = iI (g : Nat)
theorem NgC.fr {o : Int} {P P' : PS} (h : NgC X Y l o A g P) (hf : Fr [] [] [3] [] P P') : NgC X Y l o A g P' := by
  refine ⟨⟨?_, fun i hi => ?_⟩, fun r hr p hp s t hs ht => ?_, ?_⟩
  · rw [hf.2.1 4 (by simp)]; exact h.1.1
  · rw [hf.2.2.2.1 1 i (by simp), hf.2.2.2.1 2 i (by simp)]; exact h.1.2 i hi
  · rw [hf.2.2.2.1 0 _ (by simp)]; exact h.2.1 r hr p hp s t hs ht
  · rw [hf.2.1 5 (by simp)]; exact h.2.2
theorem C_nameFrom (hA : A ≤ 6) (hg : g ≤ A) (hX : ∀ i, i < A → (0 ≤ X i ∧ X i ≤ 1395) ∧ 0 ≤ Y i ∧ Y i ≤ 1395) : ∀ (m i : Nat) (v : Nat → Nat) (F : List (Nat → Nat)) {P0 P1 P2 P3 P4 P5 P6 P7 P8 : PS} {R : List PS} {Q : Option AV → List PS → Prop}, i + m = A → BoC kb l f P2 → NgC X Y l (f 4) A g P8 → StrC v i P8 → VoK l v i → i - unC v i ≤ g → FdC j A F P3 → (∀ P3' P8', FdC j A ((F ++ ext1 X Y l (f 4) (A - g) m i v).take 200) P3' → StrC v i P8' → Fr [] [] [3] [] P8 P8' → FrO j [11] [] [] [9] P3 P3' → Q none (P0 :: P1 :: P2 :: P3' :: P4 :: P5 :: P6 :: P7 :: P8' :: R)) → Tri 30 (d + m + 3) [vR 8 0 0, vI (iI (i : Nat)), vI (iI ((i - unC v i : Nat))), vR 3 j 0, vR 2 kb 0] (P0 :: P1 :: P2 :: P3 :: P4 :: P5 :: P6 :: P7 :: P8 :: R) Q := by
  intro m
  induction m with
  | zero =>
    intro i v F P0 P1 P2 P3 P4 P5 P6 P7 P8 R Q hi hB hN hS hv hng hD h
    have ule := unC_le v i
    have hDl := hD.2.1
    refine enX2_nameFrom ?_
    unfold fX2_nameFrom_0
    have ea : iI ((i - unC v i : Nat)) + iI (A : Nat) - iI (i : Nat) = iI ((A - unC v i : Nat)) := by rw [iI_add, iI_sub]; refine congrArg iI ?_; omega
    rw [hD.1, hN.2.2, hN.1.1, ea, show (200 : Int32) = iI 200 from rfl, iI_le (by omega) (by omega) (by omega) (by omega), iI_le (by omega) (by omega) (by omega) (by omega), iI_le (by omega) (by omega) (by omega) (by omega)]
    refine ⟨fun c => h P3 P8 ?_ hS Fr.rf FrO.rf, fun c => ⟨fun c1 => ⟨fun _ => ?_, fun c2 => absurd (by omega) c2⟩, fun c1 => h P3 P8 ?_ hS Fr.rf FrO.rf⟩⟩
    · rw [List.take_append_of_le_length (by omega), List.take_of_length_le (by omega)]; exact hD
    · refine C_packed hA hB.1.2.1 (show VoK l v A by rw [← hi]; exact hv) hN.1.1 (show StrC v A P8 by rw [← hi]; exact hS) (fun x hx => ?_)
      dsimp only [hx9, rL]
      refine C_addNaming hD (by omega) hx (fun P3' hD' fr => ?_)
      dsimp only [hx9, rV]
      refine h P3' P8 ?_ hS Fr.rf fr
      have e : ext1 X Y l (f 4) (A - g) 0 i v = [v] := by unfold ext1; rw [if_pos (by omega)]
      rw [e, List.take_of_length_le (by rw [List.length_append]; show F.length + 1 ≤ 200; omega)]
      exact hD'
    · rw [ext1_nil (Or.inl (by omega)), List.append_nil, List.take_of_length_le (by omega)]; exact hD
  | succ m ih =>
    intro i v F P0 P1 P2 P3 P4 P5 P6 P7 P8 R Q hi hB hN hS hv hng hD h
    have ule := unC_le v i
    have hDl := hD.2.1
    have hl := hB.1.2.1
    have v6 : vp_in (iI (i : Nat)) 6 := vpk (by omega) (by omega)
    rw [show d + (m + 1) + 3 = (d + m + 3) + 1 by omega]
    refine enX2_nameFrom ?_
    unfold fX2_nameFrom_0
    have ea : iI ((i - unC v i : Nat)) + iI (A : Nat) - iI (i : Nat) = iI ((A - unC v i : Nat)) := by rw [iI_add, iI_sub]; refine congrArg iI ?_; omega
    rw [hD.1, hN.2.2, hN.1.1, ea, show (200 : Int32) = iI 200 from rfl, iI_le (by omega) (by omega) (by omega) (by omega), iI_le (by omega) (by omega) (by omega) (by omega), iI_le (by omega) (by omega) (by omega) (by omega), iI_le (by omega) (by omega) (by omega) (by omega), show (6 : Int32) = iI 6 from rfl, iI_lt (by omega) (by omega) (by omega) (by omega)]
    refine ⟨fun c => h P3 P8 ?_ hS Fr.rf FrO.rf, fun c => ⟨fun c1 => ⟨fun c2 => absurd c2 (by omega), fun _ => ⟨fun _ => ?_, fun c2 => absurd (by omega) c2⟩⟩, fun c1 => h P3 P8 ?_ hS Fr.rf FrO.rf⟩⟩
    · rw [List.take_append_of_le_length (by omega), List.take_of_length_le (by omega)]; exact hD
    rotate_left
    · rw [ext1_nil (Or.inl (by omega)), List.append_nil, List.take_of_length_le (by omega)]; exact hD
    rw [ext1_s] at h
    generalize hone : one1 X Y l (f 4) (A - g) m i v = F1 at *
    have hone' : ∀ s, F1 s = if dcd (unC (upN v i s) (i + 1) ≤ A - g ∧ okR X Y l (f 4) i (upN v i s)) = true then ext1 X Y l (f 4) (A - g) m (i + 1) (upN v i s) else [] := fun s => by rw [← hone]; rfl
    have f32 : F1 32 = ext1 X Y l (f 4) (A - g) m (i + 1) (upN v i 32) := by
      rw [hone']
      by_cases cu : unC (upN v i 32) (i + 1) ≤ A - g
      · rw [if_pos (dcd_t.mpr ⟨cu, Or.inl (by unfold upN; rw [if_pos rfl])⟩)]
      · rw [if_neg (fun q => cu (dcd_t.mp q).1), ext1_nil (Or.inl (by omega))]
    have back : ∀ {s : Nat} {P : PS}, StrC (upN v i s) (i + 1) P → StrC v i P := fun hs q hq => by
      have := hs q (by omega)
      unfold upN at this
      rw [if_neg (by omega)] at this; exact this
    have forth : ∀ {s : Nat} {P : PS}, StrC v i P → StrC (upN v i s) (i + 1) (sA P 0 3 i (iI (vu s : Nat))) := fun hs q hq => by
      rw [gA_sA, if_pos rfl, if_pos rfl]
      unfold upN
      by_cases c : q = i
      · rw [if_pos c, if_pos c]
      · rw [if_neg c, if_neg c]; exact hs q (by omega)
    have vup : ∀ {s : Nat}, (s = 32 ∨ s < l.length) → VoK l (upN v i s) (i + 1) := fun hs q hq => by
      unfold upN
      by_cases c : q = i
      · rw [if_pos c]; exact hs
      · rw [if_neg c]; exact hv q (by omega)
    -- behind the stars
    have last : ∀ A3 A8, FdC j A ((F ++ cat F1 l.length).take 200) A3 → StrC v i A8 → Fr [] [] [3] [] P8 A8 → FrO j [11] [] [] [9] P3 A3 → Tri 30 (d + m + 3) [vR 8 0 0, vI (iI (i : Nat) + 1), vI (iI ((i - unC v i : Nat))), vR 3 j 0, vR 2 kb 0] (P0 :: P1 :: P2 :: A3 :: P4 :: P5 :: P6 :: P7 :: (sA A8 0 3 i 63) :: R) (fun r6 h6 => hx9 h6 fun P0 P1 P2 P3 P4 P5 P6 P7 P8 R => rV r6 (Q none (P0 :: P1 :: P2 :: P3 :: P4 :: P5 :: P6 :: P7 :: P8 :: R))) := by
      intro A3 A8 hD' hS' fr8 fr3
      have eu := unC_up v i 32
      rw [if_pos rfl] at eu
      have := ih (i + 1) (upN v i 32) ((F ++ cat F1 l.length).take 200) (P0 := P0) (P1 := P1) (P2 := P2) (P3 := A3) (P4 := P4) (P5 := P5) (P6 := P6) (P7 := P7) (P8 := sA A8 0 3 i 63) (R := R) (Q := fun r6 h6 => hx9 h6 fun P0 P1 P2 P3 P4 P5 P6 P7 P8 R => rV r6 (Q none (P0 :: P1 :: P2 :: P3 :: P4 :: P5 :: P6 :: P7 :: P8 :: R))) (by omega) hB (hN.fr (fr8.sA (by simp))) (forth hS') (vup (Or.inl rfl)) (by omega) hD' (fun P3' P8' dd ss f8 f3 => by
        dsimp only [hx9, rV]
        refine h P3' P8' ?_ (back ss) ((fr8.sA (by simp)).trs f8) (fr3.tr f3)
        rw [take_app, List.append_assoc, ← f32] at dd
        exact dd)
      rw [eu, show i + 1 - (unC v i + 1) = i - unC v i by omega] at this
      rw [show iI (i : Nat) + 1 = iI ((i + 1 : Nat)) from iI_add (i : Nat) 1]
      exact this
    -- the stars, one after the other
    have loop : ∀ (n s t : Nat) (x : Int32) (A3 A8 : PS), s + n = 32 → t ≤ s → (∀ e, e < 32 → bz x e = (decide (s ≤ e) && (decide (i - unC v i < g) && opB X Y l (f 4) i v i e))) → FdC j A ((F ++ cat F1 (if s ≤ l.length then s else l.length)).take 200) A3 → StrC v i A8 → Fr [] [] [3] [] P8 A8 → FrO j [11] [] [] [9] P3 A3 → cX2_nameFrom_73 (0, 0, 0, 0) (d + m + 3) (iI (i : Nat)) (iI ((i - unC v i : Nat))) j kb x (iI (t : Nat)) P0 P1 P2 A3 P4 P5 P6 P7 A8 R Q := by
      intro n
      induction n using Nat.strongRecOn with
      | _ n ihn =>
      intro s t x A3 A8 hs ht hx hD' hS' fr8 fr3
      -- no star is left
      have fin : (∀ e, e < 32 → bz x e = false) → Tri 30 (d + m + 3) [vR 8 0 0, vI (iI (i : Nat) + 1), vI (iI ((i - unC v i : Nat))), vR 3 j 0, vR 2 kb 0] (P0 :: P1 :: P2 :: A3 :: P4 :: P5 :: P6 :: P7 :: (sA A8 0 3 i 63) :: R) (fun r6 h6 => hx9 h6 fun P0 P1 P2 P3 P4 P5 P6 P7 P8 R => rV r6 (Q none (P0 :: P1 :: P2 :: P3 :: P4 :: P5 :: P6 :: P7 :: P8 :: R))) := by
        intro hz
        refine last A3 A8 ?_ hS' fr8 fr3
        have e : cat F1 l.length = cat F1 (if s ≤ l.length then s else l.length) := by
          split
          · rename_i csl
            refine cat_skip l.length csl (fun e h1 h2 => ?_)
            have b := hz e (by omega)
            rw [hx e (by omega), decide_eq_true h1, Bool.true_and] at b
            rw [hone']
            by_cases cg : i - unC v i < g
            · rw [decide_eq_true cg, Bool.true_and] at b
              rw [if_neg (fun q => by
                have := ((okR_up (by omega) h2).mp (dcd_t.mp q).2).1
                rw [b] at this; exact absurd this (by decide))]
            · have eu := unC_up v i e
              rw [if_neg (by omega)] at eu
              rw [ext1_nil (Or.inr (by omega))]
              split <;> rfl
          · rfl
        rw [e]; exact hD'
      refine gX2_nameFrom_73 ?_
      unfold fX2_nameFrom_73
      have c32 : (32 : Int32) ≤ iI (t : Nat) ↔ (32 : Int) ≤ (t : Nat) := by rw [show (32 : Int32) = iI 32 from rfl]; exact iI_le (by omega) (by omega) (by omega) (by omega)
      rw [c32, iI_cl (a := (i : Nat)) (by omega) (by omega), Int.toNat_natCast]
      refine ⟨fun c2 => ⟨v6, fin (fun e he => ?_)⟩, fun c2 => ⟨fun c3 => ⟨v6, fin (bz_eq0.mp c3)⟩, fun c3 => ?_⟩⟩
      · rw [hx e he, decide_eq_false (by omega), Bool.false_and]
      -- the next star
      obtain ⟨k, hk, k1, k0⟩ : ∃ k, k < 32 ∧ bz x k = true ∧ ∀ e, e < k → bz x e = false := bz_ex c3
      have hk' := k1
      rw [hx k hk] at hk'
      simp only [Bool.and_eq_true, decide_eq_true_eq] at hk'
      obtain ⟨hsk, hgk, hok⟩ := hk'
      have kl : k < l.length := (dcd_t.mp hok).1
      refine J_ntz hk k1 k0 ?_
      dsimp only [hx9, rI]
      refine C_has rfl (by omega) hB.1 ?_
      dsimp only [hx9, rI]
      rw [oI_dec]
      refine ⟨fun c4 => absurd ⟨Int.natCast_nonneg k, by omega⟩ c4, fun _ => ?_⟩
      have skip : cat F1 k = cat F1 (if s ≤ l.length then s else l.length) := by
        rw [if_pos (by omega)]
        refine cat_skip k hsk (fun e h1 h2 => ?_)
        have b := k0 e h2
        rw [hx e (by omega), decide_eq_true h1, Bool.true_and, decide_eq_true hgk, Bool.true_and] at b
        rw [hone', if_neg (fun q => by
          have := ((okR_up (by omega) (show e < l.length by omega)).mp (dcd_t.mp q).2).1
          rw [b] at this; exact absurd this (by decide))]
      rw [← skip] at hD'
      have nx : ∀ e, e < 32 → bz (x &&& (x - 1)) e = (decide (k + 1 ≤ e) && (decide (i - unC v i < g) && opB X Y l (f 4) i v i e)) := fun e he => by
        rw [low_and hk k1 k0 e he]
        by_cases ce : e = k
        · rw [decide_eq_true ce, Bool.not_true, Bool.and_false, decide_eq_false (by omega), Bool.false_and]
        · rw [decide_eq_false ce, Bool.not_false, Bool.and_true]
          by_cases cl : e < k
          · rw [k0 e cl, decide_eq_false (by omega), Bool.false_and]
          · rw [hx e he, decide_eq_true (show s ≤ e by omega), decide_eq_true (show k + 1 ≤ e by omega)]
      have go : ∀ B3 B8, FdC j A ((F ++ cat F1 (k + 1)).take 200) B3 → StrC v i B8 → Fr [] [] [3] [] P8 B8 → FrO j [11] [] [] [9] P3 B3 → cX2_nameFrom_73 (0, 0, 0, 0) (d + m + 3) (iI (i : Nat)) (iI ((i - unC v i : Nat))) j kb (x &&& (x - 1)) (iI (t : Nat) + 1) P0 P1 P2 B3 P4 P5 P6 P7 B8 R Q := fun B3 B8 q1 q2 q3 q4 => by
        rw [show iI (t : Nat) + 1 = iI ((t + 1 : Nat)) from iI_add (t : Nat) 1]
        exact ihn (31 - k) (by omega) (k + 1) (t + 1) _ B3 B8 (by omega) (by omega) nx (by rw [if_pos (by omega)]; exact q1) q2 q3 q4
      have ngB := hN.fr fr8
      refine C_liesAlike (show i < A by omega) hA kl hX ngB.1 hB hv hS' (fun al => ?_) (fun al => ?_)
      · dsimp only [hx9, rI]
        refine ⟨fun q => absurd q (by decide), fun _ => ?_⟩
        have eu := unC_up v i k
        rw [if_neg (by omega)] at eu
        have e1 : F1 k = ext1 X Y l (f 4) (A - g) m (i + 1) (upN v i k) := by
          rw [hone', if_pos (dcd_t.mpr ⟨by omega, (okR_up (by omega) kl).mpr ⟨hok, al⟩⟩)]
        have ek : vu k = k := by unfold vu; rw [if_neg (by omega)]
        have ss := forth (s := k) hS'
        rw [ek] at ss
        refine ⟨v6, ?_⟩
        have := ih (i + 1) (upN v i k) ((F ++ cat F1 k).take 200) (P0 := P0) (P1 := P1) (P2 := P2) (P3 := A3) (P4 := P4) (P5 := P5) (P6 := P6) (P7 := P7) (P8 := sA A8 0 3 i (iI (k : Nat))) (R := R) (Q := fun r6 h6 => hx9 h6 fun P0 P1 P2 P3 P4 P5 P6 P7 P8 R => rV r6 (cX2_nameFrom_73 (0, 0, 0, 0) (d + m + 3) (iI (i : Nat)) (iI ((i - unC v i : Nat))) j kb (x &&& (x - 1)) (iI (t : Nat) + 1) P0 P1 P2 P3 P4 P5 P6 P7 P8 R Q)) (by omega) hB (hN.fr (fr8.sA (by simp))) ss (vup (Or.inr kl)) (by omega) hD' (fun P3' P8' dd sss f8 f3 => by
          dsimp only [hx9, rV]
          refine go P3' P8' ?_ (back sss) ((fr8.sA (by simp)).trs f8) (fr3.tr f3)
          rw [take_app, List.append_assoc, ← e1] at dd
          exact dd)
        rw [eu, show i + 1 - (unC v i + 0) = (i - unC v i) + 1 by omega] at this
        rw [show iI (i : Nat) + 1 = iI ((i + 1 : Nat)) from iI_add (i : Nat) 1, show iI ((i - unC v i : Nat)) + 1 = iI ((i - unC v i + 1 : Nat)) from iI_add ((i - unC v i : Nat)) 1]
        exact this
      · dsimp only [hx9, rI]
        refine ⟨fun _ => ?_, fun q => absurd rfl q⟩
        refine go A3 A8 ?_ hS' fr8 fr3
        have e0 : F1 k = [] := by
          rw [hone', if_neg (fun q => al ((okR_up (by omega) kl).mp (dcd_t.mp q).2).2)]
        show FdC j A ((F ++ (cat F1 k ++ F1 k)).take 200) A3
        rw [e0, List.append_nil]; exact hD'
    have start : FdC j A ((F ++ cat F1 (if 0 ≤ l.length then 0 else l.length)).take 200) P3 := by
      rw [if_pos (Nat.zero_le _)]
      show FdC j A ((F ++ []).take 200) P3
      rw [List.append_nil, List.take_of_length_le (by omega)]; exact hD
    refine ⟨fun c2 => ?_, fun c2 => ?_⟩
    · refine loop 32 0 0 0 P3 P8 (by omega) (Nat.le_refl _) (fun e he => ?_) start hS Fr.rf FrO.rf
      rw [bz_0, decide_eq_false (show ¬ (i - unC v i < g) by omega), Bool.false_and, Bool.and_false]
    · refine C_openStars (by omega) hB.1 (fun p hp => hN.2.1 i (by omega) p hp) hv hS (fun x hx => ?_)
      dsimp only [hx9, rI]
      refine loop 32 0 0 x P3 P8 (by omega) (Nat.le_refl _) (fun e he => ?_) start hS Fr.rf FrO.rf
      rw [hx e he, decide_eq_true (Nat.zero_le e), Bool.true_and, decide_eq_true (show i - unC v i < g by omega), Bool.true_and]
end NAMEFROM

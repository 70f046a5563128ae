/-! ===== RULES: the Model's machine ===== -/
def nop : List Int → Nat
  | [] => 0
  | a :: S => nop S + (if a = 30 then 0 else 1)
def opn : List Int → Nat
  | [] => 0
  | a :: S => opn S + (if a = 30 then 1 else 0)
theorem nop_opn (S : List Int) : S.length = nop S + opn S := by
  induction S with
  | nil => rfl
  | cons a S ih =>
    show S.length + 1 = nop S + (if a = 30 then 0 else 1) + (opn S + (if a = 30 then 1 else 0))
    split <;> omega
theorem stl_cnt (m : Int) : ∀ (S : List Int) (out : List NT), (stl m S out).2.length + nop (stl m S out).1 = out.length + nop S ∧ opn (stl m S out).1 = opn S
  | [], out => ⟨rfl, rfl⟩
  | a :: S, out => by
    unfold stl
    split
    · exact ⟨rfl, rfl⟩
    · rename_i c
      have ih := stl_cnt m S (out ++ [(a, 0)])
      rw [len_app1] at ih
      show _ = out.length + (nop S + (if a = 30 then 0 else 1)) ∧ _ = opn S + (if a = 30 then 1 else 0)
      rw [if_neg (fun e => c (Or.inl e)), if_neg (fun e => c (Or.inl e))]
      omega
def MsM (S : List Int) (u : Nat) (out : List NT) (P : PS) : Prop := gI P 0 80 = iI (out.length : Nat) ∧ (∀ i, i < out.length → gA P 0 69 i = iI (out.getD i (0, 0)).1 ∧ ((out.getD i (0, 0)).1 = 0 → gA P 0 70 i = iI (out.getD i (0, 0)).2)) ∧ gI P 0 82 = iI (u : Nat) ∧ gI P 0 85 = iI (S.length : Nat) ∧ (∀ i, i < S.length → gA P 0 77 (S.length - 1 - i) = iI (S.getD i 0)) ∧ gI P 0 86 = iI (dpS S : Nat)
abbrev mcI : List Nat := [4, 6, 7, 8, 2, 3, 80, 82, 85, 86]
abbrev mcA : List Nat := [69, 70, 77]
abbrev msI : List Nat := [80, 82, 85, 86]
theorem MsM.fr {S : List Int} {u : Nat} {out : List NT} {P P' : PS} {is ls as bs : List Nat} (h : MsM S u out P) (hf : Fr is ls as bs P P') (h1 : 80 ∉ is) (h2 : 82 ∉ is) (h3 : 85 ∉ is) (h4 : 86 ∉ is) (g1 : 69 ∉ as) (g2 : 70 ∉ as) (g3 : 77 ∉ as) : MsM S u out P' :=
  ⟨by rw [hf.2.1 _ h1]; exact h.1, fun i hi => by rw [hf.2.2.2.1 _ _ g1, hf.2.2.2.1 _ _ g2]; exact h.2.1 i hi, by rw [hf.2.1 _ h2]; exact h.2.2.1, by rw [hf.2.1 _ h3]; exact h.2.2.2.1, fun i hi => by rw [hf.2.2.2.1 _ _ g3]; exact h.2.2.2.2.1 i hi, by rw [hf.2.1 _ h4]; exact h.2.2.2.2.2⟩
theorem dpS_le (S : List Int) : dpS S ≤ S.length := by
  induction S with
  | nil => exact Nat.le_refl _
  | cons a S ih =>
    show dpS S + (if a = 30 ∨ a = 22 then 1 else 0) ≤ S.length + 1
    split <;> omega
theorem M_note {d u : Nat} {S : List Int} {out : List NT} {a : NT} {x y : Int32} {P : PS} {R : List PS} {Q : Option AV → List PS → Prop} (hx : x = iI a.1) (hy : a.1 = 0 → y = iI a.2) (hm : MsM S u out P) (hl : out.length < 300) (h : ∀ P', MsM S u (out ++ [a]) P' → Fr [80] [] [69, 70] [] P P' → Q none (P' :: R)) : Tri 264 d [vR 0 0 0, vI x, vI y] (P :: R) Q := by
  refine enX12_note ?_
  unfold fX12_note_0
  rw [show gI P 0 80 = _ from hm.1, iI_cl (a := (out.length : Nat)) (by omega) (by omega), Int.toNat_natCast, show iI (out.length : Nat) + 1 = iI ((out.length + 1 : Nat)) from iI_add _ 1]
  have vp : vp_in (iI (out.length : Nat)) 300 := vpk hl (by omega)
  refine ⟨vp, vp, h _ ⟨?_, fun i hi => ?_, hm.2.2.1, hm.2.2.2.1, fun i hi => hm.2.2.2.2.1 i hi, hm.2.2.2.2.2⟩ (((Fr.rf.sA (by simp)).sA (by simp)).sI (by simp))⟩
  · rw [gI_sI, if_pos rfl, if_pos rfl, len_app1]
  · rw [len_app1] at hi
    have g1 : gA (sI (sA (sA P 0 69 out.length x) 0 70 out.length y) 0 80 (iI ((out.length + 1 : Nat)))) 0 69 i = if i = out.length then x else gA P 0 69 i := by
      show gA (sA (sA P 0 69 out.length x) 0 70 out.length y) 0 69 i = _
      rw [gA_sA, if_neg (by decide), gA_sA, if_pos rfl, if_pos rfl]
    have g2 : gA (sI (sA (sA P 0 69 out.length x) 0 70 out.length y) 0 80 (iI ((out.length + 1 : Nat)))) 0 70 i = if i = out.length then y else gA P 0 70 i := by
      show gA (sA (sA P 0 69 out.length x) 0 70 out.length y) 0 70 i = _
      rw [gA_sA, if_pos rfl, if_pos rfl]; rfl
    rw [g1, g2]
    by_cases c : i = out.length
    · subst c
      rw [if_pos rfl, if_pos rfl, getD_app_r]
      exact ⟨hx, hy⟩
    · rw [if_neg c, if_neg c, getD_app_l (by omega)]
      exact hm.2.1 i (by omega)
theorem M_upper {d u : Nat} {S : List Int} {out : List NT} {P : PS} {R : List PS} {Q : Option AV → List PS → Prop} (hm : MsM S u out P) (hs : S.length < 300) (h : Q (some (vI (iI (topS S)))) (P :: R)) : Tri 265 d [vR 0 0 0] (P :: R) Q := by
  refine enX12_upper ?_
  unfold fX12_upper_0
  rw [show gI P 0 85 = _ from hm.2.2.2.1, show (0 : Int32) = iI 0 from rfl, iI_eq (by omega) (by omega) (by omega) (by omega), show (1 : Int32) = iI 1 from rfl, iI_sub]
  cases S with
  | nil => exact ⟨fun c => absurd rfl c, fun _ => h⟩
  | cons a S =>
    have e := hm.2.2.2.2.1 0 (by show 0 < S.length + 1; omega)
    have hs' : S.length + 1 < 300 := hs
    have l1 : ((a :: S).length : Int) - 1 = (S.length : Nat) := by show ((S.length + 1 : Nat) : Int) - 1 = _; omega
    rw [l1, iI_in (by omega) (by omega), iI_cl (a := (S.length : Nat)) (by omega) (by omega), Int.toNat_natCast]
    refine ⟨fun _ => ⟨by omega, ?_⟩, fun c => absurd c (by show ¬ ((S.length + 1 : Nat) : Int) = 0; omega)⟩
    rw [show gA P 0 77 S.length = iI a from e]; exact h
theorem M_hold {d u : Nat} {S : List Int} {out : List NT} {a : Int} {x : Int32} {P : PS} {R : List PS} {Q : Option AV → List PS → Prop} (hx : x = iI a) (ha : 0 ≤ a ∧ a ≤ 30) (hm : MsM S u out P) (hs : S.length < 299) (h : ∀ P', MsM (a :: S) u out P' → Fr [85, 86] [] [77] [] P P' → Q none (P' :: R)) : Tri 266 d [vR 0 0 0, vI x] (P :: R) Q := by
  subst hx
  refine enX12_hold ?_
  unfold fX12_hold_0
  have dl := dpS_le S
  rw [show gI P 0 85 = _ from hm.2.2.2.1, show gI P 0 86 = _ from hm.2.2.2.2.2, iI_cl (a := (S.length : Nat)) (by omega) (by omega), Int.toNat_natCast, show iI (S.length : Nat) + 1 = iI ((S.length + 1 : Nat)) from iI_add _ 1, show iI (dpS S : Nat) + 1 = iI ((dpS S + 1 : Nat)) from iI_add _ 1, show (30 : Int32) = iI 30 from rfl, iI_eq (by omega) (by omega) (by omega) (by omega), show (22 : Int32) = iI 22 from rfl, iI_eq (by omega) (by omega) (by omega) (by omega)]
  have wt : ∀ i, i < (a :: S).length → gA (sA P 0 77 S.length (iI a)) 0 77 ((a :: S).length - 1 - i) = iI ((a :: S).getD i 0) := fun i hi => by
    have hi' : i < S.length + 1 := hi
    show gA (sA P 0 77 S.length (iI a)) 0 77 (S.length + 1 - 1 - i) = _
    rw [gA_sA, if_pos rfl, if_pos rfl]
    cases i with
    | zero => rw [if_pos (by omega)]; rfl
    | succ i =>
      rw [if_neg (by omega)]
      have := hm.2.2.2.2.1 i (by omega)
      rw [show S.length + 1 - 1 - (i + 1) = S.length - 1 - i by omega]
      exact this
  have dp : dpS (a :: S) = dpS S + (if a = 30 ∨ a = 22 then 1 else 0) := rfl
  refine ⟨vpk (by omega) (by omega), fun c => ?_, fun c => ⟨fun c1 => ?_, fun c1 => ?_⟩⟩
  · refine h _ ⟨hm.1, hm.2.1, hm.2.2.1, rfl, wt, ?_⟩ (((Fr.rf.sA (by simp)).sI (by simp)).sI (by simp))
    rw [dp, if_pos (Or.inl c)]; rfl
  · refine h _ ⟨hm.1, hm.2.1, hm.2.2.1, rfl, wt, ?_⟩ ((Fr.rf.sA (by simp)).sI (by simp))
    rw [dp, if_neg (by omega)]; exact hm.2.2.2.2.2
  · refine h _ ⟨hm.1, hm.2.1, hm.2.2.1, rfl, wt, ?_⟩ (((Fr.rf.sA (by simp)).sI (by simp)).sI (by simp))
    rw [dp, if_pos (Or.inr c1)]; rfl
theorem M_pop {d u : Nat} {S : List Int} {out : List NT} {a : Int} {P : PS} {R : List PS} {Q : Option AV → List PS → Prop} (ha : 20 ≤ a ∧ a < 30) (hm : MsM (a :: S) u out P) (hs : S.length < 299) (hl : out.length < 300) (h : ∀ P', MsM S u (out ++ [(a, 0)]) P' → Fr [80, 85, 86] [] [69, 70] [] P P' → Q none (P' :: R)) : Tri 267 (d + 1) [vR 0 0 0] (P :: R) Q := by
  refine enX12_pop ?_
  unfold fX12_pop_0
  have dl := dpS_le S
  have l1 : ((a :: S).length : Int) - 1 = (S.length : Nat) := by show ((S.length + 1 : Nat) : Int) - 1 = _; omega
  have e := hm.2.2.2.2.1 0 (by show 0 < S.length + 1; omega)
  have dp : dpS (a :: S) = dpS S + (if a = 30 ∨ a = 22 then 1 else 0) := rfl
  have wt : ∀ i, i < S.length → gA P 0 77 (S.length - 1 - i) = iI (S.getD i 0) := fun i hi => by
    have := hm.2.2.2.2.1 (i + 1) (by show i + 1 < S.length + 1; omega)
    rw [show (a :: S).length - 1 - (i + 1) = S.length - 1 - i by show S.length + 1 - 1 - (i + 1) = _; omega] at this
    exact this
  rw [show gI P 0 85 = _ from hm.2.2.2.1, show (1 : Int32) = iI 1 from rfl, iI_sub, l1, iI_cl (a := (S.length : Nat)) (by omega) (by omega), Int.toNat_natCast, show gA P 0 77 S.length = iI a from e, show (22 : Int32) = iI 22 from rfl, iI_eq (by omega) (by omega) (by omega) (by omega), show gI P 0 86 = _ from hm.2.2.2.2.2, iI_sub]
  have vp : vp_in (iI (S.length : Nat)) 300 := vpk (by omega) (by omega)
  refine ⟨vp, fun c => ⟨vp, ?_⟩, fun c => ⟨vp, ?_⟩⟩
  · have m1 : MsM S u out (sI P 0 85 (iI (S.length : Nat))) := ⟨hm.1, hm.2.1, hm.2.2.1, rfl, wt, by
      show gI P 0 86 = _
      rw [show gI P 0 86 = _ from hm.2.2.2.2.2, dp, if_neg (by omega)]; rfl⟩
    refine M_note (a := (a, 0)) rfl (fun g => absurd (show a = 0 from g) (by omega)) m1 hl (fun P' m2 f2 => ?_)
    dsimp only [hx1, rV]
    exact h P' m2 ((Fr.rf.sI (by simp)).trs (f2.mono (by simp) (by simp) (by simp) (by simp)))
  · have m1 : MsM S u out (sI (sI P 0 85 (iI (S.length : Nat))) 0 86 (iI ((dpS (a :: S) : Nat) - 1))) := ⟨hm.1, hm.2.1, hm.2.2.1, rfl, wt, by
      rw [gI_sI, if_pos rfl, if_pos rfl, dp, if_pos (Or.inr c)]
      refine congrArg iI ?_
      omega⟩
    refine M_note (a := (a, 0)) rfl (fun g => absurd (show a = 0 from g) (by omega)) m1 hl (fun P' m2 f2 => ?_)
    dsimp only [hx1, rV]
    exact h P' m2 (((Fr.rf.sI (by simp)).sI (by simp)).trs (f2.mono (by simp) (by simp) (by simp) (by simp)))

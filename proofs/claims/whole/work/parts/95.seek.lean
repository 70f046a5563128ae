/-! ===== the Model: NAMINGS are sought ===== -/
/-- the first n names of the row -/
def RwM (v : Nat → Nat) (n ns : Nat) (P : PS) : Prop := ∀ i, i < n → gA P 0 46 i = iI (v i : Nat) ∧ (v i = 32 ∨ v i < ns)
/-- all that the search stands on -/
def SkM (y : SY) (z k : Int) (p w A : Nat) (l : List SR) (f : Nat → Int) (P : PS) : Prop := LaM y z k p P ∧ LtK p w z (y.2.1 p) ∧ FOK f ∧ BoM l f P ∧ LeM (qX y z k f p) (qY y z k f p) l A P ∧ A ≤ 6 ∧ A ≤ nP y z k p
theorem SkM.fr {y : SY} {z k : Int} {p w A : Nat} {l : List SR} {f : Nat → Int} {P P' : PS} (h : SkM y z k p w A l f P) (hf : Fr [48] [] [46, 47] [] P P') : SkM y z k p w A l f P' :=
  ⟨h.1.fr hf (by simp) (by simp) (by simp) (by simp) (by simp) (by simp) (by simp) (by simp) (by simp) (by simp), h.2.1, h.2.2.1, h.2.2.2.1.fr hf (by simp) (by simp) (by simp) (by simp) (by simp), ⟨fun a b ha hb => by rw [hf.2.2.2.1 _ _ (by simp)]; exact h.2.2.2.2.1.1 a b ha hb, fun i j hi hj => by rw [hf.2.2.2.1 _ _ (by simp)]; exact h.2.2.2.2.1.2 i j hi hj⟩, h.2.2.2.2.2⟩
section SEEK
variable {d p w A : Nat} {y : SY} {z k : Int} {l : List SR} {f : Nat → Int} {P : PS} {R : List PS} {Q : Option AV → List PS → Prop}
theorem M_goes {i : Nat} {v : Nat → Nat} {x : Int32} (hx : x = iI (i : Nat)) (hS : SkM y z k p w A l f P) (hi : i < A) (hv : RwM v (i + 1) l.length P) (hy : okR (qX y z k f p) (qY y z k f p) l (f 4) i v → Q (some (vI (oI true))) (P :: R)) (hn : ¬ okR (qX y z k f p) (qY y z k f p) l (f 4) i v → Q (some (vI (oI false))) (P :: R)) : Tri 226 (d + 2) [vR 0 0 0, vI x] (P :: R) Q := by
  subst hx
  obtain ⟨hL, hK, hF, hB, hE, hA, hAP⟩ := hS
  have hl := hB.1.2.1
  have hX : ∀ i, i < A → (0 ≤ qX y z k f p i ∧ qX y z k f p i ≤ 1395) ∧ 0 ≤ qY y z k f p i ∧ qY y z k f p i ≤ 1395 := fun i hi => qX_bd hK hF (by omega)
  have vi := hv i (by omega)
  refine enX12_goes ?_
  unfold fX12_goes_0
  have e32 : ∀ q, q < i + 1 → (iI (v q : Nat) = 32 ↔ v q = 32) := fun q hq => by rw [show (32 : Int32) = iI 32 from rfl, iI_eq (by have := (hv q hq).2; omega) (by have := (hv q hq).2; omega) (by omega) (by omega)]; omega
  rw [iI_cl (a := (i : Nat)) (by omega) (by omega), Int.toNat_natCast, vi.1, e32 i (by omega)]
  refine ⟨vpk (by omega) (by omega), fun c => ?_, fun c => ⟨Or.inr rfl, hy (Or.inl c)⟩⟩
  have vlt : v i < l.length := vi.2.elim (fun g => absurd g c) id
  have vq6 : ∀ q, q < i → vp_in (iI (q : Nat)) 6 := fun q hq => vpk (by omega) (by omega)
  have inner : ∀ (q : Nat), q < i → v q < l.length → v q ≠ 32 → (∀ B : True, (∀ r, q < r → r < i → v r = 32 ∨ lieS (qX y z k f p) (qY y z k f p) l q r i (v q) (v r) (v i)) → cX12_goes_17 (0, 0, 0, 0) (d + 1) (iI (i : Nat)) (iI (v i : Nat)) (iI ((q + 1 : Nat))) P R Q) → ∀ (m r : Nat), r + m = i → q < r → (∀ r', q < r' → r' < r → v r' = 32 ∨ lieS (qX y z k f p) (qY y z k f p) l q r' i (v q) (v r') (v i)) → cX12_goes_69 (0, 0, 0, 0) (d + 1) (iI (i : Nat)) (iI (v i : Nat)) (iI (q : Nat)) (iI (r : Nat)) P R Q := by
    intro q hq vql vq32 out m
    induction m with
    | zero =>
      intro r hr hqr hall
      refine gX12_goes_69 ?_
      unfold fX12_goes_69
      rw [iI_le (by omega) (by omega) (by omega) (by omega), show iI (q : Nat) + 1 = iI ((q + 1 : Nat)) from iI_add (q : Nat) 1]
      exact ⟨fun _ => out trivial (fun r' h1 h2 => hall r' h1 (by omega)), fun g => absurd (by omega) g⟩
    | succ m ih =>
      intro r hr hqr hall
      have vr := hv r (by omega)
      refine gX12_goes_69 ?_
      unfold fX12_goes_69
      rw [iI_le (by omega) (by omega) (by omega) (by omega), iI_cl (a := (r : Nat)) (by omega) (by omega), iI_cl (a := (q : Nat)) (by omega) (by omega), Int.toNat_natCast, Int.toNat_natCast, vr.1, (hv q (by omega)).1, e32 r (by omega), show iI (r : Nat) + 1 = iI ((r + 1 : Nat)) from iI_add (r : Nat) 1]
      have next : (v r = 32 ∨ lieS (qX y z k f p) (qY y z k f p) l q r i (v q) (v r) (v i)) → cX12_goes_69 (0, 0, 0, 0) (d + 1) (iI (i : Nat)) (iI (v i : Nat)) (iI (q : Nat)) (iI ((r + 1 : Nat))) P R Q := fun g => ih (r + 1) (by omega) (by omega) (fun r' h1 h2 => by
        by_cases cr : r' = r
        · rw [cr]; exact g
        · exact hall r' h1 (by omega))
      refine ⟨fun g => absurd g (by omega), fun _ => ⟨vq6 r (by omega), fun g => next (Or.inl g), fun g => ⟨vq6 q hq, vq6 r (by omega), ?_⟩⟩⟩
      have vrl : v r < l.length := vr.2.elim (fun g' => absurd g' g) id
      refine M_lieAlike rfl rfl rfl rfl rfl rfl hL hK hF hB (by omega) (by omega) (by omega) vql vrl vlt (fun g1 => ?_) (fun g1 => ?_)
      · dsimp only [hx1, rI]
        exact ⟨fun _ => next (Or.inr g1), fun g2 => absurd g2 (by decide)⟩
      · dsimp only [hx1, rI]
        refine ⟨fun g2 => absurd rfl g2, fun _ => ⟨Or.inl rfl, hn (fun ho => ?_)⟩⟩
        rcases ho with ho | ho
        · exact c ho
        · rcases ho q hq with g3 | ⟨_, _, g3⟩
          · exact vq32 g3
          · rcases g3 r hqr (by omega) with g4 | g4
            · exact g g4
            · exact g1 g4
  have outer : ∀ (m q : Nat), q + m = i → (∀ q', q' < q → v q' = 32 ∨ (v q' ≠ v i ∧ fitS (qX y z k f p) (qY y z k f p) l (f 4) q' i (v q') (v i) ∧ ∀ r, q' < r → r < i → v r = 32 ∨ lieS (qX y z k f p) (qY y z k f p) l q' r i (v q') (v r) (v i))) → cX12_goes_17 (0, 0, 0, 0) (d + 1) (iI (i : Nat)) (iI (v i : Nat)) (iI (q : Nat)) P R Q := by
    intro m
    induction m with
    | zero =>
      intro q hq hall
      refine gX12_goes_17 ?_
      unfold fX12_goes_17
      rw [iI_le (by omega) (by omega) (by omega) (by omega)]
      exact ⟨fun _ => ⟨Or.inr rfl, hy (Or.inr (fun q' h1 => hall q' (by omega)))⟩, fun g => absurd (by omega) g⟩
    | succ m ih =>
      intro q hq hall
      have vq := hv q (by omega)
      refine gX12_goes_17 ?_
      unfold fX12_goes_17
      rw [iI_le (by omega) (by omega) (by omega) (by omega), iI_cl (a := (q : Nat)) (by omega) (by omega), Int.toNat_natCast, vq.1, e32 q (by omega), iI_eq (by have := vq.2; omega) (by have := vq.2; omega) (by omega) (by omega), show iI (q : Nat) + 1 = iI ((q + 1 : Nat)) from iI_add (q : Nat) 1]
      have next : _ → cX12_goes_17 (0, 0, 0, 0) (d + 1) (iI (i : Nat)) (iI (v i : Nat)) (iI ((q + 1 : Nat))) P R Q := fun (g : v q = 32 ∨ (v q ≠ v i ∧ fitS (qX y z k f p) (qY y z k f p) l (f 4) q i (v q) (v i) ∧ ∀ r, q < r → r < i → v r = 32 ∨ lieS (qX y z k f p) (qY y z k f p) l q r i (v q) (v r) (v i))) => ih (q + 1) (by omega) (fun q' h1 => by
        by_cases cr : q' = q
        · rw [cr]; exact g
        · exact hall q' (by omega))
      have v6 := vq6 q (by omega)
      refine ⟨fun g => absurd g (by omega), fun _ => ⟨v6, fun g => ?_, fun g => next (Or.inl g)⟩⟩
      have vql : v q < l.length := vq.2.elim (fun g' => absurd g' g) id
      refine ⟨v6, fun g1 => ⟨Or.inl rfl, hn (fun ho => ?_)⟩, fun g1 => ⟨v6, M_fit rfl rfl rfl rfl (by omega) hi hA vql vlt hB hF hX hE (fun g2 => ?_) (fun g2 => ?_)⟩⟩
      · rcases ho with ho | ho
        · exact c ho
        · rcases ho q (by omega) with g3 | ⟨g3, _⟩
          · exact g g3
          · exact g3 (by omega)
      · dsimp only [hx1, rI]
        refine ⟨fun _ => ?_, fun g3 => absurd g3 (by decide)⟩
        exact inner q (by omega) vql g (fun _ hall' => next (Or.inr ⟨by omega, g2, hall'⟩)) (i - (q + 1)) (q + 1) (by omega) (by omega) (fun r' h1 h2 => by omega)
      · dsimp only [hx1, rI]
        refine ⟨fun g3 => absurd rfl g3, fun _ => ⟨Or.inl rfl, hn (fun ho => ?_)⟩⟩
        rcases ho with ho | ho
        · exact c ho
        · rcases ho q (by omega) with g3 | ⟨_, g3, _⟩
          · exact g g3
          · exact g2 g3
  exact outer i 0 (by omega) (fun q' h => absurd h (Nat.not_lt_zero q'))
theorem M_unnamed {i ns : Nat} {v : Nat → Nat} {x : Int32} (hx : x = iI (i : Nat)) (hi : i < 6) (hns : ns ≤ 32) (hv : RwM v (i + 1) ns P) (h : Q (some (vI (iI (unC v (i + 1) : Nat)))) (P :: R)) : Tri 227 d [vR 0 0 0, vI x] (P :: R) Q := by
  subst hx
  refine enX12_unnamed ?_
  unfold fX12_unnamed_0
  have key : ∀ (m q : Nat), q + m = i + 1 → cX12_unnamed_4 (0, 0, 0, 0) d (iI (i : Nat)) (iI (unC v q : Nat)) (iI (q : Nat)) P R Q := by
    intro m
    induction m with
    | zero =>
      intro q hq
      refine gX12_unnamed_4 ?_
      unfold fX12_unnamed_4
      rw [iI_lt (by omega) (by omega) (by omega) (by omega)]
      refine ⟨fun _ => ?_, fun g => absurd (by omega) g⟩
      rw [show q = i + 1 by omega]; exact h
    | succ m ih =>
      intro q hq
      have vq := hv q (by omega)
      have st : unC v (q + 1) = unC v q + (if decide (v q = 32) = true then 1 else 0) := rfl
      have ih' := ih (q + 1) (by omega)
      rw [st] at ih'
      refine gX12_unnamed_4 ?_
      unfold fX12_unnamed_4
      rw [iI_lt (by omega) (by omega) (by omega) (by omega), iI_cl (a := (q : Nat)) (by omega) (by omega), Int.toNat_natCast, vq.1, show (32 : Int32) = iI 32 from rfl, iI_eq (by have := vq.2; omega) (by have := vq.2; omega) (by omega) (by omega), show iI (q : Nat) + 1 = iI ((q + 1 : Nat)) from iI_add (q : Nat) 1, show iI (unC v q : Nat) + 1 = iI ((unC v q + 1 : Nat)) from iI_add _ 1, show iI (unC v q : Nat) + 0 = iI (unC v q : Nat) from iI_add _ 0]
      refine ⟨fun g => absurd g (by omega), fun _ => ⟨vpk (by omega) (by omega), fun g => ?_, fun g => ?_⟩⟩
      · rw [decide_eq_false (by omega)] at ih'; exact ih'
      · rw [decide_eq_true (by omega)] at ih'; exact ih'
  exact key (i + 1) 0 (by omega)
theorem gd_l {F G : List (Nat → Nat)} {e : Nat} (h : e < F.length) (x : Nat → Nat) : (F ++ G).getD e x = F.getD e x := by simp [List.getD, List.getElem?_append_left h]
theorem gd_at (F : List (Nat → Nat)) (v x : Nat → Nat) : (F ++ [v]).getD F.length x = v := by simp [List.getD]
/-- the NAMINGS that were found -/
def NsM (A : Nat) (F : List (Nat → Nat)) (P : PS) : Prop := gI P 0 48 = iI (F.length : Nat) ∧ ∀ e q, e < F.length → q < 6 → gA P 0 47 (6 * e + q) = iI ((if q < A then (F.getD e (fun _ => 32)) q else 32 : Nat))
theorem M_record {v : Nat → Nat} {F : List (Nat → Nat)} {u x3 : Int32} (hA : A ≤ 6) (hF : F.length < 200) (hv : RwM v A l.length P) (hN : NsM A F P) (h : ∀ P', NsM A (F ++ [v]) P' → Fr [48] [] [47] [] P P' → cX12_seekNaming_14 (0, 0, 0, 0) d (iI (A : Nat)) u x3 P' R Q) : cX12_seekNaming_123 (0, 0, 0, 0) d (iI (A : Nat)) u x3 0 P R Q := by
  have key : ∀ (m q : Nat) (B : PS), q + m = 6 → Fr [] [] [47] [] P B → (∀ e q', e < F.length → q' < 6 → gA B 0 47 (6 * e + q') = iI ((if q' < A then (F.getD e (fun _ => 32)) q' else 32 : Nat))) → (∀ q', q' < q → gA B 0 47 (6 * F.length + q') = iI ((if q' < A then v q' else 32 : Nat))) → cX12_seekNaming_123 (0, 0, 0, 0) d (iI (A : Nat)) u x3 (iI (q : Nat)) B R Q := by
    intro m
    induction m with
    | zero =>
      intro q B hq fB o1 o2
      have gB : gI B 0 48 = iI (F.length : Nat) := by rw [fB.2.1 _ (by simp)]; exact hN.1
      refine gX12_seekNaming_123 ?_
      unfold fX12_seekNaming_123
      rw [gB, show (6 : Int32) = iI 6 from rfl, iI_le (by omega) (by omega) (by omega) (by omega), show iI (F.length : Nat) + 1 = iI ((F.length + 1 : Nat)) from iI_add _ 1]
      refine ⟨fun _ => h _ ⟨?_, fun e q' he hq' => ?_⟩ ((fB.mono (by simp) (by simp) (by simp) (by simp)).sI (by simp)), fun g => absurd (by omega) g⟩
      · rw [List.length_append]; rfl
      · show gA B 0 47 (6 * e + q') = _
        rw [List.length_append] at he
        by_cases ce : e < F.length
        · rw [o1 e q' ce hq', gd_l ce]
        · have ee : e = F.length := by simp at he; omega
          rw [ee, o2 q' (by omega)]
          rw [gd_at]
    | succ m ih =>
      intro q B hq fB o1 o2
      have gB : gI B 0 48 = iI (F.length : Nat) := by rw [fB.2.1 _ (by simp)]; exact hN.1
      have eo : (6 : Int32) * iI (F.length : Nat) + iI (q : Nat) = iI ((6 * F.length + q : Nat)) := by rw [show (6 : Int32) = iI 6 from rfl, iI_mul, iI_add]; congr 1
      refine gX12_seekNaming_123 ?_
      unfold fX12_seekNaming_123
      rw [gB, eo, show (6 : Int32) = iI 6 from rfl, iI_le (by omega) (by omega) (by omega) (by omega), iI_le (by omega) (by omega) (by omega) (by omega), iI_cl (a := ((6 * F.length + q : Nat) : Int)) (by omega) (by omega), iI_cl (a := (q : Nat)) (by omega) (by omega), Int.toNat_natCast, Int.toNat_natCast, show iI (q : Nat) + 1 = iI ((q + 1 : Nat)) from iI_add (q : Nat) 1]
      have vn : vp_in (iI ((6 * F.length + q : Nat))) 1200 := vpk (by omega) (by omega)
      have up : ∀ x : Int32, x = iI ((if q < A then v q else 32 : Nat)) → cX12_seekNaming_123 (0, 0, 0, 0) d (iI (A : Nat)) u x3 (iI ((q + 1 : Nat))) (sA B 0 47 (6 * F.length + q) x) R Q := fun x hx => ih (q + 1) _ (by omega) (fB.sA (by simp)) (fun e q' he hq' => by rw [gA_sA, if_pos rfl, if_pos rfl, if_neg (by omega)]; exact o1 e q' he hq') (fun q' hq' => by
        rw [gA_sA, if_pos rfl, if_pos rfl]
        by_cases c : q' = q
        · rw [if_pos (by omega), c]; exact hx
        · rw [if_neg (by omega)]; exact o2 q' (by omega))
      refine ⟨fun g => absurd g (by omega), fun _ => ⟨fun g => ⟨vn, up _ (by rw [if_neg (by omega)]; rfl)⟩, fun g => ⟨vpk (by omega) (by omega), vn, up _ ?_⟩⟩⟩
      rw [if_pos (by omega), fB.2.2.2.1 _ _ (by simp)]; exact (hv q (by omega)).1
  exact key 6 0 P (by omega) Fr.rf hN.2 (fun q' hq' => absurd hq' (Nat.not_lt_zero q'))
end SEEK

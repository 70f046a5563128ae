/-! ===== the Model: seekNaming, seekNamings ===== -/
theorem cat_pre {α : Type} (F : Nat → List α) {j : Nat} : ∀ n, j ≤ n → cat F j <+: cat F n
  | 0, h => by rw [show j = 0 by omega]; exact List.prefix_refl _
  | n + 1, h => by
    by_cases c : j = n + 1
    · rw [c]; exact List.prefix_refl _
    · exact (cat_pre F n (by omega)).trans (List.prefix_append _ _)
theorem unC_congr {v v' : Nat → Nat} {n : Nat} (h : ∀ q, q < n → v q = v' q) : unC v n = unC v' n := cnt_congr n (fun q hq => by rw [h q hq])
section SEEK2
variable {d p w A g : Nat} {y : SY} {z k : Int} {l : List SR} {f : Nat → Int} {PB : PS} {R : List PS} {Q : Option AV → List PS → Prop} {full : List (Nat → Nat)}
abbrev skF (P P' : PS) : Prop := Fr [48] [] [46, 47] [] P P'
/-- what comes of one name -/
noncomputable def one1 (X Y : Nat → Int) (l : List SR) (o : Int) (u m i : Nat) (v : Nat → Nat) (s : Nat) : List (Nat → Nat) := if dcd (unC (upN v i s) (i + 1) ≤ u ∧ okR X Y l o i (upN v i s)) = true then ext1 X Y l o u m (i + 1) (upN v i s) else []
theorem ext1_s (X Y : Nat → Int) (l : List SR) (o : Int) (u m i : Nat) (v : Nat → Nat) : ext1 X Y l o u (m + 1) i v = cat (one1 X Y l o u m i v) l.length ++ one1 X Y l o u m i v 32 := rfl
/-- behind a name that goes -/
def aftM (d A g i : Nat) (B : PS) (R : List PS) (Q : Option AV → List PS → Prop) : Prop := (iI (A : Nat) ≤ iI (i : Nat) + (1 : Int32) → Tri 227 (d + 2) [vR 0 0 0, vI (iI (i : Nat))] (B :: R) (fun r4 h4 => hx1 h4 fun P0_4 R_4 => rI r4 fun y4 => (y4 = iI (A : Nat) - iI (g : Nat) → cX12_seekNaming_123 (0, 0, 0, 0) (d + 2) (iI (A : Nat)) (iI (g : Nat)) (iI (i : Nat)) (0 : Int32) P0_4 R_4 Q) ∧ (¬ y4 = iI (A : Nat) - iI (g : Nat) → cX12_seekNaming_14 (0, 0, 0, 0) (d + 2) (iI (A : Nat)) (iI (g : Nat)) (iI (i : Nat)) P0_4 R_4 Q))) ∧ (¬ iI (A : Nat) ≤ iI (i : Nat) + (1 : Int32) → vp_in (iI (i : Nat) + (1 : Int32)) 6 ∧ cX12_seekNaming_14 (0, 0, 0, 0) (d + 2) (iI (A : Nat)) (iI (g : Nat)) (iI (i : Nat) + (1 : Int32)) (sA B 0 46 ((iI (i : Nat) + (1 : Int32)).toNatClampNeg) (-1 : Int32)) R Q)
theorem M_level {m i : Nat} {v : Nat → Nat} (hg : g ≤ A) (hA6 : A ≤ 6) (hSk : SkM y z k p w A l f PB) (hi : i + (m + 1) = A)
    (hnext : ∀ (s : Nat) (G : List (Nat → Nat)) (B : PS), (s = 32 ∨ s < l.length) → RwM (upN v i s) (i + 1) l.length B → NsM A G B → G.length < 200 → skF PB B → (G ++ ext1 (qX y z k f p) (qY y z k f p) l (f 4) (A - g) m (i + 1) (upN v i s)) <+: full → (∀ B', (G ++ ext1 (qX y z k f p) (qY y z k f p) l (f 4) (A - g) m (i + 1) (upN v i s)).length < 200 → NsM A (G ++ ext1 (qX y z k f p) (qY y z k f p) l (f 4) (A - g) m (i + 1) (upN v i s)) B' → RwM (upN v i s) (i + 1) l.length B' → skF PB B' → cX12_seekNaming_14 (0, 0, 0, 0) (d + 2) (iI (A : Nat)) (iI (g : Nat)) (iI (i : Nat)) B' R Q) → aftM d A g i B R Q)
    (F : List (Nat → Nat)) (B : PS) (rB : RwM v i l.length B) (r0 : gA B 0 46 i = iI (-1)) (nB : NsM A F B) (lF : F.length < 200) (fB : skF PB B) (pre : (F ++ ext1 (qX y z k f p) (qY y z k f p) l (f 4) (A - g) (m + 1) i v) <+: full)
    (done : ∀ B', (F ++ ext1 (qX y z k f p) (qY y z k f p) l (f 4) (A - g) (m + 1) i v).length < 200 → NsM A (F ++ ext1 (qX y z k f p) (qY y z k f p) l (f 4) (A - g) (m + 1) i v) B' → RwM v i l.length B' → skF PB B' → cX12_seekNaming_14 (0, 0, 0, 0) (d + 2) (iI (A : Nat)) (iI (g : Nat)) (iI ((i : Int) - 1)) B' R Q) :
    cX12_seekNaming_14 (0, 0, 0, 0) (d + 2) (iI (A : Nat)) (iI (g : Nat)) (iI (i : Nat)) B R Q := by
  have hl := hSk.2.2.2.1.1.2.1
  have vi6 : vp_in (iI (i : Nat)) 6 := vpk (by omega) (by omega)
  have hns : ∀ {B'}, skF PB B' → gI B' 0 22 = iI (l.length : Nat) := fun fb => (hSk.fr fb).2.2.2.1.1.1
  rw [ext1_s] at pre done
  generalize hone : one1 (qX y z k f p) (qY y z k f p) l (f 4) (A - g) m i v = F1 at *
  have hone' : ∀ s, F1 s = if dcd (unC (upN v i s) (i + 1) ≤ A - g ∧ okR (qX y z k f p) (qY y z k f p) l (f 4) i (upN v i s)) = true then ext1 (qX y z k f p) (qY y z k f p) l (f 4) (A - g) m (i + 1) (upN v i s) else [] := fun s => by rw [← hone]; rfl
  -- one name is tried
  have cand : ∀ (s : Nat) (G : List (Nat → Nat)) (B : PS), (s = 32 ∨ s < l.length) → RwM v i l.length B → gA B 0 46 i = iI (s : Nat) → NsM A G B → G.length < 200 → skF PB B → (G ++ F1 s) <+: full → (∀ B', (G ++ F1 s).length < 200 → NsM A (G ++ F1 s) B' → RwM v i l.length B' → gA B' 0 46 i = iI (s : Nat) → skF PB B' → cX12_seekNaming_14 (0, 0, 0, 0) (d + 2) (iI (A : Nat)) (iI (g : Nat)) (iI (i : Nat)) B' R Q) →
      Tri 227 (d + 2) [vR 0 0 0, vI (iI (i : Nat))] (B :: R) (fun r2 h2 => hx1 h2 fun P0_2 R_2 => rI r2 fun y2 => ((iI (A : Nat) - iI (g : Nat)) < y2 → cX12_seekNaming_14 (0, 0, 0, 0) (d + 2) (iI (A : Nat)) (iI (g : Nat)) (iI (i : Nat)) P0_2 R_2 Q) ∧ (¬ (iI (A : Nat) - iI (g : Nat)) < y2 → Tri 226 (d + 2) [vR 0 0 0, vI (iI (i : Nat))] (P0_2 :: R_2) (fun r3 h3 => hx1 h3 fun P0_3 R_3 => rI r3 fun y3 => (¬ y3 = 0 → aftM d A g i P0_3 R_3 Q) ∧ (y3 = 0 → cX12_seekNaming_14 (0, 0, 0, 0) (d + 2) (iI (A : Nat)) (iI (g : Nat)) (iI (i : Nat)) P0_3 R_3 Q)))) := by
    intro s G B hs rB' rs nB' lG fB' preG next
    have RW : RwM (upN v i s) (i + 1) l.length B := fun q hq => by
      unfold upN
      by_cases c : q = i
      · rw [if_pos c, c]; exact ⟨rs, by omega⟩
      · rw [if_neg c]; exact rB' q (by omega)
    have back : ∀ {B'}, RwM (upN v i s) (i + 1) l.length B' → RwM v i l.length B' ∧ gA B' 0 46 i = iI (s : Nat) := fun hw => ⟨fun q hq => by
      have := hw q (by omega)
      unfold upN at this
      rw [if_neg (by omega)] at this; exact this, by
      have := (hw i (by omega)).1
      unfold upN at this
      rw [if_pos rfl] at this; exact this⟩
    have nil : F1 s = [] → cX12_seekNaming_14 (0, 0, 0, 0) (d + 2) (iI (A : Nat)) (iI (g : Nat)) (iI (i : Nat)) B R Q := fun e => by
      refine next B ?_ ?_ rB' rs fB'
      · rw [e, List.append_nil]; exact lG
      · rw [e, List.append_nil]; exact nB'
    have ule : unC (upN v i s) (i + 1) ≤ i + 1 := cnt_le _ _
    refine M_unnamed rfl (by omega) hl RW ?_
    dsimp only [hx1, rI]
    rw [iI_sub, iI_lt (by omega) (by omega) (by omega) (by omega)]
    refine ⟨fun c => nil ?_, fun c => M_goes rfl (hSk.fr fB') (by omega) RW (fun ho => ?_) (fun ho => ?_)⟩
    · rw [hone', if_neg (fun q => by have := (dcd_t.mp q).1; omega)]
    · dsimp only [hx1, rI]
      refine ⟨fun _ => ?_, fun c1 => absurd c1 (by decide)⟩
      have e : F1 s = ext1 (qX y z k f p) (qY y z k f p) l (f 4) (A - g) m (i + 1) (upN v i s) := by rw [hone', if_pos (dcd_t.mpr ⟨by omega, ho⟩)]
      rw [e] at preG next
      exact hnext s G B hs RW nB' lG fB' preG (fun B' h1 h2 h3 h4 => next B' h1 h2 (back h3).1 (back h3).2 h4)
    · dsimp only [hx1, rI]
      refine ⟨fun c1 => absurd rfl c1, fun _ => nil ?_⟩
      rw [hone', if_neg (fun q => ho (dcd_t.mp q).2)]
  -- behind the last one
  have last : ∀ (B : PS), (F ++ (cat F1 l.length ++ F1 32)).length < 200 → NsM A (F ++ (cat F1 l.length ++ F1 32)) B → RwM v i l.length B → gA B 0 46 i = iI ((32 : Nat) : Int) → skF PB B → cX12_seekNaming_14 (0, 0, 0, 0) (d + 2) (iI (A : Nat)) (iI (g : Nat)) (iI (i : Nat)) B R Q := by
    intro B h1 h2 h3 h4 h5
    refine gX12_seekNaming_14 ?_
    unfold fX12_seekNaming_14
    rw [show (0 : Int32) = iI 0 from rfl, iI_lt (by omega) (by omega) (by omega) (by omega), h2.1, show (200 : Int32) = iI 200 from rfl, iI_le (by omega) (by omega) (by omega) (by omega), iI_cl (a := (i : Nat)) (by omega) (by omega), Int.toNat_natCast, h4, hns h5]
    refine ⟨fun c => absurd c (by omega), fun _ => ⟨fun c => absurd c (by omega), fun _ => ⟨vi6, enX12_following ?_⟩⟩⟩
    unfold fX12_following_0
    rw [show iI ((32 : Nat) : Int) + 1 = iI 33 from rfl, iI_le (by omega) (by omega) (by omega) (by omega)]
    refine ⟨fun _ => ⟨fun _ => ?_, fun c => absurd (by decide) c⟩, fun c => absurd (by omega) c⟩
    dsimp only [hx1, rI]
    rw [gA_sA, if_pos rfl, if_pos rfl, if_pos rfl]
    refine ⟨vi6, vi6, fun c => absurd c (by decide), fun _ => ?_⟩
    rw [show iI (i : Nat) + -1 = iI ((i : Int) - 1) by rw [show (-1 : Int32) = iI (-1) from rfl, iI_add]; refine congrArg iI ?_; omega]
    refine done _ h1 ⟨h2.1, h2.2⟩ (fun q hq => ?_) (h5.sA (by simp))
    rw [gA_sA, if_pos rfl, if_pos rfl, if_neg (by omega)]; exact h3 q hq
  -- the stars, one after the other
  have stars : ∀ (n j : Nat) (B : PS), j + n = l.length → (F ++ cat F1 j).length < 200 → NsM A (F ++ cat F1 j) B → RwM v i l.length B → gA B 0 46 i = iI ((j : Int) - 1) → skF PB B → cX12_seekNaming_14 (0, 0, 0, 0) (d + 2) (iI (A : Nat)) (iI (g : Nat)) (iI (i : Nat)) B R Q := by
    intro n
    induction n with
    | zero =>
      intro j B hj h1 h2 h3 h4 h5
      refine gX12_seekNaming_14 ?_
      unfold fX12_seekNaming_14
      rw [show (0 : Int32) = iI 0 from rfl, iI_lt (by omega) (by omega) (by omega) (by omega), h2.1, show (200 : Int32) = iI 200 from rfl, iI_le (by omega) (by omega) (by omega) (by omega), iI_cl (a := (i : Nat)) (by omega) (by omega), Int.toNat_natCast, h4, hns h5]
      refine ⟨fun c => absurd c (by omega), fun _ => ⟨fun c => absurd c (by omega), fun _ => ⟨vi6, enX12_following ?_⟩⟩⟩
      unfold fX12_following_0
      rw [show iI ((j : Int) - 1) + 1 = iI (j : Nat) by rw [show (1 : Int32) = iI 1 from rfl, iI_add]; refine congrArg iI ?_; omega, iI_le (by omega) (by omega) (by omega) (by omega), show (32 : Int32) = iI 32 from rfl, iI_le (by omega) (by omega) (by omega) (by omega)]
      refine ⟨fun _ => ⟨fun c => absurd c (by omega), fun _ => ?_⟩, fun c => absurd (by omega) c⟩
      dsimp only [hx1, rI]
      rw [gA_sA, if_pos rfl, if_pos rfl, if_pos rfl]
      refine ⟨vi6, vi6, fun _ => ?_, fun c => absurd (Int32.le_refl _) c⟩
      have ej : j = l.length := by omega
      subst ej
      have c32 := cand 32 (F ++ cat F1 l.length) (sA B 0 46 i (iI ((32 : Nat) : Int))) (Or.inl rfl) (fun q hq => by rw [gA_sA, if_pos rfl, if_pos rfl, if_neg (by omega)]; exact h3 q hq) (by rw [gA_sA, if_pos rfl, if_pos rfl, if_pos rfl]) ⟨h2.1, h2.2⟩ h1 (h5.sA (by simp)) (by rw [List.append_assoc]; exact pre) (fun B' q1 q2 q3 q4 q5 => last B' (by rw [← List.append_assoc]; exact q1) (by rw [← List.append_assoc]; exact q2) q3 q4 q5)
      exact c32
    | succ n ih =>
      intro j B hj h1 h2 h3 h4 h5
      refine gX12_seekNaming_14 ?_
      unfold fX12_seekNaming_14
      rw [show (0 : Int32) = iI 0 from rfl, iI_lt (by omega) (by omega) (by omega) (by omega), h2.1, show (200 : Int32) = iI 200 from rfl, iI_le (by omega) (by omega) (by omega) (by omega), iI_cl (a := (i : Nat)) (by omega) (by omega), Int.toNat_natCast, h4, hns h5]
      refine ⟨fun c => absurd c (by omega), fun _ => ⟨fun c => absurd c (by omega), fun _ => ⟨vi6, enX12_following ?_⟩⟩⟩
      unfold fX12_following_0
      rw [show iI ((j : Int) - 1) + 1 = iI (j : Nat) by rw [show (1 : Int32) = iI 1 from rfl, iI_add]; refine congrArg iI ?_; omega, iI_le (by omega) (by omega) (by omega) (by omega)]
      refine ⟨fun c => absurd c (by omega), fun _ => ?_⟩
      dsimp only [hx1, rI]
      rw [gA_sA, if_pos rfl, if_pos rfl, if_pos rfl]
      refine ⟨vi6, vi6, fun _ => ?_, fun c => ?_⟩
      · have pj : (F ++ cat F1 j ++ F1 j) <+: full := by
          have p1 : cat F1 (j + 1) <+: cat F1 l.length := cat_pre F1 l.length (by omega)
          have p2 : (F ++ cat F1 (j + 1)) <+: (F ++ (cat F1 l.length ++ F1 32)) := (List.prefix_append_right_inj F).mpr (p1.trans (List.prefix_append _ _))
          rw [List.append_assoc]
          exact p2.trans pre
        exact cand j (F ++ cat F1 j) (sA B 0 46 i (iI (j : Nat))) (Or.inr (by omega)) (fun q hq => by rw [gA_sA, if_pos rfl, if_pos rfl, if_neg (by omega)]; exact h3 q hq) (by rw [gA_sA, if_pos rfl, if_pos rfl, if_pos rfl]) ⟨h2.1, h2.2⟩ h1 (h5.sA (by simp)) pj (fun B' q1 q2 q3 q4 q5 => ih (j + 1) B' (by omega) (by show (F ++ (cat F1 j ++ F1 j)).length < 200; rw [← List.append_assoc]; exact q1) (by show NsM A (F ++ (cat F1 j ++ F1 j)) B'; rw [← List.append_assoc]; exact q2) q3 (by rw [q4]; refine congrArg iI ?_; omega) q5)
      · rw [show (32 : Int32) = iI 32 from rfl, iI_le (by omega) (by omega) (by omega) (by omega)] at c; omega
  refine stars l.length 0 B (by omega) ?_ ?_ rB (by rw [r0]; rfl) fB
  · show (F ++ []).length < 200
    rw [List.append_nil]; exact lF
  · show NsM A (F ++ []) B
    rw [List.append_nil]; exact nB
theorem M_seek14 (hg : g ≤ A) (hA6 : A ≤ 6) (hSk : SkM y z k p w A l f PB)
    (Kfull : ∀ C B, C.length = 200 → C <+: full → NsM A C B → skF PB B → Q none (B :: R)) : ∀ (m i : Nat) (v : Nat → Nat) (F : List (Nat → Nat)) (B : PS), i + (m + 1) = A → RwM v i l.length B → gA B 0 46 i = iI (-1) → NsM A F B → F.length < 200 → skF PB B → (F ++ ext1 (qX y z k f p) (qY y z k f p) l (f 4) (A - g) (m + 1) i v) <+: full →
    (∀ B', (F ++ ext1 (qX y z k f p) (qY y z k f p) l (f 4) (A - g) (m + 1) i v).length < 200 → NsM A (F ++ ext1 (qX y z k f p) (qY y z k f p) l (f 4) (A - g) (m + 1) i v) B' → RwM v i l.length B' → skF PB B' → cX12_seekNaming_14 (0, 0, 0, 0) (d + 2) (iI (A : Nat)) (iI (g : Nat)) (iI ((i : Int) - 1)) B' R Q) →
    cX12_seekNaming_14 (0, 0, 0, 0) (d + 2) (iI (A : Nat)) (iI (g : Nat)) (iI (i : Nat)) B R Q := by
  have hl := hSk.2.2.2.1.1.2.1
  intro m
  induction m with
  | zero =>
    intro i v F B hi rB r0 nB lF fB pre done
    refine M_level (m := 0) hg hA6 hSk hi (fun s G B hs RW nG lG fG preG next => ?_) F B rB r0 nB lF fB pre done
    unfold aftM
    have ei : iI (i : Nat) + 1 = iI ((i + 1 : Nat)) := iI_add (i : Nat) 1
    have ule : unC (upN v i s) (i + 1) ≤ i + 1 := cnt_le _ _
    rw [ei, iI_le (by omega) (by omega) (by omega) (by omega)]
    refine ⟨fun _ => M_unnamed rfl (by omega) hl RW ?_, fun c => absurd (by omega) c⟩
    dsimp only [hx1, rI]
    rw [iI_sub, iI_eq (by omega) (by omega) (by omega) (by omega)]
    have e0 : ext1 (qX y z k f p) (qY y z k f p) l (f 4) (A - g) 0 (i + 1) (upN v i s) = if unC (upN v i s) (i + 1) = A - g then [upN v i s] else [] := rfl
    rw [e0] at preG next
    refine ⟨fun c => ?_, fun c => ?_⟩
    · rw [if_pos (by omega)] at preG next
      refine M_record hA6 lG (by rw [show A = i + 1 by omega]; exact RW) nG (fun B' nB' fB' => ?_)
      have fb : skF PB B' := fG.trs (fB'.mono (by simp) (by simp) (by simp) (by simp))
      have len : (G ++ [upN v i s]).length = G.length + 1 := by rw [List.length_append]; rfl
      by_cases c2 : G.length + 1 < 200
      · exact next B' (by omega) nB' (fun q hq => by rw [fB'.2.2.2.1 _ _ (by simp)]; exact RW q hq) fb
      · refine gX12_seekNaming_14 ?_
        unfold fX12_seekNaming_14
        have fin := Kfull _ B' (by omega) preG nB' fb
        rw [nB'.1, len]
        refine ⟨fun _ => fin, fun _ => ⟨fun _ => fin, fun c3 => ?_⟩⟩
        rw [show (200 : Int32) = iI 200 from rfl, iI_le (by omega) (by omega) (by omega) (by omega)] at c3; omega
    · rw [if_neg (by omega), List.append_nil] at next
      exact next B lG nG RW fG
  | succ m ihm =>
    intro i v F B hi rB r0 nB lF fB pre done
    refine M_level (m := m + 1) hg hA6 hSk hi (fun s G B hs RW nG lG fG preG next => ?_) F B rB r0 nB lF fB pre done
    unfold aftM
    have ei : iI (i : Nat) + 1 = iI ((i + 1 : Nat)) := iI_add (i : Nat) 1
    rw [ei, iI_le (by omega) (by omega) (by omega) (by omega), iI_cl (a := ((i + 1 : Nat) : Int)) (by omega) (by omega), Int.toNat_natCast]
    refine ⟨fun c => absurd c (by omega), fun _ => ⟨vpk (by omega) (by omega), ?_⟩⟩
    refine ihm (i + 1) (upN v i s) G _ (by omega) (fun q hq => ?_) ?_ ⟨nG.1, nG.2⟩ lG (fG.sA (by simp)) preG (fun B' h1 h2 h3 h4 => ?_)
    · rw [gA_sA, if_pos rfl, if_pos rfl, if_neg (by omega)]; exact RW q hq
    · rw [gA_sA, if_pos rfl, if_pos rfl, if_pos rfl]; rfl
    · rw [show ((i + 1 : Nat) : Int) - 1 = (i : Nat) by omega]
      exact next B' h1 h2 h3 h4
theorem M_seekNaming {x1 x2 : Int32} (e1 : x1 = iI (A : Nat)) (e2 : x2 = iI (g : Nat)) (hg : g ≤ A) (hA1 : 1 ≤ A) (hA6 : A ≤ 6) (hSk : SkM y z k p w A l f PB) (h : ∀ B, NsM A (nmg (qX y z k f p) (qY y z k f p) l (f 4) A g) B → skF PB B → Q none (B :: R)) : Tri 229 (d + 3) [vR 0 0 0, vI x1, vI x2] (PB :: R) Q := by
  subst e1 e2
  refine enX12_seekNaming ?_
  unfold fX12_seekNaming_0
  refine ⟨vpk (k := 0) (by omega) (by omega), ?_⟩
  have f0 : skF PB (sA (sI PB 0 48 0) 0 46 ((0 : Int32).toNatClampNeg) (-1)) := (Fr.rf.sI (by simp)).sA (by simp)
  obtain ⟨m, rfl⟩ : ∃ m, A = m + 1 := ⟨A - 1, by omega⟩
  refine M_seek14 (full := ext1 (qX y z k f p) (qY y z k f p) l (f 4) (m + 1 - g) (m + 1) 0 (fun _ => 32)) hg hA6 hSk (fun C B hC pre nB fB => ?_) m 0 (fun _ => 32) [] _ (by omega) (fun q hq => absurd hq (Nat.not_lt_zero q)) rfl ⟨rfl, fun e q he => absurd he (Nat.not_lt_zero e)⟩ (by decide) f0 (List.prefix_refl _) (fun B h1 h2 h3 h4 => ?_)
  · refine h B ?_ fB
    have e : nmg (qX y z k f p) (qY y z k f p) l (f 4) (m + 1) g = C := by
      unfold nmg
      obtain ⟨T, hT⟩ := pre
      rw [← hT, ← hC, List.take_left']
      rfl
    rw [e]; exact nB
  · refine gX12_seekNaming_14 ?_
    unfold fX12_seekNaming_14
    refine ⟨fun _ => h B ?_ h4, fun c => absurd (by decide) c⟩
    have e : nmg (qX y z k f p) (qY y z k f p) l (f 4) (m + 1) g = ext1 (qX y z k f p) (qY y z k f p) l (f 4) (m + 1 - g) (m + 1) 0 (fun _ => 32) := by
      unfold nmg
      exact List.take_of_length_le (by rw [List.nil_append] at h1; omega)
    rw [e]; exact h2
end SEEK2

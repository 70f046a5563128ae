/-! ===== soundness of one step ===== -/
theorem gw_good {w : Cond} (h : w ∈ GW) : (w.onTables && w.keeps) = true ∨ ∃ ty, w = .arrayClass ty := good_of_word (List.mem_filter.mp h).2
theorem lay_of {C : String} {T : u_T} {N : Nat} {L : List Nat} (hl : L.length = N) (h : ((List.range N).zip L).all (fun q => wGW q.2 (u_lay C T q.1)) = true) : ∀ w ∈ u_ws C T N, w ∈ GW := by
  intro w hw
  obtain ⟨k, hk, rfl⟩ := List.mem_map.mp hw
  have hk := List.mem_range.mp hk
  refine wGW_ok (i := L[k]'(by omega)) (List.all_eq_true.mp h (k, L[k]'(by omega)) ?_)
  rw [List.mem_iff_getElem]
  exact ⟨k, by simp; omega, by simp⟩
def clP (c : Nat) : Prop := zcl[c]? = some (rn c, tX c, nf c) ∧ (∀ w ∈ u_ws (rn c) (tX c) (nf c), w ∈ GW) ∧ (∀ k, k < nf c → parseFieldDescriptor (tX c k).2.2.1 = some (tyz c k)) ∧ (∀ a, a < nf c → ∀ b, b < nf c → a ≠ b → (tX c a).2.1 ≠ (tX c b).2.1)
theorem cl_0 : clP 0 := ⟨rfl, lay_of (L := lix_0) rfl lw_0, tyX12_ok, nmX12⟩
theorem cl_1 : clP 1 := ⟨rfl, lay_of (L := lix_1) rfl lw_1, tyX9_ok, nmX9⟩
theorem cl_2 : clP 2 := ⟨rfl, lay_of (L := lix_2) rfl lw_2, tyX0_ok, nmX0⟩
theorem cl_3 : clP 3 := ⟨rfl, lay_of (L := lix_3) rfl lw_3, tyX3_ok, nmX3⟩
theorem cl_4 : clP 4 := ⟨rfl, lay_of (L := lix_4) rfl lw_4, tyX5_ok, nmX5⟩
theorem cl_5 : clP 5 := ⟨rfl, lay_of (L := lix_5) rfl lw_5, tyX8_ok, nmX8⟩
theorem cl_6 : clP 6 := ⟨rfl, lay_of (L := lix_6) rfl lw_6, tyX7_ok, nmX7⟩
theorem cl_7 : clP 7 := ⟨rfl, lay_of (L := lix_7) rfl lw_7, tyX10_ok, nmX10⟩
theorem cl_8 : clP 8 := ⟨rfl, lay_of (L := lix_8) rfl lw_8, tyX2_ok, nmX2⟩
theorem cl_9 : clP 9 := ⟨rfl, lay_of (L := lix_9) rfl lw_9, tyX4_ok, nmX4⟩
theorem cl_10 : clP 10 := ⟨rfl, lay_of (L := lix_10) rfl lw_10, tyX1_ok, nmX1⟩
theorem cl_11 : clP 11 := ⟨rfl, lay_of (L := lix_11) rfl lw_11, tyX6_ok, nmX6⟩
theorem cl_12 : clP 12 := ⟨rfl, lay_of (L := lix_12) rfl lw_12, tyX11_ok, nmX11⟩
theorem clF {c : Nat} (h : c < 13) : clP c := by
  match c, h with
  | 0, _ => exact cl_0
  | 1, _ => exact cl_1
  | 2, _ => exact cl_2
  | 3, _ => exact cl_3
  | 4, _ => exact cl_4
  | 5, _ => exact cl_5
  | 6, _ => exact cl_6
  | 7, _ => exact cl_7
  | 8, _ => exact cl_8
  | 9, _ => exact cl_9
  | 10, _ => exact cl_10
  | 11, _ => exact cl_11
  | 12, _ => exact cl_12
def ktb (k : Nat) (ty : FieldType) : Bool := match k, ty with
  | 0, .int => true
  | 1, .long => true
  | 2, .boolean => true
  | 3, .array .int => true
  | 4, .array .long => true
  | 5, .array .byte => true
  | 6, .array .boolean => true
  | 7, .object _ => true
  | 8, .array (.object _) => true
  | 9, .object _ => true
  | _, _ => false
theorem kt_ck : ((List.range 13).all fun c => (List.range (nf c)).all fun a => ktb (ly c a).1 (tyz c a)) = true := by decide +kernel
theorem kt_of {c a : Nat} (hc : c < 13) (ha : a < nf c) : ktb (ly c a).1 (tyz c a) = true :=
  List.all_eq_true.mp (List.all_eq_true.mp kt_ck c (List.mem_range.mpr hc)) a (List.mem_range.mpr ha)
/-! lists of pools -/
theorem hp_set {hs : List PS} {c c' : Nat} {P : PS} (hc : c < hs.length) : hp (hs.set c P) c' = if c' = c then P else hp hs c' := by
  unfold hp
  rw [List.getD_eq_getElem?_getD, List.getD_eq_getElem?_getD, List.getElem?_set]
  by_cases h : c' = c
  · subst h; simp [hc]
  · rw [if_neg (fun e => h e.symm), if_neg h]
theorem cn_set {hs : List PS} {c : Nat} {P : PS} (hc : c < hs.length) (hg : gN P = cn hs c) (c' : Nat) : cn (hs.set c P) c' = cn hs c' := by
  unfold cn
  rw [hp_set hc]
  by_cases h : c' = c
  · subst h; rw [if_pos rfl]; exact hg
  · rw [if_neg h]
theorem vc_cn {hs hs' : List PS} (h : ∀ c, cn hs' c = cn hs c) (c j a : Nat) : vc hs' c j a ↔ vc hs c j a := by
  cases a <;> simp only [vc, h]
theorem vc_le {hs hs' : List PS} (h : ∀ c, cn hs c ≤ cn hs' c) {c j a : Nat} (hv : vc hs c j a) : vc hs' c j a := by
  cases a with
  | zero => exact ⟨hv.1, Nat.lt_of_lt_of_le hv.2 (h c)⟩
  | succ a => exact ⟨⟨hv.1.1, Nat.lt_of_lt_of_le hv.1.2 (h c)⟩, hv.2⟩
theorem vc_lt {hs : List PS} {c j a : Nat} (hv : vc hs c j a) : c < 13 ∧ j < cn hs c := by
  cases a with
  | zero => exact hv
  | succ a => exact hv.1
theorem vv_cn {hs hs' : List PS} (h : ∀ c, cn hs' c = cn hs c) {v : AV} (hv : vv hs v) : vv hs' v := by
  match v, hv with
  | .inl _, _ => trivial
  | .inr (.inl _), _ => trivial
  | .inr (.inr none), _ => trivial
  | .inr (.inr (some (c, j, a))), hv => exact (vc_cn h c j a).mpr hv
theorem vv_le {hs hs' : List PS} (h : ∀ c, cn hs c ≤ cn hs' c) {v : AV} (hv : vv hs v) : vv hs' v := by
  match v, hv with
  | .inl _, _ => trivial
  | .inr (.inl _), _ => trivial
  | .inr (.inr none), _ => trivial
  | .inr (.inr (some (c, j, a))), hv => exact vc_le h hv
theorem wf_set {hs : List PS} {c : Nat} {P : PS} (hw : wf hs) (hc : c < 13) (hg : gN P = cn hs c)
    (hO : ∀ j a, j < cn hs c → a < nf c → (ly c a).1 = 7 → ∀ k, gO P j a = some k → vc hs (ly c a).2 k 0)
    (hR : ∀ j a i, j < cn hs c → a < nf c → (ly c a).1 = 8 → ∀ k, gR P j a i = some k → vc hs ((ly c a).2 % 100) k 0) : wf (hs.set c P) := by
  have hl : c < hs.length := by rw [hw.1]; exact hc
  have hcn := cn_set (P := P) hl hg
  refine ⟨by rw [List.length_set]; exact hw.1, fun c' j h1 h2 a ha => ?_⟩
  rw [hcn] at h2
  rw [hp_set hl]
  by_cases e : c' = c
  · subst e
    rw [if_pos rfl]
    exact ⟨fun hk k hq => (vc_cn hcn _ _ _).mpr (hO j a h2 ha hk k hq), fun hk i k hq => (vc_cn hcn _ _ _).mpr (hR j a i h2 ha hk k hq), fun hk => (vc_cn hcn _ _ _).mpr ((hw.2 c' j h1 h2 a ha).2.2 hk)⟩
  · rw [if_neg e]
    obtain ⟨g1, g2, g3⟩ := hw.2 c' j h1 h2 a ha
    exact ⟨fun hk k hq => (vc_cn hcn _ _ _).mpr (g1 hk k hq), fun hk i k hq => (vc_cn hcn _ _ _).mpr (g2 hk i k hq), fun hk => (vc_cn hcn _ _ _).mpr (g3 hk)⟩
/-- fields and arrays that aren't references change -/
theorem wf_same {hs : List PS} {c : Nat} {P : PS} (hw : wf hs) (hc : c < 13) (hg : gN P = cn hs c) (hO : gO P = gO (hp hs c)) (hR : gR P = gR (hp hs c)) : wf (hs.set c P) :=
  wf_set hw hc hg (fun j a h1 h2 hk k hq => (hw.2 c j hc h1 a h2).1 hk k (by rw [← hO]; exact hq)) (fun j a i h1 h2 hk k hq => (hw.2 c j hc h1 a h2).2.1 hk i k (by rw [← hR]; exact hq))
/-- one cell has changed -/
theorem RelH.upd {D : va_G} {aC : Nat → ClassId} {ρ : Nat → Nat → Nat → Nat} {hs hs' : List PS} {H H' : Heap} (h : RelH D aC ρ hs H) (hcn : ∀ c, cn hs' c = cn hs c) {c0 j0 a0 : Nat} (hv : vc hs c0 j0 a0)
    (hoth : ∀ c j a, vc hs c j a → ¬ (c = c0 ∧ j = j0 ∧ a = a0) → ce aC ρ hs' c j a = ce aC ρ hs c j a) (hnew : ∀ e, ce aC ρ hs' c0 j0 a0 = some e → va_at D zcl (ρ c0 j0 a0, e) H') (hk : ∀ q, q ≠ ρ c0 j0 a0 → H'[q]? = H[q]?) : RelH D aC ρ hs' H' := by
  refine ⟨fun c j a e h1 h2 => ?_, fun c j a c' j' a' h1 h2 => h.2 c j a c' j' a' ((vc_cn hcn _ _ _).mp h1) ((vc_cn hcn _ _ _).mp h2)⟩
  have h1 := (vc_cn hcn _ _ _).mp h1
  by_cases hq : c = c0 ∧ j = j0 ∧ a = a0
  · obtain ⟨rfl, rfl, rfl⟩ := hq
    exact hnew e h2
  · rw [hoth c j a h1 hq] at h2
    exact (h.1 c j a e h1 h2).kept (hk _ fun e => hq (h.2 _ _ _ _ _ _ h1 hv e))
theorem fv_get {ρ : Nat → Nat → Nat → Nat} {c j a : Nat} {P : PS} (h : a < nf c) : (fv ρ c j P)[a]? = some (fval ρ c j P a) := by
  simp [fv, h]
theorem fv_len {ρ : Nat → Nat → Nat → Nat} {c j : Nat} {P : PS} : (fv ρ c j P).length = nf c := by simp [fv]
theorem fv_set {ρ : Nat → Nat → Nat → Nat} {c j a : Nat} {P P' : PS} {v : Value} (h : ∀ b, b < nf c → fval ρ c j P' b = if b = a then v else fval ρ c j P b) : fv ρ c j P' = (fv ρ c j P).set a v := by
  apply List.ext_getElem?
  intro b
  rw [List.getElem?_set]
  by_cases hb : b < nf c
  · rw [fv_get hb, fv_get hb, fv_len, h b hb]
    by_cases e : b = a
    · subst e; simp [hb]
    · rw [if_neg e, if_neg (fun q => e q.symm)]
  · have e1 : (fv ρ c j P')[b]? = none := by rw [List.getElem?_eq_none_iff, fv_len]; omega
    have e2 : (fv ρ c j P)[b]? = none := by rw [List.getElem?_eq_none_iff, fv_len]; omega
    rw [e1, e2, fv_len]
    by_cases e : a = b
    · subst e; simp [hb]
    · rw [if_neg e]

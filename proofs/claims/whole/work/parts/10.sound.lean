/-! ===== a step is sound ===== -/
theorem ck2 {a b : Bool} (h : (a && b) = true) : a = true ∧ b = true := by simpa using h
theorem vs_c {hs : List PS} {st : List AV} {v : AV} (hv : vv hs v) (h : ∀ w ∈ st, vv hs w) : ∀ w ∈ v :: st, vv hs w := fun w hw => (List.mem_cons.mp hw).elim (fun e => e ▸ hv) (h w)
theorem vs_i {hs : List PS} {st : List AV} {x : Int32} (h : ∀ w ∈ st, vv hs w) : ∀ w ∈ (.inl x : AV) :: st, vv hs w := vs_c trivial h
theorem vs_l {hs : List PS} {st : List AV} {x : Int64} (h : ∀ w ∈ st, vv hs w) : ∀ w ∈ (.inr (.inl x) : AV) :: st, vv hs w := vs_c trivial h
theorem vs_t {hs : List PS} {st : List AV} {v : AV} (h : ∀ w ∈ v :: st, vv hs w) : ∀ w ∈ st, vv hs w := fun w hw => h w (List.mem_cons_of_mem _ hw)
theorem vs_h {hs : List PS} {st : List AV} {v : AV} (h : ∀ w ∈ v :: st, vv hs w) : vv hs v := h v List.mem_cons_self
theorem lvm {ls : Array Slot} {n : Nat} {ρ : Nat → Nat → Nat → Nat} {lv : List (Nat × AV)} {k : Nat} {v : AV} (h : lv_has ls n (lv.map fun q => (q.1, zc ρ q.2))) (hm : (k, v) ∈ lv) : ls[k]? = some (.val (zc ρ v)) := h.2.2 (k, zc ρ v) (List.mem_map.mpr ⟨(k, v), hm, rfl⟩)
theorem cat_zc (ρ : Nat → Nat → Nat → Nat) (v : AV) : (zc ρ v).category = bif isL v then 2 else 1 := by
  match v with
  | .inl _ => rfl
  | .inr (.inl _) => rfl
  | .inr (.inr none) => rfl
  | .inr (.inr (some (_, _, _))) => rfl
theorem cat_zc2 (ρ : Nat → Nat → Nat → Nat) (v : AV) : ((zc ρ v).category == 2) = isL v := by
  rw [cat_zc]; cases isL v <;> rfl
theorem beq_nat (a b : Nat) : (a == b) = Nat.beq a b := by
  rw [Bool.eq_iff_iff, beq_iff_eq]
  exact ⟨fun h => by rw [h]; exact Nat.beq_refl b, Nat.eq_of_beq_eq_true⟩
theorem st1_map {ρ : Nat → Nat → Nat → Nat} {lv : List (Nat × AV)} {i : Nat} {v : AV} : (i, zc ρ v) :: (lv.map fun q => (q.1, zc ρ q.2)).filter (fun q => !(q.1 == i) && !(q.1 + 1 == i && q.2.category == 2)) = (st1 lv i v).map fun q => (q.1, zc ρ q.2) := by
  unfold st1
  rw [List.map_cons, List.filter_map]
  congr 3
  funext q
  simp only [Function.comp, cat_zc2]
  simp only [beq_nat]
theorem st2_map {ρ : Nat → Nat → Nat → Nat} {lv : List (Nat × AV)} {i : Nat} {v : AV} : (i, zc ρ v) :: (lv.map fun q => (q.1, zc ρ q.2)).filter (fun q => !(q.1 == i) && (!(q.1 == i + 1) && !(q.1 + 1 == i && q.2.category == 2))) = (st2 lv i v).map fun q => (q.1, zc ρ q.2) := by
  unfold st2
  rw [List.map_cons, List.filter_map]
  congr 3
  funext q
  simp only [Function.comp, cat_zc2]
  simp only [beq_nat]
theorem st1_v {hs : List PS} {lv : List (Nat × AV)} {i : Nat} {v : AV} (h : ∀ q ∈ lv, vv hs q.2) (hv : vv hs v) : ∀ q ∈ st1 lv i v, vv hs q.2 := fun q hq => (List.mem_cons.mp hq).elim (fun e => e ▸ hv) (fun hm => h q (List.mem_filter.mp hm).1)
theorem st2_v {hs : List PS} {lv : List (Nat × AV)} {i : Nat} {v : AV} (h : ∀ q ∈ lv, vv hs q.2) (hv : vv hs v) : ∀ q ∈ st2 lv i v, vv hs q.2 := fun q hq => (List.mem_cons.mp hq).elim (fun e => e ▸ hv) (fun hm => h q (List.mem_filter.mp hm).1)
theorem getK_of {ρ : Nat → Nat → Nat → Nat} {hs : List PS} {c j a : Nat} {r : List AV} {f : List AV → Prop} (hw : wf hs) (hv : vc hs c j 0) (ha : a < nf c) (h : getK (ly c a).1 (ly c a).2 c j a r hs f) : ∃ v, f (v :: r) ∧ zc ρ v = fval ρ c j (hp hs c) a ∧ vv hs v := by
  have hwf := hw.2 c j hv.1 hv.2 a ha
  unfold getK at h
  unfold fval
  split at h
  · rename_i hk; rw [hk]; exact ⟨_, h, rfl, trivial⟩
  · rename_i hk; rw [hk]; exact ⟨_, h, rfl, trivial⟩
  · rename_i hk; rw [hk]; exact ⟨_, h, rfl, trivial⟩
  · rename_i hk; rw [hk]; exact ⟨_, h, rfl, hv, ha, by rw [hk]; rfl⟩
  · rename_i hk; rw [hk]; exact ⟨_, h, rfl, hv, ha, by rw [hk]; rfl⟩
  · rename_i hk; rw [hk]; exact ⟨_, h, rfl, hv, ha, by rw [hk]; rfl⟩
  · rename_i hk; rw [hk]; exact ⟨_, h, rfl, hv, ha, by rw [hk]; rfl⟩
  · rename_i hk; rw [hk]; exact ⟨_, h, rfl, hv, ha, by rw [hk]; rfl⟩
  · rename_i hk; rw [hk]
    rcases oM_of h with ⟨e, h⟩ | ⟨k, e, h⟩
    · exact ⟨_, h, by rw [e]; rfl, trivial⟩
    · exact ⟨_, h, by rw [e]; rfl, hwf.1 hk k e⟩
  · rename_i hk; rw [hk]; exact ⟨_, h, rfl, hwf.2.2 hk⟩
  · exact h.elim
theorem ext_cn {ρ0 ρ : Nat → Nat → Nat → Nat} {hs0 hs hs' : List PS} {sz : Nat} (h : ext ρ0 hs0 ρ hs sz) (hc : ∀ c, cn hs' c = cn hs c) : ext ρ0 hs0 ρ hs' sz :=
  ⟨fun c => by rw [hc]; exact h.1 c, h.2.1, fun c j a hv hj => h.2.2 c j a ((vc_cn hc _ _ _).mp hv) hj⟩
theorem zA_of {ρ0 ρ : Nat → Nat → Nat → Nat} {hs0 hs : List PS} {sz : Nat} (h : ext ρ0 hs0 ρ hs sz) {c j a : Nat} (hv : vc hs c j a) : zA ρ0 hs0 sz (ρ c j a) := by
  by_cases hj : j < cn hs0 c
  · refine Or.inl ⟨c, j, a, ?_, h.2.1 c j a hj⟩
    cases a with
    | zero => exact ⟨hv.1, hj⟩
    | succ a => exact ⟨⟨hv.1.1, hj⟩, hv.2⟩
  · exact Or.inr (h.2.2 c j a hv (Nat.le_of_not_lt hj))
theorem zA_sub {ρ0 ρ : Nat → Nat → Nat → Nat} {hs0 hs : List PS} {sz sz' q : Nat} (h : ext ρ0 hs0 ρ hs sz) (hs' : sz ≤ sz') (hq : zA ρ hs sz' q) : zA ρ0 hs0 sz q := by
  rcases hq with ⟨c, j, a, hv, rfl⟩ | hq
  · exact zA_of h hv
  · exact Or.inr (Nat.le_trans hs' hq)
theorem ext_trans {ρ0 ρ ρ' : Nat → Nat → Nat → Nat} {hs0 hs hs' : List PS} {sz sz' : Nat} (h : ext ρ0 hs0 ρ hs sz) (h' : ext ρ hs ρ' hs' sz') (hle : sz ≤ sz') : ext ρ0 hs0 ρ' hs' sz := by
  refine ⟨fun c => Nat.le_trans (h.1 c) (h'.1 c), fun c j a hj => ?_, fun c j a hv hj => ?_⟩
  · rw [h'.2.1 c j a (Nat.lt_of_lt_of_le hj (h.1 c)), h.2.1 c j a hj]
  · by_cases hq : j < cn hs c
    · rw [h'.2.1 c j a hq]
      refine h.2.2 c j a ?_ hj
      cases a with
      | zero => exact ⟨hv.1, hq⟩
      | succ a => exact ⟨⟨hv.1.1, hq⟩, hv.2⟩
    · exact Nat.le_trans hle (h'.2.2 c j a hv (Nat.le_of_not_lt hq))
theorem zc_ext {ρ ρ' : Nat → Nat → Nat → Nat} {hs hs' : List PS} {sz : Nat} (h : ext ρ hs ρ' hs' sz) {v : AV} (hv : vv hs v) : zc ρ' v = zc ρ v := by
  match v, hv with
  | .inl _, _ => rfl
  | .inr (.inl _), _ => rfl
  | .inr (.inr none), _ => rfl
  | .inr (.inr (some (c, j, a))), hv => show Value.ref _ = Value.ref _; rw [h.2.1 c j a (vc_lt hv).2]
theorem catS_sum (ρ : Nat → Nat → Nat → Nat) : ∀ st : List AV, ((st.map (zc ρ)).map fun v => v.category).sum = catS st
  | [] => rfl
  | v :: t => by
    simp only [List.map_cons, List.sum_cons, catS, cat_zc, catS_sum ρ t]
theorem sI_fv {ρ : Nat → Nat → Nat → Nat} {c j a : Nat} {P : PS} {x : Int32} (hk : (ly c a).1 = 0 ∨ (ly c a).1 = 2) : ∀ b, b < nf c → fval ρ c j (sI P j a x) b = if b = a then .int x else fval ρ c j P b := by
  intro b _
  by_cases e : b = a
  · subst e
    rw [if_pos rfl]
    rcases hk with hk | hk <;> (unfold fval; rw [hk]; simp [gI, sI, u2])
  · rw [if_neg e]
    have : gI (sI P j a x) j b = gI P j b := by simp [gI, sI, u2, e]
    unfold fval
    rw [this]
    rfl
theorem sL_fv {ρ : Nat → Nat → Nat → Nat} {c j a : Nat} {P : PS} {x : Int64} (hk : (ly c a).1 = 1) : ∀ b, b < nf c → fval ρ c j (sL P j a x) b = if b = a then .long x else fval ρ c j P b := by
  intro b _
  by_cases e : b = a
  · subst e
    rw [if_pos rfl]
    unfold fval; rw [hk]; simp [gL, sL, u2]
  · rw [if_neg e]
    have : gL (sL P j a x) j b = gL P j b := by simp [gL, sL, u2, e]
    unfold fval
    rw [this]
    rfl
theorem sO_fv {ρ : Nat → Nat → Nat → Nat} {c j a : Nat} {P : PS} {x : Option Nat} (hk : (ly c a).1 = 7) : ∀ b, b < nf c → fval ρ c j (sO P j a x) b = if b = a then va_rf (x.map fun k => ρ (ly c a).2 k 0) else fval ρ c j P b := by
  intro b _
  by_cases e : b = a
  · subst e
    rw [if_pos rfl]
    unfold fval; rw [hk]; simp [gO, sO, u2]
  · rw [if_neg e]
    have : gO (sO P j a x) j b = gO P j b := by simp [gO, sO, u2, e]
    unfold fval
    rw [this]
    rfl

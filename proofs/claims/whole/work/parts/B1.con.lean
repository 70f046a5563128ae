/-! ===== an object that is being made ===== -/
def dfv (k : Nat) : Value := match k with
  | 0 => .int 0
  | 1 => .long 0
  | 2 => .int 0
  | _ => .null
def updB (f : Nat → Bool) (a : Nat) : Nat → Bool := fun b => bif Nat.beq b a then true else f b
def updN (f : Nat → Nat) (a v : Nat) : Nat → Nat := fun b => if b = a then v else f b
def rx (ρ : Nat → Nat → Nat → Nat) (c n q0 : Nat) (α : Nat → Nat) : Nat → Nat → Nat → Nat := fun c' j a => if c' = c ∧ j = n then (match a with
  | 0 => q0
  | a + 1 => α a) else ρ c' j a
def cfs (ρ : Nat → Nat → Nat → Nat) (c n : Nat) (P : PS) (dn : Nat → Bool) : List Value := (List.range (nf c)).map fun a => bif dn a then fval ρ c n P a else dfv (ly c a).1
def bfs (c : Nat) : List Value := (List.range (nf c)).map fun a => dfv (ly c a).1
theorem cfs_len {ρ : Nat → Nat → Nat → Nat} {c n : Nat} {P : PS} {dn : Nat → Bool} : (cfs ρ c n P dn).length = nf c := by simp [cfs]
theorem cfs_0 {ρ : Nat → Nat → Nat → Nat} {c n : Nat} {P : PS} : cfs ρ c n P (fun _ => false) = bfs c := rfl
theorem cfs_set {ρ ρ' : Nat → Nat → Nat → Nat} {c n a : Nat} {P : PS} {dn : Nat → Bool} {v : Value} (hv : v = fval ρ' c n P a) (ho : ∀ b, b ≠ a → dn b = true → fval ρ c n P b = fval ρ' c n P b) : (cfs ρ c n P dn).set a v = cfs ρ' c n P (updB dn a) := by
  apply List.ext_getElem?
  intro b
  rw [List.getElem?_set]
  by_cases hb : b < nf c
  · have e1 : (cfs ρ c n P dn)[b]? = some (bif dn b then fval ρ c n P b else dfv (ly c b).1) := by simp [cfs, hb]
    have e2 : (cfs ρ' c n P (updB dn a))[b]? = some (bif updB dn a b then fval ρ' c n P b else dfv (ly c b).1) := by simp [cfs, hb]
    rw [e2]
    by_cases e : a = b
    · subst e
      rw [if_pos rfl, cfs_len, if_pos hb, hv]
      unfold updB
      rw [Nat.beq_refl]; rfl
    · rw [if_neg e, e1]
      have hn : Nat.beq b a = false := by
        rw [← Bool.not_eq_true]
        exact fun g => e (Nat.eq_of_beq_eq_true g).symm
      unfold updB
      rw [hn]
      cases hd : dn b with
      | false => rfl
      | true =>
        show some (fval ρ c n P b) = some (fval ρ' c n P b)
        rw [ho b (fun g => e g.symm) hd]
  · have e2 : (cfs ρ' c n P (updB dn a))[b]? = none := by rw [List.getElem?_eq_none_iff, cfs_len]; omega
    have e1 : (cfs ρ c n P dn)[b]? = none := by rw [List.getElem?_eq_none_iff, cfs_len]; omega
    rw [e2, e1, cfs_len]
    by_cases e : a = b
    · rw [if_pos e, if_neg (by omega)]
    · rw [if_neg e]
theorem rx_0 {ρ : Nat → Nat → Nat → Nat} {c n q0 c' j : Nat} {α α' : Nat → Nat} : rx ρ c n q0 α c' j 0 = rx ρ c n q0 α' c' j 0 := rfl
theorem rx_n {ρ : Nat → Nat → Nat → Nat} {c n q0 a : Nat} {α : Nat → Nat} : rx ρ c n q0 α c n (a + 1) = α a := by unfold rx; rw [if_pos ⟨rfl, rfl⟩]
theorem rx_q {ρ : Nat → Nat → Nat → Nat} {c n q0 : Nat} {α : Nat → Nat} : rx ρ c n q0 α c n 0 = q0 := by unfold rx; rw [if_pos ⟨rfl, rfl⟩]
theorem rx_o {ρ : Nat → Nat → Nat → Nat} {c n q0 c' j a : Nat} {α : Nat → Nat} (h : ¬ (c' = c ∧ j = n)) : rx ρ c n q0 α c' j a = ρ c' j a := by unfold rx; rw [if_neg h]
theorem fval_rx {ρ : Nat → Nat → Nat → Nat} {c n q0 b : Nat} {α α' : Nat → Nat} {P : PS} (h : α b = α' b) : fval (rx ρ c n q0 α) c n P b = fval (rx ρ c n q0 α') c n P b := by
  unfold fval
  rw [show rx ρ c n q0 α c n (b + 1) = rx ρ c n q0 α' c n (b + 1) by rw [rx_n, rx_n, h]]
  rfl
theorem ae_rx {aC : Nat → ClassId} {ρ : Nat → Nat → Nat → Nat} {c n q0 b j : Nat} {α α' : Nat → Nat} {P : PS} : ae aC (rx ρ c n q0 α) c j P b = ae aC (rx ρ c n q0 α') c j P b := by
  unfold ae
  rfl
def Con (D : va_G) (aC : Nat → ClassId) (ρ : Nat → Nat → Nat → Nat) (hs : List PS) (c q0 sz : Nat) (α : Nat → Nat) (dn : Nat → Bool) (P : PS) (H : Heap) : Prop :=
  RelH D aC ρ hs H ∧ va_at D zcl (q0, .inr (c, cfs (rx ρ c (cn hs c) q0 α) c (cn hs c) P dn)) H ∧
  (∀ a, a < nf c → dn a = true → isAr (ly c a).1 = true → ∀ e, ae aC (rx ρ c (cn hs c) q0 α) c (cn hs c) P a = some e → va_at D zcl (α a, e) H) ∧
  (∀ c' j a, vc hs c' j a → ρ c' j a ≠ q0) ∧
  (∀ a, a < nf c → dn a = true → isAr (ly c a).1 = true → sz ≤ α a ∧ α a < H.size ∧ (∀ c' j b, vc hs c' j b → ρ c' j b ≠ α a) ∧ ∀ b, b < nf c → dn b = true → isAr (ly c b).1 = true → α a = α b → a = b) ∧ q0 < sz ∧ sz ≤ H.size
theorem isAr_ce {aC : Nat → ClassId} {ρ : Nat → Nat → Nat → Nat} {c j a : Nat} {P : PS} (h : isAr (ly c a).1 = true) : ∃ e, ae aC ρ c j P a = some e := by
  unfold isAr at h
  unfold ae
  generalize (ly c a).1 = k at *
  split
  · exact ⟨_, rfl⟩
  · exact ⟨_, rfl⟩
  · exact ⟨_, rfl⟩
  · exact ⟨_, rfl⟩
  · exact ⟨_, rfl⟩
  · rename_i h1 h2 h3 h4 h5
    exfalso
    simp only [Bool.or_eq_true] at h
    rcases h with (((g | g) | g) | g) | g
    · exact h1 (Nat.eq_of_beq_eq_true g)
    · exact h2 (Nat.eq_of_beq_eq_true g)
    · exact h3 (Nat.eq_of_beq_eq_true g)
    · exact h4 (Nat.eq_of_beq_eq_true g)
    · exact h5 (Nat.eq_of_beq_eq_true g)
theorem RelH.lt {D : va_G} {aC : Nat → ClassId} {ρ : Nat → Nat → Nat → Nat} {hs : List PS} {H : Heap} (h : RelH D aC ρ hs H) {c j a : Nat} (hv : vc hs c j a) : ρ c j a < H.size := by
  cases a with
  | zero => exact (h.1 c j 0 _ hv rfl).lt
  | succ a =>
    obtain ⟨e, he⟩ := isAr_ce (aC := aC) (ρ := ρ) (j := j) (P := hp hs c) hv.2.2
    exact (h.1 c j (a + 1) e hv he).lt
/-- cells that there were, as they were -/
theorem RelH.kept {D : va_G} {aC : Nat → ClassId} {ρ : Nat → Nat → Nat → Nat} {hs : List PS} {H H1 : Heap} (h : RelH D aC ρ hs H) (hk : ∀ c j a, vc hs c j a → H1[ρ c j a]? = H[ρ c j a]?) : RelH D aC ρ hs H1 := ⟨fun c j a e hv he => (h.1 c j a e hv he).kept (hk c j a hv), h.2⟩
theorem Con.start {D : va_G} {aC : Nat → ClassId} {ρ : Nat → Nat → Nat → Nat} {hs : List PS} {c q0 sz : Nat} {α : Nat → Nat} {P : PS} {H : Heap} (h : RelH D aC ρ hs H) (hat : va_at D zcl (q0, .inr (c, bfs c)) H) (hz : sz = H.size) (hq : ∀ c' j a, vc hs c' j a → ρ c' j a ≠ q0) : Con D aC ρ hs c q0 sz α (fun _ => false) P H := ⟨h, hat, fun a _ g => absurd g Bool.false_ne_true, hq, fun a _ g => absurd g Bool.false_ne_true, by rw [hz]; exact hat.lt, by omega⟩
theorem Con.set {D : va_G} {aC : Nat → ClassId} {ρ : Nat → Nat → Nat → Nat} {hs : List PS} {c q0 sz a : Nat} {α : Nat → Nat} {dn : Nat → Bool} {P : PS} {v : Value} {H H1 : Heap} (h : Con D aC ρ hs c q0 sz α dn P H) (hv : v = fval (rx ρ c (cn hs c) q0 α) c (cn hs c) P a) (hk : isAr (ly c a).1 = false) (hat : va_at D zcl (q0, .inr (c, (cfs (rx ρ c (cn hs c) q0 α) c (cn hs c) P dn).set a v)) H1) (hz : H1.size = H.size) (ho : ∀ q : Nat, q ≠ q0 → H1[q]? = H[q]?) : Con D aC ρ hs c q0 sz α (updB dn a) P H1 := by
  have ne : ∀ b, isAr (ly c b).1 = true → updB dn a b = true → dn b = true := fun b hb g => by
    unfold updB at g
    cases hn : Nat.beq b a with
    | true => rw [Nat.eq_of_beq_eq_true hn] at hb; rw [hk] at hb; cases hb
    | false => rw [hn] at g; exact g
  have z5 := h.2.2.2.2.2
  refine ⟨h.1.kept (fun c' j b g => ho _ (h.2.2.2.1 c' j b g)), ?_, fun b hb g hr e he => ?_, h.2.2.2.1, fun b hb g hr => ?_, z5.1, by omega⟩
  · rw [cfs_set hv (fun _ _ _ => rfl)] at hat; exact hat
  · have q := h.2.2.2.2.1 b hb (ne b hr g) hr
    exact (h.2.2.1 b hb (ne b hr g) hr e he).kept (ho _ (by omega))
  · have q := h.2.2.2.2.1 b hb (ne b hr g) hr
    exact ⟨q.1, by omega, q.2.2.1, fun b' hb' g' hr' => q.2.2.2 b' hb' (ne b' hr' g') hr'⟩
theorem Con.arr {D : va_G} {aC : Nat → ClassId} {ρ : Nat → Nat → Nat → Nat} {hs : List PS} {c q0 sz a : Nat} {α : Nat → Nat} {dn : Nat → Bool} {P : PS} {H H1 H2 : Heap} (h : Con D aC ρ hs c q0 sz α dn P H) (hk : isAr (ly c a).1 = true) (hf : fval (rx ρ c (cn hs c) q0 (updN α a H.size)) c (cn hs c) P a = .ref H.size)
    (hc : ∀ e, ae aC ρ c (cn hs c) P a = some e → va_at D zcl (H.size, e) H1) (hae : ∀ ρ', ae aC ρ' c (cn hs c) P a = ae aC ρ c (cn hs c) P a) (hz : H1.size = H.size + 1) (ho : ∀ q : Nat, q < H.size → H1[q]? = H[q]?)
    (hat : va_at D zcl (q0, .inr (c, (cfs (rx ρ c (cn hs c) q0 α) c (cn hs c) P dn).set a (.ref H.size))) H2) (hz2 : H2.size = H1.size) (ho2 : ∀ q : Nat, q ≠ q0 → H2[q]? = H1[q]?) : Con D aC ρ hs c q0 sz (updN α a H.size) (updB dn a) P H2 := by
  have q0l : q0 < H.size := h.2.1.lt
  have un : ∀ b, b ≠ a → updN α a H.size b = α b := fun b hb => by unfold updN; rw [if_neg hb]
  have ua : updN α a H.size a = H.size := by unfold updN; rw [if_pos rfl]
  have ne : ∀ b, b ≠ a → updB dn a b = true → dn b = true := fun b hb g => by
    unfold updB at g
    cases hn : Nat.beq b a with
    | true => exact absurd (Nat.eq_of_beq_eq_true hn) hb
    | false => rw [hn] at g; exact g
  have z5 := h.2.2.2.2.2
  refine ⟨h.1.kept (fun c' j b g => ?_), ?_, fun b hb g hr e he => ?_, h.2.2.2.1, fun b hb g hr => ?_, z5.1, by omega⟩
  · have := h.1.lt g
    rw [ho2 _ (h.2.2.2.1 c' j b g), ho _ this]
  · rw [cfs_set (ρ' := rx ρ c (cn hs c) q0 (updN α a H.size)) hf.symm (fun b hb _ => fval_rx (un b hb).symm)] at hat; exact hat
  · by_cases cb : b = a
    · subst cb
      rw [ua]
      rw [hae] at he
      exact (hc e he).kept (ho2 _ (by omega))
    · have q := h.2.2.2.2.1 b hb (ne b cb g) hr
      rw [un b cb]
      rw [ae_rx (α' := α)] at he
      refine (h.2.2.1 b hb (ne b cb g) hr e he).kept ?_
      rw [ho2 _ (by omega), ho _ q.2.1]
  · by_cases cb : b = a
    · subst cb
      rw [ua]
      refine ⟨z5.2, by omega, fun c' j b' g' => ?_, fun b' hb' g' hr' e' => ?_⟩
      · have := h.1.lt g'; omega
      · by_cases cb' : b' = b
        · exact cb'.symm
        · have q := h.2.2.2.2.1 b' hb' (ne b' cb' g') hr'
          rw [un b' cb'] at e'
          omega
    · have q := h.2.2.2.2.1 b hb (ne b cb g) hr
      rw [un b cb]
      refine ⟨q.1, by omega, q.2.2.1, fun b' hb' g' hr' e' => ?_⟩
      by_cases cb' : b' = a
      · rw [cb', ua] at e'; omega
      · rw [un b' cb'] at e'
        exact q.2.2.2 b' hb' (ne b' cb' g') hr' e'
/-- a pool with one object more -/
def nwO (P : PS) (fI : Nat → Int32) (fO : Nat → Option Nat) : PS := (P.1 + 1, fun j a => if j = P.1 then fI a else gI P j a, fun j a => if j = P.1 then 0 else gL P j a, fun j a => if j = P.1 then (fun _ => 0) else gA P j a, fun j a => if j = P.1 then (fun _ => 0) else gB P j a, fun j a => if j = P.1 then fO a else gO P j a, fun j a => if j = P.1 then (fun _ => none) else gR P j a)
/-- the old objects of a pool are as they were -/
def oldP (n : Nat) (P P' : PS) : Prop := gN P' = n + 1 ∧ gN P = n ∧ ∀ j, j < n → gI P' j = gI P j ∧ gL P' j = gL P j ∧ gA P' j = gA P j ∧ gB P' j = gB P j ∧ gO P' j = gO P j ∧ gR P' j = gR P j
theorem nwO_old (P : PS) (fI : Nat → Int32) (fO : Nat → Option Nat) : oldP (gN P) P (nwO P fI fO) := by
  refine ⟨rfl, rfl, fun j hj => ?_⟩
  have hn : ¬ j = P.1 := Nat.ne_of_lt hj
  refine ⟨?_, ?_, ?_, ?_, ?_, ?_⟩
  · funext a; show (if j = P.1 then fI a else gI P j a) = _; rw [if_neg hn]
  · funext a; show (if j = P.1 then 0 else gL P j a) = _; rw [if_neg hn]
  · funext a; show (if j = P.1 then (fun _ => 0) else gA P j a) = _; rw [if_neg hn]
  · funext a; show (if j = P.1 then (fun _ => 0) else gB P j a) = _; rw [if_neg hn]
  · funext a; show (if j = P.1 then fO a else gO P j a) = _; rw [if_neg hn]
  · funext a; show (if j = P.1 then (fun _ => none) else gR P j a) = _; rw [if_neg hn]
theorem cn_new {hs : List PS} {c : Nat} {P : PS} (hl : hs.length = 13) (hc : c < 13) (ho : oldP (cn hs c) (hp hs c) P) (c' : Nat) : cn (hs.set c P) c' = if c' = c then cn hs c + 1 else cn hs c' := by
  unfold cn
  rw [hp_set (by omega)]
  by_cases e : c' = c
  · rw [if_pos e, if_pos e]; exact ho.1
  · rw [if_neg e, if_neg e]
theorem vc_new {hs : List PS} {c : Nat} {P : PS} (hl : hs.length = 13) (hc : c < 13) (ho : oldP (cn hs c) (hp hs c) P) {c' j a : Nat} (h : vc (hs.set c P) c' j a) : vc hs c' j a ∨ (c' = c ∧ j = cn hs c) := by
  have k : c' < 13 ∧ j < cn (hs.set c P) c' := vc_lt h
  rw [cn_new hl hc ho] at k
  by_cases e : c' = c ∧ j = cn hs c
  · exact Or.inr e
  · refine Or.inl ?_
    have kk : j < cn hs c' := by
      by_cases e' : c' = c
      · rw [if_pos e'] at k
        subst e'
        have : j ≠ cn hs c' := fun g => e ⟨rfl, g⟩
        omega
      · rw [if_neg e'] at k; exact k.2
    cases a with
    | zero => exact ⟨k.1, kk⟩
    | succ a => exact ⟨⟨k.1, kk⟩, h.2⟩
theorem fval_old {ρ : Nat → Nat → Nat → Nat} {hs : List PS} {c q0 c' j a : Nat} {α : Nat → Nat} {P P' : PS} (hI : gI P' j = gI P j) (hL : gL P' j = gL P j) (hO : gO P' j = gO P j) (h0 : ¬ (c' = c ∧ j = cn hs c)) (h7 : (ly c' a).1 = 7 → ∀ k, gO P j a = some k → vc hs (ly c' a).2 k 0) (h9 : (ly c' a).1 = 9 → vc hs ((ly c' a).2 / 100) ((ly c' a).2 % 100) 0) : fval (rx ρ c (cn hs c) q0 α) c' j P' a = fval ρ c' j P a := by
  have vn : ∀ x k, vc hs x k 0 → ¬ (x = c ∧ k = cn hs c) := fun x k h g => by
    have := (vc_lt h).2
    rw [g.1, g.2] at this
    exact Nat.lt_irrefl _ this
  unfold fval
  rw [hI, hL, hO]
  split
  · rfl
  · rfl
  · rfl
  · rename_i hk
    cases e : gO P j a with
    | none => rfl
    | some k =>
      show va_rf (some (rx ρ c (cn hs c) q0 α (ly c' a).2 k 0)) = va_rf (some (ρ (ly c' a).2 k 0))
      rw [rx_o (vn _ _ (h7 hk k e))]
  · rename_i hk
    rw [rx_o (vn _ _ (h9 hk))]
  · rw [rx_o h0]
/-- the object is made: it is one of its pool -/
theorem Con.fin {D : va_G} {aC : Nat → ClassId} {ρ : Nat → Nat → Nat → Nat} {hs : List PS} {c q0 sz : Nat} {α : Nat → Nat} {dn : Nat → Bool} {P : PS} {H : Heap} (h : Con D aC ρ hs c q0 sz α dn P H) (hw : wf hs) (hc : c < 13) (ho : oldP (cn hs c) (hp hs c) P) (hd : ∀ a, a < nf c → dn a = true ∨ (isAr (ly c a).1 = false ∧ fval (rx ρ c (cn hs c) q0 α) c (cn hs c) P a = dfv (ly c a).1)) : RelH D aC (rx ρ c (cn hs c) q0 α) (hs.set c P) H ∧ ext ρ hs (rx ρ c (cn hs c) q0 α) (hs.set c P) q0 := by
  have hl := hw.1
  have hlt : c < hs.length := by omega
  have z5 := h.2.2.2.2.2
  have ad : ∀ a, a < nf c → isAr (ly c a).1 = true → dn a = true := fun a ha hr => by
    rcases hd a ha with g | g
    · exact g
    · rw [g.1] at hr; cases hr
  have old : ∀ c' j a, vc hs c' j a → ¬ (c' = c ∧ j = cn hs c) := fun c' j a hv g => by
    have := (vc_lt hv).2
    rw [g.1, g.2] at this
    exact Nat.lt_irrefl _ this
  have full : cfs (rx ρ c (cn hs c) q0 α) c (cn hs c) P dn = fv (rx ρ c (cn hs c) q0 α) c (cn hs c) P := by
    unfold cfs fv
    refine List.map_congr_left (fun a ha => ?_)
    rcases hd a (List.mem_range.mp ha) with g | g
    · rw [g]; rfl
    · cases hx : dn a with
      | true => rfl
      | false => exact g.2.symm
  have ceo : ∀ c' j a, vc hs c' j a → ce aC (rx ρ c (cn hs c) q0 α) (hs.set c P) c' j a = ce aC ρ hs c' j a := fun c' j a hv => by
    have hj := vc_lt hv
    have nn := old c' j a hv
    have hpq : ∀ (x : PS), x = hp (hs.set c P) c' → gI x j = gI (hp hs c') j ∧ gL x j = gL (hp hs c') j ∧ gA x j = gA (hp hs c') j ∧ gB x j = gB (hp hs c') j ∧ gO x j = gO (hp hs c') j ∧ gR x j = gR (hp hs c') j := fun x hx => by
      rw [hx, hp_set hlt]
      by_cases e : c' = c
      · subst e
        rw [if_pos rfl]
        exact ho.2.2 j hj.2
      · rw [if_neg e]; exact ⟨rfl, rfl, rfl, rfl, rfl, rfl⟩
    have hq := hpq _ rfl
    cases a with
    | zero =>
      show some (Sum.inr (c', fv _ c' j (hp (hs.set c P) c'))) = some (Sum.inr (c', fv ρ c' j (hp hs c')))
      refine congrArg (fun x => some (Sum.inr (c', x))) ?_
      unfold fv
      refine List.map_congr_left (fun b hb => ?_)
      have hb := List.mem_range.mp hb
      have ww := hw.2 c' j hj.1 hj.2 b hb
      exact fval_old hq.1 hq.2.1 hq.2.2.2.2.1 nn ww.1 ww.2.2
    | succ a =>
      have ww := hw.2 c' j hj.1 hj.2 a hv.2.1
      show ae aC _ c' j (hp (hs.set c P) c') a = ae aC ρ c' j (hp hs c') a
      unfold ae
      rw [hq.2.2.1, hq.2.2.2.1, hq.2.2.2.2.2]
      split
      · rfl
      · rfl
      · rfl
      · rfl
      · rename_i hk
        have fe : (fun i => (gR (hp hs c') j a i).map fun k => rx ρ c (cn hs c) q0 α ((ly c' a).2 % 100) k 0) = (fun i => (gR (hp hs c') j a i).map fun k => ρ ((ly c' a).2 % 100) k 0) := by
          funext i
          cases e : gR (hp hs c') j a i with
          | none => rfl
          | some k =>
            show some (rx ρ c (cn hs c) q0 α ((ly c' a).2 % 100) k 0) = some (ρ ((ly c' a).2 % 100) k 0)
            rw [rx_o (old _ _ _ (ww.2.1 hk i k e))]
        rw [fe]
      · rfl
  have adr : ∀ c' j a, vc (hs.set c P) c' j a → (vc hs c' j a ∧ rx ρ c (cn hs c) q0 α c' j a = ρ c' j a) ∨ (c' = c ∧ j = cn hs c ∧ ((a = 0 ∧ rx ρ c (cn hs c) q0 α c' j a = q0) ∨ ∃ b, a = b + 1 ∧ b < nf c ∧ isAr (ly c b).1 = true ∧ rx ρ c (cn hs c) q0 α c' j a = α b)) := fun c' j a hv => by
    rcases vc_new hl hc ho hv with g | g
    · exact Or.inl ⟨g, rx_o (old c' j a g)⟩
    · obtain ⟨g1, g2⟩ := g
      subst g1 g2
      refine Or.inr ⟨rfl, rfl, ?_⟩
      cases a with
      | zero => exact Or.inl ⟨rfl, rx_q⟩
      | succ b => exact Or.inr ⟨b, rfl, hv.2.1, hv.2.2, rx_n⟩
  refine ⟨⟨fun c' j a e hv he => ?_, fun c1 j1 a1 c2 j2 a2 h1 h2 hq => ?_⟩, fun c' => ?_, fun c' j a hj => ?_, fun c' j a hv hj => ?_⟩
  · rcases adr c' j a hv with ⟨g, ga⟩ | ⟨rfl, rfl, g⟩
    · rw [ga]
      rw [ceo c' j a g] at he
      exact h.1.1 c' j a e g he
    · rcases g with ⟨rfl, ga⟩ | ⟨b, rfl, hb, hr, ga⟩
      · rw [ga]
        have he : some (Sum.inr (c', fv (rx ρ c' (cn hs c') q0 α) c' (cn hs c') (hp (hs.set c' P) c'))) = some e := he
        rw [hp_set hlt, if_pos rfl, ← full] at he
        cases he
        exact h.2.1
      · rw [ga]
        have he : ae aC (rx ρ c' (cn hs c') q0 α) c' (cn hs c') (hp (hs.set c' P) c') b = some e := he
        rw [hp_set hlt, if_pos rfl] at he
        exact h.2.2.1 b hb (ad b hb hr) hr e he
  · rcases adr c1 j1 a1 h1 with ⟨g1, ga1⟩ | ⟨rfl, rfl, g1⟩
    · rcases adr c2 j2 a2 h2 with ⟨g2, ga2⟩ | ⟨rfl, rfl, g2⟩
      · rw [ga1, ga2] at hq
        exact h.1.2 _ _ _ _ _ _ g1 g2 hq
      · rcases g2 with ⟨rfl, ga2⟩ | ⟨b2, rfl, hb2, hr2, ga2⟩
        · rw [ga1, ga2] at hq
          exact absurd hq (h.2.2.2.1 _ _ _ g1)
        · rw [ga1, ga2] at hq
          exact absurd hq ((h.2.2.2.2.1 b2 hb2 (ad b2 hb2 hr2) hr2).2.2.1 _ _ _ g1)
    · rcases adr c2 j2 a2 h2 with ⟨g2, ga2⟩ | ⟨rfl, rfl, g2⟩
      · rcases g1 with ⟨rfl, ga1⟩ | ⟨b1, rfl, hb1, hr1, ga1⟩
        · rw [ga1, ga2] at hq
          exact absurd hq.symm (h.2.2.2.1 _ _ _ g2)
        · rw [ga1, ga2] at hq
          exact absurd hq.symm ((h.2.2.2.2.1 b1 hb1 (ad b1 hb1 hr1) hr1).2.2.1 _ _ _ g2)
      · rcases g1 with ⟨rfl, ga1⟩ | ⟨b1, rfl, hb1, hr1, ga1⟩
        · rcases g2 with ⟨rfl, ga2⟩ | ⟨b2, rfl, hb2, hr2, ga2⟩
          · exact ⟨rfl, rfl, rfl⟩
          · have := (h.2.2.2.2.1 b2 hb2 (ad b2 hb2 hr2) hr2).1
            rw [ga1, ga2] at hq
            omega
        · have q1 := h.2.2.2.2.1 b1 hb1 (ad b1 hb1 hr1) hr1
          rcases g2 with ⟨rfl, ga2⟩ | ⟨b2, rfl, hb2, hr2, ga2⟩
          · rw [ga1, ga2] at hq
            have := q1.1
            omega
          · rw [ga1, ga2] at hq
            have := q1.2.2.2 b2 hb2 (ad b2 hb2 hr2) hr2 hq
            exact ⟨rfl, rfl, by rw [this]⟩
  · rw [cn_new hl hc ho]
    by_cases e : c' = c
    · rw [if_pos e, e]; omega
    · rw [if_neg e]; exact Nat.le_refl _
  · exact rx_o (fun g => by rw [g.1, g.2] at hj; exact Nat.lt_irrefl _ hj)
  · rcases adr c' j a hv with ⟨g, _⟩ | ⟨rfl, rfl, g⟩
    · have := (vc_lt g).2; omega
    · rcases g with ⟨rfl, ga⟩ | ⟨b, rfl, hb, hr, ga⟩
      · rw [ga]; exact Nat.le_refl _
      · rw [ga]; have := (h.2.2.2.2.1 b hb (ad b hb hr) hr).1; omega
/-- the cells of the object that is made are new ones, but its own -/
theorem Con.zs {D : va_G} {aC : Nat → ClassId} {ρ : Nat → Nat → Nat → Nat} {hs : List PS} {c q0 sz : Nat} {α : Nat → Nat} {dn : Nat → Bool} {P : PS} {H : Heap} (h : Con D aC ρ hs c q0 sz α dn P H) (hw : wf hs) (hc : c < 13) (ho : oldP (cn hs c) (hp hs c) P) (hd : ∀ a, a < nf c → dn a = true ∨ (isAr (ly c a).1 = false ∧ fval (rx ρ c (cn hs c) q0 α) c (cn hs c) P a = dfv (ly c a).1)) : ∀ q, zA (rx ρ c (cn hs c) q0 α) (hs.set c P) H.size q → q = q0 ∨ zA ρ hs sz q := fun q g => by
  have z5 := h.2.2.2.2.2
  rcases g with ⟨c', j, a, hv, rfl⟩ | g
  · rcases vc_new hw.1 hc ho hv with hv' | ⟨rfl, rfl⟩
    · refine Or.inr (Or.inl ⟨c', j, a, hv', ?_⟩)
      exact rx_o (fun g => by have := (vc_lt hv').2; rw [g.1, g.2] at this; exact Nat.lt_irrefl _ this)
    · cases a with
      | zero => exact Or.inl rx_q
      | succ a =>
        have dn' : dn a = true := by
          rcases hd a hv.2.1 with g | g
          · exact g
          · have := hv.2.2; rw [g.1] at this; cases this
        refine Or.inr (Or.inr ?_)
        rw [rx_n]
        exact (h.2.2.2.2.1 a hv.2.1 dn' hv.2.2).1
  · exact Or.inr (Or.inr (by omega))

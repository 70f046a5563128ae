/-! ===== the class: TOKENS, 2 ===== -/
theorem p32_pos {l : List Int} (hl : lets l) : 0 ≤ p32 l ∧ (l ≠ [] → 0 < p32 l) := by
  revert hl
  induction l using rev_ind with
  | h0 => exact fun _ => ⟨by decide, fun h => absurd rfl h⟩
  | h1 l c ih =>
    intro hl
    have hc := hl c (by simp)
    have h1 := ih (fun x hx => hl x (by simp [hx]))
    rw [p32_snoc]
    exact ⟨by omega, fun _ => by omega⟩
theorem p32_inj {l l' : List Int} (hl : lets l) (hl' : lets l') (h : p32 l = p32 l') : l = l' := by
  revert l'
  revert hl
  induction l using rev_ind with
  | h0 =>
    intro _ l' hl' h
    rcases Classical.em (l' = []) with e | e
    · exact e.symm
    · have := (p32_pos hl').2 e
      rw [← h] at this
      exact absurd this (by decide)
  | h1 l c ih =>
    intro hl l' hl' h
    have hc := hl c (by simp)
    have hll : lets l := fun x hx => hl x (by simp [hx])
    rcases List.eq_nil_or_concat l' with e | ⟨m, x, e⟩
    · subst e
      have := (p32_pos hl).2 (by simp)
      rw [h] at this
      exact absurd this (by decide)
    · rw [List.concat_eq_append] at e
      subst e
      have hx := hl' x (by simp)
      have hm : lets m := fun y hy => hl' y (by simp [hy])
      rw [p32_snoc, p32_snoc] at h
      have h1 : p32 l = p32 m := by omega
      have h2 : c = x := by omega
      rw [ih hll hm h1, h2]
theorem p32_bd {l : List Int} (hl : lets l) (h8 : l.length ≤ 8) : 0 ≤ p32 l ∧ p32 l < 1099511627776 := by
  have key : ∀ m : List Int, lets m → p32 m < 32 ^ m.length := by
    intro m
    induction m using rev_ind with
    | h0 => intro _; decide
    | h1 m c ih =>
      intro hm
      have hc := hm c (by simp)
      have hmm : lets m := fun x hx => hm x (by simp [hx])
      have h := ih hmm
      rw [p32_snoc, List.length_append, List.length_singleton, Int.pow_succ]
      omega
  refine ⟨(p32_pos hl).1, ?_⟩
  have h := key l hl
  have h2 : (32 : Nat) ^ l.length ≤ 32 ^ 8 := Nat.pow_le_pow_right (by omega) h8
  have h3 : ((32 ^ l.length : Nat) : Int) ≤ ((32 ^ 8 : Nat) : Int) := Int.ofNat_le.mpr h2
  have h4 : (32 : Int) ^ l.length ≤ 1099511627776 := by simpa using h3
  omega
theorem p32_eq {l l' : List Int} (hl : lets l) (h8 : l.length ≤ 8) (hl' : lets l') (h8' : l'.length ≤ 8) : iL (p32 l) = iL (p32 l') ↔ l = l' := by
  have h1 := p32_bd hl h8
  have h2 := p32_bd hl' h8'
  rw [iL_eq (by omega) (by omega) (by omega) (by omega)]
  exact ⟨p32_inj hl hl', fun e => by rw [e]⟩
theorem wix_at {l : List Int} : ∀ (L : List (List Int)) (s : Int) (i : Nat), i < L.length → (∀ k, k < i → l ≠ L.getD k []) → l = L.getD i [] → wix l L s = s + i
  | [], _, i, h, _, _ => absurd h (Nat.not_lt_zero i)
  | w :: L, s, 0, _, _, e => by
    unfold wix
    have e' : l = w := e
    rw [if_pos e']; simp
  | w :: L, s, i + 1, h, hk, e => by
    unfold wix
    have h0 : l ≠ w := hk 0 (by omega)
    rw [if_neg h0, wix_at L (s + 1) i (by simpa using h) (fun k hk' => by simpa using hk (k + 1) (by omega)) (by simpa using e)]
    omega
theorem wix_no {l : List Int} : ∀ (L : List (List Int)) (s : Int), (∀ k, k < L.length → l ≠ L.getD k []) → wix l L s = -1
  | [], _, _ => rfl
  | w :: L, s, hk => by
    unfold wix
    have h0 : l ≠ w := hk 0 (by simp)
    rw [if_neg h0]
    exact wix_no L (s + 1) (fun k hk' => by simpa using hk (k + 1) (by simpa using hk'))
theorem OWN_ok : ∀ i, i < 27 → lets (OWN.getD i []) ∧ (OWN.getD i []).length ≤ 8 := by
  show ∀ i, i < 27 → (∀ c ∈ OWN.getD i [], 97 ≤ c ∧ c ≤ 122) ∧ (OWN.getD i []).length ≤ 8
  decide
theorem C_ownWord {d : Nat} {P0 P : PS} {R : List PS} {Q : Option AV → List PS → Prop} (ho : OwC P) (h : ∀ v, (∀ l, lets l → l.length ≤ 8 → gL P 0 7 = iL (p32 l) → v = iI (wid l)) → Q (some (vI v)) (P0 :: P :: R)) : Tri 105 d [vR 1 0 0] (P0 :: P :: R) Q := by
  refine enX9_ownWord ?_
  unfold fX9_ownWord_0
  have key : ∀ m i : Nat, i + m = 27 → (∀ k, k < i → gL P 0 7 ≠ iL (p32 (OWN.getD k []))) → cX9_ownWord_2 (0, 0, 0, 0) d (iI i) P0 P R Q := by
    intro m
    induction m with
    | zero =>
      intro i hi hk
      refine gX9_ownWord_2 ?_
      unfold fX9_ownWord_2
      rw [show (27 : Int32) = iI 27 from rfl, iI_le (by omega) (by omega) (by omega) (by omega)]
      refine ⟨fun _ => h _ (fun l hl h8 e => ?_), fun c => absurd (by omega) c⟩
      unfold wid
      rw [wix_no OWN 0 (fun k hk' => ?_)]; rfl
      intro e'
      rw [e'] at e
      exact hk k (by have : OWN.length = 27 := rfl; omega) e
    | succ m ih =>
      intro i hi hk
      refine gX9_ownWord_2 ?_
      unfold fX9_ownWord_2
      rw [show (27 : Int32) = iI 27 from rfl, iI_le (by omega) (by omega) (by omega) (by omega), iI_in (by omega) (by omega), iI_cl (by omega) (by omega), lcmp_eq, show ((i : Nat) : Int).toNat = i by omega, ho i (by omega)]
      refine ⟨fun c => absurd c (by omega), fun _ => ⟨by omega, fun c => ?_, fun c => ?_⟩⟩
      · rw [show (1 : Int32) = iI 1 from rfl, iI_add]
        refine ih (i + 1) (by omega) (fun k hk' e => ?_)
        rcases Nat.lt_or_ge k i with q | q
        · exact hk k q e
        · have : k = i := by omega
          subst this; exact c e.symm
      · refine h _ (fun l hl h8 e => ?_)
        have hoi := OWN_ok i (by omega)
        have el : l = OWN.getD i [] := by
          rw [e] at c
          exact ((p32_eq hoi.1 hoi.2 hl h8).mp c).symm
        unfold wid
        rw [wix_at OWN 0 i (by have : OWN.length = 27 := rfl; omega) (fun k hk' e' => hk k hk' (by rw [e, e'])) el]
        simp
  exact key 27 0 (by omega) (fun k hk => absurd hk (Nat.not_lt_zero k))
def kC (k : Nat) : Int := if k = 0 then 0 else if k = 1 then 2 else if k = 2 then 3 else if k = 3 then 1 else 4
def TkC (t : TK) (P : PS) : Prop := gI P 0 4 = iI (kC t.1) ∧ gI P 0 5 = iI t.2.1 ∧ (t.1 = 2 ∨ t.1 = 4 → gI P 0 6 = iI t.2.2.2.1) ∧ (t.1 = 1 → gI P 0 6 = iI (wid t.2.2.2.2) ∧ gL P 0 7 = iL (p32 t.2.2.2.2)) ∧ (t.1 ≠ 3 → gI P 0 10 = iI t.2.2.1)
abbrev nxI : List Nat := [4, 5, 6, 10]
theorem sgn_lt {r : Bool} {c : Int} (h : sgn r c = true) : 0 < c ∧ c < 128 := by
  have := sgn_c h
  unfold sgc at this
  omega
theorem kd_ltr {r : Bool} {c : Int} : kd r c = 2 ↔ ltr c = true := by
  unfold kd; split <;> simp_all; split <;> simp_all; split <;> simp_all
theorem kd_dig {r : Bool} {c : Int} : kd r c = 3 ↔ dig c = true := by
  unfold kd
  have : ltr c = true → dig c = true → False := fun h1 h2 => by have := ltr_bd h1; have := dig_bd h2; omega
  split
  · rename_i q; constructor
    · intro q; exact absurd q (by decide)
    · intro q1; exact (this q q1).elim
  · split <;> simp_all
    split <;> simp_all
theorem kd_bd (r : Bool) (c : Int) : 1 ≤ kd r c ∧ kd r c ≤ 4 := by unfold kd; split <;> (try split) <;> (try split) <;> omega
def krun (b : Nat → Int) (n p : Nat) : Nat := if n ≤ p then 0 else if ltr (b p) = true then rl ltr b n p else if dig (b p) = true then rl dig b n p else 0
theorem C_n187 {z : Nat × Nat × Nat × Nat} {d : Nat} {r : Bool} {b : Nat → Int} {n q p : Nat} {s : Int32} {P0 PP P : PS} {R : List PS} {Q : Option AV → List PS → Prop} (hpq : p = q + rl blk b n q) (hp : p ≤ n) (hf : Fr nxI [7] [] [] PP P) (ht : TxC r b n P) (hpl : gI P 0 5 = iI p) (hat : gI P 0 10 = iI ((p + krun b n p : Nat))) (hv : gI P 0 6 = iI (dv b p (krun b n p))) (hw : gL P 0 7 = iL (p32 (lst b p (krun b n p)))) (hs : s = iI (if n ≤ p then 0 else kd r (b p)))
    (h : ∀ P', Fr nxI [7] [] [] PP P' → TkC (tok r b n q) P' → Q none (P0 :: P' :: R)) : cX9_next_187 z d s P0 P R Q := by
  refine gX9_next_187 ?_
  unfold fX9_next_187
  subst hs
  have hn15 := ht.2.2.1
  unfold tok at h
  rw [← hpq] at h
  dsimp only at h
  by_cases c0 : n ≤ p
  · simp only [if_pos c0] at h ⊢
    have hk0 : krun b n p = 0 := if_pos c0
    refine ⟨fun _ => ⟨fun _ => ⟨fun _ => h _ (hf.sI (by simp [nxI])) ⟨rfl, hpl, fun e => absurd e (by simp), fun e => absurd e (by simp), fun _ => ?_⟩, fun c => absurd c (by decide)⟩, fun c => absurd c (by decide)⟩, fun c => absurd c (by decide)⟩
    rw [hk0] at hat
    exact hat
  simp only [if_neg c0] at h ⊢
  by_cases c1 : ltr (b p) = true
  · have hk : krun b n p = rl ltr b n p := by unfold krun; rw [if_neg c0, if_pos c1]
    rw [hk] at hat hv hw
    have hrl := rl_le ltr b n p hp
    have hrun := rl_run ltr b n p
    rw [kd_ltr.mpr c1]
    simp only [if_pos c1] at h
    refine ⟨fun c => absurd rfl c, fun _ => ?_⟩
    refine C_ownWord ht.2.2.2.2 (fun v hv' => ?_)
    dsimp only [hx2, rI]
    have e1 : gI (sI P 0 4 (iI 2)) 0 10 = iI ((p + rl ltr b n p : Nat)) := hat
    have e2 : gI (sI P 0 4 (iI 2)) 0 5 = iI p := hpl
    rw [e1, e2, iI_sub, show (8 : Int32) = iI 8 from rfl, iI_le (by omega) (by omega) (by omega) (by omega)]
    refine ⟨fun c => h _ (((hf.sI (by simp [nxI])).sI (by simp [nxI])).sI (by simp [nxI])) ?_, fun c => h _ (((hf.sI (by simp [nxI])).sI (by simp [nxI])).sI (by simp [nxI])) ?_⟩
    · have c8 : ¬ 8 < rl ltr b n p := by omega
      rw [if_neg c8]
      refine ⟨rfl, hpl, fun e => absurd e (by simp), fun _ => ⟨?_, hw⟩, fun _ => hat⟩
      have hl : lets (lst b p (rl ltr b n p)) := lst_lets (fun j hj => (hrun.1 j hj).2)
      have hlen : (lst b p (rl ltr b n p)).length ≤ 8 := by simp only [lst, List.length_map, List.length_range]; omega
      exact hv' _ hl hlen hw
    · have c8 : 8 < rl ltr b n p := by omega
      rw [if_pos c8]
      exact ⟨rfl, hpl, fun e => absurd e (by simp), fun e => absurd e (by simp), fun e => absurd rfl e⟩
  simp only [if_neg c1] at h
  by_cases c2 : dig (b p) = true
  · have hk : krun b n p = rl dig b n p := by unfold krun; rw [if_neg c0, if_neg c1, if_pos c2]
    rw [hk] at hat hv hw
    have hrl := rl_le dig b n p hp
    rw [kd_dig.mpr c2]
    simp only [if_pos c2] at h
    refine ⟨fun _ => ⟨fun c => absurd rfl c, fun _ => ?_⟩, fun c => absurd c (by decide)⟩
    rw [hat, hpl, iI_sub, show (4 : Int32) = iI 4 from rfl, iI_lt (by omega) (by omega) (by omega) (by omega)]
    refine ⟨fun c => h _ ((hf.sI (by simp [nxI])).sI (by simp [nxI])) ?_, fun c => ?_⟩
    · rw [if_pos (Or.inl (by omega))]
      exact ⟨rfl, hpl, fun e => absurd e (by simp), fun e => absurd e (by simp), fun e => absurd rfl e⟩
    · have ht1 : TxC r b n (sI P 0 4 (iI 3)) := ht.fr (Fr.sI (is := [4]) (ls := []) (as := []) (bs := []) Fr.rf (by simp)) (by simp) (by simp) (by simp) (by simp)
      refine C_byteAt rfl ht1 (by omega) ?_
      dsimp only [hx2, rI]
      have hcb := cAt_bd ht (p + rl dig b n p)
      refine C_sortOf hcb.1 hcb.2 ht1.1 ?_
      dsimp only [hx2, rI]
      have hkb := kd_bd r (cAt b n (p + rl dig b n p))
      rw [show (2 : Int32) = iI 2 from rfl, iI_eq (by omega) (by omega) (by omega) (by omega), kd_ltr]
      have hc : ltr (cAt b n (p + rl dig b n p)) = true ↔ (p + rl dig b n p < n ∧ ltr (b (p + rl dig b n p)) = true) := by
        unfold cAt; split
        · rename_i g; exact ⟨fun q => ⟨g, q⟩, fun q => q.2⟩
        · rename_i g; exact ⟨fun q => absurd q (by decide), fun q => absurd q.1 g⟩
      rw [hc]
      refine ⟨fun g => h _ ((hf.sI (by simp [nxI])).sI (by simp [nxI])) ?_, fun g => h _ ((hf.sI (by simp [nxI])).sI (by simp [nxI])) ?_⟩
      · rw [if_neg (fun e => e.elim (fun e => by omega) g)]
        exact ⟨rfl, hpl, fun _ => hv, fun e => absurd e (by simp), fun _ => hat⟩
      · rw [if_pos (Or.inr g)]
        exact ⟨rfl, hpl, fun e => absurd e (by simp), fun e => absurd e (by simp), fun e => absurd rfl e⟩
  simp only [if_neg c2] at h
  have hk : krun b n p = 0 := by unfold krun; rw [if_neg c0, if_neg c1, if_neg c2]
  rw [hk] at hat
  by_cases c3 : sgn r (b p) = true
  · have hkd : kd r (b p) = 4 := by unfold kd; rw [if_neg c1, if_neg c2, if_pos c3]
    rw [hkd]
    simp only [if_pos c3] at h
    refine ⟨fun _ => ⟨fun _ => ⟨fun c => absurd rfl c, fun _ => ?_⟩, fun c => absurd c (by decide)⟩, fun c => absurd c (by decide)⟩
    have ht1 : TxC r b n (sI P 0 4 (iI 4)) := ht.fr (Fr.sI (is := [4]) (ls := []) (as := []) (bs := []) Fr.rf (by simp)) (by simp) (by simp) (by simp) (by simp)
    refine C_byteAt hat ht1 (by omega) ?_
    dsimp only [hx2, rI]
    have hcc : cAt b n (p + 0) = b p := by unfold cAt; rw [if_pos (by omega)]; rfl
    rw [hcc, sb_lt (sgn_lt c3).2]
    refine h _ (((hf.sI (by simp [nxI])).sI (by simp [nxI])).sI (by simp [nxI])) ⟨rfl, hpl, fun _ => rfl, fun e => absurd e (by simp), fun _ => ?_⟩
    show gI P 0 10 + 1 = iI ((p + 1 : Nat))
    rw [hat, show (1 : Int32) = iI 1 from rfl, iI_add]; congr 1
  · have hkd : kd r (b p) = 1 := by unfold kd; rw [if_neg c1, if_neg c2, if_neg c3]
    rw [hkd]
    simp only [if_neg c3] at h
    exact ⟨fun _ => ⟨fun _ => ⟨fun _ => h _ (hf.sI (by simp [nxI])) ⟨rfl, hpl, fun e => absurd e (by simp), fun e => absurd e (by simp), fun e => absurd rfl e⟩, fun c => absurd c (by decide)⟩, fun c => absurd c (by decide)⟩, fun c => absurd c (by decide)⟩
/-- letters or digits, to the end of their run -/
theorem C_n69 {z : Nat × Nat × Nat × Nat} {d : Nat} {r : Bool} {b : Nat → Int} {n q p : Nat} {x : Int} {pr : Int → Bool} {P0 PP : PS} {R : List PS} {Q : Option AV → List PS → Prop} (hpq : p = q + rl blk b n q) (hp : p < n) (hx : (x = 2 ∧ pr = ltr) ∨ (x = 3 ∧ pr = dig)) (hbp : pr (b p) = true)
    (h : ∀ P', Fr nxI [7] [] [] PP P' → TkC (tok r b n q) P' → Q none (P0 :: P' :: R)) :
    ∀ (m j : Nat) (P : PS), j + m = rl pr b n p → Fr nxI [7] [] [] PP P → TxC r b n P → gI P 0 5 = iI p → gI P 0 10 = iI ((p + j : Nat)) → gI P 0 6 = iI (dv b p j) → gL P 0 7 = iL (p32 (lst b p j)) → cX9_next_69 z d (iI x) P0 P R Q := by
  have hkx : ∀ c, kd r c = x ↔ pr c = true := fun c => by
    rcases hx with ⟨e1, e2⟩ | ⟨e1, e2⟩
    · rw [e1, e2]; exact kd_ltr
    · rw [e1, e2]; exact kd_dig
  have hkr : krun b n p = rl pr b n p := by
    unfold krun; rw [if_neg (by omega)]
    rcases hx with ⟨e1, e2⟩ | ⟨e1, e2⟩
    · subst e2; rw [if_pos hbp]
    · subst e2
      have hnl : ¬ ltr (b p) = true := fun g => by have := ltr_bd g; have := dig_bd hbp; omega
      rw [if_neg hnl, if_pos hbp]
  have hasc : ∀ c, pr c = true → 0 ≤ c ∧ c < 128 := fun c g => by
    rcases hx with ⟨e1, e2⟩ | ⟨e1, e2⟩
    · subst e2; have := ltr_bd g; omega
    · subst e2; have := dig_bd g; omega
  have hxx : x = 2 ∨ x = 3 := hx.elim (fun e => Or.inl e.1) (fun e => Or.inr e.1)
  have hrun := rl_run pr b n p
  have hrl := rl_le pr b n p (by omega)
  have fin : ∀ (P : PS), Fr nxI [7] [] [] PP P → TxC r b n P → gI P 0 5 = iI p → gI P 0 10 = iI ((p + rl pr b n p : Nat)) → gI P 0 6 = iI (dv b p (rl pr b n p)) → gL P 0 7 = iL (p32 (lst b p (rl pr b n p))) → (gI P 0 1 ≤ gI P 0 5 → cX9_next_187 z d (0 : Int32) P0 P R Q) ∧ (¬ gI P 0 1 ≤ gI P 0 5 → cX9_next_187 z d (iI x) P0 P R Q) := by
    intro P hf ht hpl hat hv hw
    have hn15 := ht.2.2.1
    rw [hpl, ht.2.1, iI_le (by omega) (by omega) (by omega) (by omega)]
    refine ⟨fun c => absurd c (by omega), fun _ => C_n187 hpq (by omega) hf ht hpl (by rw [hkr]; exact hat) (by rw [hkr]; exact hv) (by rw [hkr]; exact hw) ?_ h⟩
    rw [if_neg (by omega), (hkx (b p)).mpr hbp]
  intro m
  induction m with
  | zero =>
    intro j P hj hf ht hpl hat hv hw
    have hn15 := ht.2.2.1
    have hj' : j = rl pr b n p := by omega
    subst hj'
    refine gX9_next_69 ?_
    unfold fX9_next_69
    refine ⟨fun _ => fin P hf ht hpl hat hv hw, fun c => ?_⟩
    rw [hat, ht.2.1, iI_le (by omega) (by omega) (by omega) (by omega)] at c
    have go : cX9_next_90 z d (iI x) P0 P R Q := by
      refine gX9_next_90 ?_
      unfold fX9_next_90
      refine C_byteAt hat ht (by omega) ?_
      dsimp only [hx2, rI]
      have hcb := cAt_bd ht (p + rl pr b n p)
      refine C_sortOf hcb.1 hcb.2 ht.1 ?_
      dsimp only [hx2, rI]
      have hkb := kd_bd r (cAt b n (p + rl pr b n p))
      rw [iI_eq (by omega) (by omega) (by omega) (by omega), hkx]
      refine ⟨fun _ => fin P hf ht hpl hat hv hw, fun g => ?_⟩
      unfold cAt at g
      rw [if_pos (by omega)] at g
      exact absurd ⟨by omega, g⟩ hrun.2
    refine ⟨fun _ => go, fun c2 => ⟨fun _ => fin P hf ht hpl hat hv hw, fun _ => go⟩⟩
  | succ m ih =>
    intro j P hj hf ht hpl hat hv hw
    have hn15 := ht.2.2.1
    have hjr := hrun.1 j (by omega)
    have hab := hasc _ hjr.2
    refine gX9_next_69 ?_
    unfold fX9_next_69
    have go : cX9_next_90 z d (iI x) P0 P R Q := by
      refine gX9_next_90 ?_
      unfold fX9_next_90
      refine C_byteAt hat ht (by omega) ?_
      dsimp only [hx2, rI]
      have hcb := cAt_bd ht (p + j)
      refine C_sortOf hcb.1 hcb.2 ht.1 ?_
      dsimp only [hx2, rI]
      have hkb := kd_bd r (cAt b n (p + j))
      have hcc : cAt b n (p + j) = b (p + j) := if_pos hjr.1
      rw [iI_eq (by omega) (by omega) (by omega) (by omega), hkx, hcc]
      refine ⟨fun g => absurd hjr.2 g, fun _ => ?_⟩
      refine C_byteAt hat ht (by omega) ?_
      dsimp only [hx2, rI]
      have ht1 : ∀ v, TxC r b n (sI P 0 6 v) := fun v => ht.fr (Fr.sI (is := [6]) (ls := []) (as := []) (bs := []) Fr.rf (by simp)) (by simp) (by simp) (by simp) (by simp)
      refine C_byteAt hat (ht1 _) (by omega) ?_
      dsimp only [hx2, rI]
      rw [hcc, sb_lt hab.2, hv, hw]
      refine ih (j + 1) _ (by omega) (((hf.sI (by simp [nxI])).sL (by simp)).sI (by simp [nxI])) ?_ hpl ?_ ?_ ?_
      · exact (ht1 _).fr (Fr.sI (is := [10]) (ls := [7]) (as := []) (bs := []) (Fr.sL Fr.rf (by simp)) (by simp)) (by simp) (by simp) (by simp) (by simp)
      · show gI P 0 10 + 1 = _
        rw [hat, show (1 : Int32) = iI 1 from rfl, iI_add]; congr 1
      · show iI (dv b p j) * 10 + iI (b (p + j)) - 48 = _
        rw [show (10 : Int32) = iI 10 from rfl, show (48 : Int32) = iI 48 from rfl, iI_mul, iI_add, iI_sub, dv]
        congr 1; omega
      · show iL (p32 (lst b p j)) * 32 + (iI (b (p + j))).toInt64 - 97 + 1 = _
        rw [iI_l (by omega) (by omega), show (32 : Int64) = iL 32 from rfl, show (97 : Int64) = iL 97 from rfl, show (1 : Int64) = iL 1 from rfl, iL_mul, iL_add, iL_sub, iL_add, lst_succ, p32_snoc]
        congr 1; omega
    rw [hat, ht.2.1, iI_le (by omega) (by omega) (by omega) (by omega)]
    refine ⟨fun c => absurd c (by omega), fun _ => ⟨fun _ => go, fun c2 => ⟨fun c3 => ?_, fun _ => go⟩⟩⟩
    rcases hxx with e | e
    · subst e; exact absurd rfl c2
    · subst e; exact absurd rfl c3
theorem C_n0 {z : Nat × Nat × Nat × Nat} {d : Nat} {r : Bool} {b : Nat → Int} {n q : Nat} {P0 PP : PS} {R : List PS} {Q : Option AV → List PS → Prop} (hq : q ≤ n)
    (h : ∀ P', Fr nxI [7] [] [] PP P' → TkC (tok r b n q) P' → Q none (P0 :: P' :: R)) :
    ∀ (m j : Nat) (P : PS), j + m = rl blk b n q → Fr nxI [7] [] [] PP P → TxC r b n P → gI P 0 10 = iI ((q + j : Nat)) → cX9_next_0 z d P0 P R Q := by
  have hrun := rl_run blk b n q
  have hrl := rl_le blk b n q hq
  have fin : ∀ (P : PS), Fr nxI [7] [] [] PP P → TxC r b n P → gI P 0 10 = iI ((q + rl blk b n q : Nat)) → Tri 100 d [vR 1 0 0, vI (gI P 0 10)] (P0 :: (sI P 0 5 (gI P 0 10)) :: R) (fun r1 h1 => hx2 h1 fun P0_1 P1_1 R_1 => rI r1 fun y1 => Tri 106 d [vR 1 0 0, vI y1] (P0_1 :: P1_1 :: R_1) (fun r2 h2 => hx2 h2 fun P0_2 P1_2 R_2 => rI r2 fun y2 => cX9_next_69 z d y2 P0_2 (sL (sI P1_2 0 6 (0 : Int32)) 0 7 (0 : Int64)) R_2 Q)) := by
    intro P hf ht hat
    have hn15 := ht.2.2.1
    have ht1 : ∀ v, TxC r b n (sI P 0 5 v) := fun v => ht.fr (Fr.sI (is := [5]) (ls := []) (as := []) (bs := []) Fr.rf (by simp)) (by simp) (by simp) (by simp) (by simp)
    generalize hp : q + rl blk b n q = p at *
    refine C_byteAt hat (ht1 _) (by omega) ?_
    dsimp only [hx2, rI]
    have hcb := cAt_bd ht p
    refine C_sortOf hcb.1 hcb.2 (ht1 _).1 ?_
    dsimp only [hx2, rI]
    have hkb := kd_bd r (cAt b n p)
    have hf2 : Fr nxI [7] [] [] PP (sL (sI (sI P 0 5 (gI P 0 10)) 0 6 (0 : Int32)) 0 7 (0 : Int64)) := ((hf.sI (by simp [nxI])).sI (by simp [nxI])).sL (by simp)
    have ht2 : TxC r b n (sL (sI (sI P 0 5 (gI P 0 10)) 0 6 (0 : Int32)) 0 7 (0 : Int64)) := (ht1 _).fr (Fr.sL (is := [6]) (ls := [7]) (as := []) (bs := []) (Fr.sI Fr.rf (by simp)) (by simp)) (by simp) (by simp) (by simp) (by simp)
    have hpl2 : gI (sL (sI (sI P 0 5 (gI P 0 10)) 0 6 (0 : Int32)) 0 7 (0 : Int64)) 0 5 = iI p := hat
    have hat2 : gI (sL (sI (sI P 0 5 (gI P 0 10)) 0 6 (0 : Int32)) 0 7 (0 : Int64)) 0 10 = iI p := hat
    have hv2 : gI (sL (sI (sI P 0 5 (gI P 0 10)) 0 6 (0 : Int32)) 0 7 (0 : Int64)) 0 6 = iI 0 := rfl
    have hw2 : gL (sL (sI (sI P 0 5 (gI P 0 10)) 0 6 (0 : Int32)) 0 7 (0 : Int64)) 0 7 = iL 0 := rfl
    generalize sL (sI (sI P 0 5 (gI P 0 10)) 0 6 (0 : Int32)) 0 7 (0 : Int64) = P2 at *
    by_cases c0 : n ≤ p
    · have hk0 : krun b n p = 0 := if_pos c0
      have h187 : ∀ s, s = (0 : Int32) → cX9_next_187 z d s P0 P2 R Q := fun s es => C_n187 hp.symm (by omega) hf2 ht2 hpl2 (by rw [hk0]; exact hat2) (by rw [hk0]; exact hv2) (by rw [hk0]; exact hw2) (by rw [if_pos c0]; exact es) h
      refine gX9_next_69 ?_
      unfold fX9_next_69
      rw [hat2, hpl2, ht2.2.1, iI_le (by omega) (by omega) (by omega) (by omega)]
      exact ⟨fun _ => ⟨fun _ => h187 _ rfl, fun c => absurd (by omega) c⟩, fun c => absurd (by omega) c⟩
    · have hcc : cAt b n p = b p := if_pos (by omega)
      rw [hcc] at hkb ⊢
      by_cases c1 : ltr (b p) = true
      · rw [kd_ltr.mpr c1]
        exact C_n69 hp.symm (by omega) (Or.inl ⟨rfl, rfl⟩) c1 h (rl ltr b n p) 0 P2 (by omega) hf2 ht2 hpl2 hat2 hv2 hw2
      · by_cases c2 : dig (b p) = true
        · rw [kd_dig.mpr c2]
          exact C_n69 hp.symm (by omega) (Or.inr ⟨rfl, rfl⟩) c2 h (rl dig b n p) 0 P2 (by omega) hf2 ht2 hpl2 hat2 hv2 hw2
        · have hk0 : krun b n p = 0 := by unfold krun; rw [if_neg c0, if_neg c1, if_neg c2]
          have h187 : cX9_next_187 z d (iI (kd r (b p))) P0 P2 R Q := C_n187 hp.symm (by omega) hf2 ht2 hpl2 (by rw [hk0]; exact hat2) (by rw [hk0]; exact hv2) (by rw [hk0]; exact hw2) (by rw [if_neg c0]) h
          have n2 : ¬ kd r (b p) = 2 := fun g => c1 (kd_ltr.mp g)
          have n3 : ¬ kd r (b p) = 3 := fun g => c2 (kd_dig.mp g)
          refine gX9_next_69 ?_
          unfold fX9_next_69
          rw [hat2, hpl2, ht2.2.1, iI_le (by omega) (by omega) (by omega) (by omega), show (2 : Int32) = iI 2 from rfl, show (3 : Int32) = iI 3 from rfl, iI_eq (by omega) (by omega) (by omega) (by omega), iI_eq (by omega) (by omega) (by omega) (by omega)]
          exact ⟨fun c => absurd c (by omega), fun _ => ⟨fun c => absurd c n2, fun _ => ⟨fun _ => ⟨fun c => absurd c (by omega), fun _ => h187⟩, fun c => absurd c n3⟩⟩⟩
  intro m
  induction m with
  | zero =>
    intro j P hj hf ht hat
    have hn15 := ht.2.2.1
    have hj' : j = rl blk b n q := by omega
    subst hj'
    refine gX9_next_0 ?_
    unfold fX9_next_0
    refine ⟨fun _ => fin P hf ht hat, fun c => ?_⟩
    rw [hat, ht.2.1, iI_le (by omega) (by omega) (by omega) (by omega)] at c
    refine C_byteAt hat ht (by omega) ?_
    dsimp only [hx2, rI]
    have hcb := cAt_bd ht (q + rl blk b n q)
    refine C_isBlank hcb.1 hcb.2 (fun g => ?_) (fun g => ?_)
    · unfold cAt at g
      rw [if_pos (by omega)] at g
      exact absurd ⟨by omega, g⟩ hrun.2
    · dsimp only [hx2, rI]
      exact ⟨fun _ => fin P hf ht hat, fun c => absurd rfl c⟩
  | succ m ih =>
    intro j P hj hf ht hat
    have hn15 := ht.2.2.1
    have hjr := hrun.1 j (by omega)
    refine gX9_next_0 ?_
    unfold fX9_next_0
    refine ⟨fun c => ?_, fun c => ?_⟩
    · rw [hat, ht.2.1, iI_le (by omega) (by omega) (by omega) (by omega)] at c
      omega
    · refine C_byteAt hat ht (by omega) ?_
      dsimp only [hx2, rI]
      have hcb := cAt_bd ht (q + j)
      refine C_isBlank hcb.1 hcb.2 (fun g => ?_) (fun g => ?_)
      · dsimp only [hx2, rI]
        refine ⟨fun c => absurd c (by decide), fun _ => ?_⟩
        refine ih (j + 1) _ (by omega) (hf.sI (by simp [nxI])) ?_ ?_
        · exact ht.fr (Fr.sI (is := [10]) (ls := []) (as := []) (bs := []) Fr.rf (by simp)) (by simp) (by simp) (by simp) (by simp)
        · show gI P 0 10 + 1 = _
          rw [hat, show (1 : Int32) = iI 1 from rfl, iI_add]; congr 1
      · unfold cAt at g
        rw [if_pos hjr.1, hjr.2] at g
        exact absurd g (by decide)
theorem C_next {d : Nat} {r : Bool} {b : Nat → Int} {n q : Nat} {P0 P : PS} {R : List PS} {Q : Option AV → List PS → Prop} (ht : TxC r b n P) (ha : gI P 0 10 = iI q) (hq : q ≤ n)
    (h : ∀ P', Fr nxI [7] [] [] P P' → TkC (tok r b n q) P' → Q none (P0 :: P' :: R)) : Tri 104 (d + 1) [vR 1 0 0] (P0 :: P :: R) Q :=
  enX9_next (C_n0 hq h (rl blk b n q) 0 P (by omega) Fr.rf ht ha)

/-! ===== RULES: what an expression is worth ===== -/
def okN (a : NT) : Prop := (0 ≤ a.1 ∧ a.1 ≤ 8 ∧ (a.1 = 0 → 0 ≤ a.2 ∧ a.2 ≤ 9999)) ∨ (20 ≤ a.1 ∧ a.1 ≤ 27)
def VC (C : List NT) : Prop := ∀ a ∈ C, okN a
def okS (S : List Int) : Prop := ∀ a ∈ S, a = 30 ∨ (20 ≤ a ∧ a ≤ 27)
theorem VC_snoc {C : List NT} {a : NT} (h : VC C) (ha : okN a) : VC (C ++ [a]) := fun x hx => by
  rcases List.mem_append.mp hx with g | g
  · exact h x g
  · rw [List.mem_singleton] at g; subst g; exact ha
theorem stl_vc (m : Int) : ∀ (S : List Int) (out : List NT), okS S → VC out → VC (stl m S out).2 ∧ okS (stl m S out).1
  | [], out, _, h => ⟨h, fun a ha => by cases ha⟩
  | a :: S, out, hS, h => by
    unfold stl
    split
    · exact ⟨h, hS⟩
    · rename_i c
      have ha := hS a (List.mem_cons_self ..)
      refine stl_vc m S (out ++ [(a, 0)]) (fun x hx => hS x (List.mem_cons_of_mem _ hx)) (VC_snoc h (Or.inr ?_))
      show 20 ≤ a ∧ a ≤ 27
      omega
theorem okS_c {S : List Int} {a : Int} (h : okS S) (ha : a = 30 ∨ (20 ≤ a ∧ a ≤ 27)) : okS (a :: S) := fun x hx => by
  rcases List.mem_cons.mp hx with g | g
  · rw [g]; exact ha
  · exact h x g
theorem ntc_ok {b : Nat → Int} {n q : Nat} (hq : q ≤ n) (h : unt (tkq b n q)) (h4 : ¬ isC (tkq b n q) 40) : okN (ntc (tkq b n q)) := by
  have kc := knw_c (tkq b n q)
  by_cases c : knw (tkq b n q) < 0
  · rw [ntc_n c]
    have t2 : (tkq b n q).1 = 2 := by
      rcases h with g | g | g
      · exact g
      · exact absurd g h4
      · omega
    have k := (tok_ok true b hq).2.2.2.2.2.1 t2
    refine Or.inl ⟨Int.le_refl _, by show (0 : Int) ≤ 8; omega, fun _ => ?_⟩
    show 0 ≤ (tok true b n q).2.2.2.1 ∧ (tok true b n q).2.2.2.1 ≤ 9999
    omega
  · rw [ntc_k (by omega)]
    refine Or.inl ⟨by show 0 ≤ knw (tkq b n q); omega, kc.1, fun g => ?_⟩
    have g : knw (tkq b n q) = 0 := g
    omega
theorem mst_vc {b : Nat → Int} {n now q u : Nat} {S : List Int} {out : List NT} {s' : MS} (hq : q ≤ n) (hS : okS S) (hC : VC out) (h : mst b n (now, q, S, u, out) = .inl s') : s'.2.1 ≤ n ∧ okS s'.2.2.1 ∧ VC s'.2.2.2.2 := by
  by_cases c2 : now = 2
  · subst c2
    rw [mst2] at h
    have oc := opc_c (tkq b n q)
    unfold sgM at h
    split at h
    · rename_i c
      cases h
      have sv := stl_vc 0 S out hS hC
      exact ⟨(tq_lt b n hq (Or.inr (Or.inr c.1.1))).2, fun a ha => sv.2 a (List.mem_of_mem_tail ha), sv.1⟩
    split at h
    · cases h
    rename_i co
    have tl := tq_lt b n hq (op_t (by omega))
    split at h
    · split at h
      · cases h
      · cases h
        have sv := stl_vc 26 S out hS hC
        exact ⟨tl.2, okS_c sv.2 (Or.inr (by omega)), sv.1⟩
    · cases h
      have sv := stl_vc (rk (opc (tkq b n q))) S out hS hC
      exact ⟨tl.2, okS_c sv.2 (Or.inr (by omega)), sv.1⟩
  · rw [mst0 c2] at h
    unfold opM at h
    split at h
    · cases h
    rename_i cc
    split at h
    · rename_i c
      cases h
      exact ⟨(tq_lt b n hq (Or.inl c.2.1)).2, okS_c hS (Or.inr (by omega)), hC⟩
    rename_i cn
    have un : unt (tkq b n q) := Decidable.not_not.mp (fun g => cc (Or.inl ⟨cn, g⟩))
    have tl := tq_lt b n hq (by
      rcases un with g | g | g
      · exact Or.inr (Or.inl g)
      · exact Or.inr (Or.inr g.1)
      · exact Or.inl ((knw_c _).2.2 g))
    split at h
    · cases h
      exact ⟨tl.2, okS_c hS (Or.inl rfl), hC⟩
    · rename_i c4
      cases h
      exact ⟨tl.2, hS, VC_snoc hC (ntc_ok hq un c4)⟩
theorem run_vc {b : Nat → Int} {n : Nat} : ∀ (f now q u : Nat) (S : List Int) (out : List NT) (q' u' : Nat) (out' : List NT), runF b n f (now, q, S, u, out) = some (.inl (q', u', out')) → q ≤ n → okS S → VC out → VC out'
  | 0, now, q, u, S, out, q', u', out', h, _, _, _ => by cases h
  | f + 1, now, q, u, S, out, q', u', out', h, hq, hS, hC => by
    rw [runF_s] at h
    split at h
    · cases h
      exact (stl_vc 0 S out hS hC).1
    · cases m : mst b n (now, q, S, u, out) with
      | inl s' =>
        rw [m] at h
        have k := mst_vc hq hS hC m
        obtain ⟨now', q1, S', u1, out1⟩ := s'
        exact run_vc f now' q1 u1 S' out1 q' u' out' h k.1 k.2.1 k.2.2
      | inr e => rw [m] at h; cases h
theorem rule_vc {b : Nat → Int} {n u q u' q' : Nat} {rs rs' : List RLt} (h : RuleR b n rs u q (.ok (rs', u', q'))) (hC : VC (cds rs)) : VC (cds rs') := by
  rcases h with ⟨_, g⟩ | ⟨_, ⟨e, _, g⟩ | ⟨q1, _, ⟨e, _, g⟩ | ⟨v, q2, _, ⟨e, _, g⟩ | ⟨q3, _, ⟨e, _, g⟩ | ⟨q4, u4, C, ⟨f, hr⟩, h3, _, _, g⟩⟩⟩⟩⟩
  · cases g
  · cases g
  · cases g
  · cases g
  · cases g
  · cases g
    rw [cds_app]
    exact run_vc f 0 q3 u [] (cds rs) q4 _ _ hr h3 (fun a ha => by cases ha) hC
theorem rls_vc {b : Nat → Int} {n : Nat} : ∀ (f : Nat) (rs : List RLt) (u q : Nat) (rs' : List RLt) (u' : Nat), RlsR b n f rs u q (.ok (rs', u')) → VC (cds rs) → VC (cds rs')
  | 0, rs, u, q, rs', u', h, _ => h.elim
  | f + 1, rs, u, q, rs', u', h, hC => by
    rcases h with ⟨_, g⟩ | ⟨_, ⟨e, _, g⟩ | ⟨rs1, u1, q1, h1, h2⟩⟩
    · cases g; exact hC
    · cases g
    · exact rls_vc f rs1 u1 q1 rs' u' h2 (rule_vc h1 hC)
/-- a sign of two numbers -/
def wk (a : Int) (x y : Int32) : Int32 := if a = 20 then (if x = 0 ∧ y = 0 then 0 else 1) else if a = 21 then (if x = 0 ∨ y = 0 then 0 else 1) else if a = 23 then (if x = y then 1 else 0) else if a = 24 then (if y ≤ x then 0 else 1) else if a = 25 then (if x ≤ y then 0 else 1) else if a = 26 then x + y else x - y
def stpV (A : Nat → Int32) (a : NT) (st : List Int32) : List Int32 := if a.1 < 20 then (if a.1 = 0 then iI a.2 else A a.1.toNat) :: st else if a.1 = 22 then (if st.headD 0 = 0 then 1 else 0) :: st.tail else wk a.1 (st.tail.headD 0) (st.headD 0) :: st.tail.tail
def evS (A : Nat → Int32) : List NT → List Int32 → List Int32
  | [], st => st
  | a :: C, st => evS A C (stpV A a st)
def evR (A : Nat → Int32) (C : List NT) : Int32 := (evS A C []).headD 0
def trS (A : Nat → Int32) : List RLt → Int
  | [] => 0
  | r :: rs => if evR A r.2 = 0 then trS A rs else r.1
def skA (g : Nat → Int32) (st : List Int32) : Prop := ∀ i, i < st.length → g i = st.getD (st.length - 1 - i) 0
theorem skA_nl {g : Nat → Int32} : skA g [] := fun i hi => absurd hi (Nat.not_lt_zero i)
theorem skA_up {g g' : Nat → Int32} {st : List Int32} {v : Int32} (h : skA g st) (hg : ∀ i, g' i = if i = st.length then v else g i) : skA g' (v :: st) := fun i hi => by
  have hi : i < st.length + 1 := hi
  show g' i = (v :: st).getD (st.length + 1 - 1 - i) 0
  rw [hg i]
  by_cases c : i = st.length
  · rw [if_pos c, show st.length + 1 - 1 - i = 0 by omega]; rfl
  · rw [if_neg c, h i (by omega), show st.length + 1 - 1 - i = (st.length - 1 - i) + 1 by omega]; rfl
theorem skA_tl {g : Nat → Int32} {st : List Int32} {x : Int32} (h : skA g (x :: st)) : skA g st ∧ g st.length = x := by
  refine ⟨fun i hi => ?_, ?_⟩
  · have := h i (by show i < st.length + 1; omega)
    rw [this]
    show (x :: st).getD (st.length + 1 - 1 - i) 0 = _
    rw [show st.length + 1 - 1 - i = (st.length - 1 - i) + 1 by omega]; rfl
  · rw [h st.length (by show st.length < st.length + 1; omega)]
    show (x :: st).getD (st.length + 1 - 1 - st.length) 0 = x
    rw [show st.length + 1 - 1 - st.length = 0 by omega]; rfl
/-- where a rule's notes lie among all -/
theorem cds_at : ∀ (rs : List RLt) (r : Nat), r < rs.length → (∀ i, i < (rs.getD r (0, [])).2.length → (cds rs).getD ((cds (rs.take r)).length + i) (0, 0) = (rs.getD r (0, [])).2.getD i (0, 0)) ∧ (cds (rs.take (r + 1))).length = (cds (rs.take r)).length + (rs.getD r (0, [])).2.length ∧ (cds (rs.take (r + 1))).length ≤ (cds rs).length
  | [], r, h => absurd h (Nat.not_lt_zero r)
  | x :: rs, 0, h => by
    refine ⟨fun i hi => ?_, ?_, ?_⟩
    · show (x.2 ++ cds rs).getD (0 + i) (0, 0) = x.2.getD i (0, 0)
      rw [Nat.zero_add]; exact getD_app_l hi
    · show (x.2 ++ []).length = 0 + x.2.length
      rw [List.append_nil]; omega
    · show (x.2 ++ []).length ≤ (x.2 ++ cds rs).length
      rw [List.append_nil, List.length_append]; omega
  | x :: rs, r + 1, h => by
    have ih := cds_at rs r (by have : r + 1 < rs.length + 1 := h; omega)
    refine ⟨fun i hi => ?_, ?_, ?_⟩
    · show (x.2 ++ cds rs).getD ((x.2 ++ cds (rs.take r)).length + i) (0, 0) = (rs.getD r (0, [])).2.getD i (0, 0)
      rw [← ih.1 i hi, List.length_append, List.getD_eq_getElem?_getD, List.getD_eq_getElem?_getD, List.getElem?_append_right (by omega), show x.2.length + (cds (rs.take r)).length + i - x.2.length = (cds (rs.take r)).length + i by omega]
    · show (x.2 ++ cds (rs.take (r + 1))).length = (x.2 ++ cds (rs.take r)).length + (rs.getD r (0, [])).2.length
      rw [List.length_append, List.length_append, ih.2.1]; omega
    · show (x.2 ++ cds (rs.take (r + 1))).length ≤ (x.2 ++ cds rs).length
      rw [List.length_append, List.length_append]; have := ih.2.2; omega
theorem VC_at {rs : List RLt} (h : VC (cds rs)) : ∀ r ∈ rs, VC r.2 := by
  induction rs with
  | nil => intro r hr; cases hr
  | cons x rs ih =>
    intro r hr a ha
    rcases List.mem_cons.mp hr with g | g
    · subst g; exact h a (List.mem_append.mpr (Or.inl ha))
    · exact ih (fun y hy => h y (List.mem_append.mpr (Or.inr hy))) r g a ha
theorem getD_mem {rs : List RLt} {r : Nat} (h : r < rs.length) : rs.getD r (0, []) ∈ rs := by
  rw [List.getD_eq_getElem?_getD, List.getElem?_eq_getElem h]
  exact List.getElem_mem h
theorem drop_at {rs : List RLt} {r : Nat} (h : r < rs.length) : rs.drop r = rs.getD r (0, []) :: rs.drop (r + 1) := by
  rw [List.drop_eq_getElem_cons h, List.getD_eq_getElem?_getD, List.getElem?_eq_getElem h]; rfl
theorem trS_bd (A : Nat → Int32) : ∀ rs : List RLt, (∀ r ∈ rs, 0 ≤ r.1 ∧ r.1 ≤ 99) → 0 ≤ trS A rs ∧ trS A rs ≤ 99
  | [], _ => ⟨Int.le_refl _, by show (0 : Int) ≤ 99; omega⟩
  | r :: rs, h => by
    unfold trS
    split
    · exact trS_bd A rs (fun x hx => h x (List.mem_cons_of_mem _ hx))
    · exact h r (List.mem_cons_self ..)

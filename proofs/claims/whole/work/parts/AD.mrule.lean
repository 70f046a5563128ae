/-! ===== RULES: the Model reads a rule ===== -/
theorem tok_wl (r : Bool) (b : Nat → Int) (n q : Nat) : (tok r b n q).1 = 1 → (tok r b n q).2.2.1 = (tok r b n q).2.1 + (tok r b n q).2.2.2.2.length := by
  unfold tok
  dsimp only
  split
  · intro h; cases h
  split
  · intro _
    show _ = _ + (lst b _ _).length
    unfold lst
    rw [List.length_map, List.length_range]
  split
  · intro h
    dsimp only at h
    split at h <;> cases h
  split <;> (intro h; cases h)
theorem tok_not {b : Nat → Int} {n q : Nat} (hq : q ≤ n) (h : isW (tkq b n q) w_not) : q + 3 ≤ (tkq b n q).2.2.1 := by
  have l := tok_wl true b n q h.1
  have p := (tok_ok true b hq).2.1
  rw [show (tok true b n q).2.2.2.2 = w_not from h.2] at l
  have l' : (tok true b n q).2.2.1 = (tok true b n q).2.1 + 3 := l
  show q + 3 ≤ (tok true b n q).2.2.1
  omega
def Phi (s : MS) : Prop := 3 * (s.2.2.2.2.length + s.2.2.1.length) + (if s.1 = 2 then 3 else 0) ≤ s.2.1 + 6 * s.2.2.2.1
def InvM (s : MS) : Prop := s.1 ≤ 2 ∧ (∀ a ∈ s.2.2.1, 20 ≤ a ∧ a ≤ 30) ∧ s.2.2.2.1 ≤ 40 ∧ Phi s
theorem mst_inv {b : Nat → Int} {n now q u : Nat} {S : List Int} {out : List NT} {s' : MS} (hq : q ≤ n) (hI : InvM (now, q, S, u, out)) (h : mst b n (now, q, S, u, out) = .inl s') : InvM s' := by
  obtain ⟨h2, hv, hu, hp⟩ := hI
  have h2 : now ≤ 2 := h2
  have hv : ∀ a ∈ S, 20 ≤ a ∧ a ≤ 30 := hv
  have hu : u ≤ 40 := hu
  have hp : 3 * (out.length + S.length) + (if now = 2 then 3 else 0) ≤ q + 6 * u := hp
  by_cases c2 : now = 2
  · subst c2
    rw [if_pos rfl] at hp
    rw [mst2] at h
    have oc := opc_c (tkq b n q)
    unfold sgM at h
    split at h
    · rename_i c
      cases h
      have sl := stl_len 0 S out
      have tl := tq_lt b n hq (Or.inr (Or.inr c.1.1))
      obtain ⟨S', eS⟩ := (stl0 S out hv).1 c.2
      refine ⟨Nat.le_refl _, fun a ha => hv a (stl_mem S out (List.mem_of_mem_tail ha)), hu, ?_⟩
      show 3 * ((stl 0 S out).2.length + (stl 0 S out).1.tail.length) + 3 ≤ (tkq b n q).2.2.1 + 6 * u
      rw [eS] at sl ⊢
      have sl : (stl 0 S out).2.length + (S'.length + 1) = out.length + S.length := sl
      show 3 * ((stl 0 S out).2.length + S'.length) + 3 ≤ _
      omega
    split at h
    · cases h
    rename_i co
    have tl := tq_lt b n hq (op_t (by omega))
    split at h
    · split at h
      · cases h
      · cases h
        have sl := stl_len 26 S out
        refine ⟨by show 1 ≤ 2; omega, fun a ha => ?_, hu, ?_⟩
        · rcases List.mem_cons.mp ha with g | g
          · rw [g]; omega
          · exact hv a (stl_mem S out g)
        · show 3 * ((stl 26 S out).2.length + ((stl 26 S out).1.length + 1)) + 0 ≤ (tkq b n q).2.2.1 + 6 * u
          omega
    · cases h
      have sl := stl_len (rk (opc (tkq b n q))) S out
      refine ⟨?_, fun a ha => ?_, hu, ?_⟩
      · show (if opc (tkq b n q) = 21 ∨ opc (tkq b n q) = 20 then 0 else 1) ≤ 2
        split <;> omega
      · rcases List.mem_cons.mp ha with g | g
        · rw [g]; omega
        · exact hv a (stl_mem S out g)
      · show 3 * ((stl (rk (opc (tkq b n q))) S out).2.length + ((stl (rk (opc (tkq b n q))) S out).1.length + 1)) + (if (if opc (tkq b n q) = 21 ∨ opc (tkq b n q) = 20 then 0 else 1) = 2 then 3 else 0) ≤ (tkq b n q).2.2.1 + 6 * u
        rw [if_neg (by split <;> omega)]
        omega
  · rw [if_neg c2] at hp
    rw [mst0 c2] at h
    unfold opM at h
    split at h
    · cases h
    rename_i cc
    split at h
    · rename_i c
      cases h
      have tl := tok_not hq c.2
      refine ⟨by show 0 ≤ 2; omega, fun a ha => ?_, hu, ?_⟩
      · rcases List.mem_cons.mp ha with g | g
        · rw [g]; omega
        · exact hv a g
      · show 3 * (out.length + (S.length + 1)) + 0 ≤ (tkq b n q).2.2.1 + 6 * u
        omega
    rename_i cn
    have un : unt (tkq b n q) := Decidable.not_not.mp (fun g => cc (Or.inl ⟨cn, g⟩))
    have u4 : u ≠ 40 := fun g => cc (Or.inr (Or.inl ⟨un, g⟩))
    have tl := tq_lt b n hq (by
      rcases un with g | g | g
      · exact Or.inr (Or.inl g)
      · exact Or.inr (Or.inr g.1)
      · exact Or.inl ((knw_c _).2.2 g))
    split at h
    · cases h
      refine ⟨by show 0 ≤ 2; omega, fun a ha => ?_, by show u + 1 ≤ 40; omega, ?_⟩
      · rcases List.mem_cons.mp ha with g | g
        · rw [g]; omega
        · exact hv a g
      · show 3 * (out.length + (S.length + 1)) + 0 ≤ (tkq b n q).2.2.1 + 6 * (u + 1)
        omega
    · cases h
      refine ⟨Nat.le_refl _, hv, by show u + 1 ≤ 40; omega, ?_⟩
      show 3 * ((out ++ [ntc (tkq b n q)]).length + S.length) + 3 ≤ (tkq b n q).2.2.1 + 6 * (u + 1)
      rw [len_app1]
      omega
theorem M_run_f {d : Nat} {x : Int32} {e : PE} {P : PS} {R : List PS} {Q : Option AV → List PS → Prop} (hf : FaM e P) (h : Q none (P :: R)) : cX12_readRule_90 (0, 0, 0, 0) d x P R Q := by
  have e1 := hf.2.2.1
  have e2 := hf.2.2.2
  refine gX12_readRule_90 ?_
  unfold fX12_readRule_90
  rw [show gI P 0 2 = _ from hf.1, show (0 : Int32) = iI 0 from rfl, iI_eq (by omega) (by omega) (by omega) (by omega), iI_le (by omega) (by omega) (by omega) (by omega)]
  exact ⟨fun _ => ⟨fun c => absurd c (by omega), fun _ => h⟩, fun c => absurd c (by omega)⟩
theorem M_run {d n : Nat} {b : Nat → Int} {R : List PS} {Q : Option AV → List PS → Prop} (hn : n ≤ 400) : ∀ (f now q u : Nat) (S : List Int) (out : List NT) (P : PS) (o : RO), runF b n f (now, q, S, u, out) = some o → InvM (now, q, S, u, out) → PrM true b n q P → MsM S u out P →
    (∀ q' u' out' P', o = .inl (q', u', out') → PrM true b n (tkq b n q').2.2.1 P' → MsM [] u' out' P' → 3 * out'.length ≤ q' + 6 * u' → u' ≤ 40 → q' ≤ n → Fr mcI [9] mcA [] P P' → vp_in (gI P' 0 81 + 1) 7 ∧ Q none ((sA (sI P' 0 81 (gI P' 0 81 + 1)) 0 71 ((gI P' 0 81 + 1).toNatClampNeg) (gI P' 0 80)) :: R)) →
    (∀ e P', o = .inr e → FaM e P' → Fr mcI [9] mcA [] P P' → Q none (P' :: R)) → cX12_readRule_90 (0, 0, 0, 0) (d + 3) (iI (now : Nat)) P R Q := by
  intro f
  induction f with
  | zero => intro now q u S out P o h; cases h
  | succ f ih =>
    intro now q u S out P o h hI hp hm hy hno
    have hI' := hI
    obtain ⟨h2, hv, hu, hΦ⟩ := hI'
    have h2 : now ≤ 2 := h2
    have hv : ∀ a ∈ S, 20 ≤ a ∧ a ≤ 30 := hv
    have hu : u ≤ 40 := hu
    have phi : 3 * (out.length + S.length) + (if now = 2 then 3 else 0) ≤ q + 6 * u := hΦ
    have hq := hp.2.2.2.1
    have phi2 : 3 * (out.length + S.length) ≤ q + 6 * u := by split at phi <;> omega
    rw [runF_s] at h
    have go : ∀ (s' : MS) (P' : PS), ¬ dnS b n (now, q, S, u, out) → mst b n (now, q, S, u, out) = .inl s' → PrM true b n s'.2.1 P' → MsM s'.2.2.1 s'.2.2.2.1 s'.2.2.2.2 P' → Fr mcI [9] mcA [] P P' → cX12_readRule_90 (0, 0, 0, 0) (d + 3) (iI (s'.1 : Nat)) P' R Q := by
      intro s' P' nd e p' m' f'
      have i' := mst_inv hq hI e
      rw [if_neg nd, e] at h
      obtain ⟨now', q', S', u', out'⟩ := s'
      exact ih now' q' u' S' out' P' o h i' p' m' (fun q' u' out' P'' eo p'' m'' b1 b2 b3 f'' => hy q' u' out' P'' eo p'' m'' b1 b2 b3 (f'.trs f'')) (fun e P'' eo fa f'' => hno e P'' eo fa (f'.trs f''))
    have er : ∀ (e : PE) (x : Int32) (P' : PS), ¬ dnS b n (now, q, S, u, out) → mst b n (now, q, S, u, out) = .inr e → FaM e P' → Fr mcI [9] mcA [] P P' → cX12_readRule_90 (0, 0, 0, 0) (d + 3) x P' R Q := by
      intro e x P' nd ee fa f'
      rw [if_neg nd, ee] at h
      refine M_run_f fa (hno e P' ?_ fa f')
      cases h; rfl
    have sg : now = 2 → ¬ dnS b n (now, q, S, u, out) → Tri 273 (d + 3) [vR 0 0 0] (P :: R) (fun r11 h11 => hx1 h11 fun P0_11 R_11 => rI r11 fun y11 => cX12_readRule_90 (0, 0, 0, 0) (d + 3) y11 P0_11 R_11 Q) := by
      intro c nd
      refine M_sgnR hp hm hv (by omega) (fun s' P' e p' m' f' => ?_) (fun e x P' ee fa f' => ?_)
      · dsimp only [hx1, rI]
        exact go s' P' nd (by subst c; rw [mst2]; exact e) p' m' f'
      · dsimp only [hx1, rI]
        exact er e x P' nd (by subst c; rw [mst2]; exact ee) fa f'
    have n2 : iI (now : Nat) = (2 : Int32) ↔ now = 2 := by
      rw [show (2 : Int32) = iI 2 from rfl, iI_eq (by omega) (by omega) (by omega) (by omega)]; omega
    have s59 : gI P 0 6 = (59 : Int32) ↔ isC (tkq b n q) 59 := hp.sgn (c := 59) (by omega) (by omega)
    have f0 : gI P 0 2 = iI 0 := hp.2.2.1
    refine gX12_readRule_90 ?_
    unfold fX12_readRule_90
    rw [n2, s59, f0]
    refine ⟨fun g => absurd rfl g, fun _ => ⟨fun c => ⟨fun _ => ?_, fun g => absurd g c⟩, fun c => ⟨fun c1 => ⟨fun g => absurd c g, fun _ => sg c (fun g => c1 g.2.1)⟩, fun c1 => ?_⟩⟩⟩
    · refine M_operand (by omega) hp hm (by omega) (by omega) hu (fun s' P' e p' m' f' => ?_) (fun e x P' ee fa f' => ?_)
      · dsimp only [hx1, rI]
        exact go s' P' (nd0 c) (by rw [mst0 c]; exact e) p' m' f'
      · dsimp only [hx1, rI]
        exact er e x P' (nd0 c) (by rw [mst0 c]; exact ee) fa f'
    · refine M_isOpen hm (by omega) hv ?_
      dsimp only [hx1, rI]
      rw [oI_dec, f0]
      refine ⟨fun c2 => ⟨fun _ => ?_, fun g => absurd (by decide) g⟩, fun c2 => ⟨fun g => absurd c g, fun _ => sg c (fun g => c2 g.2.2)⟩⟩
      have dn : dnS b n (now, q, S, u, out) := ⟨c, c1, c2⟩
      rw [if_pos dn] at h
      have sl := stl_len 0 S out
      have e0 := (stl0 S out hv).2 c2
      refine enX12_settle (M_settle (m := 0) rfl (by omega) S out P hv (by omega) hm (fun P' m' f' => ?_))
      dsimp only [hx1, rV]
      rw [e0] at m' sl
      have sl : (stl 0 S out).2.length + 0 = out.length + S.length := sl
      refine M_nx (P0 := P) (hp.ms f') m' (t3 (Or.inr (Or.inr c1.1))) (fun P'' p'' m'' f'' => ?_)
      dsimp only [hx1, rV]
      have eo : o = .inl (q, u, (stl 0 S out).2) := by cases h; rfl
      exact hy q u _ P'' eo p'' m'' (by omega) hu hq ((frU f').trs f'')

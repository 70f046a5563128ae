/-! ===== constructors that only set fields ===== -/
theorem oi_inst : Cond.instanceMethod Lib.objectInit ∈ GW := wGW_ok (i := 140) (by decide +kernel)
theorem oi_code : Cond.code Lib.objectInit ⟨#[0xb1]⟩ 1 none ∈ GW := gw_in (in_1 _ (List.mem_of_getElem? (i := 29) rfl)) rfl
def ckD (c : Nat) (fI : Nat → Int32) (ops : List OP) : Bool := (List.range (nf c)).all fun a => dnF (fun _ => false) ops a || (match (ly c a).1 with
  | 0 => decide (fI a = 0)
  | 1 => true
  | 2 => decide (fI a = 0)
  | _ => false)
theorem ckD_of {c n : Nat} {fI : Nat → Int32} {fO : Nat → Option Nat} {ops : List OP} {ρ : Nat → Nat → Nat → Nat} {P : PS} (h : ckD c fI ops = true) (hn : n = gN P) : ∀ a, a < nf c → dnF (fun _ => false) ops a = true ∨ (isAr (ly c a).1 = false ∧ fval ρ c n (nwO P fI fO) a = dfv (ly c a).1) := by
  intro a ha
  have := List.all_eq_true.mp h a (List.mem_range.mpr ha)
  simp only [Bool.or_eq_true] at this
  rcases this with g | g
  · exact Or.inl g
  · refine Or.inr ?_
    subst hn
    split at g
    · rename_i hk
      have g := of_decide_eq_true g
      rw [hk, fv_i (Or.inl hk), nw_I, g]; exact ⟨rfl, rfl⟩
    · rename_i hk
      rw [hk, fv_l hk, nw_L]; exact ⟨rfl, rfl⟩
    · rename_i hk
      have g := of_decide_eq_true g
      rw [hk, fv_i (Or.inr hk), nw_I, g]; exact ⟨rfl, rfl⟩
    · cases g
section WT
variable {p : Program} {l : Launch} {e : Env} {R : Room} {s : State} {m : MethodId} {args : Array Value} {below : List Frame} {meth : Method} {cd : Code} {H : Heap} {locs : List Loc} {cells slots : Nat} {Q : State → Prop} {ls : Array Slot} {D : va_G} {aC : Nat → ClassId} {M : MI} {q0 idx : Nat}
theorem w_obj (hC : Ci p s m args meth cd M D aC) (hl0 : ls[0]? = some (.val (.ref q0))) (hsz : ls.size = M.2.2.2.2.1) (hd0 : decode M.2.2.2.1 0 = .ok (.aload_n 0, 1)) (hd1 : decode M.2.2.2.1 1 = .ok (.invokespecial idx, 3)) (hlink : Cond.methodLink (rn M.2.2.2.2.2.2) idx Lib.objectInit ∈ GW) (hf : 1 ≤ R.frames) (hlo : 12 ≤ R.locals) (kk : W p l e R s m args below meth cd H locs cells slots Q (F0 m 4 ls [])) : W p l e R s m args below meth cd H locs cells slots Q (F0 m 0 ls []) := by
  obtain ⟨hx, hb, hml, hown, hts, -⟩ := hC
  refine lv_aload_n hx hb hd0 rfl hl0 ?_
  refine W.objInit hx hb hown (hts _ hlink) (hts _ oi_inst) (hts _ oi_code) rfl (by rw [hml]; exact hsz) rfl hd1 hf (by show 2 * 0 + 0 + 12 ≤ _; omega) ?_
  exact W.eq (g2 := F0 m 4 ls []) rfl kk
end WT
theorem iA_S {ρ : Nat → Nat → Nat → Nat} {hs : List PS} {sz q0 : Nat} : ∀ q, sz ≤ q → iA ρ hs sz q0 q := fun q h => Or.inr (Or.inr h)
theorem wf_nwO {hs : List PS} {c : Nat} {fI : Nat → Int32} {fO : Nat → Option Nat} (hw : wf hs) (hc : c < 13) (h7 : ∀ a, a < nf c → (ly c a).1 = 7 → ∀ k, fO a = some k → vc hs (ly c a).2 k 0) (h9 : ∀ a, a < nf c → (ly c a).1 = 9 → vc hs ((ly c a).2 / 100) ((ly c a).2 % 100) 0) : wf (hs.set c (nwO (hp hs c) fI fO)) := by
  have hl := hw.1
  have hlt : c < hs.length := by omega
  have old := nwO_old (hp hs c) fI fO
  have cle : ∀ c', cn hs c' ≤ cn (hs.set c (nwO (hp hs c) fI fO)) c' := fun c' => by
    rw [cn_new hl hc old]
    by_cases e : c' = c
    · rw [if_pos e, e]; omega
    · rw [if_neg e]; exact Nat.le_refl _
  refine ⟨by rw [List.length_set]; exact hl, fun c' j h1 h2 a ha => ?_⟩
  rw [cn_new hl hc old] at h2
  rw [hp_set hlt]
  by_cases e : c' = c
  · subst e
    rw [if_pos rfl] at h2 ⊢
    by_cases ej : j < cn hs c'
    · have o := old.2.2 j ej
      have g := hw.2 c' j h1 ej a ha
      rw [o.2.2.2.2.1, o.2.2.2.2.2]
      exact ⟨fun hk k hq => vc_le cle (g.1 hk k hq), fun hk i k hq => vc_le cle (g.2.1 hk i k hq), fun hk => vc_le cle (g.2.2 hk)⟩
    · have ej : j = gN (hp hs c') := by
        have : cn hs c' = gN (hp hs c') := rfl
        omega
      rw [ej]
      refine ⟨fun hk k hq => ?_, fun hk i k hq => ?_, fun hk => vc_le cle (h9 a ha hk)⟩
      · rw [nw_O] at hq; exact vc_le cle (h7 a ha hk k hq)
      · rw [nw_R] at hq; cases hq
  · rw [if_neg e] at h2 ⊢
    have g := hw.2 c' j h1 h2 a ha
    exact ⟨fun hk k hq => vc_le cle (g.1 hk k hq), fun hk i k hq => vc_le cle (g.2.1 hk i k hq), fun hk => vc_le cle (g.2.2 hk)⟩
theorem no9 {hs : List PS} {c : Nat} (h9 : ((List.range (nf c)).all fun a => !(Nat.beq (ly c a).1 9)) = true) : ∀ a, a < nf c → (ly c a).1 = 9 → vc hs ((ly c a).2 / 100) ((ly c a).2 % 100) 0 := fun a ha hk => by
  have := List.all_eq_true.mp h9 a (List.mem_range.mpr ha)
  rw [hk] at this
  cases this
theorem TriI_ops {M : MI} {c d idx : Nat} {hs : List PS} {fI : Nat → Int32} {ops : List OP} (hw : wf hs) (hI : iB M c) (hy : plainName M.2.2.1.cls = true) (hown : M.2.2.2.2.2.2 = c) (hl : 1 ≤ M.2.2.2.2.1) (hd0 : decode M.2.2.2.1 0 = .ok (.aload_n 0, 1)) (hd1 : decode M.2.2.2.1 1 = .ok (.invokespecial idx, 3)) (hlink : Cond.methodLink (rn c) idx Lib.objectInit ∈ GW) (hck : ckOs M.2.2.2.1 c c fI 4 ops = true) (hcl : ∀ o ∈ ops, o.2.1 = 8 → Cond.classLink (rn c) o.2.2.2.2.1 (rn ((ly c o.2.2.2.1).2 % 100)) ∈ GW) (hD : ckD c fI ops = true) (hd9 : decode M.2.2.2.1 (pcE 4 ops) = .ok (.return_, 1)) (h9 : ((List.range (nf c)).all fun a => !(Nat.beq (ly c a).1 9)) = true) :
    TriI M c d (sumC ops) (sumS c ops) hs (fun h => h = hs.set c (nwO (hp hs c) fI (fun _ => none))) := by
  have h13 := hI.2.2.2.2.2.2.2.2.2
  subst hown
  refine TriI_of hy hI.2.2.2.1 hI.2.2.2.2.2.1 hl hI.2.2.2.2.2.2.2.2.1 rfl (fun p l e s m below meth cd D aC ρ q0 ls hC hls hR hat hq => ?_)
  have hl0 : ls[0]? = some (.val (.ref q0)) := lv_at hls 0 rfl
  refine w_obj hC hl0 hls.1 hd0 hd1 hlink (by show 1 ≤ d + 1; omega) (by show 12 ≤ 64 * (d + 1); omega) ?_
  obtain ⟨hx, hb, hml, hown, hts, hKK, hAO, hret, hlk, hini⟩ := id hC
  refine w_ops (fO := fun _ => none) (A := iA ρ hs s.heap.size q0) hx hb hown hts hKK hAO h13 hini hl0 (Or.inl rfl) ops 4 (fun _ => 0) (fun _ => false) s.heap [] 0 0 hck hcl (Con.start hR hat rfl hq) va_S.rf (by show 0 + _ ≤ sumC ops; omega) (by show 0 + _ ≤ sumS _ ops; omega) (fun α' H' locs' hC' hS' => ?_)
  have fin := hC'.fin hw h13 (nwO_old _ _ _) (ckD_of hD rfl)
  rw [Nat.zero_add, Nat.zero_add]
  exact W.vret hx hb hret (fun t ht _ => ⟨_, _, rfl, rfl, wf_nwO hw h13 (fun a _ _ k hk => by cases hk) (no9 h9), by rw [ht]; exact fin.1, fin.2, rx_q, hS'.F ht⟩) hS'.2.2 hd9 hlk

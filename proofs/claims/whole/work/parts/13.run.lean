/-! ===== runs and contracts ===== -/
/-- of the locals those that are named, in that order -/
def pk (lv : List (Nat × AV)) : List Nat → List (Nat × AV)
  | [] => []
  | k :: t => match lk lv k with
    | some v => (k, v) :: pk lv t
    | none => pk lv t
theorem pk_mem {lv : List (Nat × AV)} : ∀ {ks : List Nat} {q : Nat × AV}, q ∈ pk lv ks → q ∈ lv
  | k :: t, q, h => by
    unfold pk at h
    split at h
    · rename_i v hv
      rcases List.mem_cons.mp h with rfl | h
      · exact lk_mem hv
      · exact pk_mem h
    · exact pk_mem h
theorem Go.less {M : MI} {z : Nat × Nat × Nat × Nat} {d pc : Nat} {lv lv' : List (Nat × AV)} {st : List AV} {hs : List PS} {Q : Option AV → List PS → Prop} (hs' : ∀ q ∈ lv', q ∈ lv) (h : Go M z d pc lv' st hs Q) : Go M z d pc lv st hs Q := by
  intro p l e s m args below meth c H locs ls D aC ρ0 hs0 ρ sz hC hz hwf hlv hst hR hl hext hS
  refine h p l e s m args below meth c H locs ls D aC ρ0 hs0 ρ sz hC hz hwf (fun q hq => hlv q (hs' q hq)) hst hR ⟨hl.1, hl.2.1, fun q hq => ?_⟩ hext hS
  obtain ⟨q0, hq0, rfl⟩ := List.mem_map.mp hq
  exact hl.2.2 _ (List.mem_map.mpr ⟨q0, hs' q0 hq0, rfl⟩)
def fc : List (Nat × List Nat) → Nat → Option (List Nat)
  | [], _ => none
  | (k, l) :: t, pc => bif Nat.beq k pc then some l else fc t pc
/-- from a place on, up to the cuts (each with the locals that it keeps) -/
def wpc (M : MI) (z : Nat × Nat × Nat × Nat) (d p : Nat) (cuts : List (Nat × List Nat)) (Q : Option AV → List PS → Prop) : Nat → Nat → List (Nat × AV) → List AV → List PS → Prop
  | 0, _, _, _, _ => False
  | k + 1, pc, lv, st, hs => stp M d p (fun pc' lv' st' hs' => match fc cuts pc' with
    | some ks => Go M z d pc' (pk lv' ks) st' hs' Q
    | none => wpc M z d p cuts Q k pc' lv' st' hs') Q pc lv st hs
theorem Go.run {M : MI} {z : Nat × Nat × Nat × Nat} {d p : Nat} {cuts : List (Nat × List Nat)} {Q : Option AV → List PS → Prop} (hM : okM M) : ∀ (k : Nat) {pc : Nat} {lv : List (Nat × AV)} {st : List AV} {hs : List PS}, wpc M z d p cuts Q k pc lv st hs → Go M z d pc lv st hs Q
  | 0, _, _, _, _, h => False.elim h
  | k + 1, _, _, _, _, h => stp_sound hM h (fun pc' lv' st' hs' hk => by
      cases hc : fc cuts pc' with
      | some ks => rw [hc] at hk; exact Go.less (fun q hq => pk_mem hq) hk
      | none => rw [hc] at hk; exact Go.run hM k hk)
def la : Nat → List AV → List (Nat × AV)
  | _, [] => []
  | k, v :: t => (k, v) :: la (bif isL v then k + 2 else k + 1) t
theorem la_args (ρ : Nat → Nat → Nat → Nat) : ∀ (k : Nat) (av : List AV), lv_args k (av.map (zc ρ)) = (la k av).map fun q => (q.1, zc ρ q.2)
  | _, [] => rfl
  | k, v :: t => by
    simp only [List.map_cons, lv_args, la, cat_zc]
    cases isL v
    · simp only [cond_false]
      rw [if_neg (by decide), la_args ρ]
    · simp only [cond_true]
      rw [if_pos trivial, la_args ρ]
theorem la_v {hs : List PS} : ∀ {k : Nat} {av : List AV}, (∀ v ∈ av, vv hs v) → ∀ q ∈ la k av, vv hs q.2
  | _, [], _, q, hq => by cases hq
  | k, v :: t, h, q, hq => by
    rcases List.mem_cons.mp hq with rfl | hq
    · exact h v List.mem_cons_self
    · exact la_v (fun w hw => h w (List.mem_cons_of_mem _ hw)) q hq
theorem sl_len (ρ : Nat → Nat → Nat → Nat) : ∀ av : List AV, (lg_sl (av.map (zc ρ))).length = catS av
  | [] => rfl
  | v :: t => by
    have ih := sl_len ρ t
    unfold lg_sl at ih ⊢
    simp only [List.map_cons, List.flatMap_cons, List.length_append, ih, catS, cat_zc]
    cases isL v <;> simp
theorem ext_rf {ρ : Nat → Nat → Nat → Nat} {hs : List PS} {sz : Nat} : ext ρ hs ρ hs sz := ⟨fun _ => Nat.le_refl _, fun _ _ _ _ => rfl, fun _ _ _ hv hj => absurd (vc_lt hv).2 (Nat.not_lt.mpr hj)⟩
theorem TriM_of {M : MI} {d mc ms : Nat} {av : List AV} {hs : List PS} {Q : Option AV → List PS → Prop} (hy : plainName M.2.2.1.cls = true) (hn : M.2.2.1.cls = rn M.2.2.2.2.2.2) (hl : catS av ≤ M.2.2.2.2.1) (h : Go M (0, 0, mc, ms) d 0 (la 0 av) [] hs Q) : TriM M d mc ms av hs Q := by
  intro l D aC ρ sz hwf hv
  refine Met.ofW (cc := M.2.2.2.1) (maxL := M.2.2.2.2.1) (ret := M.2.2.2.2.2.1) hy rfl ?_
  intro p e s m args below meth c s₁ B hml hP
  obtain ⟨rfl, hsz, hR, hK⟩ := hP
  have hts := atoms_spec (ws := WS M) B.pre
  have hown : s.vm.findClass (rn M.2.2.2.2.2.2) = some m.cls := by rw [← hn]; exact findClass_of_methodNamed B.named
  have hls := lv_entry (av.map (zc ρ)) (n := M.2.2.2.2.1) (by rw [sl_len]; exact hl)
  rw [lg_entry_eq]
  rw [la_args] at hls
  exact h p l e s m _ below meth c s.heap [] _ D aC ρ hs ρ sz ⟨B.exec, B.bytes, hml, hown, fun w hw => hts w (List.mem_cons_of_mem _ hw), hK, B.returns, B.notSynchronized, hsz⟩ ⟨Nat.zero_le _, Nat.zero_le _⟩ hwf (la_v hv) (fun v hv => by cases hv) hR hls ext_rf va_S.rf
theorem Tri_of {i d : Nat} {av : List AV} {hs : List PS} {Q : Option AV → List PS → Prop} (hi : (MTT.any fun e => Nat.beq e.1 i) = true) (hl : Nat.ble (catS av) (mt i).2.2.2.2.1 = true) (h : Go (mt i) (0, 0, 0, 0) d 0 (la 0 av) [] hs Q) : Tri i d av hs Q := by
  obtain ⟨e, he, h1⟩ := List.any_eq_true.mp hi
  have h1 := Nat.eq_of_beq_eq_true h1
  have hb := (mB_of he).1
  rw [h1] at hb
  exact TriM_of hb.2.2.2.2.2 hb.2.2.2.1 (Nat.le_of_ble_eq_true hl) h

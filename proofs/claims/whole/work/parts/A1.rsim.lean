/-! ===== expressions: what a piece of the text says, on the machine ===== -/
def hts (M : Nat) : List NT → Nat → Option Nat
  | [], h => some h
  | a :: C, h => if a.1 < 20 then (if h < M then hts M C (h + 1) else none) else if a.1 = 22 then (if 1 ≤ h then hts M C h else none) else (if 2 ≤ h then hts M C (h - 1) else none)
def vals : List NT → Nat
  | [] => 0
  | a :: C => vals C + (if a.1 < 20 then 1 else 0)
theorem vals_app (C D : List NT) : vals (C ++ D) = vals C + vals D := by
  induction C with
  | nil => show vals D = 0 + vals D; omega
  | cons a C ih => show vals (C ++ D) + _ = vals C + _ + vals D; rw [ih]; omega
theorem hts_app (M : Nat) (D : List NT) : ∀ (C : List NT) (h : Nat), hts M (C ++ D) h = (hts M C h).bind (hts M D)
  | [], h => rfl
  | a :: C, h => by
    show hts M (a :: (C ++ D)) h = _
    unfold hts
    split
    · split
      · exact hts_app M D C (h + 1)
      · rfl
    · split
      · split
        · exact hts_app M D C h
        · rfl
      · split
        · exact hts_app M D C (h - 1)
        · rfl
/-- a piece that leaves one number more -/
def PF (C : List NT) : Prop := 1 ≤ vals C ∧ ∀ M h, h + vals C ≤ M → hts M C h = some (h + 1)
theorem PF_v {a : NT} (ha : a.1 < 20) : PF [a] := by
  refine ⟨by unfold vals; rw [if_pos ha]; omega, fun M h hM => ?_⟩
  unfold vals vals at hM
  rw [if_pos ha] at hM
  unfold hts
  rw [if_pos ha, if_pos (by omega)]; rfl
theorem PF_n {C : List NT} (h : PF C) : PF (C ++ [(22, 0)]) := by
  have e : vals [((22 : Int), (0 : Int))] = 0 := rfl
  refine ⟨by rw [vals_app, e]; exact h.1, fun M k hM => ?_⟩
  rw [vals_app, e] at hM
  rw [hts_app, h.2 M k (by omega)]
  show hts M [(22, 0)] (k + 1) = _
  unfold hts
  rw [if_neg (by decide), if_pos (by decide), if_pos (by omega)]; rfl
theorem PF_b {C D : List NT} {o : Int} (h : PF C) (h' : PF D) (ho : 20 ≤ o ∧ o ≠ 22) : PF (C ++ D ++ [(o, 0)]) := by
  have e : vals [((o : Int), (0 : Int))] = 0 := by unfold vals; rw [if_neg (by show ¬ o < 20; omega)]; rfl
  refine ⟨by rw [vals_app, vals_app, e]; have := h.1; omega, fun M k hM => ?_⟩
  rw [vals_app, vals_app, e] at hM
  have p1 := h.1
  have p2 := h'.1
  rw [hts_app, hts_app, h.2 M k (by omega)]
  show ((hts M D (k + 1)).bind (hts M [(o, 0)])) = _
  rw [h'.2 M (k + 1) (by omega)]
  show hts M [(o, 0)] (k + 1 + 1) = _
  unfold hts
  rw [if_neg (by show ¬ o < 20; omega), if_neg (by show ¬ o = 22; omega), if_pos (by omega)]
  rfl
theorem opc_c (t : TK) : opc t = -1 ∨ opc t = 20 ∨ opc t = 21 ∨ opc t = 23 ∨ opc t = 24 ∨ opc t = 25 ∨ opc t = 26 ∨ opc t = 27 := by
  unfold opc
  split; omega
  split; omega
  split; omega
  split; omega
  split; omega
  split; omega
  split <;> omega
theorem opc_t {t : TK} (h : 0 ≤ opc t) : t.1 = 4 ∨ t.1 = 1 := by
  unfold opc at h
  split at h
  · rename_i c; exact Or.inl c.1
  split at h
  · rename_i c; exact Or.inl c.1
  split at h
  · rename_i c; exact Or.inl c.1
  split at h
  · rename_i c; exact Or.inl c.1
  split at h
  · rename_i c; exact Or.inl c.1
  split at h
  · rename_i c; exact Or.inr c.1
  split at h
  · rename_i c; exact Or.inr c.1
  omega
theorem knw_c (t : TK) : knw t ≤ 8 ∧ (knw t = -1 ∨ 1 ≤ knw t) ∧ (0 ≤ knw t → t.1 = 1) := by
  unfold knw
  split
  · rename_i c; exact ⟨by omega, by omega, fun _ => c.1⟩
  split
  · rename_i c; exact ⟨by omega, by omega, fun _ => c.1⟩
  split
  · rename_i c; exact ⟨by omega, by omega, fun _ => c.1⟩
  split
  · rename_i c; exact ⟨by omega, by omega, fun _ => c.1⟩
  split
  · rename_i c; exact ⟨by omega, by omega, fun _ => c.1⟩
  split
  · rename_i c; exact ⟨by omega, by omega, fun _ => c.1⟩
  split
  · rename_i c; exact ⟨by omega, by omega, fun _ => c.1⟩
  split
  · rename_i c; exact ⟨by omega, by omega, fun _ => c.1⟩
  exact ⟨by omega, by omega, fun h => by omega⟩
theorem ntc_lt (t : TK) : (ntc t).1 < 20 ∧ 0 ≤ (ntc t).1 ∧ (ntc t).1 ≤ 8 := by
  have := knw_c t
  unfold ntc
  split
  · show (0 : Int) < 20 ∧ (0 : Int) ≤ 0 ∧ (0 : Int) ≤ 8; omega
  · show knw t < 20 ∧ 0 ≤ knw t ∧ knw t ≤ 8; omega
theorem not_unt {t : TK} (h : isW t w_not) : ¬ unt t := by
  have e : knw t = -1 := by
    unfold knw
    rw [if_neg (fun g => absurd (h.2.symm.trans g.2) (by decide)), if_neg (fun g => absurd (h.2.symm.trans g.2) (by decide)), if_neg (fun g => absurd (h.2.symm.trans g.2) (by decide)), if_neg (fun g => absurd (h.2.symm.trans g.2) (by decide)), if_neg (fun g => absurd (h.2.symm.trans g.2) (by decide)), if_neg (fun g => absurd (h.2.symm.trans g.2) (by decide)), if_neg (fun g => absurd (h.2.symm.trans g.2) (by decide)), if_neg (fun g => absurd (h.2.symm.trans g.2) (by decide))]
  rintro (g | g | g)
  · have := h.1; omega
  · have := h.1; have := g.1; omega
  · omega
section RS2
variable (b : Nat → Int) (n : Nat)
theorem tq_lt {q : Nat} (hq : q ≤ n) (h : (tkq b n q).1 = 1 ∨ (tkq b n q).1 = 2 ∨ (tkq b n q).1 = 4) : q < (tkq b n q).2.2.1 ∧ (tkq b n q).2.2.1 ≤ n := by
  have k := tok_ok true b hq
  have h : (tok true b n q).1 = 1 ∨ (tok true b n q).1 = 2 ∨ (tok true b n q).1 = 4 := h
  show q < (tok true b n q).2.2.1 ∧ (tok true b n q).2.2.1 ≤ n
  have k4 := k.2.2.2.1 (by omega)
  have := k4.2 (by omega)
  have := k.2.1
  omega
def Wf (q u q' u' : Nat) (C : List NT) : Prop := q < q' ∧ q' ≤ n ∧ C.length + q ≤ q' ∧ PF C ∧ vals C + u ≤ u' ∧ u' ≤ 40
def Wl (q u q' u' : Nat) (C : List NT) : Prop := q ≤ q' ∧ q' ≤ n ∧ C.length + q ≤ q' ∧ (∀ D, PF D → PF (D ++ C)) ∧ vals C + u ≤ u' ∧ u' ≤ 40
/-- what stands behind an expression goes with the signs that wait -/
def flw (T : List Int) (q : Nat) : Prop := rk (opc (tkq b n q)) ≠ 26 ∧ (rk (opc (tkq b n q)) = 23 → ∃ T1 c T2, T = T1 ++ c :: T2 ∧ rng 26 T1 ∧ rk c = 23)
def nwU (now q : Nat) : Prop := now = 1 ∨ (now = 0 ∧ ¬ isW (tkq b n q) w_not)
def U_ok (w q u q' u' : Nat) (C : List NT) : Prop := (∀ now S out o, nwU b n now q → dpS S = w → Run b n (2, q', S, u', out ++ C) o → Run b n (now, q, S, u, out) o) ∧ Wf n q u q' u' C
def U_er (w q u : Nat) (e : PE) : Prop := ∀ now S out, nwU b n now q → dpS S = w → Run b n (now, q, S, u, out) (.inr e)
def L_ok (w q u q' u' : Nat) (C : List NT) : Prop := (∀ T S out o, rng 26 T → stp_ 26 S → dpS S = w → (∀ T' out', rng 26 T' → out' ++ emT T' = out ++ emT T ++ C → rk (opc (tkq b n q')) ≠ 26 → Run b n (2, q', T' ++ S, u', out') o) → Run b n (2, q, T ++ S, u, out) o) ∧ Wl n q u q' u' C
def L_er (w q u : Nat) (e : PE) : Prop := ∀ T S out, rng 26 T → stp_ 26 S → dpS S = w → Run b n (2, q, T ++ S, u, out) (.inr e)
def S_ok (w q u q' u' : Nat) (C : List NT) : Prop := (∀ now S out o, nwU b n now q → stp_ 26 S → dpS S = w → (∀ T' out', rng 26 T' → out' ++ emT T' = out ++ C → rk (opc (tkq b n q')) ≠ 26 → Run b n (2, q', T' ++ S, u', out') o) → Run b n (now, q, S, u, out) o) ∧ Wf n q u q' u' C
def S_er (w q u : Nat) (e : PE) : Prop := ∀ now S out, nwU b n now q → stp_ 26 S → dpS S = w → Run b n (now, q, S, u, out) (.inr e)
def stO (S : List Int) : Prop := topS S = 30 ∨ topS S ≤ 22
def O_ok (w q u q' u' : Nat) (C : List NT) : Prop := (∀ S out o, stO S → dpS S = w → (∀ T' out', rng 22 T' → out' ++ emT T' = out ++ C → flw b n T' q' → Run b n (2, q', T' ++ S, u', out') o) → Run b n (0, q, S, u, out) o) ∧ Wf n q u q' u' C
def O_er (w q u : Nat) (e : PE) : Prop := ∀ S out, stO S → dpS S = w → Run b n (0, q, S, u, out) (.inr e)
def M_ok (w q u q' u' : Nat) (C : List NT) : Prop := (∀ T S out o, rng 21 T → flw b n T q → stp_ 21 S → dpS S = w → (∀ T' out', rng 21 T' → out' ++ emT T' = out ++ emT T ++ C → flw b n T' q' → opc (tkq b n q') ≠ 21 → Run b n (2, q', T' ++ S, u', out') o) → Run b n (2, q, T ++ S, u, out) o) ∧ Wl n q u q' u' C
def M_er (w q u : Nat) (e : PE) : Prop := ∀ T S out, rng 21 T → flw b n T q → stp_ 21 S → dpS S = w → Run b n (2, q, T ++ S, u, out) (.inr e)
def B_ok (w q u q' u' : Nat) (C : List NT) : Prop := (∀ S out o, stp_ 21 S → dpS S = w → (∀ T' out', rng 21 T' → out' ++ emT T' = out ++ C → flw b n T' q' → opc (tkq b n q') ≠ 21 → Run b n (2, q', T' ++ S, u', out') o) → Run b n (0, q, S, u, out) o) ∧ Wf n q u q' u' C
def B_er (w q u : Nat) (e : PE) : Prop := ∀ S out, stp_ 21 S → dpS S = w → Run b n (0, q, S, u, out) (.inr e)
def N_ok (w q u q' u' : Nat) (C : List NT) : Prop := (∀ T S out o, rng 20 T → flw b n T q → opc (tkq b n q) ≠ 21 → stp_ 20 S → dpS S = w → (∀ T' out', rng 20 T' → out' ++ emT T' = out ++ emT T ++ C → flw b n T' q' → opc (tkq b n q') ≠ 21 → opc (tkq b n q') ≠ 20 → Run b n (2, q', T' ++ S, u', out') o) → Run b n (2, q, T ++ S, u, out) o) ∧ Wl n q u q' u' C
def N_er (w q u : Nat) (e : PE) : Prop := ∀ T S out, rng 20 T → flw b n T q → opc (tkq b n q) ≠ 21 → stp_ 20 S → dpS S = w → Run b n (2, q, T ++ S, u, out) (.inr e)
def E_ok (w q u q' u' : Nat) (C : List NT) : Prop := (∀ S out o, stp_ 20 S → dpS S = w → (∀ T' out', rng 20 T' → out' ++ emT T' = out ++ C → flw b n T' q' → opc (tkq b n q') ≠ 21 → opc (tkq b n q') ≠ 20 → Run b n (2, q', T' ++ S, u', out') o) → Run b n (0, q, S, u, out) o) ∧ Wf n q u q' u' C
def E_er (w q u : Nat) (e : PE) : Prop := ∀ S out, stp_ 20 S → dpS S = w → Run b n (0, q, S, u, out) (.inr e)
variable {b n}
theorem Wf.wl {q u q1 u1 q2 u2 : Nat} {C D : List NT} (h : Wf n q u q1 u1 C) (h' : Wl n q1 u1 q2 u2 D) : Wf n q u q2 u2 (C ++ D) := by
  unfold Wf Wl at *
  refine ⟨by omega, h'.2.1, by rw [List.length_append]; omega, h'.2.2.2.1 C h.2.2.2.1, by rw [vals_app]; omega, h'.2.2.2.2.2⟩
theorem Wl.up {q u qn q1 u1 q2 u2 : Nat} {C D : List NT} {o : Int} (hq : q < qn) (h : Wf n qn u q1 u1 C) (h' : Wl n q1 u1 q2 u2 D) (ho : 20 ≤ o ∧ o ≠ 22) : Wl n q u q2 u2 (C ++ [(o, 0)] ++ D) := by
  unfold Wf Wl at *
  have e : vals [((o : Int), (0 : Int))] = 0 := by unfold vals; rw [if_neg (by show ¬ o < 20; omega)]; rfl
  refine ⟨by omega, h'.2.1, by rw [List.length_append, List.length_append]; simp only [List.length_singleton]; omega, fun D' hD => ?_, by rw [vals_app, vals_app, e]; omega, h'.2.2.2.2.2⟩
  have := h'.2.2.2.1 _ (PF_b hD h.2.2.2.1 ho)
  simp only [List.append_assoc] at this ⊢
  exact this
theorem Wl.nl {q u : Nat} (hq : q ≤ n) (hu : u ≤ 40) : Wl n q u q u [] := ⟨by omega, hq, by simp, fun D hD => by rw [List.append_nil]; exact hD, by show 0 + u ≤ u; omega, hu⟩
/-- no sign that goes on: the machine finds the fault -/
theorem sg_end {T S : List Int} {q u : Nat} {out : List NT} (hf : flw b n T q) (h1 : opc (tkq b n q) ≠ 21) (h0 : opc (tkq b n q) ≠ 20) (hc : ¬ (isC (tkq b n q) 41 ∧ 30 ∈ T ++ S)) : sgM (tkq b n q) (T ++ S) u out = .inr (erT (tkq b n q)) := by
  unfold sgM
  rw [if_neg hc]
  by_cases c : opc (tkq b n q) < 0
  · rw [if_pos c]
  · have oc := opc_c (tkq b n q)
    have n6 := hf.1
    rw [Ne, rk_26] at n6
    have r3 : rk (opc (tkq b n q)) = 23 := rk_23.mpr (by omega)
    obtain ⟨T1, a, T2, e, r1, ra⟩ := hf.2 r3
    have a3 := rk_23.mp ra
    rw [if_neg c, if_pos r3, e, List.append_assoc, List.cons_append, stl_app (S := a :: (T2 ++ S)) (Or.inr (show a < 26 by omega)) T1 out r1, if_pos (show rk (topS (a :: (T2 ++ S))) = 23 from ra)]
theorem mst2 {q u : Nat} {S : List Int} {out : List NT} : mst b n (2, q, S, u, out) = sgM (tkq b n q) S u out := rfl
theorem mst0 {now q u : Nat} {S : List Int} {out : List NT} (h : now ≠ 2) : mst b n (now, q, S, u, out) = opM now (tkq b n q) S u out := by
  unfold mst; rw [if_neg h]
theorem nd0 {now q u : Nat} {S : List Int} {out : List NT} (h : now ≠ 2) : ¬ dnS b n (now, q, S, u, out) := fun g => h g.1
theorem ndO {q u : Nat} {S : List Int} {out : List NT} (h : 0 ≤ opc (tkq b n q)) : ¬ dnS b n (2, q, S, u, out) := fun g => by
  have : opc (tkq b n q) = -1 := opc_no (Or.inr g.2.1)
  omega
theorem sg_op {T S : List Int} {q u : Nat} {out : List NT} {m : Int} (ho : 0 ≤ opc (tkq b n q)) (hm : rk (opc (tkq b n q)) = m) (h3 : m ≠ 23) (hr : rng m T) (hs : stp_ m S) : sgM (tkq b n q) (T ++ S) u out = .inl (if opc (tkq b n q) = 21 ∨ opc (tkq b n q) = 20 then 0 else 1, (tkq b n q).2.2.1, opc (tkq b n q) :: S, u, out ++ emT T) := by
  unfold sgM
  rw [if_neg (fun g => by have := opc_no (Or.inl g.1); omega), if_neg (by omega), hm, if_neg h3, stl_app hs T out hr]
end RS2

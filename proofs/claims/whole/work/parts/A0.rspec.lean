/-! ===== RULES: the grammar, and the machine of waiting signs ===== -/
abbrev NT : Type := Int × Int
abbrev isC (t : TK) (c : Int) : Prop := t.1 = 4 ∧ t.2.2.2.1 = c
abbrev isW (t : TK) (w : List Int) : Prop := t.1 = 1 ∧ t.2.2.2.2 = w
def opc (t : TK) : Int := if isC t 43 then 26 else if isC t 45 then 27 else if isC t 61 then 23 else if isC t 60 then 24 else if isC t 62 then 25 else if isW t w_and then 21 else if isW t w_or then 20 else -1
def knw (t : TK) : Int := if isW t w_dots then 1 else if isW t w_named then 2 else if isW t w_namings then 3 else if isW t w_specks then 4 else if isW t w_smears then 5 else if isW t w_told then 6 else if isW t w_stretch then 7 else if isW t w_light then 8 else -1
abbrev unt (t : TK) : Prop := t.1 = 2 ∨ isC t 40 ∨ 0 ≤ knw t
def rk (a : Int) : Int := if a = 27 then 26 else if a = 24 ∨ a = 25 then 23 else a
def ntc (t : TK) : NT := if knw t < 0 then (0, t.2.2.2.1) else (knw t, 0)
def erT (t : TK) : PE := (badF t, (t.2.1 : Nat))
def dpS : List Int → Nat
  | [] => 0
  | a :: S => dpS S + (if a = 30 ∨ a = 22 then 1 else 0)
def stl (m : Int) : List Int → List NT → List Int × List NT
  | [], o => ([], o)
  | a :: S, o => if a = 30 ∨ a < m then (a :: S, o) else stl m S (o ++ [(a, 0)])
def topS : List Int → Int
  | [] => 30
  | a :: _ => a
abbrev MS : Type := Nat × Nat × List Int × Nat × List NT
def sgM (t : TK) (S : List Int) (u : Nat) (out : List NT) : MS ⊕ PE :=
  if isC t 41 ∧ 30 ∈ S then .inl (2, t.2.2.1, (stl 0 S out).1.tail, u, (stl 0 S out).2)
  else if opc t < 0 then .inr (erT t)
  else if rk (opc t) = 23 then (if rk (topS (stl 26 S out).1) = 23 then .inr (erT t) else .inl (1, t.2.2.1, opc t :: (stl 26 S out).1, u, (stl 26 S out).2))
  else .inl (if opc t = 21 ∨ opc t = 20 then 0 else 1, t.2.2.1, opc t :: (stl (rk (opc t)) S out).1, u, (stl (rk (opc t)) S out).2)
def opM (now : Nat) (t : TK) (S : List Int) (u : Nat) (out : List NT) : MS ⊕ PE :=
  if (¬ (now = 0 ∧ isW t w_not) ∧ ¬ unt t) ∨ (unt t ∧ u = 40) ∨ (((now = 0 ∧ isW t w_not) ∨ isC t 40) ∧ 7 ≤ dpS S) then .inr (erT t)
  else if now = 0 ∧ isW t w_not then .inl (0, t.2.2.1, 22 :: S, u, out)
  else if isC t 40 then .inl (0, t.2.2.1, 30 :: S, u + 1, out)
  else .inl (2, t.2.2.1, S, u + 1, out ++ [ntc t])
section RS
variable (b : Nat → Int) (n : Nat)
abbrev tkq (q : Nat) : TK := tok true b n q
def mst (s : MS) : MS ⊕ PE := if s.1 = 2 then sgM (tkq b n s.2.1) s.2.2.1 s.2.2.2.1 s.2.2.2.2 else opM s.1 (tkq b n s.2.1) s.2.2.1 s.2.2.2.1 s.2.2.2.2
abbrev dnS (s : MS) : Prop := s.1 = 2 ∧ isC (tkq b n s.2.1) 59 ∧ 30 ∉ s.2.2.1
abbrev RO : Type := (Nat × Nat × List NT) ⊕ PE
def runF : Nat → MS → Option RO
  | 0, _ => none
  | f + 1, s => if dnS b n s then some (.inl (s.2.1, s.2.2.2.1, (stl 0 s.2.2.1 s.2.2.2.2).2)) else (mst b n s).elim (fun s' => runF f s') (fun e => some (.inr e))
theorem runF_s (f : Nat) (s : MS) : runF b n (f + 1) s = if dnS b n s then some (.inl (s.2.1, s.2.2.2.1, (stl 0 s.2.2.1 s.2.2.2.2).2)) else (mst b n s).elim (fun s' => runF b n f s') (fun e => some (.inr e)) := rfl
theorem runF_up {o : RO} : ∀ (f : Nat) (s : MS), runF b n f s = some o → runF b n (f + 1) s = some o
  | 0, s, h => by cases h
  | f + 1, s, h => by
    rw [runF_s] at h ⊢
    split at h
    · rename_i c; rw [if_pos c]; exact h
    · rename_i c
      rw [if_neg c]
      cases m : mst b n s with
      | inl s' => rw [m] at h; exact runF_up f s' h
      | inr e => rw [m] at h; exact h
theorem runF_ge {o : RO} (f : Nat) (s : MS) (h : runF b n f s = some o) : ∀ k, runF b n (f + k) s = some o
  | 0 => h
  | k + 1 => runF_up b n (f + k) s (runF_ge f s h k)
def Run (s : MS) (o : RO) : Prop := ∃ f, runF b n f s = some o
theorem Run.det {s : MS} {o o' : RO} (h : Run b n s o) (h' : Run b n s o') : o = o' := by
  obtain ⟨f, hf⟩ := h
  obtain ⟨g, hg⟩ := h'
  have h1 := runF_ge b n f s hf g
  have h2 := runF_ge b n g s hg f
  rw [Nat.add_comm] at h2
  rw [h1] at h2
  cases h2; rfl
theorem Run.done {s : MS} (d : dnS b n s) : Run b n s (.inl (s.2.1, s.2.2.2.1, (stl 0 s.2.2.1 s.2.2.2.2).2)) := ⟨1, by rw [runF_s, if_pos d]⟩
theorem Run.bad {s : MS} {e : PE} (d : ¬ dnS b n s) (m : mst b n s = .inr e) : Run b n s (.inr e) := ⟨1, by rw [runF_s, if_neg d, m]; rfl⟩
theorem Run.step {s s' : MS} {o : RO} (d : ¬ dnS b n s) (m : mst b n s = .inl s') (r : Run b n s' o) : Run b n s o := by
  obtain ⟨f, hf⟩ := r
  exact ⟨f + 1, by rw [runF_s, if_neg d, m]; exact hf⟩
end RS
/-! ===== the machine does what the grammar says ===== -/
def emT (T : List Int) : List NT := T.map (fun a => (a, 0))
def rng (m : Int) (T : List Int) : Prop := ∀ a ∈ T, m ≤ a ∧ a < 30
def stp_ (m : Int) (S : List Int) : Prop := topS S = 30 ∨ topS S < m
theorem stl_app {m : Int} {S : List Int} (hs : stp_ m S) : ∀ (T : List Int) (o : List NT), rng m T → stl m (T ++ S) o = (S, o ++ emT T)
  | [], o, _ => by
    show stl m S o = _
    cases S with
    | nil => simp [stl, emT]
    | cons a S =>
      have : a = 30 ∨ a < m := hs
      unfold stl
      rw [if_pos this]; simp [emT]
  | a :: T, o, h => by
    have ha := h a (List.mem_cons_self ..)
    show stl m (a :: (T ++ S)) o = _
    unfold stl
    rw [if_neg (by omega), stl_app hs T _ (fun x hx => h x (List.mem_cons_of_mem _ hx))]
    simp [emT]
theorem opc_bd (t : TK) : -1 ≤ opc t ∧ opc t ≤ 27 ∧ (opc t < 0 ∨ 20 ≤ opc t) := by
  unfold opc
  split; omega
  split; omega
  split; omega
  split; omega
  split; omega
  split; omega
  split <;> omega

theorem rk_26 {a : Int} : rk a = 26 ↔ a = 26 ∨ a = 27 := by unfold rk; split; omega; split <;> omega
theorem rk_23 {a : Int} : rk a = 23 ↔ a = 23 ∨ a = 24 ∨ a = 25 := by unfold rk; split; omega; split <;> omega
theorem dpS_app (T S : List Int) (h : ∀ a ∈ T, a ≠ 30 ∧ a ≠ 22) : dpS (T ++ S) = dpS S := by
  induction T with
  | nil => rfl
  | cons a T ih =>
    have ha := h a (List.mem_cons_self ..)
    show dpS (T ++ S) + (if a = 30 ∨ a = 22 then 1 else 0) = _
    rw [if_neg (by omega), ih (fun x hx => h x (List.mem_cons_of_mem _ hx))]
    omega
theorem emT_app (T S : List Int) : emT (T ++ S) = emT T ++ emT S := by unfold emT; rw [List.map_append]
theorem rng_app {m : Int} {T S : List Int} (h : rng m T) (h' : rng m S) : rng m (T ++ S) := fun a ha => by
  rcases List.mem_append.mp ha with g | g
  · exact h a g
  · exact h' a g
theorem rng_mo {m m' : Int} {T : List Int} (h : rng m T) (hm : m' ≤ m) : rng m' T := fun a ha => by have := h a ha; omega
theorem rng_1 {m a : Int} (h : m ≤ a ∧ a < 30) : rng m [a] := fun x hx => by rw [List.mem_singleton] at hx; subst hx; exact h
theorem rng_0 {m : Int} : rng m [] := fun x hx => by cases hx
theorem isC_ne {t : TK} {c c' : Int} (h : isC t c) (hc : c ≠ c') : ¬ isC t c' := fun g => hc (h.2.symm.trans g.2)
theorem isC_W {t : TK} {c : Int} {w : List Int} (h : isC t c) : ¬ isW t w := fun g => by have := h.1; have := g.1; omega
/-- a sign that ends an expression is no sign of arithmetic -/
theorem opc_no {t : TK} (h : isC t 41 ∨ isC t 59) : opc t = -1 := by
  unfold opc
  rcases h with h | h
  · rw [if_neg (isC_ne h (by decide)), if_neg (isC_ne h (by decide)), if_neg (isC_ne h (by decide)), if_neg (isC_ne h (by decide)), if_neg (isC_ne h (by decide)), if_neg (isC_W h), if_neg (isC_W h)]
  · rw [if_neg (isC_ne h (by decide)), if_neg (isC_ne h (by decide)), if_neg (isC_ne h (by decide)), if_neg (isC_ne h (by decide)), if_neg (isC_ne h (by decide)), if_neg (isC_W h), if_neg (isC_W h)]

/-! ===== what a BOOK's text says ===== -/
abbrev SR : Type := List Int × Int × Int × Int
abbrev BA : Type := List SR × (Nat → Int) × (Nat → Bool)
def nearS (l : List SR) (x y : Int) : Bool := l.any fun s => decide ((x - s.2.1) * (x - s.2.1) + (y - s.2.2.1) * (y - s.2.2.1) < 400)
def nameS (l : List SR) (w : List Int) : Bool := l.any fun s => decide (s.1 = w)
def upI (f : Nat → Int) (k : Nat) (v : Int) : Nat → Int := fun j => if j = k then v else f j
def upB (f : Nat → Bool) (k : Nat) (v : Bool) : Nat → Bool := fun j => if j = k then v else f j
def starS (b : Nat → Int) (n : Nat) (l : List SR) (q : Nat) : Except PE (List SR × Nat) :=
  let t := tok false b n q
  if ¬ (t.1 = 1 ∧ wid t.2.2.2.2 = -1) then .error (badF t, (t.2.1 : Nat))
  else if nameS l t.2.2.2.2 = true then .error (3, (t.2.1 : Nat))
  else do
    let q3 ← wantS false b n w_at t.2.2.1
    let (x, q4) ← numS false b n 0 999 q3
    let (y, q5) ← numS false b n 0 999 q4
    if nearS l x y = true then .error (6, ((tok false b n q3).2.1 : Nat))
    else do
      let q6 ← wantS false b n w_light q5
      let (li, q7) ← numS false b n 1 99 q6
      .ok (l ++ [(t.2.2.2.2, x, y, li)], q7)
def byS (b : Nat → Int) (n : Nat) (w : List Int) (lo hi : Int) (q : Nat) : Except PE (Int × Nat) := do
  let q1 ← wantS false b n w q
  numS false b n lo hi q1
def toldS (b : Nat → Int) (n : Nat) (k : Nat) (f : Nat → Int) (q : Nat) : Except PE ((Nat → Int) × Nat) :=
  match k with
  | 0 => do
    let (v0, q1) ← byS b n w_wide 4 16 q
    let (v1, q2) ← byS b n w_unit 1 9 q1
    let (v2, q3) ← byS b n w_far 1 999 q2
    .ok (upI (upI (upI f 0 v0) 1 v1) 2 v2, q3)
  | 3 => do
    let (v, q1) ← numS false b n 0 9 q
    .ok (upI f 3 v, q1)
  | 4 => do
    let (v, q1) ← numS false b n 0 5 q
    .ok (upI f 4 v, q1)
  | 5 => do
    let (v, q1) ← numS false b n 1 9999 q
    .ok (upI f 5 v, q1)
  | 6 => do
    let (v, q1) ← numS false b n 100 999 q
    let (w, q2) ← byS b n w_needs 1 6 q1
    .ok (upI (upI f 6 v) 7 w, q2)
  | 8 => do
    let (v, q1) ← plmS b n q
    let (w, q2) ← plmS b n q1
    .ok (upI (upI f 8 v) 9 w, q2)
  | _ => do
    let (v, q1) ← byS b n w_star 1 99 q
    let (w, q2) ← byS b n w_pair 1 99 q1
    .ok (upI (upI f 10 v) 11 w, q2)
/-- which line a word begins -/
def lineK (l : List Int) : Int := if l = w_eye then 0 else if l = w_noise then 3 else if l = w_off then 4 else if l = w_bar then 5 else if l = w_step then 6 else if l = w_lean then 8 else if l = w_room then 10 else -1
def lineS (b : Nat → Int) (n : Nat) (a : BA) (q : Nat) : Except PE (BA × Nat) :=
  let t := tok false b n q
  if t.1 = 1 ∧ t.2.2.2.2 = w_star ∧ a.1.length < 32 then do
    let (l, q1) ← starS b n a.1 t.2.2.1
    .ok ((l, a.2.1, a.2.2), q1)
  else if t.1 = 1 ∧ 0 ≤ lineK t.2.2.2.2 ∧ a.2.2 (lineK t.2.2.2.2).toNat = false then do
    let (f, q1) ← toldS b n (lineK t.2.2.2.2).toNat a.2.1 t.2.2.1
    .ok ((a.1, f, upB a.2.2 (lineK t.2.2.2.2).toNat true), q1)
  else .error (badF t, (t.2.1 : Nat))
def bookS (b : Nat → Int) (n : Nat) : Nat → BA → Nat → Except PE BA
  | 0, _, _ => .error (0, 0)
  | f + 1, a, q => if (tok false b n q).1 = 0 then .ok a else do
    let (a1, q1) ← lineS b n a q
    let q2 ← sgnS false b n 59 q1
    bookS b n f a1 q2
def plain (k : Nat) : Int := match k with
  | 0 => 8
  | 1 => 5
  | 2 => 40
  | 3 => 2
  | 4 => 2
  | 5 => 100
  | 6 => 100
  | 7 => 3
  | 10 => 6
  | 11 => 4
  | _ => 0
def BA0 : BA := ([], plain, fun _ => false)
/-! positions go on -/
theorem tok_nx {r : Bool} {b : Nat → Int} {n q : Nat} (hq : q ≤ n) (h3 : (tok r b n q).1 ≠ 3) (h0 : (tok r b n q).1 ≠ 0) : q < (tok r b n q).2.2.1 ∧ (tok r b n q).2.2.1 ≤ n := by
  have h := tok_ok r b hq
  have h2 := h.2.2.2.1 h3
  exact ⟨Nat.lt_of_le_of_lt h.2.1 (h2.2 h0), h2.1⟩
theorem wantS_ok {r : Bool} {b : Nat → Int} {n q q' : Nat} {w : List Int} (hq : q ≤ n) (h : wantS r b n w q = .ok q') : q < q' ∧ q' ≤ n := by
  unfold wantS at h
  split at h
  · rename_i c
    cases h
    exact tok_nx hq (by rw [c.1]; decide) (by rw [c.1]; decide)
  · cases h
theorem numS_ok {r : Bool} {b : Nat → Int} {n q q' : Nat} {lo hi v : Int} (hq : q ≤ n) (h : numS r b n lo hi q = .ok (v, q')) : q < q' ∧ q' ≤ n ∧ lo ≤ v ∧ v ≤ hi := by
  unfold numS at h
  split at h
  · rename_i c
    split at h
    · cases h
    · rename_i c2
      cases h
      have := tok_nx hq (by rw [c]; decide) (by rw [c]; decide)
      exact ⟨this.1, this.2, by omega, by omega⟩
  · cases h
theorem sgnS_ok {r : Bool} {b : Nat → Int} {n q q' : Nat} {c : Int} (hq : q ≤ n) (h : sgnS r b n c q = .ok q') : q < q' ∧ q' ≤ n := by
  unfold sgnS at h
  split at h
  · rename_i c
    cases h
    exact tok_nx hq (by rw [c.1]; decide) (by rw [c.1]; decide)
  · cases h
theorem byS_ok {b : Nat → Int} {n q q' : Nat} {w : List Int} {lo hi v : Int} (hq : q ≤ n) (h : byS b n w lo hi q = .ok (v, q')) : q < q' ∧ q' ≤ n ∧ lo ≤ v ∧ v ≤ hi := by
  unfold byS at h
  cases h1 : wantS false b n w q with
  | error e => rw [h1] at h; cases h
  | ok q1 =>
    rw [h1] at h
    have g1 := wantS_ok hq h1
    have g2 := numS_ok g1.2 h
    exact ⟨by omega, g2.2⟩
theorem plmS_ok {b : Nat → Int} {n q q' : Nat} {v : Int} (hq : q ≤ n) (h : plmS b n q = .ok (v, q')) : q < q' ∧ q' ≤ n ∧ -99 ≤ v ∧ v ≤ 99 := by
  unfold plmS at h
  dsimp only at h
  by_cases hm : (tok false b n q).1 = 4 ∧ (tok false b n q).2.2.2.1 = 45
  · simp only [if_pos hm] at h
    have g := tok_nx (r := false) (b := b) hq (by rw [hm.1]; decide) (by rw [hm.1]; decide)
    generalize (tok false b n q).2.2.1 = q1 at *
    split at h
    · rename_i c
      split at h
      · cases h
      · rename_i c2
        cases h
        have := tok_nx (r := false) (b := b) g.2 (by rw [c]; decide) (by rw [c]; decide)
        have hv := (tok_ok false b g.2).2.2.2.2.2.1 c
        exact ⟨by omega, this.2, by omega, by omega⟩
    · cases h
  · simp only [if_neg hm] at h
    split at h
    · rename_i c
      split at h
      · cases h
      · rename_i c2
        cases h
        have := tok_nx (r := false) (b := b) hq (by rw [c]; decide) (by rw [c]; decide)
        have hv := (tok_ok false b hq).2.2.2.2.2.1 c
        exact ⟨by omega, this.2, by omega, by omega⟩
    · cases h

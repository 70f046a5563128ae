/-! ===== what texts are: TOKENS ===== -/
def blk (c : Int) : Bool := decide (c = 32) || decide (c = 10)
def ltr (c : Int) : Bool := decide (97 ≤ c) && decide (c ≤ 122)
def dig (c : Int) : Bool := decide (48 ≤ c) && decide (c ≤ 57)
def sgn (r : Bool) (c : Int) : Bool := decide (c = 59) || decide (c = 45) || (r && (decide (c = 40) || decide (c = 41) || decide (c = 60) || decide (c = 62) || decide (c = 61) || decide (c = 43)))
/-- a run of signs of a kind, as long as can be -/
def IsRun (p : Int → Bool) (b : Nat → Int) (n i k : Nat) : Prop := (∀ j, j < k → i + j < n ∧ p (b (i + j)) = true) ∧ ¬ (i + k < n ∧ p (b (i + k)) = true)
def rlf (p : Int → Bool) (b : Nat → Int) (n : Nat) : Nat → Nat → Nat
  | 0, _ => 0
  | f + 1, i => if i < n ∧ p (b i) = true then rlf p b n f (i + 1) + 1 else 0
def rl (p : Int → Bool) (b : Nat → Int) (n i : Nat) : Nat := rlf p b n (n - i) i
theorem IsRun.uniq {p : Int → Bool} {b : Nat → Int} {n i k k' : Nat} (h : IsRun p b n i k) (h' : IsRun p b n i k') : k = k' := by
  rcases Nat.lt_trichotomy k k' with q | q | q
  · exact absurd (h'.1 k q) h.2
  · exact q
  · exact absurd (h.1 k' q) h'.2
theorem rlf_run (p : Int → Bool) (b : Nat → Int) (n : Nat) : ∀ f i, n - i ≤ f → IsRun p b n i (rlf p b n f i)
  | 0, i, h => ⟨fun j hj => absurd hj (Nat.not_lt_zero j), fun q => by have := q.1; simp only [rlf] at this; omega⟩
  | f + 1, i, h => by
    unfold rlf
    by_cases c : i < n ∧ p (b i) = true
    · rw [if_pos c]
      have ih := rlf_run p b n f (i + 1) (by omega)
      refine ⟨fun j hj => ?_, fun q => ih.2 ?_⟩
      · cases j with
        | zero => exact c
        | succ j =>
          have := ih.1 j (by omega)
          rw [show i + 1 + j = i + (j + 1) by omega] at this
          exact this
      · rw [show i + 1 + rlf p b n f (i + 1) = i + (rlf p b n f (i + 1) + 1) by omega]
        exact q
    · rw [if_neg c]
      exact ⟨fun j hj => absurd hj (Nat.not_lt_zero j), c⟩
theorem rl_run (p : Int → Bool) (b : Nat → Int) (n i : Nat) : IsRun p b n i (rl p b n i) := rlf_run p b n (n - i) i (Nat.le_refl _)
theorem rl_eq {p : Int → Bool} {b : Nat → Int} {n i k : Nat} (h : IsRun p b n i k) : rl p b n i = k := (rl_run p b n i).uniq h
theorem rl_le (p : Int → Bool) (b : Nat → Int) (n i : Nat) (hi : i ≤ n) : i + rl p b n i ≤ n := by
  have h := rl_run p b n i
  rcases Nat.eq_zero_or_pos (rl p b n i) with e | e
  · omega
  · have := (h.1 (rl p b n i - 1) (by omega)).1
    omega
def dv (b : Nat → Int) (i : Nat) : Nat → Int
  | 0 => 0
  | k + 1 => dv b i k * 10 + (b (i + k) - 48)
def lst (b : Nat → Int) (i k : Nat) : List Int := (List.range k).map fun j => b (i + j)
/-- kind (0 end, 1 word, 2 number, 3 none, 4 sign), place, where it ends, value, letters -/
abbrev TK : Type := Nat × Nat × Nat × Int × List Int
def tok (r : Bool) (b : Nat → Int) (n q : Nat) : TK :=
  let p := q + rl blk b n q
  if n ≤ p then (0, p, p, 0, [])
  else if ltr (b p) = true then (if 8 < rl ltr b n p then 3 else 1, p, p + rl ltr b n p, 0, lst b p (rl ltr b n p))
  else if dig (b p) = true then (if 4 < rl dig b n p ∨ (p + rl dig b n p < n ∧ ltr (b (p + rl dig b n p)) = true) then 3 else 2, p, p + rl dig b n p, dv b p (rl dig b n p), [])
  else if sgn r (b p) = true then (4, p, p + 1, b p, []) else (3, p, p + 1, 0, [])
def p256 (l : List Int) : Int := l.foldl (fun a c => a * 256 + c) 0
def p32 (l : List Int) : Int := l.foldl (fun a c => a * 32 + (c - 96)) 0
abbrev w_star : List Int := [115, 116, 97, 114]
abbrev w_at : List Int := [97, 116]
abbrev w_light : List Int := [108, 105, 103, 104, 116]
abbrev w_eye : List Int := [101, 121, 101]
abbrev w_wide : List Int := [119, 105, 100, 101]
abbrev w_unit : List Int := [117, 110, 105, 116]
abbrev w_far : List Int := [102, 97, 114]
abbrev w_noise : List Int := [110, 111, 105, 115, 101]
abbrev w_off : List Int := [111, 102, 102]
abbrev w_bar : List Int := [98, 97, 114]
abbrev w_step : List Int := [115, 116, 101, 112]
abbrev w_needs : List Int := [110, 101, 101, 100, 115]
abbrev w_lean : List Int := [108, 101, 97, 110]
abbrev w_room : List Int := [114, 111, 111, 109]
abbrev w_pair : List Int := [112, 97, 105, 114]
abbrev w_trust : List Int := [116, 114, 117, 115, 116]
abbrev w_when : List Int := [119, 104, 101, 110]
abbrev w_dots : List Int := [100, 111, 116, 115]
abbrev w_named : List Int := [110, 97, 109, 101, 100]
abbrev w_namings : List Int := [110, 97, 109, 105, 110, 103, 115]
abbrev w_specks : List Int := [115, 112, 101, 99, 107, 115]
abbrev w_smears : List Int := [115, 109, 101, 97, 114, 115]
abbrev w_told : List Int := [116, 111, 108, 100]
abbrev w_stretch : List Int := [115, 116, 114, 101, 116, 99, 104]
abbrev w_and : List Int := [97, 110, 100]
abbrev w_or : List Int := [111, 114]
abbrev w_not : List Int := [110, 111, 116]
def OWN : List (List Int) := [w_star, w_at, w_light, w_eye, w_wide, w_unit, w_far, w_noise, w_off, w_bar, w_step, w_needs, w_lean, w_room, w_pair, w_trust, w_when, w_dots, w_named, w_namings, w_specks, w_smears, w_told, w_stretch, w_and, w_or, w_not]
def wix (l : List Int) : List (List Int) → Int → Int
  | [], _ => -1
  | w :: t, i => if l = w then i else wix l t (i + 1)
/-- which own word letters are, or -1 -/
def wid (l : List Int) : Int := wix l OWN 0
abbrev PE : Type := Int × Int
def badF (t : TK) : Int := if t.1 = 3 then 1 else 2
def wantS (r : Bool) (b : Nat → Int) (n : Nat) (w : List Int) (q : Nat) : Except PE Nat :=
  if (tok r b n q).1 = 1 ∧ (tok r b n q).2.2.2.2 = w then .ok (tok r b n q).2.2.1 else .error (badF (tok r b n q), ((tok r b n q).2.1 : Nat))
def numS (r : Bool) (b : Nat → Int) (n : Nat) (lo hi : Int) (q : Nat) : Except PE (Int × Nat) :=
  if (tok r b n q).1 = 2 then (if (tok r b n q).2.2.2.1 < lo ∨ hi < (tok r b n q).2.2.2.1 then .error (4, ((tok r b n q).2.1 : Nat)) else .ok ((tok r b n q).2.2.2.1, (tok r b n q).2.2.1))
  else .error (badF (tok r b n q), ((tok r b n q).2.1 : Nat))
def sgnS (r : Bool) (b : Nat → Int) (n : Nat) (c : Int) (q : Nat) : Except PE Nat :=
  if (tok r b n q).1 = 4 ∧ (tok r b n q).2.2.2.1 = c then .ok (tok r b n q).2.2.1 else .error (badF (tok r b n q), ((tok r b n q).2.1 : Nat))
def plmS (b : Nat → Int) (n : Nat) (q : Nat) : Except PE (Int × Nat) :=
  let m := (tok false b n q).1 = 4 ∧ (tok false b n q).2.2.2.1 = 45
  let q1 := if m then (tok false b n q).2.2.1 else q
  let t := tok false b n q1
  if t.1 = 2 then (if 99 < t.2.2.2.1 then .error (4, ((tok false b n q).2.1 : Nat)) else .ok (if m then -t.2.2.2.1 else t.2.2.2.1, t.2.2.1))
  else .error (badF t, (t.2.1 : Nat))

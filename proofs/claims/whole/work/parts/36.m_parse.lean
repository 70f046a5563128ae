/-! ===== what is known of a TOKEN ===== -/
def sgc (c : Int) : Prop := c = 40 ∨ c = 41 ∨ c = 43 ∨ c = 45 ∨ c = 59 ∨ c = 60 ∨ c = 61 ∨ c = 62
theorem sgn_c {r : Bool} {c : Int} (h : sgn r c = true) : sgc c := by
  unfold sgc
  simp only [sgn, Bool.or_eq_true, Bool.and_eq_true, decide_eq_true_eq] at h
  omega
def lets (l : List Int) : Prop := ∀ c ∈ l, 97 ≤ c ∧ c ≤ 122
def TOk (n q : Nat) (t : TK) : Prop := t.1 ≤ 4 ∧ q ≤ t.2.1 ∧ t.2.1 ≤ n ∧ (t.1 ≠ 3 → t.2.2.1 ≤ n ∧ (t.1 ≠ 0 → t.2.1 < t.2.2.1)) ∧ (t.1 = 1 → lets t.2.2.2.2 ∧ t.2.2.2.2.length ≤ 8) ∧ (t.1 = 2 → 0 ≤ t.2.2.2.1 ∧ t.2.2.2.1 ≤ 9999) ∧ (t.1 = 4 → sgc t.2.2.2.1)
theorem lst_lets {b : Nat → Int} {i k : Nat} (h : ∀ j, j < k → ltr (b (i + j)) = true) : lets (lst b i k) := by
  intro c hc
  obtain ⟨j, hj, rfl⟩ := List.mem_map.mp hc
  exact ltr_bd (h j (List.mem_range.mp hj))
theorem tok_ok (r : Bool) (b : Nat → Int) {n q : Nat} (hq : q ≤ n) : TOk n q (tok r b n q) := by
  have hb := rl_le blk b n q hq
  unfold tok
  generalize hp : q + rl blk b n q = p
  rw [hp] at hb
  have hqp : q ≤ p := by omega
  dsimp only
  by_cases h0 : n ≤ p
  · rw [if_pos h0]
    exact ⟨by simp, hqp, hb, fun _ => ⟨hb, fun q => absurd rfl q⟩, fun q => absurd q (by simp), fun q => absurd q (by simp), fun q => absurd q (by simp)⟩
  rw [if_neg h0]
  by_cases h1 : ltr (b p) = true
  · rw [if_pos h1]
    have hl := rl_le ltr b n p hb
    have hr := rl_run ltr b n p
    have hpos : 0 < rl ltr b n p := by
      rcases Nat.eq_zero_or_pos (rl ltr b n p) with e | e
      · rw [e] at hr; exact absurd ⟨by omega, h1⟩ hr.2
      · exact e
    refine ⟨?_, hqp, hb, fun _ => ⟨hl, fun _ => ?_⟩, fun e => ⟨lst_lets (fun j hj => (hr.1 j hj).2), ?_⟩, fun e => ?_, fun e => ?_⟩
    · dsimp only; split <;> omega
    · dsimp only; omega
    · dsimp only at e ⊢
      simp only [lst, List.length_map, List.length_range]
      split at e
      · omega
      · omega
    · dsimp only at e; split at e <;> omega
    · dsimp only at e; split at e <;> omega
  rw [if_neg h1]
  by_cases h2 : dig (b p) = true
  · rw [if_pos h2]
    have hl := rl_le dig b n p hb
    have hr := rl_run dig b n p
    have hpos : 0 < rl dig b n p := by
      rcases Nat.eq_zero_or_pos (rl dig b n p) with e | e
      · rw [e] at hr; exact absurd ⟨by omega, h2⟩ hr.2
      · exact e
    refine ⟨?_, hqp, hb, fun _ => ⟨hl, fun _ => ?_⟩, fun e => ?_, fun e => ?_, fun e => ?_⟩
    · dsimp only; split <;> omega
    · dsimp only; omega
    · dsimp only at e; split at e <;> omega
    · dsimp only at e ⊢
      split at e
      · omega
      · rename_i hn
        have hd := dv_bd (b := b) (i := p) (k := rl dig b n p) (fun j hj => (hr.1 j hj).2)
        have hk : rl dig b n p ≤ 4 := by omega
        have h10 : (10 : Int) ^ rl dig b n p ≤ 10000 := by
          have h2 : (10 : Nat) ^ rl dig b n p ≤ 10 ^ 4 := Nat.pow_le_pow_right (by omega) hk
          have h3 : ((10 ^ rl dig b n p : Nat) : Int) ≤ ((10 ^ 4 : Nat) : Int) := Int.ofNat_le.mpr h2
          simpa using h3
        omega
    · dsimp only at e; split at e <;> omega
  rw [if_neg h2]
  by_cases h3 : sgn r (b p) = true
  · rw [if_pos h3]
    exact ⟨by simp, hqp, hb, fun _ => ⟨by dsimp only; omega, fun _ => by dsimp only; omega⟩, fun q => absurd q (by simp), fun q => absurd q (by simp), fun _ => sgn_c h3⟩
  · rw [if_neg h3]
    exact ⟨by simp, hqp, hb, fun q => absurd rfl q, fun q => absurd q (by simp), fun q => absurd q (by simp), fun q => absurd q (by simp)⟩
theorem rev_ind {α : Type} {P : List α → Prop} (h0 : P []) (h1 : ∀ l c, P l → P (l ++ [c])) (l : List α) : P l := by
  have h : ∀ m : List α, P m.reverse := by
    intro m
    induction m with
    | nil => exact h0
    | cons c m ih => rw [List.reverse_cons]; exact h1 _ _ ih
  have := h l.reverse
  rwa [List.reverse_reverse] at this
theorem p256_pos {l : List Int} (hl : lets l) : 0 ≤ p256 l ∧ (l ≠ [] → 0 < p256 l) := by
  revert hl
  induction l using rev_ind with
  | h0 => exact fun _ => ⟨by decide, fun h => absurd rfl h⟩
  | h1 l c ih =>
    intro hl
    have hc := hl c (by simp)
    have h1 := ih (fun x hx => hl x (by simp [hx]))
    rw [p256_snoc]
    exact ⟨by omega, fun _ => by omega⟩
theorem p256_inj {l l' : List Int} (hl : lets l) (hl' : lets l') (h : p256 l = p256 l') : l = l' := by
  revert l'
  revert hl
  induction l using rev_ind with
  | h0 =>
    intro _ l' hl' h
    rcases Classical.em (l' = []) with e | e
    · exact e.symm
    · have := (p256_pos hl').2 e
      rw [← h] at this
      exact absurd this (by decide)
  | h1 l c ih =>
    intro hl l' hl' h
    have hc := hl c (by simp)
    have hll : lets l := fun x hx => hl x (by simp [hx])
    rcases List.eq_nil_or_concat l' with e | ⟨m, x, e⟩
    · subst e
      have := (p256_pos hl).2 (by simp)
      rw [h] at this
      exact absurd this (by decide)
    · rw [List.concat_eq_append] at e
      subst e
      have hx := hl' x (by simp)
      have hm : lets m := fun y hy => hl' y (by simp [hy])
      rw [p256_snoc, p256_snoc] at h
      have h1 : p256 l = p256 m := by omega
      have h2 : c = x := by omega
      rw [ih hll hm h1, h2]
theorem p256_bd {l : List Int} (hl : lets l) (h8 : l.length ≤ 8) : 0 ≤ p256 l ∧ p256 l < 9223372036854775808 := by
  have key : ∀ m : List Int, lets m → p256 m < 123 * 256 ^ (m.length - 1) ∨ m = [] := by
    intro m
    induction m using rev_ind with
    | h0 => intro _; exact Or.inr rfl
    | h1 m c ih =>
      intro hm
      left
      have hc := hm c (by simp)
      have hmm : lets m := fun x hx => hm x (by simp [hx])
      rw [p256_snoc]
      rcases ih hmm with h | h
      · have hlen : (m ++ [c]).length - 1 = m.length := by simp
        rw [hlen]
        rcases Nat.eq_zero_or_pos m.length with e | e
        · have : m = [] := List.length_eq_zero_iff.mp e
          subst this
          simp [p256] at *
          omega
        · have h2 : (256 : Int) ^ m.length = 256 ^ (m.length - 1) * 256 := by
            rw [← Int.pow_succ]; congr 1; omega
          rw [h2]
          omega
      · subst h
        simp [p256]
        omega
  refine ⟨(p256_pos hl).1, ?_⟩
  rcases key l hl with h | h
  · have h2 : (256 : Nat) ^ (l.length - 1) ≤ 256 ^ 7 := Nat.pow_le_pow_right (by omega) (by omega)
    have h3 : ((256 ^ (l.length - 1) : Nat) : Int) ≤ ((256 ^ 7 : Nat) : Int) := Int.ofNat_le.mpr h2
    have h4 : (256 : Int) ^ (l.length - 1) ≤ 72057594037927936 := by simpa using h3
    omega
  · subst h; decide
theorem p256_eq {l l' : List Int} (hl : lets l) (h8 : l.length ≤ 8) (hl' : lets l') (h8' : l'.length ≤ 8) : iL (p256 l) = iL (p256 l') ↔ l = l' := by
  have h1 := p256_bd hl h8
  have h2 := p256_bd hl' h8'
  rw [iL_eq (by omega) (by omega) (by omega) (by omega)]
  exact ⟨p256_inj hl hl', fun e => by rw [e]⟩
theorem srt_bd {n q : Nat} {t : TK} (h : TOk n q t) : 0 ≤ srt t ∧ srt t ≤ 100 := by
  unfold srt
  have h1 := h.1
  split
  · rename_i e
    have := h.2.2.2.2.2.2 e
    unfold sgc at this
    omega
  · omega
theorem srt_k {n q : Nat} {t : TK} (h : TOk n q t) {k : Nat} (hk : k < 4) : srt t = k ↔ t.1 = k := by
  unfold srt
  split
  · rename_i e
    have := h.2.2.2.2.2.2 e
    unfold sgc at this
    omega
  · omega
theorem srt_c {n q : Nat} {t : TK} (h : TOk n q t) {c : Int} (hc : 5 ≤ c) : srt t = c ↔ t.1 = 4 ∧ t.2.2.2.1 = c := by
  unfold srt
  have h1 := h.1
  split
  · rename_i e
    exact ⟨fun q => ⟨e, q⟩, fun q => q.2⟩
  · omega

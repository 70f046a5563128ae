/-! ===== FEED, both sides ===== -/
def b4 (v : Int32) (k : Nat) : Int := (by4 v k).toInt
theorem b4_ok (v : Int32) {k : Nat} (hk : k < 4) : by4 v k = iI (b4 v k) ∧ byC v k = iI (sb (b4 v k)) ∧ 0 ≤ b4 v k ∧ b4 v k < 256 := by
  obtain ⟨c, hc, e1, e2⟩ := by_sb v hk
  have e : b4 v k = (c : Nat) := by unfold b4; rw [e1, iI_t (by omega) (by omega)]
  rw [e]
  exact ⟨e1, e2, by omega, by omega⟩
def fedB (b : Nat → Int) (n : Nat) (v : Int32) : Nat → Int := fun i => if i < n then b i else b4 v (i - n)
def TpC (b : Nat → Int) (n : Nat) (P : PS) : Prop := gI P 0 1 = iI n ∧ n ≤ 1500 ∧ ∀ i, i < n → gA P 0 0 i = iI (sb (b i)) ∧ 0 ≤ b i ∧ b i < 256
theorem C_put1 {d : Nat} {v : Int32} {b : Nat → Int} {n : Nat} {P0 P : PS} {R : List PS} {Q : Option AV → List PS → Prop} (ht : TpC b n P) (h1 : n + 4 ≤ 1500) (h : ∀ P', Fr [1] [] [0] [] P P' → TpC (fedB b n v) (n + 4) P' → Q none (P0 :: P' :: R)) : Tri 99 d [vR 1 0 0, vI v] (P0 :: P :: R) Q := by
  refine C_put ht.1 (by omega) (by omega) (fun P' f1 e1 e2 => h P' f1 ⟨by rw [e1]; rfl, by omega, fun i hi => ?_⟩)
  rw [e2]
  unfold fedB
  by_cases c : i < n
  · rw [if_neg (by omega), if_pos c]; exact ht.2.2 i c
  · rw [if_pos (by omega), if_neg c, show ((n : Nat) : Int).toNat = n by omega]
    exact (b4_ok v (show i - n < 4 by omega)).2
theorem M_four1 {d : Nat} {v : Int32} {b : Nat → Int} {n : Nat} {P : PS} {R : List PS} {Q : Option AV → List PS → Prop} (ht : TpM b n P) (h1 : n + 4 ≤ 1500) (h : ∀ P', Fr [1] [] [0] [] P P' → TpM (fedB b n v) (n + 4) P' → Q none (P' :: R)) : Tri 172 d [vR 0 0 0, vI v] (P :: R) Q := by
  refine M_four ht.1 (by omega) (by omega) (fun P' f1 e1 e2 => h P' f1 ⟨by rw [e1]; rfl, by omega, fun i hi => ?_⟩)
  rw [e2]
  unfold fedB
  by_cases c : i < n
  · rw [if_neg (by omega), if_pos c]; exact ht.2.2 i c
  · rw [if_pos (by omega), if_neg c, show ((n : Nat) : Int).toNat = n by omega]
    have := b4_ok v (show i - n < 4 by omega)
    exact ⟨this.1, this.2.2⟩
def fed5 (b : Nat → Int) (n : Nat) (v1 v2 v3 v4 v5 : Int32) : Nat → Int := fedB (fedB (fedB (fedB (fedB b n v1) (n + 4) v2) (n + 8) v3) (n + 12) v4) (n + 16) v5
theorem M_feed {d : Nat} {v1 v2 v3 v4 v5 : Int32} {b : Nat → Int} {n : Nat} {P : PS} {R : List PS} {Q : Option AV → List PS → Prop} (ht : TpM b n P) (hy : ∀ P', n + 20 ≤ 1500 → Fr [1] [] [0] [] P P' → TpM (fed5 b n v1 v2 v3 v4 v5) (n + 20) P' → Q (some (vI (iI ((n + 20 : Nat))))) (P' :: R)) (hn : ¬ n + 20 ≤ 1500 → Q (some (vI (iI (-1)))) (P :: R)) : Tri 171 (d + 1) [vR 0 0 0, vI v1, vI v2, vI v3, vI v4, vI v5] (P :: R) Q := by
  refine enX12_feed ?_
  unfold fX12_feed_0
  have hn15 := ht.2.1
  rw [ht.1, show (20 : Int32) = iI 20 from rfl, show (1500 : Int32) = iI 1500 from rfl, iI_add, iI_le (by omega) (by omega) (by omega) (by omega)]
  refine ⟨fun c => ?_, fun c => hn (by omega)⟩
  refine M_four1 ht (by omega) (fun A f1 t1 => ?_)
  refine M_four1 t1 (by omega) (fun B f2 t2 => ?_)
  refine M_four1 t2 (by omega) (fun C f3 t3 => ?_)
  refine M_four1 t3 (by omega) (fun D f4 t4 => ?_)
  refine M_four1 t4 (by omega) (fun E f5 t5 => ?_)
  dsimp only [hx1, rV]
  rw [t5.1]
  exact hy E (by omega) ((((f1.trs f2).trs f3).trs f4).trs f5) t5
theorem C_feed {d : Nat} {v1 v2 v3 v4 v5 : Int32} {b : Nat → Int} {n : Nat} {P0 P1 P2 P3 P4 P5 P6 P7 P8 P9 P10 P11 P12 : PS} {R : List PS} {Q : Option AV → List PS → Prop} (ht : TpC b n P1) (hy : ∀ P', n + 20 ≤ 1500 → Fr [1] [] [0] [] P1 P' → TpC (fed5 b n v1 v2 v3 v4 v5) (n + 20) P' → Q (some (vI (iI ((n + 20 : Nat))))) (P0 :: P' :: P2 :: P3 :: P4 :: P5 :: P6 :: P7 :: P8 :: P9 :: P10 :: P11 :: P12 :: R)) (hn : ¬ n + 20 ≤ 1500 → Q (some (vI (iI (-1)))) (P0 :: P1 :: P2 :: P3 :: P4 :: P5 :: P6 :: P7 :: P8 :: P9 :: P10 :: P11 :: P12 :: R)) : Tri 124 (d + 1) [vR 12 0 0, vI v1, vI v2, vI v3, vI v4, vI v5] (P0 :: P1 :: P2 :: P3 :: P4 :: P5 :: P6 :: P7 :: P8 :: P9 :: P10 :: P11 :: P12 :: R) Q := by
  refine enX11_feed ?_
  unfold fX11_feed_0
  have hn15 := ht.2.1
  rw [ht.1, show (20 : Int32) = iI 20 from rfl, show (1500 : Int32) = iI 1500 from rfl, iI_add, iI_le (by omega) (by omega) (by omega) (by omega)]
  refine ⟨fun c => ?_, fun c => hn (by omega)⟩
  refine C_put1 ht (by omega) (fun A f1 t1 => ?_)
  refine C_put1 t1 (by omega) (fun B f2 t2 => ?_)
  refine C_put1 t2 (by omega) (fun C f3 t3 => ?_)
  refine C_put1 t3 (by omega) (fun D f4 t4 => ?_)
  refine C_put1 t4 (by omega) (fun E f5 t5 => ?_)
  dsimp only [hx13, rV]
  rw [t5.1]
  exact hy E (by omega) ((((f1.trs f2).trs f3).trs f4).trs f5) t5

/-! ===== the questions: both answer alike, and all stays ===== -/
theorem chosen_uq {l : List SR} {f : Nat → Int} {v v' : Nat} {a : Int} (h : ¬ (a < 0 ∨ 1 < a) → l.length ≤ 16 → IsCh l f v) (h' : ¬ (a < 0 ∨ 1 < a) → l.length ≤ 16 → IsCh l f v') : chosenS l v a = chosenS l v' a := by
  unfold chosenS
  by_cases c1 : a < 0 ∨ 1 < a
  · rw [if_pos c1, if_pos c1]
  · rw [if_neg c1, if_neg c1]
    by_cases c2 : 16 < l.length
    · rw [if_pos c2, if_pos c2]
    · rw [(h c1 (by omega)).uniq (h' c1 (by omega))]
theorem two_fault {v1 : Int32} {hs : List PS} (h : INV hs) : Two 129 193 false 0 0 [vI v1] hs := by
  obtain ⟨P0, P1, P2, P3, P4, P5, P6, P7, P8, P9, P10, P11, P12, b, n, e, l, f, kb, ks, y, t, X, rs, u, kl, kls, rfl, hT, hB, hU, hS, hX, hR, hO⟩ := h
  exact C_fault hT.2.2.2.1 (M_fault hT.2.2.1.1 hT.2.2.1.2 ⟨rfl, ⟨_, rfl⟩, mkI hT hB hS hX hR hO SM.rf hU hS.st hR.2.1 id12⟩)
theorem two_dots {v1 v2 v3 : Int32} {hs : List PS} (h : INV hs) : Two 133 209 false 0 0 [vI v1, vI v2, vI v3] hs := by
  obtain ⟨a, rfl, ha⟩ := iI_of v1
  obtain ⟨k, rfl, hk⟩ := iI_of v3
  obtain ⟨P0, P1, P2, P3, P4, P5, P6, P7, P8, P9, P10, P11, P12, b, n, e, l, f, kb, ks, y, t, X, rs, u, kl, kls, rfl, hT, hB, hU, hS, hX, hR, hO⟩ := h
  exact C_dots ha hk hS.2.2.1 hS.2.1 (M_dots ha hk hS.1 (fun P' fr => ⟨rfl, ⟨_, rfl⟩, mkI hT hB hS hX hR hO (fr.sm (by decide) (by decide)) hU hS.st hR.2.1 id12⟩))
theorem two_dot {v1 v2 v3 v4 : Int32} {hs : List PS} (h : INV hs) : Two 134 210 false 0 0 [vI v1, vI v2, vI v3, vI v4] hs := by
  obtain ⟨a, rfl, ha⟩ := iI_of v1
  obtain ⟨c, rfl, hc⟩ := iI_of v2
  obtain ⟨k, rfl, hk⟩ := iI_of v4
  obtain ⟨P0, P1, P2, P3, P4, P5, P6, P7, P8, P9, P10, P11, P12, b, n, e, l, f, kb, ks, y, t, X, rs, u, kl, kls, rfl, hT, hB, hU, hS, hX, hR, hO⟩ := h
  exact C_dot ha hc hk hS.2.2.1 hS.2.1 (M_dot ha hc hk hS.1 (fun P' fr => ⟨rfl, ⟨_, rfl⟩, mkI hT hB hS hX hR hO (fr.sm (by decide) (by decide)) hU hS.st hR.2.1 id12⟩))
theorem two_point {v1 v2 v3 : Int32} {hs : List PS} (h : INV hs) : Two 135 211 false 0 0 [vI v1, vI v2, vI v3] hs := by
  obtain ⟨a, rfl, ha⟩ := iI_of v1
  obtain ⟨c, rfl, hc⟩ := iI_of v2
  obtain ⟨k, rfl, hk⟩ := iI_of v3
  obtain ⟨P0, P1, P2, P3, P4, P5, P6, P7, P8, P9, P10, P11, P12, b, n, e, l, f, kb, ks, y, t, X, rs, u, kl, kls, rfl, hT, hB, hU, hS, hX, hR, hO⟩ := h
  exact C_point ha hc hk hS.2.2.1 hS.2.1 (M_point ha hc hk hS.1 (fun P' fr => ⟨rfl, ⟨_, rfl⟩, mkI hT hB hS hX hR hO (fr.sm (by decide) (by decide)) hU hS.st hR.2.1 id12⟩))
theorem two_length {v1 v2 : Int32} {hs : List PS} (h : INV hs) : Two 136 218 false 0 0 [vI v1, vI v2] hs := by
  obtain ⟨a, rfl, ha⟩ := iI_of v1
  obtain ⟨c, rfl, hc⟩ := iI_of v2
  obtain ⟨P0, P1, P2, P3, P4, P5, P6, P7, P8, P9, P10, P11, P12, b, n, e, l, f, kb, ks, y, t, X, rs, u, kl, kls, rfl, hT, hB, hU, hS, hX, hR, hO⟩ := h
  exact C_length ha hc hB.2.2.2.2.1 hB.2.2.1.1 hB.2.2.1.2.2 (M_length ha hc hB.1 ⟨rfl, ⟨_, rfl⟩, mkI hT hB hS hX hR hO SM.rf hU hS.st hR.2.1 id12⟩)
theorem two_namings {v1 v2 v3 : Int32} {hs : List PS} (h : INV hs) : Two 137 231 false 0 0 [vI v1, vI v2, vI v3] hs := by
  obtain ⟨a, rfl, ha⟩ := iI_of v1
  obtain ⟨c, rfl, hc⟩ := iI_of v2
  obtain ⟨k, rfl, hk⟩ := iI_of v3
  obtain ⟨P0, P1, P2, P3, P4, P5, P6, P7, P8, P9, P10, P11, P12, b, n, e, l, f, kb, ks, y, t, X, rs, u, kl, kls, rfl, hT, hB, hU, hS, hX, hR, hO⟩ := h
  exact C_namings ha hk hB.2.2.2.2.1 hB.2.2.1 hB.2.1 hS.2.2.1 hS.2.1 hS.2.2.2.1 (fun i P3' P8' g1 g2 _ => M_namings ha hc hk hS.1 hB.1 hB.2.1 (fun P' fr => ⟨rfl, ⟨_, rfl⟩, mkI hT hB hS hX hR hO (fr.sm (by decide) (by decide)) hU (hS.nm g1 g2) hR.2.1 id12⟩))
theorem two_named {v1 v2 v3 v4 : Int32} {hs : List PS} (h : INV hs) : Two 138 234 false 0 0 [vI v1, vI v2, vI v3, vI v4] hs := by
  obtain ⟨a, rfl, ha⟩ := iI_of v1
  obtain ⟨i, rfl, hi⟩ := iI_of v2
  obtain ⟨q, rfl, hq⟩ := iI_of v3
  obtain ⟨k, rfl, hk⟩ := iI_of v4
  obtain ⟨P0, P1, P2, P3, P4, P5, P6, P7, P8, P9, P10, P11, P12, b, n, e, l, f, kb, ks, y, t, X, rs, u, kl, kls, rfl, hT, hB, hU, hS, hX, hR, hO⟩ := h
  exact C_named ha hi hq hk hB.2.2.2.2.1 hB.2.2.1 hB.2.1 hS.2.2.1 hS.2.1 hS.2.2.2.1 (fun i P3' P8' g1 g2 _ => M_named ha hi hq hk hS.1 hB.1 hB.2.1 (fun P' fr => ⟨rfl, ⟨_, rfl⟩, mkI hT hB hS hX hR hO (fr.sm (by decide) (by decide)) hU (hS.nm g1 g2) hR.2.1 id12⟩))
theorem two_odds {v1 v2 v3 v4 : Int32} {hs : List PS} (h : INV hs) : Two 139 239 true 0 0 [vI v1, vI v2, vI v3, vI v4] hs := by
  obtain ⟨a, rfl, ha⟩ := iI_of v1
  obtain ⟨i, rfl, hi⟩ := iI_of v2
  obtain ⟨v, rfl, hv⟩ := iI_of v3
  obtain ⟨k, rfl, hk⟩ := iI_of v4
  obtain ⟨P0, P1, P2, P3, P4, P5, P6, P7, P8, P9, P10, P11, P12, b, n, e, l, f, kb, ks, y, t, X, rs, u, kl, kls, rfl, hT, hB, hU, hS, hX, hR, hO⟩ := h
  exact C_odds ha hi hv hk hB.2.2.2.2.1 hB.2.2.1 hB.2.1 hS.2.2.1 hS.2.1 hS.2.2.2.1 hS.2.2.2.2.1 (fun P3' P8' g1 g2 g3 _ => M_odds ha hi hv hk hS.1 hB.1 hB.2.1 (fun P' fr => ⟨rfl, ⟨_, rfl⟩, mkI hT hB hS hX hR hO (fr.sm (by decide) (by decide)) hU ⟨g1, g2, g3⟩ hR.2.1 id12⟩))
theorem two_told {v1 v2 : Int32} {hs : List PS} (h : INV hs) : Two 140 241 false 0 0 [vI v1, vI v2] hs := by
  obtain ⟨a, rfl, ha⟩ := iI_of v1
  obtain ⟨k, rfl, hk⟩ := iI_of v2
  obtain ⟨P0, P1, P2, P3, P4, P5, P6, P7, P8, P9, P10, P11, P12, b, n, e, l, f, kb, ks, y, t, X, rs, u, kl, kls, rfl, hT, hB, hU, hS, hX, hR, hO⟩ := h
  exact C_tell ha hk hB.2.2.2.2.1 hB.2.2.1 hB.2.1 hS.2.2.1 hS.2.1 hS.2.2.2.1 hS.2.2.2.2.1 (fun P3' P8' g1 g2 g3 _ => M_tell ha hk hS.1 hB.1 hB.2.1 (fun P' fr => ⟨rfl, ⟨_, rfl⟩, mkI hT hB hS hX hR hO (fr.sm (by decide) (by decide)) hU ⟨g1, g2, g3⟩ hR.2.1 id12⟩))
theorem two_turn {v1 v2 v3 v4 : Int32} {hs : List PS} (h : INV hs) : Two 141 245 true 0 0 [vI v1, vI v2, vI v3, vI v4] hs := by
  obtain ⟨a, rfl, ha⟩ := iI_of v1
  obtain ⟨i, rfl, hi⟩ := iI_of v2
  obtain ⟨v, rfl, hv⟩ := iI_of v3
  obtain ⟨k, rfl, hk⟩ := iI_of v4
  obtain ⟨P0, P1, P2, P3, P4, P5, P6, P7, P8, P9, P10, P11, P12, b, n, e, l, f, kb, ks, y, t, X, rs, u, kl, kls, rfl, hT, hB, hU, hS, hX, hR, hO⟩ := h
  exact C_turn ha hi hv hk hB.2.2.2.2.1 hB.2.2.1 hB.2.1 hS.2.2.1 hS.2.1 hS.2.2.2.1 hS.2.2.2.2.1 (fun P3' P7' P8' g1 g2 g3 _ _ => M_turn ha hi hv hk hS.1 hB.1 hB.2.1 (fun P' fr => ⟨rfl, ⟨_, rfl⟩, mkI hT hB hS hX hR hO (fr.sm (by decide) (by decide)) hU ⟨g1, g2, g3⟩ hR.2.1 id12⟩))
theorem two_look {v1 v2 v3 v4 v5 : Int32} {hs : List PS} (h : INV hs) : Two 142 246 true 0 0 [vI v1, vI v2, vI v3, vI v4, vI v5] hs := by
  obtain ⟨a, rfl, ha⟩ := iI_of v1
  obtain ⟨i, rfl, hi⟩ := iI_of v2
  obtain ⟨v, rfl, hv⟩ := iI_of v3
  obtain ⟨c, rfl, hc⟩ := iI_of v4
  obtain ⟨k, rfl, hk⟩ := iI_of v5
  obtain ⟨P0, P1, P2, P3, P4, P5, P6, P7, P8, P9, P10, P11, P12, b, n, e, l, f, kb, ks, y, t, X, rs, u, kl, kls, rfl, hT, hB, hU, hS, hX, hR, hO⟩ := h
  exact C_look ha hi hv hc hk hB.2.2.2.2.1 hB.2.2.1 hB.2.1 hS.2.2.1 hS.2.1 hS.2.2.2.1 hS.2.2.2.2.1 (fun P3' P7' P8' g1 g2 g3 _ _ => M_look ha hi hv hc hk hS.1 hB.1 hB.2.1 (fun P' fr => ⟨rfl, ⟨_, rfl⟩, mkI hT hB hS hX hR hO (fr.sm (by decide) (by decide)) hU ⟨g1, g2, g3⟩ hR.2.1 id12⟩))
theorem two_stretch {v1 v2 v3 : Int32} {hs : List PS} (h : INV hs) : Two 143 248 true 0 0 [vI v1, vI v2, vI v3] hs := by
  obtain ⟨a, rfl, ha⟩ := iI_of v1
  obtain ⟨i, rfl, hi⟩ := iI_of v2
  obtain ⟨k, rfl, hk⟩ := iI_of v3
  obtain ⟨P0, P1, P2, P3, P4, P5, P6, P7, P8, P9, P10, P11, P12, b, n, e, l, f, kb, ks, y, t, X, rs, u, kl, kls, rfl, hT, hB, hU, hS, hX, hR, hO⟩ := h
  exact C_stretch ha hi hk hB.2.2.2.2.1 hB.2.2.1 hB.2.1 hS.2.2.1 hS.2.1 hS.2.2.2.1 hS.2.2.2.2.1 (fun P3' P7' P8' g1 g2 g3 _ _ => M_stretch ha hi hk hS.1 hB.1 hB.2.1 (fun P' fr => ⟨rfl, ⟨_, rfl⟩, mkI hT hB hS hX hR hO (fr.sm (by decide) (by decide)) hU ⟨g1, g2, g3⟩ hR.2.1 id12⟩))
theorem two_followed {v1 v2 v3 v4 v5 v6 : Int32} {hs : List PS} (h : INV hs) : Two 144 250 false 0 0 [vI v1, vI v2, vI v3, vI v4, vI v5, vI v6] hs := by
  obtain ⟨a, rfl, ha⟩ := iI_of v1
  obtain ⟨c, rfl, hc⟩ := iI_of v2
  obtain ⟨x, rfl, hx⟩ := iI_of v3
  obtain ⟨v, rfl, hv⟩ := iI_of v4
  obtain ⟨w, rfl, hw⟩ := iI_of v5
  obtain ⟨k, rfl, hk⟩ := iI_of v6
  obtain ⟨P0, P1, P2, P3, P4, P5, P6, P7, P8, P9, P10, P11, P12, b, n, e, l, f, kb, ks, y, t, X, rs, u, kl, kls, rfl, hT, hB, hU, hS, hX, hR, hO⟩ := h
  exact C_followed ha hc hx hv hw hk hB.2.2.2.2.1 hB.2.2.1 hB.2.1 hS.2.2.1 hS.2.1 (fun P12' g12 => M_followed ha hc hx hv hw hk hS.1 hB.1 hB.2.1 (fun P' fr => ⟨rfl, ⟨_, rfl⟩, mkI hT hB hS hX hR hO (fr.sm (by decide) (by decide)) hU hS.st hR.2.1 g12.id⟩))
theorem two_follow {v1 v2 v3 v4 v5 v6 : Int32} {hs : List PS} (h : INV hs) : Two 145 251 false 0 0 [vI v1, vI v2, vI v3, vI v4, vI v5, vI v6] hs := by
  obtain ⟨a, rfl, ha⟩ := iI_of v1
  obtain ⟨c, rfl, hc⟩ := iI_of v2
  obtain ⟨x, rfl, hx⟩ := iI_of v3
  obtain ⟨v, rfl, hv⟩ := iI_of v4
  obtain ⟨w, rfl, hw⟩ := iI_of v5
  obtain ⟨k, rfl, hk⟩ := iI_of v6
  obtain ⟨P0, P1, P2, P3, P4, P5, P6, P7, P8, P9, P10, P11, P12, b, n, e, l, f, kb, ks, y, t, X, rs, u, kl, kls, rfl, hT, hB, hU, hS, hX, hR, hO⟩ := h
  exact C_follow ha hc hx hv hw hk hB.2.2.2.2.1 hB.2.2.1 hB.2.1 hS.2.2.1 hS.2.1 (fun P12' g12 => M_follow ha hc hx hv hw hk hS.1 hB.1 hB.2.1 (fun P' fr => ⟨rfl, ⟨_, rfl⟩, mkI hT hB hS hX hR hO (fr.sm (by decide) (by decide)) hU hS.st hR.2.1 g12.id⟩))
theorem two_wanderers {v1 v2 : Int32} {hs : List PS} (h : INV hs) : Two 146 252 false 0 0 [vI v1, vI v2] hs := by
  obtain ⟨a, rfl, ha⟩ := iI_of v1
  obtain ⟨k, rfl, hk⟩ := iI_of v2
  obtain ⟨P0, P1, P2, P3, P4, P5, P6, P7, P8, P9, P10, P11, P12, b, n, e, l, f, kb, ks, y, t, X, rs, u, kl, kls, rfl, hT, hB, hU, hS, hX, hR, hO⟩ := h
  exact C_wanderers ha hk hB.2.2.2.2.1 hB.2.2.1 hB.2.1 hS.2.2.1 hS.2.1 hS.2.2.2.1 (fun x j P3' P8' w1 g1 g2 _ => M_wanderers ha hk hS.1 hB.1 hB.2.1 (fun x' P' w2 fr => ⟨by rw [w2.uq w1], ⟨_, rfl⟩, mkI hT hB hS hX hR hO (fr.sm (by decide) (by decide)) hU (hS.nm g1 g2) hR.2.1 id12⟩))
theorem two_shift {v1 v2 v3 v4 v5 : Int32} {hs : List PS} (h : INV hs) : Two 147 254 true 0 0 [vI v1, vI v2, vI v3, vI v4, vI v5] hs := by
  obtain ⟨a, rfl, ha⟩ := iI_of v1
  obtain ⟨c, rfl, hc⟩ := iI_of v2
  obtain ⟨s, rfl, hs⟩ := iI_of v3
  obtain ⟨v, rfl, hv⟩ := iI_of v4
  obtain ⟨k, rfl, hk⟩ := iI_of v5
  obtain ⟨P0, P1, P2, P3, P4, P5, P6, P7, P8, P9, P10, P11, P12, b, n, e, l, f, kb, ks, y, t, X, rs, u, kl, kls, rfl, hT, hB, hU, hS, hX, hR, hO⟩ := h
  exact C_shift ha hc hs hv hk hB.2.2.2.2.1 hB.2.2.1 hB.2.1 hS.2.2.1 hS.2.1 hS.2.2.2.1 hS.2.2.2.2.1 (fun P3' P8' g1 g2 g3 _ => M_shift ha hc hs hv hk hS.1 hB.1 hB.2.1 (fun P' fr => ⟨rfl, ⟨_, rfl⟩, mkI hT hB hS hX hR hO (fr.sm (by decide) (by decide)) hU ⟨g1, g2, g3⟩ hR.2.1 id12⟩))
theorem two_liar {v1 v2 v3 : Int32} {hs : List PS} (h : INV hs) : Two 148 255 false 0 0 [vI v1, vI v2, vI v3] hs := by
  obtain ⟨a, rfl, ha⟩ := iI_of v1
  obtain ⟨c, rfl, hc⟩ := iI_of v2
  obtain ⟨k, rfl, hk⟩ := iI_of v3
  obtain ⟨P0, P1, P2, P3, P4, P5, P6, P7, P8, P9, P10, P11, P12, b, n, e, l, f, kb, ks, y, t, X, rs, u, kl, kls, rfl, hT, hB, hU, hS, hX, hR, hO⟩ := h
  exact C_liar ha hc hk (M_liar ha hc hk ⟨rfl, ⟨_, rfl⟩, mkI hT hB hS hX hR hO SM.rf hU hS.st hR.2.1 id12⟩)
theorem two_looks {v1 : Int32} {hs : List PS} (h : INV hs) : Two 149 258 false 0 0 [vI v1] hs := by
  obtain ⟨a, rfl, ha⟩ := iI_of v1
  obtain ⟨P0, P1, P2, P3, P4, P5, P6, P7, P8, P9, P10, P11, P12, b, n, e, l, f, kb, ks, y, t, X, rs, u, kl, kls, rfl, hT, hB, hU, hS, hX, hR, hO⟩ := h
  exact C_looks hB.2.2.2.2.1 hB.2.2.1.1 hB.2.2.1.2.1 hB.2.1 hU.1 (fun P5' g1 fr => M_looks ha hB.1 hB.2.1 ⟨rfl, ⟨_, rfl⟩, mkI hT hB hS hX hR hO SM.rf ⟨g1, hU.2.1.fr fr (by simp) (by simp), hU.2.2.1.fr fr (by simp) (by simp), hU.2.2.2.fr fr (by simp) (by simp)⟩ hS.st hR.2.1 id12⟩)
theorem two_held {v1 : Int32} {hs : List PS} (h : INV hs) : Two 151 262 false 0 0 [vI v1] hs := by
  obtain ⟨a, rfl, ha⟩ := iI_of v1
  obtain ⟨P0, P1, P2, P3, P4, P5, P6, P7, P8, P9, P10, P11, P12, b, n, e, l, f, kb, ks, y, t, X, rs, u, kl, kls, rfl, hT, hB, hU, hS, hX, hR, hO⟩ := h
  exact C_held ha hB.2.2.2.2.1 hB.2.2.1.1 hB.2.2.1.2.1 hB.2.1 hU.2.2.1 (fun P5' g1 fr5 => M_held ha hB.1 hB.2.1 (fun P' fr => ⟨rfl, ⟨_, rfl⟩, mkI hT hB hS hX hR hO (fr.sm (by decide) (by decide)) ⟨hU.1.fr fr5 (by decide) (by decide), hU.2.1.fr fr5 (by simp) (by simp), g1, hU.2.2.2.fr fr5 (by simp) (by simp)⟩ hS.st hR.2.1 id12⟩))
theorem two_doubles {hs : List PS} (h : INV hs) : Two 152 263 false 0 0 [] hs := by
  obtain ⟨P0, P1, P2, P3, P4, P5, P6, P7, P8, P9, P10, P11, P12, b, n, e, l, f, kb, ks, y, t, X, rs, u, kl, kls, rfl, hT, hB, hU, hS, hX, hR, hO⟩ := h
  exact C_doubles hB.2.2.2.2.1 hB.2.2.1 hB.2.1 hU.2.2.2 (fun P5' g1 fr => M_doubles hB.1 hB.2.1 ⟨rfl, ⟨_, rfl⟩, mkI hT hB hS hX hR hO SM.rf ⟨hU.1.fr fr (by decide) (by decide), hU.2.1.fr fr (by simp) (by simp), hU.2.2.1.fr fr (by simp) (by simp), g1⟩ hS.st hR.2.1 id12⟩)
theorem two_chosen {v1 : Int32} {hs : List PS} (h : INV hs) : Two 150 261 false 0 0 [vI v1] hs := by
  obtain ⟨a, rfl, ha⟩ := iI_of v1
  obtain ⟨P0, P1, P2, P3, P4, P5, P6, P7, P8, P9, P10, P11, P12, b, n, e, l, f, kb, ks, y, t, X, rs, u, kl, kls, rfl, hT, hB, hU, hS, hX, hR, hO⟩ := h
  exact C_chosen ha hB.2.2.2.2.1 hB.2.2.1.1 hB.2.2.1.2.1 hB.2.1 hU.1 hU.2.1 (fun v P5' w1 g1 g2 fr => M_chosen ha hB.1 hB.2.1 (fun v' w2 => ⟨by rw [chosen_uq w2 w1], ⟨_, rfl⟩, mkI hT hB hS hX hR hO SM.rf ⟨g1, g2, hU.2.2.1.fr fr (by simp) (by simp), hU.2.2.2.fr fr (by simp) (by simp)⟩ hS.st hR.2.1 id12⟩))
theorem two_trust {v1 v2 : Int32} {hs : List PS} (h : INV hs) : Two 153 279 false 0 0 [vI v1, vI v2] hs := by
  obtain ⟨a, rfl, ha⟩ := iI_of v1
  obtain ⟨k, rfl, hk⟩ := iI_of v2
  obtain ⟨P0, P1, P2, P3, P4, P5, P6, P7, P8, P9, P10, P11, P12, b, n, e, l, f, kb, ks, y, t, X, rs, u, kl, kls, rfl, hT, hB, hU, hS, hX, hR, hO⟩ := h
  exact C_trust ha hk hB.2.2.2.2.1 hB.2.2.1 hB.2.1 hS.2.2.1 hS.2.1 hS.2.2.2.1 hS.2.2.2.2.1 hR.2.2.2.2.2.2.1 hR.2.1 hR.2.2.1 hR.2.2.2.1 (by have := hR.2.2.2.2.1; omega) (fun P3' P4' P7' P8' P12' g1 g2 g3 g4 _ _ g12 => M_trust ha hk hS.1 hB.1 hB.2.1 hR.1 hR.2.2.1 hR.2.2.2.1 hR.2.2.2.2.1 (fun P' fr => ⟨rfl, ⟨_, rfl⟩, mkI hT hB hS hX hR hO (fr.sm (by decide) (by decide)) hU ⟨g1, g2, g3⟩ (hR.2.1.fk g4) g12.id⟩))
theorem two_believed {v1 : Int32} {hs : List PS} (h : INV hs) : Two 154 280 false 0 0 [vI v1] hs := by
  obtain ⟨k, rfl, hk⟩ := iI_of v1
  obtain ⟨P0, P1, P2, P3, P4, P5, P6, P7, P8, P9, P10, P11, P12, b, n, e, l, f, kb, ks, y, t, X, rs, u, kl, kls, rfl, hT, hB, hU, hS, hX, hR, hO⟩ := h
  exact C_believed hk hB.2.2.2.2.1 hB.2.2.1 hB.2.1 hS.2.2.1 hS.2.1 hS.2.2.2.1 hS.2.2.2.2.1 hR.2.2.2.2.2.2.1 hR.2.1 hR.2.2.1 hR.2.2.2.1 (by have := hR.2.2.2.2.1; omega) (fun P3' P4' P7' P8' P12' g1 g2 g3 g4 _ _ g12 => M_believed hk hS.1 hB.1 hB.2.1 hR.1 hR.2.2.1 hR.2.2.2.1 hR.2.2.2.2.1 (fun P' fr => ⟨rfl, ⟨_, rfl⟩, mkI hT hB hS hX hR hO (fr.sm (by decide) (by decide)) hU ⟨g1, g2, g3⟩ (hR.2.1.fk g4) g12.id⟩))
theorem two_about {v1 : Int32} {hs : List PS} (h : INV hs) : Two 157 284 false 0 0 [vI v1] hs := by
  obtain ⟨P0, P1, P2, P3, P4, P5, P6, P7, P8, P9, P10, P11, P12, b, n, e, l, f, kb, ks, y, t, X, rs, u, kl, kls, rfl, hT, hB, hU, hS, hX, hR, hO⟩ := h
  exact C_about hB.2.2.2.2.1 hR.2.2.2.2.2.2.1 hB.2.2.1.1.1 hS.2.1.1 hR.2.1.1 hS.2.1.2.1 hT.2.1.1 hR.2.1.2.1.1 hS.2.1.2.2.1 (M_about hB.1.1.1 hS.1.1 hR.1.1 hS.1.2.2.1 hT.1.1 hR.1.2.1 hS.1.2.2.2.2.1 ⟨rfl, ⟨_, rfl⟩, mkI hT hB hS hX hR hO SM.rf hU hS.st hR.2.1 id12⟩)

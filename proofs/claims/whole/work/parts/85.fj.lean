/-! the law's loop -/
section ZFj
set_option maxRecDepth 40000
def kL_law_e : List zI := [
  (1488, 3, .iinc 5 6, [], 6),
  (1491, 3, .goto (-1463), [28], 0)]
theorem kL_law_e_ok : kL_law_e.all (zck cL_law) = true := by decide +kernel
theorem zle6 {L t : Nat} (hL : L ≤ 3072) (ht : 6 * t ≤ L) (h : ¬ Int32.ofNat L - 6 < nI (6 * t)) : 6 * t + 6 ≤ L := by
  rcases Nat.lt_or_ge L 6 with h6 | h6
  · exfalso
    apply h
    have e : Int32.ofNat L - 6 < 0 := by
      rcases (show L = 0 ∨ L = 1 ∨ L = 2 ∨ L = 3 ∨ L = 4 ∨ L = 5 by omega) with rfl | rfl | rfl | rfl | rfl | rfl <;> decide
    rw [Int32.lt_iff_toInt_lt] at e ⊢
    rw [nI_toInt (by omega)]
    have : (0 : Int32).toInt = 0 := rfl
    omega
  · obtain ⟨k, rfl⟩ : ∃ k, L = k + 6 := ⟨L - 6, by omega⟩
    have e : Int32.ofNat (k + 6) - 6 = nI k := by
      show nI (k + 6) - nI 6 = nI k
      rw [← nI_add]
      rw [Int32.sub_eq_add_neg, Int32.add_assoc, Int32.add_right_neg, Int32.add_zero]
    rw [e] at h
    rcases Nat.lt_or_ge k (6 * t) with q | q
    · exact absurd (nI_lt q (by omega)) h
    · omega
theorem zin6 {L t : Nat} (hL : L ≤ 3072) (h : 6 * t + 6 ≤ L) : zIn (nI (6 * t)) L := by
  refine ⟨?_, ?_, ?_, ?_, ?_⟩
  · rw [nI_1]; exact vp_in_nI (by omega) (by omega)
  · rw [show (2 : Int32) = nI 2 from rfl, nI_add]; exact vp_in_nI (by omega) (by omega)
  · rw [show (3 : Int32) = nI 3 from rfl, nI_add]; exact vp_in_nI (by omega) (by omega)
  · rw [show (4 : Int32) = nI 4 from rfl, nI_add]; exact vp_in_nI (by omega) (by omega)
  · rw [show (5 : Int32) = nI 5 from rfl, nI_add]; exact vp_in_nI (by omega) (by omega)
theorem law_loop {L : Nat} {xs : Nat → Int32} (hL : L ≤ 3072) (h20 : zCase L xs 1344) : ∀ (n t : Nat) (kc ks : Nat) (F : zF) (w6 w7 w8 : Option Value), zAg F → 6 * t ≤ L → L < 6 * (t + n) + 6 → kc + 20 * n ≤ 603072 → ks + 200 * n ≤ 7198825 → zW L xs 28 (zLs (nI (6 * t)) w6 w7 w8) [] kc ks F := by
  intro n
  induction n with
  | zero =>
    intro t kc ks F w6 w7 w8 hF ht hn hc hs
    refine zatX_ok (YL_law_ok L xs) (inv := zixX YL_law (zKw L xs) zQw zAw [156, 260, 328, 396, 464, 572, 610, 654, 667, 735, 791, 835, 903, 971, 1039, 1095, 1151, 1207, 1220, 1288, 1344, 1409, 1453, 1464, 1488]) zixX_ok kL_law_h (List.all_eq_true.mp kL_law_h_ok) 28 _ _ _ _ _ ?_
    refine ⟨rfl, fun _ => rfl, fun h => ?_⟩
    have := zle6 hL ht h
    omega
  | succ n ih =>
    intro t kc ks F w6 w7 w8 hF ht hn hc hs
    refine zatX_ok (YL_law_ok L xs) (inv := zixX YL_law (zKw L xs) zQw zAw [156, 260, 328, 396, 464, 572, 610, 654, 667, 735, 791, 835, 903, 971, 1039, 1095, 1151, 1207, 1220, 1288, 1344, 1409, 1453, 1464, 1488]) zixX_ok kL_law_h (List.all_eq_true.mp kL_law_h_ok) 28 _ _ _ _ _ ?_
    refine ⟨rfl, fun _ => rfl, fun h => ?_⟩
    have h6 := zle6 hL ht h
    have hi := zin6 hL h6
    have hr : kc + 20 ≤ 603072 ∧ ks + 200 ≤ 7198825 := ⟨by omega, by omega⟩
    have hk : zNxt L xs (nI (6 * t)) kc ks := by
      intro v6 v7 v8 kc' ks' F' q1 q2 hF'
      refine zatX_ok (YL_law_ok L xs) (inv := zixX YL_law (zKw L xs) zQw zAw [28]) zixX_ok kL_law_e (List.all_eq_true.mp kL_law_e_ok) 1488 _ _ _ _ _ ?_
      have g := ih (t + 1) kc' ks' F' v6 v7 v8 hF' (by omega) (by omega) (by omega) (by omega)
      have e : nI (6 * (t + 1)) = nI (6 * t) + 6 := by
        rw [show (6 : Int32) = nI 6 from rfl, nI_add, Nat.mul_add, Nat.mul_one]
      rw [e] at g
      exact g
    refine ⟨⟨rfl, vp_in_nI (by omega) (by omega)⟩, ⟨fun _ => ?_, fun _ => ?_, fun _ => ?_, fun _ => ?_, fun _ => ?_, fun _ => ?_, fun _ => ?_, fun _ => ?_, fun _ => ?_, fun _ => ?_, fun _ => ?_, fun _ => ?_, fun _ => ?_, fun _ => ?_, fun _ => ?_, fun _ => ?_, fun _ => ?_, fun _ => ?_, fun _ => ?_, fun _ => ?_, fun _ => ?_, fun _ => ?_, fun _ => ?_, fun _ => ?_, True.intro⟩, fun _ => ?_⟩
    · exact cL_0 L xs _ w6 w7 w8 kc ks F hF hr hi hk
    · exact cL_1 L xs _ w6 w7 w8 kc ks F hF hr hi hk
    · exact cL_2 L xs _ w6 w7 w8 kc ks F hF hr hi hk
    · exact cL_3 L xs _ w6 w7 w8 kc ks F hF hr hi hk
    · exact cL_4 L xs _ w6 w7 w8 kc ks F hF hr hi hk
    · exact cL_5 L xs _ w6 w7 w8 kc ks F hF hr hi hk
    · exact cL_6 L xs _ w6 w7 w8 kc ks F hF hr hi hk
    · exact cL_7 L xs _ w6 w7 w8 kc ks F hF hr hi hk
    · exact cL_8 L xs _ w6 w7 w8 kc ks F hF hr hi hk
    · exact cL_9 L xs _ w6 w7 w8 kc ks F hF hr hi hk
    · exact cL_10 L xs _ w6 w7 w8 kc ks F hF hr hi hk
    · exact cL_11 L xs _ w6 w7 w8 kc ks F hF hr hi hk
    · exact cL_12 L xs _ w6 w7 w8 kc ks F hF hr hi hk
    · exact cL_13 L xs _ w6 w7 w8 kc ks F hF hr hi hk
    · exact cL_14 L xs _ w6 w7 w8 kc ks F hF hr hi hk
    · exact cL_15 L xs _ w6 w7 w8 kc ks F hF hr hi hk
    · exact cL_16 L xs _ w6 w7 w8 kc ks F hF hr hi hk
    · exact cL_17 L xs _ w6 w7 w8 kc ks F hF hr hi hk
    · exact cL_18 L xs _ w6 w7 w8 kc ks F hF hr hi hk
    · exact cL_19 L xs _ w6 w7 w8 kc ks F hF hr hi hk
    · exact h20 _ w6 w7 w8 kc ks F hF hr hi hk
    · exact cL_21 L xs _ w6 w7 w8 kc ks F hF hr hi hk
    · exact cL_22 L xs _ w6 w7 w8 kc ks F hF hr hi hk
    · exact cL_23 L xs _ w6 w7 w8 kc ks F hF hr hi hk
    · exact hk w6 w7 w8 kc ks F (Nat.le_add_right _ _) (Nat.le_add_right _ _) hF
end ZFj

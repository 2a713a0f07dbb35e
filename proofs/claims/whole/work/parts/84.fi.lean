/-! the law's cases -/
section ZFi
set_option maxRecDepth 40000
theorem cL_0 (L : Nat) (xs : Nat → Int32) : zCase L xs 156 := by
  intro x w6 w7 w8 kc ks F hF hr hi hk
  obtain ⟨Fc, Fm, hb, hg⟩ := hF
  refine zatX_ok (YL_law_ok L xs) (inv := zixX YL_law (zKw L xs) zQw zAw [1488]) zixX_ok kL_law_0 (List.all_eq_true.mp kL_law_0_ok) 156 _ _ _ _ _ ?_
  refine ⟨⟨rfl, hi.1⟩, ⟨rfl, hi.2.1⟩, ⟨rfl, hi.2.2.1⟩, ⟨rfl, hi.2.2.2.1⟩, ⟨rfl, hi.2.2.2.2⟩, zrm 3 18 hr (by decide) (by decide), _, _, Fc, hg.1, e_addReach (k_addReach _ _ _ _ _ Fc Fm hb), fun r F1 g => ?_, fun E F1 g => ?_⟩
  · obtain ⟨v, rfl, g⟩ := g
    refine ⟨v, rfl, ?_⟩
    refine ⟨⟨rfl, hi.1⟩, ⟨rfl, hi.2.1⟩, ⟨rfl, hi.2.2.1⟩, ⟨rfl, hi.2.2.2.1⟩, ⟨rfl, hi.2.2.2.2⟩, zrm 3 18 hr (by decide) (by decide), [.ref 0, .int _, .int _, .int _, .int _, .int _], _, _, Fm, (zag_l hg 0 v).2, rfl, g, fun q F2 g2 => ?_, fun E F2 g2 => g2.elim⟩
    obtain ⟨rfl, g3, g4⟩ := g2
    refine ⟨zrm 3 18 hr (by decide) (by decide), [.ref 0], fun q G => q = some (.int (F2 0 0)) ∧ G = F2, zX0, F2, (zag_m (zag_l hg 0 v)).2, rfl, ⟨rfl, rfl⟩, fun q G g5 => ?_, fun E G g5 => g5.elim⟩
    obtain ⟨rfl, rfl⟩ := g5
    refine ⟨fun _ => ⟨fun h0 => absurd rfl h0, fun _ => ?_⟩, fun h0 => absurd g3 h0⟩
    exact ⟨vp01, fun _ => hk _ _ _ _ _ _ (Nat.add_le_add_left (by decide : 3 ≤ 20) kc) (Nat.add_le_add_left (by decide : 18 ≤ 200) ks) ⟨_, _, g4, zag_m (zag_m (zag_l hg 0 v))⟩, fun h0 => absurd (zlg _) h0⟩
  · refine ⟨g.1, ?_⟩
    refine ⟨⟨rfl, hi.1⟩, ⟨rfl, hi.2.1⟩, ⟨rfl, hi.2.2.1⟩, ⟨rfl, hi.2.2.2.1⟩, ⟨rfl, hi.2.2.2.2⟩, zrm 3 18 hr (by decide) (by decide), [.ref 0, .int _, .int _, .int _, .int _, .int _], _, _, Fm, (zag_c hg).2, rfl, g.2, fun q F2 g2 => ?_, fun E F2 g2 => g2.elim⟩
    obtain ⟨⟨v, rfl⟩, ⟨g3, g4, -⟩, g6⟩ := g2
    refine ⟨zrm 3 18 hr (by decide) (by decide), [.ref 0], fun q G => q = some (.int (F2 0 0)) ∧ G = F2, zX0, F2, (zag_m (zag_c hg)).2, rfl, ⟨rfl, rfl⟩, fun q G g5 => ?_, fun E G g5 => g5.elim⟩
    obtain ⟨rfl, rfl⟩ := g5
    exact ⟨fun _ => ⟨fun _ => hk _ _ _ _ _ _ (Nat.add_le_add_left (by decide : 3 ≤ 20) kc) (Nat.add_le_add_left (by decide : 18 ≤ 200) ks) ⟨_, _, g6, zag_m (zag_m (zag_c hg))⟩, fun h0 => absurd h0 g4⟩, fun h0 => absurd g3 h0⟩
theorem cL_1 (L : Nat) (xs : Nat → Int32) : zCase L xs 260 := by
  intro x w6 w7 w8 kc ks F hF hr hi hk
  obtain ⟨Fc, Fm, hb, hg⟩ := hF
  refine zatX_ok (YL_law_ok L xs) (inv := zixX YL_law (zKw L xs) zQw zAw [1488]) zixX_ok kL_law_1 (List.all_eq_true.mp kL_law_1_ok) 260 _ _ _ _ _ ?_
  refine ⟨⟨rfl, hi.1⟩, ⟨rfl, hi.2.1⟩, zrm 2 12 hr (by decide) (by decide), _, _, Fc, hg.1, e_set (k_set _ _ Fc Fm hb), fun r F1 g => ?_, fun E F1 g => ?_⟩
  · obtain ⟨v, rfl, g⟩ := g
    refine ⟨v, rfl, ?_⟩
    refine ⟨⟨rfl, hi.1⟩, ⟨rfl, hi.2.1⟩, zrm 2 12 hr (by decide) (by decide), [.ref 0, .int _, .int _], _, _, Fm, (zag_l hg 0 v).2, rfl, g, fun q F2 g2 => ?_, fun E F2 g2 => g2.elim⟩
    obtain ⟨rfl, g3, g4⟩ := g2
    refine ⟨zrm 2 12 hr (by decide) (by decide), [.ref 0], fun q G => q = some (.int (F2 0 0)) ∧ G = F2, zX0, F2, (zag_m (zag_l hg 0 v)).2, rfl, ⟨rfl, rfl⟩, fun q G g5 => ?_, fun E G g5 => g5.elim⟩
    obtain ⟨rfl, rfl⟩ := g5
    refine ⟨fun _ => ⟨fun h0 => absurd rfl h0, fun _ => ?_⟩, fun h0 => absurd g3 h0⟩
    exact ⟨vp01, fun _ => hk _ _ _ _ _ _ (Nat.add_le_add_left (by decide : 2 ≤ 20) kc) (Nat.add_le_add_left (by decide : 12 ≤ 200) ks) ⟨_, _, g4, zag_m (zag_m (zag_l hg 0 v))⟩, fun h0 => absurd (zlg _) h0⟩
  · refine ⟨g.1, ?_⟩
    refine ⟨⟨rfl, hi.1⟩, ⟨rfl, hi.2.1⟩, zrm 2 12 hr (by decide) (by decide), [.ref 0, .int _, .int _], _, _, Fm, (zag_c hg).2, rfl, g.2, fun q F2 g2 => ?_, fun E F2 g2 => g2.elim⟩
    obtain ⟨⟨v, rfl⟩, ⟨g3, g4, -⟩, g6⟩ := g2
    refine ⟨zrm 2 12 hr (by decide) (by decide), [.ref 0], fun q G => q = some (.int (F2 0 0)) ∧ G = F2, zX0, F2, (zag_m (zag_c hg)).2, rfl, ⟨rfl, rfl⟩, fun q G g5 => ?_, fun E G g5 => g5.elim⟩
    obtain ⟨rfl, rfl⟩ := g5
    exact ⟨fun _ => ⟨fun _ => hk _ _ _ _ _ _ (Nat.add_le_add_left (by decide : 2 ≤ 20) kc) (Nat.add_le_add_left (by decide : 12 ≤ 200) ks) ⟨_, _, g6, zag_m (zag_m (zag_c hg))⟩, fun h0 => absurd h0 g4⟩, fun h0 => absurd g3 h0⟩
theorem cL_2 (L : Nat) (xs : Nat → Int32) : zCase L xs 328 := by
  intro x w6 w7 w8 kc ks F hF hr hi hk
  obtain ⟨Fc, Fm, hb, hg⟩ := hF
  refine zatX_ok (YL_law_ok L xs) (inv := zixX YL_law (zKw L xs) zQw zAw [1488]) zixX_ok kL_law_2 (List.all_eq_true.mp kL_law_2_ok) 328 _ _ _ _ _ ?_
  refine ⟨⟨rfl, hi.1⟩, ⟨rfl, hi.2.1⟩, zrm 2 12 hr (by decide) (by decide), _, _, Fc, hg.1, e_reach (k_reach _ _ Fc Fm hb), fun r F1 g => ?_, fun E F1 g => ?_⟩
  · obtain ⟨v, rfl, g⟩ := g
    refine ⟨v, rfl, ?_⟩
    refine ⟨⟨rfl, hi.1⟩, ⟨rfl, hi.2.1⟩, zrm 2 12 hr (by decide) (by decide), [.ref 0, .int _, .int _], _, _, Fm, (zag_l hg 0 v).2, rfl, g, fun q F2 g2 => ?_, fun E F2 g2 => g2.elim⟩
    obtain ⟨rfl, g3, g4⟩ := g2
    refine ⟨zrm 2 12 hr (by decide) (by decide), [.ref 0], fun q G => q = some (.int (F2 0 0)) ∧ G = F2, zX0, F2, (zag_m (zag_l hg 0 v)).2, rfl, ⟨rfl, rfl⟩, fun q G g5 => ?_, fun E G g5 => g5.elim⟩
    obtain ⟨rfl, rfl⟩ := g5
    refine ⟨fun _ => ⟨fun h0 => absurd rfl h0, fun _ => ?_⟩, fun h0 => absurd g3 h0⟩
    exact ⟨vp01, fun _ => hk _ _ _ _ _ _ (Nat.add_le_add_left (by decide : 2 ≤ 20) kc) (Nat.add_le_add_left (by decide : 12 ≤ 200) ks) ⟨_, _, g4, zag_m (zag_m (zag_l hg 0 v))⟩, fun h0 => absurd (zlg _) h0⟩
  · refine ⟨g.1, ?_⟩
    refine ⟨⟨rfl, hi.1⟩, ⟨rfl, hi.2.1⟩, zrm 2 12 hr (by decide) (by decide), [.ref 0, .int _, .int _], _, _, Fm, (zag_c hg).2, rfl, g.2, fun q F2 g2 => ?_, fun E F2 g2 => g2.elim⟩
    obtain ⟨⟨v, rfl⟩, ⟨g3, g4, -⟩, g6⟩ := g2
    refine ⟨zrm 2 12 hr (by decide) (by decide), [.ref 0], fun q G => q = some (.int (F2 0 0)) ∧ G = F2, zX0, F2, (zag_m (zag_c hg)).2, rfl, ⟨rfl, rfl⟩, fun q G g5 => ?_, fun E G g5 => g5.elim⟩
    obtain ⟨rfl, rfl⟩ := g5
    exact ⟨fun _ => ⟨fun _ => hk _ _ _ _ _ _ (Nat.add_le_add_left (by decide : 2 ≤ 20) kc) (Nat.add_le_add_left (by decide : 12 ≤ 200) ks) ⟨_, _, g6, zag_m (zag_m (zag_c hg))⟩, fun h0 => absurd h0 g4⟩, fun h0 => absurd g3 h0⟩
theorem cL_3 (L : Nat) (xs : Nat → Int32) : zCase L xs 396 := by
  intro x w6 w7 w8 kc ks F hF hr hi hk
  obtain ⟨Fc, Fm, hb, hg⟩ := hF
  refine zatX_ok (YL_law_ok L xs) (inv := zixX YL_law (zKw L xs) zQw zAw [1488]) zixX_ok kL_law_3 (List.all_eq_true.mp kL_law_3_ok) 396 _ _ _ _ _ ?_
  refine ⟨⟨rfl, hi.1⟩, ⟨rfl, hi.2.1⟩, zrm 2 12 hr (by decide) (by decide), _, _, Fc, hg.1, e_lock (k_lock _ _ Fc Fm hb), fun r F1 g => ?_, fun E F1 g => ?_⟩
  · obtain ⟨v, rfl, g⟩ := g
    refine ⟨v, rfl, ?_⟩
    refine ⟨⟨rfl, hi.1⟩, ⟨rfl, hi.2.1⟩, zrm 2 12 hr (by decide) (by decide), [.ref 0, .int _, .int _], _, _, Fm, (zag_l hg 0 v).2, rfl, g, fun q F2 g2 => ?_, fun E F2 g2 => g2.elim⟩
    obtain ⟨rfl, g3, g4⟩ := g2
    refine ⟨zrm 2 12 hr (by decide) (by decide), [.ref 0], fun q G => q = some (.int (F2 0 0)) ∧ G = F2, zX0, F2, (zag_m (zag_l hg 0 v)).2, rfl, ⟨rfl, rfl⟩, fun q G g5 => ?_, fun E G g5 => g5.elim⟩
    obtain ⟨rfl, rfl⟩ := g5
    refine ⟨fun _ => ⟨fun h0 => absurd rfl h0, fun _ => ?_⟩, fun h0 => absurd g3 h0⟩
    exact ⟨vp01, fun _ => hk _ _ _ _ _ _ (Nat.add_le_add_left (by decide : 2 ≤ 20) kc) (Nat.add_le_add_left (by decide : 12 ≤ 200) ks) ⟨_, _, g4, zag_m (zag_m (zag_l hg 0 v))⟩, fun h0 => absurd (zlg _) h0⟩
  · refine ⟨g.1, ?_⟩
    refine ⟨⟨rfl, hi.1⟩, ⟨rfl, hi.2.1⟩, zrm 2 12 hr (by decide) (by decide), [.ref 0, .int _, .int _], _, _, Fm, (zag_c hg).2, rfl, g.2, fun q F2 g2 => ?_, fun E F2 g2 => g2.elim⟩
    obtain ⟨⟨v, rfl⟩, ⟨g3, g4, -⟩, g6⟩ := g2
    refine ⟨zrm 2 12 hr (by decide) (by decide), [.ref 0], fun q G => q = some (.int (F2 0 0)) ∧ G = F2, zX0, F2, (zag_m (zag_c hg)).2, rfl, ⟨rfl, rfl⟩, fun q G g5 => ?_, fun E G g5 => g5.elim⟩
    obtain ⟨rfl, rfl⟩ := g5
    exact ⟨fun _ => ⟨fun _ => hk _ _ _ _ _ _ (Nat.add_le_add_left (by decide : 2 ≤ 20) kc) (Nat.add_le_add_left (by decide : 12 ≤ 200) ks) ⟨_, _, g6, zag_m (zag_m (zag_c hg))⟩, fun h0 => absurd h0 g4⟩, fun h0 => absurd g3 h0⟩
theorem cL_4 (L : Nat) (xs : Nat → Int32) : zCase L xs 464 := by
  intro x w6 w7 w8 kc ks F hF hr hi hk
  obtain ⟨Fc, Fm, hb, hg⟩ := hF
  refine zatX_ok (YL_law_ok L xs) (inv := zixX YL_law (zKw L xs) zQw zAw [1488]) zixX_ok kL_law_4 (List.all_eq_true.mp kL_law_4_ok) 464 _ _ _ _ _ ?_
  refine ⟨⟨rfl, hi.1⟩, ⟨rfl, hi.2.1⟩, ⟨rfl, hi.2.2.1⟩, ⟨rfl, hi.2.2.2.1⟩, fun h4 => ?_, fun h4 => ?_⟩
  · skip
    refine ⟨zrm 2 12 hr (by decide) (by decide), _, _, Fc, hg.1, e_addShip (k_addShip _ _ _ _ Fc Fm hb), fun r F1 g => ?_, fun E F1 g => ?_⟩
    · obtain ⟨v, rfl, g⟩ := g
      refine ⟨v, rfl, ?_⟩
      refine ⟨⟨rfl, hi.1⟩, ⟨rfl, hi.2.1⟩, ⟨rfl, hi.2.2.1⟩, ⟨rfl, hi.2.2.2.1⟩, fun _ => ⟨zrm 2 12 hr (by decide) (by decide), [.ref 0, .int _, .int _, .int _, .int _], _, _, Fm, (zag_l hg 0 v).2, rfl, g, fun q F2 g2 => ?_, fun E F2 g2 => g2.elim⟩, fun h9 => absurd h4 h9⟩
      obtain ⟨rfl, g3, g4⟩ := g2
      refine ⟨zrm 2 12 hr (by decide) (by decide), [.ref 0], fun q G => q = some (.int (F2 0 0)) ∧ G = F2, zX0, F2, (zag_m (zag_l hg 0 v)).2, rfl, ⟨rfl, rfl⟩, fun q G g5 => ?_, fun E G g5 => g5.elim⟩
      obtain ⟨rfl, rfl⟩ := g5
      refine ⟨fun _ => ⟨fun h0 => absurd rfl h0, fun _ => ?_⟩, fun h0 => absurd g3 h0⟩
      exact ⟨vp01, fun _ => hk _ _ _ _ _ _ (Nat.add_le_add_left (by decide : 2 ≤ 20) kc) (Nat.add_le_add_left (by decide : 12 ≤ 200) ks) ⟨_, _, g4, zag_m (zag_m (zag_l hg 0 v))⟩, fun h0 => absurd (zlg _) h0⟩
    · refine ⟨g.1, ?_⟩
      refine ⟨⟨rfl, hi.1⟩, ⟨rfl, hi.2.1⟩, ⟨rfl, hi.2.2.1⟩, ⟨rfl, hi.2.2.2.1⟩, fun _ => ⟨zrm 2 12 hr (by decide) (by decide), [.ref 0, .int _, .int _, .int _, .int _], _, _, Fm, (zag_c hg).2, rfl, g.2, fun q F2 g2 => ?_, fun E F2 g2 => g2.elim⟩, fun h9 => absurd h4 h9⟩
      obtain ⟨⟨v, rfl⟩, ⟨g3, g4, -⟩, g6⟩ := g2
      refine ⟨zrm 2 12 hr (by decide) (by decide), [.ref 0], fun q G => q = some (.int (F2 0 0)) ∧ G = F2, zX0, F2, (zag_m (zag_c hg)).2, rfl, ⟨rfl, rfl⟩, fun q G g5 => ?_, fun E G g5 => g5.elim⟩
      obtain ⟨rfl, rfl⟩ := g5
      exact ⟨fun _ => ⟨fun _ => hk _ _ _ _ _ _ (Nat.add_le_add_left (by decide : 2 ≤ 20) kc) (Nat.add_le_add_left (by decide : 12 ≤ 200) ks) ⟨_, _, g6, zag_m (zag_m (zag_c hg))⟩, fun h0 => absurd h0 g4⟩, fun h0 => absurd g3 h0⟩
  · skip
    refine ⟨zrm 2 12 hr (by decide) (by decide), _, _, Fc, hg.1, e_addShip (k_addShip _ _ _ _ Fc Fm hb), fun r F1 g => ?_, fun E F1 g => ?_⟩
    · obtain ⟨v, rfl, g⟩ := g
      refine ⟨v, rfl, ?_⟩
      refine ⟨⟨rfl, hi.1⟩, ⟨rfl, hi.2.1⟩, ⟨rfl, hi.2.2.1⟩, ⟨rfl, hi.2.2.2.1⟩, fun h9 => absurd h9 h4, fun _ => ⟨zrm 2 12 hr (by decide) (by decide), [.ref 0, .int _, .int _, .int _, .int _], _, _, Fm, (zag_l hg 0 v).2, rfl, g, fun q F2 g2 => ?_, fun E F2 g2 => g2.elim⟩⟩
      obtain ⟨rfl, g3, g4⟩ := g2
      refine ⟨zrm 2 12 hr (by decide) (by decide), [.ref 0], fun q G => q = some (.int (F2 0 0)) ∧ G = F2, zX0, F2, (zag_m (zag_l hg 0 v)).2, rfl, ⟨rfl, rfl⟩, fun q G g5 => ?_, fun E G g5 => g5.elim⟩
      obtain ⟨rfl, rfl⟩ := g5
      refine ⟨fun _ => ⟨fun h0 => absurd rfl h0, fun _ => ?_⟩, fun h0 => absurd g3 h0⟩
      exact ⟨vp01, fun _ => hk _ _ _ _ _ _ (Nat.add_le_add_left (by decide : 2 ≤ 20) kc) (Nat.add_le_add_left (by decide : 12 ≤ 200) ks) ⟨_, _, g4, zag_m (zag_m (zag_l hg 0 v))⟩, fun h0 => absurd (zlg _) h0⟩
    · refine ⟨g.1, ?_⟩
      refine ⟨⟨rfl, hi.1⟩, ⟨rfl, hi.2.1⟩, ⟨rfl, hi.2.2.1⟩, ⟨rfl, hi.2.2.2.1⟩, fun h9 => absurd h9 h4, fun _ => ⟨zrm 2 12 hr (by decide) (by decide), [.ref 0, .int _, .int _, .int _, .int _], _, _, Fm, (zag_c hg).2, rfl, g.2, fun q F2 g2 => ?_, fun E F2 g2 => g2.elim⟩⟩
      obtain ⟨⟨v, rfl⟩, ⟨g3, g4, -⟩, g6⟩ := g2
      refine ⟨zrm 2 12 hr (by decide) (by decide), [.ref 0], fun q G => q = some (.int (F2 0 0)) ∧ G = F2, zX0, F2, (zag_m (zag_c hg)).2, rfl, ⟨rfl, rfl⟩, fun q G g5 => ?_, fun E G g5 => g5.elim⟩
      obtain ⟨rfl, rfl⟩ := g5
      exact ⟨fun _ => ⟨fun _ => hk _ _ _ _ _ _ (Nat.add_le_add_left (by decide : 2 ≤ 20) kc) (Nat.add_le_add_left (by decide : 12 ≤ 200) ks) ⟨_, _, g6, zag_m (zag_m (zag_c hg))⟩, fun h0 => absurd h0 g4⟩, fun h0 => absurd g3 h0⟩
theorem cL_5 (L : Nat) (xs : Nat → Int32) : zCase L xs 572 := by
  intro x w6 w7 w8 kc ks F hF hr hi hk
  obtain ⟨Fc, Fm, hb, hg⟩ := hF
  refine zatX_ok (YL_law_ok L xs) (inv := zixX YL_law (zKw L xs) zQw zAw [1488]) zixX_ok kL_law_5 (List.all_eq_true.mp kL_law_5_ok) 572 _ _ _ _ _ ?_
  refine ⟨⟨rfl, hi.1⟩, zrm 1 6 hr (by decide) (by decide), _, _, Fc, hg.1, e_append (k_append _ Fc Fm hb), fun r F1 g => ?_, fun E F1 g => ?_⟩
  · obtain ⟨rfl, g⟩ := g
    refine ⟨rfl, ?_⟩
    refine ⟨⟨rfl, hi.1⟩, zrm 1 6 hr (by decide) (by decide), [.ref 0, .int _], _, _, Fm, (zag_c hg).2, rfl, g, fun q F2 g2 => ?_, fun E F2 g2 => g2.elim⟩
    obtain ⟨rfl, g3, g4⟩ := g2
    refine ⟨zrm 1 6 hr (by decide) (by decide), [.ref 0], fun q G => q = some (.int (F2 0 0)) ∧ G = F2, zX0, F2, (zag_m (zag_c hg)).2, rfl, ⟨rfl, rfl⟩, fun q G g5 => ?_, fun E G g5 => g5.elim⟩
    obtain ⟨rfl, rfl⟩ := g5
    exact ⟨fun _ => hk _ _ _ _ _ _ (Nat.add_le_add_left (by decide : 1 ≤ 20) kc) (Nat.add_le_add_left (by decide : 6 ≤ 200) ks) ⟨_, _, g4, zag_m (zag_m (zag_c hg))⟩, fun h0 => absurd g3 h0⟩
  · refine ⟨g.1, ?_⟩
    refine ⟨⟨rfl, hi.1⟩, zrm 1 6 hr (by decide) (by decide), [.ref 0, .int _], _, _, Fm, (zag_c hg).2, rfl, g.2, fun q F2 g2 => ?_, fun E F2 g2 => g2.elim⟩
    obtain ⟨rfl, ⟨g3, g4, -⟩, g6⟩ := g2
    refine ⟨zrm 1 6 hr (by decide) (by decide), [.ref 0], fun q G => q = some (.int (F2 0 0)) ∧ G = F2, zX0, F2, (zag_m (zag_c hg)).2, rfl, ⟨rfl, rfl⟩, fun q G g5 => ?_, fun E G g5 => g5.elim⟩
    obtain ⟨rfl, rfl⟩ := g5
    exact ⟨fun _ => hk _ _ _ _ _ _ (Nat.add_le_add_left (by decide : 1 ≤ 20) kc) (Nat.add_le_add_left (by decide : 6 ≤ 200) ks) ⟨_, _, g6, zag_m (zag_m (zag_c hg))⟩, fun h0 => absurd g3 h0⟩
theorem cL_6 (L : Nat) (xs : Nat → Int32) : zCase L xs 610 := by
  intro x w6 w7 w8 kc ks F hF hr hi hk
  obtain ⟨Fc, Fm, hb, hg⟩ := hF
  refine zatX_ok (YL_law_ok L xs) (inv := zixX YL_law (zKw L xs) zQw zAw [1488]) zixX_ok kL_law_6 (List.all_eq_true.mp kL_law_6_ok) 610 _ _ _ _ _ ?_
  refine ⟨zrm 2 12 hr (by decide) (by decide), _, _, Fc, hg.1, e_arrive (k_arrive Fc Fm hb), fun r F1 g => ?_, fun E F1 g => ?_⟩
  · obtain ⟨v, rfl, g⟩ := g
    refine ⟨v, rfl, ?_⟩
    refine ⟨zrm 2 12 hr (by decide) (by decide), [.ref 0], _, _, Fm, (zag_l hg 0 v).2, rfl, g, fun q F2 g2 => ?_, fun E F2 g2 => g2.elim⟩
    obtain ⟨rfl, g3, g4⟩ := g2
    refine ⟨zrm 2 12 hr (by decide) (by decide), [.ref 0], fun q G => q = some (.int (F2 0 0)) ∧ G = F2, zX0, F2, (zag_m (zag_l hg 0 v)).2, rfl, ⟨rfl, rfl⟩, fun q G g5 => ?_, fun E G g5 => g5.elim⟩
    obtain ⟨rfl, rfl⟩ := g5
    refine ⟨fun _ => ⟨fun h0 => absurd rfl h0, fun _ => ?_⟩, fun h0 => absurd g3 h0⟩
    exact ⟨vp01, fun _ => hk _ _ _ _ _ _ (Nat.add_le_add_left (by decide : 2 ≤ 20) kc) (Nat.add_le_add_left (by decide : 12 ≤ 200) ks) ⟨_, _, g4, zag_m (zag_m (zag_l hg 0 v))⟩, fun h0 => absurd (zlg _) h0⟩
  · refine ⟨g.1, ?_⟩
    refine ⟨zrm 2 12 hr (by decide) (by decide), [.ref 0], _, _, Fm, (zag_c hg).2, rfl, g.2, fun q F2 g2 => ?_, fun E F2 g2 => g2.elim⟩
    obtain ⟨⟨v, rfl⟩, ⟨g3, g4, -⟩, g6⟩ := g2
    refine ⟨zrm 2 12 hr (by decide) (by decide), [.ref 0], fun q G => q = some (.int (F2 0 0)) ∧ G = F2, zX0, F2, (zag_m (zag_c hg)).2, rfl, ⟨rfl, rfl⟩, fun q G g5 => ?_, fun E G g5 => g5.elim⟩
    obtain ⟨rfl, rfl⟩ := g5
    exact ⟨fun _ => ⟨fun _ => hk _ _ _ _ _ _ (Nat.add_le_add_left (by decide : 2 ≤ 20) kc) (Nat.add_le_add_left (by decide : 12 ≤ 200) ks) ⟨_, _, g6, zag_m (zag_m (zag_c hg))⟩, fun h0 => absurd h0 g4⟩, fun h0 => absurd g3 h0⟩
theorem cL_7 (L : Nat) (xs : Nat → Int32) : zCase L xs 654 := by
  intro x w6 w7 w8 kc ks F hF hr hi hk
  obtain ⟨Fc, Fm, hb, hg⟩ := hF
  refine zatX_ok (YL_law_ok L xs) (inv := zixX YL_law (zKw L xs) zQw zAw [1488]) zixX_ok kL_law_7 (List.all_eq_true.mp kL_law_7_ok) 654 _ _ _ _ _ ?_
  refine ⟨zrm 0 0 hr (by decide) (by decide), _, zX0, Fc, hg.1, e_faultPosition (k_faultPosition Fc Fm hb), fun r F1 g => ?_, fun E F1 g => g.elim⟩
  obtain ⟨v, rfl, g⟩ := g
  refine ⟨zrm 0 0 hr (by decide) (by decide), [.ref 0], _, _, Fm, (zag_c hg).2, rfl, g, fun q F2 g2 => ?_, fun E F2 g2 => g2.elim⟩
  obtain ⟨rfl, g3, g4⟩ := g2
  exact ⟨fun _ => hk _ _ _ _ _ _ (Nat.le_add_right _ _) (Nat.le_add_right _ _) ⟨_, _, g4, zag_m (zag_c hg)⟩, fun h0 => absurd rfl h0⟩
theorem cL_8 (L : Nat) (xs : Nat → Int32) : zCase L xs 667 := by
  intro x w6 w7 w8 kc ks F hF hr hi hk
  obtain ⟨Fc, Fm, hb, hg⟩ := hF
  refine zatX_ok (YL_law_ok L xs) (inv := zixX YL_law (zKw L xs) zQw zAw [1488]) zixX_ok kL_law_8 (List.all_eq_true.mp kL_law_8_ok) 667 _ _ _ _ _ ?_
  refine ⟨⟨rfl, hi.1⟩, ⟨rfl, hi.2.1⟩, zrm 1 6 hr (by decide) (by decide), _, _, Fc, hg.1, e_join (k_join _ _ Fc Fm hb), fun r F1 g => ?_, fun E F1 g => ?_⟩
  · obtain ⟨v, rfl, g⟩ := g
    refine ⟨v, rfl, ?_⟩
    refine ⟨⟨rfl, hi.1⟩, ⟨rfl, hi.2.1⟩, zrm 1 6 hr (by decide) (by decide), [.ref 0, .int _, .int _], _, _, Fm, (zag_l hg 0 v).2, rfl, g, fun q F2 g2 => ?_, fun E F2 g2 => g2.elim⟩
    obtain ⟨rfl, g3, g4⟩ := g2
    refine ⟨zrm 1 6 hr (by decide) (by decide), [.ref 0], fun q G => q = some (.int (F2 0 0)) ∧ G = F2, zX0, F2, (zag_m (zag_l hg 0 v)).2, rfl, ⟨rfl, rfl⟩, fun q G g5 => ?_, fun E G g5 => g5.elim⟩
    obtain ⟨rfl, rfl⟩ := g5
    refine ⟨fun _ => ⟨fun h0 => absurd rfl h0, fun _ => ?_⟩, fun h0 => absurd g3 h0⟩
    exact ⟨vp01, fun _ => hk _ _ _ _ _ _ (Nat.add_le_add_left (by decide : 1 ≤ 20) kc) (Nat.add_le_add_left (by decide : 6 ≤ 200) ks) ⟨_, _, g4, zag_m (zag_m (zag_l hg 0 v))⟩, fun h0 => absurd (zlg _) h0⟩
  · refine ⟨g.1, ?_⟩
    refine ⟨⟨rfl, hi.1⟩, ⟨rfl, hi.2.1⟩, zrm 1 6 hr (by decide) (by decide), [.ref 0, .int _, .int _], _, _, Fm, (zag_c hg).2, rfl, g.2, fun q F2 g2 => ?_, fun E F2 g2 => g2.elim⟩
    obtain ⟨⟨v, rfl⟩, ⟨g3, g4, -⟩, g6⟩ := g2
    refine ⟨zrm 1 6 hr (by decide) (by decide), [.ref 0], fun q G => q = some (.int (F2 0 0)) ∧ G = F2, zX0, F2, (zag_m (zag_c hg)).2, rfl, ⟨rfl, rfl⟩, fun q G g5 => ?_, fun E G g5 => g5.elim⟩
    obtain ⟨rfl, rfl⟩ := g5
    exact ⟨fun _ => ⟨fun _ => hk _ _ _ _ _ _ (Nat.add_le_add_left (by decide : 1 ≤ 20) kc) (Nat.add_le_add_left (by decide : 6 ≤ 200) ks) ⟨_, _, g6, zag_m (zag_m (zag_c hg))⟩, fun h0 => absurd h0 g4⟩, fun h0 => absurd g3 h0⟩
theorem cL_9 (L : Nat) (xs : Nat → Int32) : zCase L xs 735 := by
  intro x w6 w7 w8 kc ks F hF hr hi hk
  obtain ⟨Fc, Fm, hb, hg⟩ := hF
  refine zatX_ok (YL_law_ok L xs) (inv := zixX YL_law (zKw L xs) zQw zAw [1488]) zixX_ok kL_law_9 (List.all_eq_true.mp kL_law_9_ok) 735 _ _ _ _ _ ?_
  refine ⟨⟨rfl, hi.1⟩, zrm 1 6 hr (by decide) (by decide), _, _, Fc, hg.1, e_part (k_part _ Fc Fm hb), fun r F1 g => ?_, fun E F1 g => ?_⟩
  · obtain ⟨v, rfl, g⟩ := g
    refine ⟨v, rfl, ?_⟩
    refine ⟨⟨rfl, hi.1⟩, zrm 1 6 hr (by decide) (by decide), [.ref 0, .int _], _, _, Fm, (zag_l hg 0 v).2, rfl, g, fun q F2 g2 => ?_, fun E F2 g2 => g2.elim⟩
    obtain ⟨rfl, g3, g4⟩ := g2
    refine ⟨zrm 1 6 hr (by decide) (by decide), [.ref 0], fun q G => q = some (.int (F2 0 0)) ∧ G = F2, zX0, F2, (zag_m (zag_l hg 0 v)).2, rfl, ⟨rfl, rfl⟩, fun q G g5 => ?_, fun E G g5 => g5.elim⟩
    obtain ⟨rfl, rfl⟩ := g5
    refine ⟨fun _ => ⟨fun h0 => absurd rfl h0, fun _ => ?_⟩, fun h0 => absurd g3 h0⟩
    exact ⟨vp01, fun _ => hk _ _ _ _ _ _ (Nat.add_le_add_left (by decide : 1 ≤ 20) kc) (Nat.add_le_add_left (by decide : 6 ≤ 200) ks) ⟨_, _, g4, zag_m (zag_m (zag_l hg 0 v))⟩, fun h0 => absurd (zlg _) h0⟩
  · refine ⟨g.1, ?_⟩
    refine ⟨⟨rfl, hi.1⟩, zrm 1 6 hr (by decide) (by decide), [.ref 0, .int _], _, _, Fm, (zag_c hg).2, rfl, g.2, fun q F2 g2 => ?_, fun E F2 g2 => g2.elim⟩
    obtain ⟨⟨v, rfl⟩, ⟨g3, g4, -⟩, g6⟩ := g2
    refine ⟨zrm 1 6 hr (by decide) (by decide), [.ref 0], fun q G => q = some (.int (F2 0 0)) ∧ G = F2, zX0, F2, (zag_m (zag_c hg)).2, rfl, ⟨rfl, rfl⟩, fun q G g5 => ?_, fun E G g5 => g5.elim⟩
    obtain ⟨rfl, rfl⟩ := g5
    exact ⟨fun _ => ⟨fun _ => hk _ _ _ _ _ _ (Nat.add_le_add_left (by decide : 1 ≤ 20) kc) (Nat.add_le_add_left (by decide : 6 ≤ 200) ks) ⟨_, _, g6, zag_m (zag_m (zag_c hg))⟩, fun h0 => absurd h0 g4⟩, fun h0 => absurd g3 h0⟩
theorem cL_10 (L : Nat) (xs : Nat → Int32) : zCase L xs 791 := by
  intro x w6 w7 w8 kc ks F hF hr hi hk
  obtain ⟨Fc, Fm, hb, hg⟩ := hF
  refine zatX_ok (YL_law_ok L xs) (inv := zixX YL_law (zKw L xs) zQw zAw [1488]) zixX_ok kL_law_10 (List.all_eq_true.mp kL_law_10_ok) 791 _ _ _ _ _ ?_
  refine ⟨zrm 1 6 hr (by decide) (by decide), _, _, Fc, hg.1, e_refusal (k_refusal Fc Fm hb), fun r F1 g => ?_, fun E F1 g => ?_⟩
  · obtain ⟨v, rfl, g⟩ := g
    refine ⟨v, rfl, ?_⟩
    refine ⟨zrm 1 6 hr (by decide) (by decide), [.ref 0], _, _, Fm, (zag_l hg 0 v).2, rfl, g, fun q F2 g2 => ?_, fun E F2 g2 => g2.elim⟩
    obtain ⟨rfl, g3, g4⟩ := g2
    refine ⟨zrm 1 6 hr (by decide) (by decide), [.ref 0], fun q G => q = some (.int (F2 0 0)) ∧ G = F2, zX0, F2, (zag_m (zag_l hg 0 v)).2, rfl, ⟨rfl, rfl⟩, fun q G g5 => ?_, fun E G g5 => g5.elim⟩
    obtain ⟨rfl, rfl⟩ := g5
    refine ⟨fun _ => ⟨fun h0 => absurd rfl h0, fun _ => ?_⟩, fun h0 => absurd g3 h0⟩
    exact ⟨vp01, fun _ => hk _ _ _ _ _ _ (Nat.add_le_add_left (by decide : 1 ≤ 20) kc) (Nat.add_le_add_left (by decide : 6 ≤ 200) ks) ⟨_, _, g4, zag_m (zag_m (zag_l hg 0 v))⟩, fun h0 => absurd (zlg _) h0⟩
  · refine ⟨g.1, ?_⟩
    refine ⟨zrm 1 6 hr (by decide) (by decide), [.ref 0], _, _, Fm, (zag_c hg).2, rfl, g.2, fun q F2 g2 => ?_, fun E F2 g2 => g2.elim⟩
    obtain ⟨⟨v, rfl⟩, ⟨g3, g4, -⟩, g6⟩ := g2
    refine ⟨zrm 1 6 hr (by decide) (by decide), [.ref 0], fun q G => q = some (.int (F2 0 0)) ∧ G = F2, zX0, F2, (zag_m (zag_c hg)).2, rfl, ⟨rfl, rfl⟩, fun q G g5 => ?_, fun E G g5 => g5.elim⟩
    obtain ⟨rfl, rfl⟩ := g5
    exact ⟨fun _ => ⟨fun _ => hk _ _ _ _ _ _ (Nat.add_le_add_left (by decide : 1 ≤ 20) kc) (Nat.add_le_add_left (by decide : 6 ≤ 200) ks) ⟨_, _, g6, zag_m (zag_m (zag_c hg))⟩, fun h0 => absurd h0 g4⟩, fun h0 => absurd g3 h0⟩
theorem cL_11 (L : Nat) (xs : Nat → Int32) : zCase L xs 835 := by
  intro x w6 w7 w8 kc ks F hF hr hi hk
  obtain ⟨Fc, Fm, hb, hg⟩ := hF
  refine zatX_ok (YL_law_ok L xs) (inv := zixX YL_law (zKw L xs) zQw zAw [1488]) zixX_ok kL_law_11 (List.all_eq_true.mp kL_law_11_ok) 835 _ _ _ _ _ ?_
  refine ⟨⟨rfl, hi.1⟩, ⟨rfl, hi.2.1⟩, zrm 2 12 hr (by decide) (by decide), _, _, Fc, hg.1, e_ship (k_ship _ _ Fc Fm hb), fun r F1 g => ?_, fun E F1 g => ?_⟩
  · obtain ⟨v, rfl, g⟩ := g
    refine ⟨v, rfl, ?_⟩
    refine ⟨⟨rfl, hi.1⟩, ⟨rfl, hi.2.1⟩, zrm 2 12 hr (by decide) (by decide), [.ref 0, .int _, .int _], _, _, Fm, (zag_l hg 0 v).2, rfl, g, fun q F2 g2 => ?_, fun E F2 g2 => g2.elim⟩
    obtain ⟨rfl, g3, g4⟩ := g2
    refine ⟨zrm 2 12 hr (by decide) (by decide), [.ref 0], fun q G => q = some (.int (F2 0 0)) ∧ G = F2, zX0, F2, (zag_m (zag_l hg 0 v)).2, rfl, ⟨rfl, rfl⟩, fun q G g5 => ?_, fun E G g5 => g5.elim⟩
    obtain ⟨rfl, rfl⟩ := g5
    refine ⟨fun _ => ⟨fun h0 => absurd rfl h0, fun _ => ?_⟩, fun h0 => absurd g3 h0⟩
    exact ⟨vp01, fun _ => hk _ _ _ _ _ _ (Nat.add_le_add_left (by decide : 2 ≤ 20) kc) (Nat.add_le_add_left (by decide : 12 ≤ 200) ks) ⟨_, _, g4, zag_m (zag_m (zag_l hg 0 v))⟩, fun h0 => absurd (zlg _) h0⟩
  · refine ⟨g.1, ?_⟩
    refine ⟨⟨rfl, hi.1⟩, ⟨rfl, hi.2.1⟩, zrm 2 12 hr (by decide) (by decide), [.ref 0, .int _, .int _], _, _, Fm, (zag_c hg).2, rfl, g.2, fun q F2 g2 => ?_, fun E F2 g2 => g2.elim⟩
    obtain ⟨⟨v, rfl⟩, ⟨g3, g4, -⟩, g6⟩ := g2
    refine ⟨zrm 2 12 hr (by decide) (by decide), [.ref 0], fun q G => q = some (.int (F2 0 0)) ∧ G = F2, zX0, F2, (zag_m (zag_c hg)).2, rfl, ⟨rfl, rfl⟩, fun q G g5 => ?_, fun E G g5 => g5.elim⟩
    obtain ⟨rfl, rfl⟩ := g5
    exact ⟨fun _ => ⟨fun _ => hk _ _ _ _ _ _ (Nat.add_le_add_left (by decide : 2 ≤ 20) kc) (Nat.add_le_add_left (by decide : 12 ≤ 200) ks) ⟨_, _, g6, zag_m (zag_m (zag_c hg))⟩, fun h0 => absurd h0 g4⟩, fun h0 => absurd g3 h0⟩
theorem cL_12 (L : Nat) (xs : Nat → Int32) : zCase L xs 903 := by
  intro x w6 w7 w8 kc ks F hF hr hi hk
  obtain ⟨Fc, Fm, hb, hg⟩ := hF
  refine zatX_ok (YL_law_ok L xs) (inv := zixX YL_law (zKw L xs) zQw zAw [1488]) zixX_ok kL_law_12 (List.all_eq_true.mp kL_law_12_ok) 903 _ _ _ _ _ ?_
  refine ⟨⟨rfl, hi.1⟩, ⟨rfl, hi.2.1⟩, zrm 2 12 hr (by decide) (by decide), _, _, Fc, hg.1, e_convoy (k_convoy _ _ Fc Fm hb), fun r F1 g => ?_, fun E F1 g => ?_⟩
  · obtain ⟨v, rfl, g⟩ := g
    refine ⟨v, rfl, ?_⟩
    refine ⟨⟨rfl, hi.1⟩, ⟨rfl, hi.2.1⟩, zrm 2 12 hr (by decide) (by decide), [.ref 0, .int _, .int _], _, _, Fm, (zag_l hg 0 v).2, rfl, g, fun q F2 g2 => ?_, fun E F2 g2 => g2.elim⟩
    obtain ⟨rfl, g3, g4⟩ := g2
    refine ⟨zrm 2 12 hr (by decide) (by decide), [.ref 0], fun q G => q = some (.int (F2 0 0)) ∧ G = F2, zX0, F2, (zag_m (zag_l hg 0 v)).2, rfl, ⟨rfl, rfl⟩, fun q G g5 => ?_, fun E G g5 => g5.elim⟩
    obtain ⟨rfl, rfl⟩ := g5
    refine ⟨fun _ => ⟨fun h0 => absurd rfl h0, fun _ => ?_⟩, fun h0 => absurd g3 h0⟩
    exact ⟨vp01, fun _ => hk _ _ _ _ _ _ (Nat.add_le_add_left (by decide : 2 ≤ 20) kc) (Nat.add_le_add_left (by decide : 12 ≤ 200) ks) ⟨_, _, g4, zag_m (zag_m (zag_l hg 0 v))⟩, fun h0 => absurd (zlg _) h0⟩
  · refine ⟨g.1, ?_⟩
    refine ⟨⟨rfl, hi.1⟩, ⟨rfl, hi.2.1⟩, zrm 2 12 hr (by decide) (by decide), [.ref 0, .int _, .int _], _, _, Fm, (zag_c hg).2, rfl, g.2, fun q F2 g2 => ?_, fun E F2 g2 => g2.elim⟩
    obtain ⟨⟨v, rfl⟩, ⟨g3, g4, -⟩, g6⟩ := g2
    refine ⟨zrm 2 12 hr (by decide) (by decide), [.ref 0], fun q G => q = some (.int (F2 0 0)) ∧ G = F2, zX0, F2, (zag_m (zag_c hg)).2, rfl, ⟨rfl, rfl⟩, fun q G g5 => ?_, fun E G g5 => g5.elim⟩
    obtain ⟨rfl, rfl⟩ := g5
    exact ⟨fun _ => ⟨fun _ => hk _ _ _ _ _ _ (Nat.add_le_add_left (by decide : 2 ≤ 20) kc) (Nat.add_le_add_left (by decide : 12 ≤ 200) ks) ⟨_, _, g6, zag_m (zag_m (zag_c hg))⟩, fun h0 => absurd h0 g4⟩, fun h0 => absurd g3 h0⟩
theorem cL_13 (L : Nat) (xs : Nat → Int32) : zCase L xs 971 := by
  intro x w6 w7 w8 kc ks F hF hr hi hk
  obtain ⟨Fc, Fm, hb, hg⟩ := hF
  refine zatX_ok (YL_law_ok L xs) (inv := zixX YL_law (zKw L xs) zQw zAw [1488]) zixX_ok kL_law_13 (List.all_eq_true.mp kL_law_13_ok) 971 _ _ _ _ _ ?_
  refine ⟨⟨rfl, hi.1⟩, ⟨rfl, hi.2.1⟩, zrm 2 12 hr (by decide) (by decide), _, _, Fc, hg.1, e_waiting (k_waiting _ _ Fc Fm hb), fun r F1 g => ?_, fun E F1 g => ?_⟩
  · obtain ⟨v, rfl, g⟩ := g
    refine ⟨v, rfl, ?_⟩
    refine ⟨⟨rfl, hi.1⟩, ⟨rfl, hi.2.1⟩, zrm 2 12 hr (by decide) (by decide), [.ref 0, .int _, .int _], _, _, Fm, (zag_l hg 0 v).2, rfl, g, fun q F2 g2 => ?_, fun E F2 g2 => g2.elim⟩
    obtain ⟨rfl, g3, g4⟩ := g2
    refine ⟨zrm 2 12 hr (by decide) (by decide), [.ref 0], fun q G => q = some (.int (F2 0 0)) ∧ G = F2, zX0, F2, (zag_m (zag_l hg 0 v)).2, rfl, ⟨rfl, rfl⟩, fun q G g5 => ?_, fun E G g5 => g5.elim⟩
    obtain ⟨rfl, rfl⟩ := g5
    refine ⟨fun _ => ⟨fun h0 => absurd rfl h0, fun _ => ?_⟩, fun h0 => absurd g3 h0⟩
    exact ⟨vp01, fun _ => hk _ _ _ _ _ _ (Nat.add_le_add_left (by decide : 2 ≤ 20) kc) (Nat.add_le_add_left (by decide : 12 ≤ 200) ks) ⟨_, _, g4, zag_m (zag_m (zag_l hg 0 v))⟩, fun h0 => absurd (zlg _) h0⟩
  · refine ⟨g.1, ?_⟩
    refine ⟨⟨rfl, hi.1⟩, ⟨rfl, hi.2.1⟩, zrm 2 12 hr (by decide) (by decide), [.ref 0, .int _, .int _], _, _, Fm, (zag_c hg).2, rfl, g.2, fun q F2 g2 => ?_, fun E F2 g2 => g2.elim⟩
    obtain ⟨⟨v, rfl⟩, ⟨g3, g4, -⟩, g6⟩ := g2
    refine ⟨zrm 2 12 hr (by decide) (by decide), [.ref 0], fun q G => q = some (.int (F2 0 0)) ∧ G = F2, zX0, F2, (zag_m (zag_c hg)).2, rfl, ⟨rfl, rfl⟩, fun q G g5 => ?_, fun E G g5 => g5.elim⟩
    obtain ⟨rfl, rfl⟩ := g5
    exact ⟨fun _ => ⟨fun _ => hk _ _ _ _ _ _ (Nat.add_le_add_left (by decide : 2 ≤ 20) kc) (Nat.add_le_add_left (by decide : 12 ≤ 200) ks) ⟨_, _, g6, zag_m (zag_m (zag_c hg))⟩, fun h0 => absurd h0 g4⟩, fun h0 => absurd g3 h0⟩
theorem cL_14 (L : Nat) (xs : Nat → Int32) : zCase L xs 1039 := by
  intro x w6 w7 w8 kc ks F hF hr hi hk
  obtain ⟨Fc, Fm, hb, hg⟩ := hF
  refine zatX_ok (YL_law_ok L xs) (inv := zixX YL_law (zKw L xs) zQw zAw [1488]) zixX_ok kL_law_14 (List.all_eq_true.mp kL_law_14_ok) 1039 _ _ _ _ _ ?_
  refine ⟨⟨rfl, hi.1⟩, zrm 2 12 hr (by decide) (by decide), _, _, Fc, hg.1, e_priority (k_priority _ Fc Fm hb), fun r F1 g => ?_, fun E F1 g => ?_⟩
  · obtain ⟨v, rfl, g⟩ := g
    refine ⟨v, rfl, ?_⟩
    refine ⟨⟨rfl, hi.1⟩, zrm 2 12 hr (by decide) (by decide), [.ref 0, .int _], _, _, Fm, (zag_l hg 0 v).2, rfl, g, fun q F2 g2 => ?_, fun E F2 g2 => g2.elim⟩
    obtain ⟨rfl, g3, g4⟩ := g2
    refine ⟨zrm 2 12 hr (by decide) (by decide), [.ref 0], fun q G => q = some (.int (F2 0 0)) ∧ G = F2, zX0, F2, (zag_m (zag_l hg 0 v)).2, rfl, ⟨rfl, rfl⟩, fun q G g5 => ?_, fun E G g5 => g5.elim⟩
    obtain ⟨rfl, rfl⟩ := g5
    refine ⟨fun _ => ⟨fun h0 => absurd rfl h0, fun _ => ?_⟩, fun h0 => absurd g3 h0⟩
    exact ⟨vp01, fun _ => hk _ _ _ _ _ _ (Nat.add_le_add_left (by decide : 2 ≤ 20) kc) (Nat.add_le_add_left (by decide : 12 ≤ 200) ks) ⟨_, _, g4, zag_m (zag_m (zag_l hg 0 v))⟩, fun h0 => absurd (zlg _) h0⟩
  · refine ⟨g.1, ?_⟩
    refine ⟨⟨rfl, hi.1⟩, zrm 2 12 hr (by decide) (by decide), [.ref 0, .int _], _, _, Fm, (zag_c hg).2, rfl, g.2, fun q F2 g2 => ?_, fun E F2 g2 => g2.elim⟩
    obtain ⟨⟨v, rfl⟩, ⟨g3, g4, -⟩, g6⟩ := g2
    refine ⟨zrm 2 12 hr (by decide) (by decide), [.ref 0], fun q G => q = some (.int (F2 0 0)) ∧ G = F2, zX0, F2, (zag_m (zag_c hg)).2, rfl, ⟨rfl, rfl⟩, fun q G g5 => ?_, fun E G g5 => g5.elim⟩
    obtain ⟨rfl, rfl⟩ := g5
    exact ⟨fun _ => ⟨fun _ => hk _ _ _ _ _ _ (Nat.add_le_add_left (by decide : 2 ≤ 20) kc) (Nat.add_le_add_left (by decide : 12 ≤ 200) ks) ⟨_, _, g6, zag_m (zag_m (zag_c hg))⟩, fun h0 => absurd h0 g4⟩, fun h0 => absurd g3 h0⟩
theorem cL_15 (L : Nat) (xs : Nat → Int32) : zCase L xs 1095 := by
  intro x w6 w7 w8 kc ks F hF hr hi hk
  obtain ⟨Fc, Fm, hb, hg⟩ := hF
  refine zatX_ok (YL_law_ok L xs) (inv := zixX YL_law (zKw L xs) zQw zAw [1488]) zixX_ok kL_law_15 (List.all_eq_true.mp kL_law_15_ok) 1095 _ _ _ _ _ ?_
  refine ⟨⟨rfl, hi.1⟩, zrm 2 12 hr (by decide) (by decide), _, _, Fc, hg.1, e_hindrance (k_hindrance _ Fc Fm hb), fun r F1 g => ?_, fun E F1 g => ?_⟩
  · obtain ⟨v, rfl, g⟩ := g
    refine ⟨v, rfl, ?_⟩
    refine ⟨⟨rfl, hi.1⟩, zrm 2 12 hr (by decide) (by decide), [.ref 0, .int _], _, _, Fm, (zag_l hg 0 v).2, rfl, g, fun q F2 g2 => ?_, fun E F2 g2 => g2.elim⟩
    obtain ⟨rfl, g3, g4⟩ := g2
    refine ⟨zrm 2 12 hr (by decide) (by decide), [.ref 0], fun q G => q = some (.int (F2 0 0)) ∧ G = F2, zX0, F2, (zag_m (zag_l hg 0 v)).2, rfl, ⟨rfl, rfl⟩, fun q G g5 => ?_, fun E G g5 => g5.elim⟩
    obtain ⟨rfl, rfl⟩ := g5
    refine ⟨fun _ => ⟨fun h0 => absurd rfl h0, fun _ => ?_⟩, fun h0 => absurd g3 h0⟩
    exact ⟨vp01, fun _ => hk _ _ _ _ _ _ (Nat.add_le_add_left (by decide : 2 ≤ 20) kc) (Nat.add_le_add_left (by decide : 12 ≤ 200) ks) ⟨_, _, g4, zag_m (zag_m (zag_l hg 0 v))⟩, fun h0 => absurd (zlg _) h0⟩
  · refine ⟨g.1, ?_⟩
    refine ⟨⟨rfl, hi.1⟩, zrm 2 12 hr (by decide) (by decide), [.ref 0, .int _], _, _, Fm, (zag_c hg).2, rfl, g.2, fun q F2 g2 => ?_, fun E F2 g2 => g2.elim⟩
    obtain ⟨⟨v, rfl⟩, ⟨g3, g4, -⟩, g6⟩ := g2
    refine ⟨zrm 2 12 hr (by decide) (by decide), [.ref 0], fun q G => q = some (.int (F2 0 0)) ∧ G = F2, zX0, F2, (zag_m (zag_c hg)).2, rfl, ⟨rfl, rfl⟩, fun q G g5 => ?_, fun E G g5 => g5.elim⟩
    obtain ⟨rfl, rfl⟩ := g5
    exact ⟨fun _ => ⟨fun _ => hk _ _ _ _ _ _ (Nat.add_le_add_left (by decide : 2 ≤ 20) kc) (Nat.add_le_add_left (by decide : 12 ≤ 200) ks) ⟨_, _, g6, zag_m (zag_m (zag_c hg))⟩, fun h0 => absurd h0 g4⟩, fun h0 => absurd g3 h0⟩
theorem cL_16 (L : Nat) (xs : Nat → Int32) : zCase L xs 1151 := by
  intro x w6 w7 w8 kc ks F hF hr hi hk
  obtain ⟨Fc, Fm, hb, hg⟩ := hF
  refine zatX_ok (YL_law_ok L xs) (inv := zixX YL_law (zKw L xs) zQw zAw [1488]) zixX_ok kL_law_16 (List.all_eq_true.mp kL_law_16_ok) 1151 _ _ _ _ _ ?_
  refine ⟨⟨rfl, hi.1⟩, zrm 2 12 hr (by decide) (by decide), _, _, Fc, hg.1, e_pass (k_pass _ Fc Fm hb), fun r F1 g => ?_, fun E F1 g => ?_⟩
  · obtain ⟨v, rfl, g⟩ := g
    refine ⟨v, rfl, ?_⟩
    refine ⟨⟨rfl, hi.1⟩, zrm 2 12 hr (by decide) (by decide), [.ref 0, .int _], _, _, Fm, (zag_l hg 0 v).2, rfl, g, fun q F2 g2 => ?_, fun E F2 g2 => g2.elim⟩
    obtain ⟨rfl, g3, g4⟩ := g2
    refine ⟨zrm 2 12 hr (by decide) (by decide), [.ref 0], fun q G => q = some (.int (F2 0 0)) ∧ G = F2, zX0, F2, (zag_m (zag_l hg 0 v)).2, rfl, ⟨rfl, rfl⟩, fun q G g5 => ?_, fun E G g5 => g5.elim⟩
    obtain ⟨rfl, rfl⟩ := g5
    refine ⟨fun _ => ⟨fun h0 => absurd rfl h0, fun _ => ?_⟩, fun h0 => absurd g3 h0⟩
    exact ⟨vp01, fun _ => hk _ _ _ _ _ _ (Nat.add_le_add_left (by decide : 2 ≤ 20) kc) (Nat.add_le_add_left (by decide : 12 ≤ 200) ks) ⟨_, _, g4, zag_m (zag_m (zag_l hg 0 v))⟩, fun h0 => absurd (zlg _) h0⟩
  · refine ⟨g.1, ?_⟩
    refine ⟨⟨rfl, hi.1⟩, zrm 2 12 hr (by decide) (by decide), [.ref 0, .int _], _, _, Fm, (zag_c hg).2, rfl, g.2, fun q F2 g2 => ?_, fun E F2 g2 => g2.elim⟩
    obtain ⟨⟨v, rfl⟩, ⟨g3, g4, -⟩, g6⟩ := g2
    refine ⟨zrm 2 12 hr (by decide) (by decide), [.ref 0], fun q G => q = some (.int (F2 0 0)) ∧ G = F2, zX0, F2, (zag_m (zag_c hg)).2, rfl, ⟨rfl, rfl⟩, fun q G g5 => ?_, fun E G g5 => g5.elim⟩
    obtain ⟨rfl, rfl⟩ := g5
    exact ⟨fun _ => ⟨fun _ => hk _ _ _ _ _ _ (Nat.add_le_add_left (by decide : 2 ≤ 20) kc) (Nat.add_le_add_left (by decide : 12 ≤ 200) ks) ⟨_, _, g6, zag_m (zag_m (zag_c hg))⟩, fun h0 => absurd h0 g4⟩, fun h0 => absurd g3 h0⟩
theorem cL_17 (L : Nat) (xs : Nat → Int32) : zCase L xs 1207 := by
  intro x w6 w7 w8 kc ks F hF hr hi hk
  obtain ⟨Fc, Fm, hb, hg⟩ := hF
  refine zatX_ok (YL_law_ok L xs) (inv := zixX YL_law (zKw L xs) zQw zAw [1488]) zixX_ok kL_law_17 (List.all_eq_true.mp kL_law_17_ok) 1207 _ _ _ _ _ ?_
  refine ⟨zrm 0 0 hr (by decide) (by decide), _, zX0, Fc, hg.1, e_tick (k_tick Fc Fm hb), fun r F1 g => ?_, fun E F1 g => g.elim⟩
  obtain ⟨v, rfl, g⟩ := g
  refine ⟨zrm 0 0 hr (by decide) (by decide), [.ref 0], _, _, Fm, (zag_c hg).2, rfl, g, fun q F2 g2 => ?_, fun E F2 g2 => g2.elim⟩
  obtain ⟨rfl, g3, g4⟩ := g2
  exact ⟨fun _ => hk _ _ _ _ _ _ (Nat.le_add_right _ _) (Nat.le_add_right _ _) ⟨_, _, g4, zag_m (zag_c hg)⟩, fun h0 => absurd rfl h0⟩
theorem cL_18 (L : Nat) (xs : Nat → Int32) : zCase L xs 1220 := by
  intro x w6 w7 w8 kc ks F hF hr hi hk
  obtain ⟨Fc, Fm, hb, hg⟩ := hF
  refine zatX_ok (YL_law_ok L xs) (inv := zixX YL_law (zKw L xs) zQw zAw [1488]) zixX_ok kL_law_18 (List.all_eq_true.mp kL_law_18_ok) 1220 _ _ _ _ _ ?_
  refine ⟨⟨rfl, hi.1⟩, ⟨rfl, hi.2.1⟩, zrm 4 24 hr (by decide) (by decide), _, _, Fc, hg.1, e_untilLeft (k_untilLeft _ _ Fc Fm hb), fun r F1 g => ?_, fun E F1 g => ?_⟩
  · obtain ⟨v, rfl, g⟩ := g
    refine ⟨v, rfl, ?_⟩
    refine ⟨⟨rfl, hi.1⟩, ⟨rfl, hi.2.1⟩, zrm 4 24 hr (by decide) (by decide), [.ref 0, .int _, .int _], _, _, Fm, (zag_l hg 0 v).2, rfl, g, fun q F2 g2 => ?_, fun E F2 g2 => g2.elim⟩
    obtain ⟨rfl, g3, g4⟩ := g2
    refine ⟨zrm 4 24 hr (by decide) (by decide), [.ref 0], fun q G => q = some (.int (F2 0 0)) ∧ G = F2, zX0, F2, (zag_m (zag_l hg 0 v)).2, rfl, ⟨rfl, rfl⟩, fun q G g5 => ?_, fun E G g5 => g5.elim⟩
    obtain ⟨rfl, rfl⟩ := g5
    refine ⟨fun _ => ⟨fun h0 => absurd rfl h0, fun _ => ?_⟩, fun h0 => absurd g3 h0⟩
    exact ⟨vp01, fun _ => hk _ _ _ _ _ _ (Nat.add_le_add_left (by decide : 4 ≤ 20) kc) (Nat.add_le_add_left (by decide : 24 ≤ 200) ks) ⟨_, _, g4, zag_m (zag_m (zag_l hg 0 v))⟩, fun h0 => absurd (zlg _) h0⟩
  · refine ⟨g.1, ?_⟩
    refine ⟨⟨rfl, hi.1⟩, ⟨rfl, hi.2.1⟩, zrm 4 24 hr (by decide) (by decide), [.ref 0, .int _, .int _], _, _, Fm, (zag_c hg).2, rfl, g.2, fun q F2 g2 => ?_, fun E F2 g2 => g2.elim⟩
    obtain ⟨⟨v, rfl⟩, ⟨g3, g4, -⟩, g6⟩ := g2
    refine ⟨zrm 4 24 hr (by decide) (by decide), [.ref 0], fun q G => q = some (.int (F2 0 0)) ∧ G = F2, zX0, F2, (zag_m (zag_c hg)).2, rfl, ⟨rfl, rfl⟩, fun q G g5 => ?_, fun E G g5 => g5.elim⟩
    obtain ⟨rfl, rfl⟩ := g5
    exact ⟨fun _ => ⟨fun _ => hk _ _ _ _ _ _ (Nat.add_le_add_left (by decide : 4 ≤ 20) kc) (Nat.add_le_add_left (by decide : 24 ≤ 200) ks) ⟨_, _, g6, zag_m (zag_m (zag_c hg))⟩, fun h0 => absurd h0 g4⟩, fun h0 => absurd g3 h0⟩
theorem cL_19 (L : Nat) (xs : Nat → Int32) : zCase L xs 1288 := by
  intro x w6 w7 w8 kc ks F hF hr hi hk
  obtain ⟨Fc, Fm, hb, hg⟩ := hF
  refine zatX_ok (YL_law_ok L xs) (inv := zixX YL_law (zKw L xs) zQw zAw [1488]) zixX_ok kL_law_19 (List.all_eq_true.mp kL_law_19_ok) 1288 _ _ _ _ _ ?_
  refine ⟨⟨rfl, hi.1⟩, zrm 1 6 hr (by decide) (by decide), _, _, Fc, hg.1, e_account (k_account _ Fc Fm hb), fun r F1 g => ?_, fun E F1 g => ?_⟩
  · obtain ⟨v, rfl, g⟩ := g
    refine ⟨v, rfl, ?_⟩
    refine ⟨⟨rfl, hi.1⟩, zrm 1 6 hr (by decide) (by decide), [.ref 0, .int _], _, _, Fm, (zag_l hg 0 v).2, rfl, g, fun q F2 g2 => ?_, fun E F2 g2 => g2.elim⟩
    obtain ⟨rfl, g3, g4⟩ := g2
    refine ⟨zrm 1 6 hr (by decide) (by decide), [.ref 0], fun q G => q = some (.int (F2 0 0)) ∧ G = F2, zX0, F2, (zag_m (zag_l hg 0 v)).2, rfl, ⟨rfl, rfl⟩, fun q G g5 => ?_, fun E G g5 => g5.elim⟩
    obtain ⟨rfl, rfl⟩ := g5
    refine ⟨fun _ => ⟨fun h0 => absurd rfl h0, fun _ => ?_⟩, fun h0 => absurd g3 h0⟩
    exact ⟨vp01, fun _ => hk _ _ _ _ _ _ (Nat.add_le_add_left (by decide : 1 ≤ 20) kc) (Nat.add_le_add_left (by decide : 6 ≤ 200) ks) ⟨_, _, g4, zag_m (zag_m (zag_l hg 0 v))⟩, fun h0 => absurd (zlg _) h0⟩
  · refine ⟨g.1, ?_⟩
    refine ⟨⟨rfl, hi.1⟩, zrm 1 6 hr (by decide) (by decide), [.ref 0, .int _], _, _, Fm, (zag_c hg).2, rfl, g.2, fun q F2 g2 => ?_, fun E F2 g2 => g2.elim⟩
    obtain ⟨⟨v, rfl⟩, ⟨g3, g4, -⟩, g6⟩ := g2
    refine ⟨zrm 1 6 hr (by decide) (by decide), [.ref 0], fun q G => q = some (.int (F2 0 0)) ∧ G = F2, zX0, F2, (zag_m (zag_c hg)).2, rfl, ⟨rfl, rfl⟩, fun q G g5 => ?_, fun E G g5 => g5.elim⟩
    obtain ⟨rfl, rfl⟩ := g5
    exact ⟨fun _ => ⟨fun _ => hk _ _ _ _ _ _ (Nat.add_le_add_left (by decide : 1 ≤ 20) kc) (Nat.add_le_add_left (by decide : 6 ≤ 200) ks) ⟨_, _, g6, zag_m (zag_m (zag_c hg))⟩, fun h0 => absurd h0 g4⟩, fun h0 => absurd g3 h0⟩
theorem cL_21 (L : Nat) (xs : Nat → Int32) : zCase L xs 1409 := by
  intro x w6 w7 w8 kc ks F hF hr hi hk
  obtain ⟨Fc, Fm, hb, hg⟩ := hF
  refine zatX_ok (YL_law_ok L xs) (inv := zixX YL_law (zKw L xs) zQw zAw [1488]) zixX_ok kL_law_21 (List.all_eq_true.mp kL_law_21_ok) 1409 _ _ _ _ _ ?_
  refine ⟨zrm 1 6 hr (by decide) (by decide), _, _, Fc, hg.1, e_undo (k_undo Fc Fm hb), fun r F1 g => ?_, fun E F1 g => ?_⟩
  · obtain ⟨v, rfl, g⟩ := g
    refine ⟨v, rfl, ?_⟩
    refine ⟨zrm 1 6 hr (by decide) (by decide), [.ref 0], _, _, Fm, (zag_l hg 0 v).2, rfl, g, fun q F2 g2 => ?_, fun E F2 g2 => g2.elim⟩
    obtain ⟨rfl, g3, g4⟩ := g2
    refine ⟨zrm 1 6 hr (by decide) (by decide), [.ref 0], fun q G => q = some (.int (F2 0 0)) ∧ G = F2, zX0, F2, (zag_m (zag_l hg 0 v)).2, rfl, ⟨rfl, rfl⟩, fun q G g5 => ?_, fun E G g5 => g5.elim⟩
    obtain ⟨rfl, rfl⟩ := g5
    refine ⟨fun _ => ⟨fun h0 => absurd rfl h0, fun _ => ?_⟩, fun h0 => absurd g3 h0⟩
    exact ⟨vp01, fun _ => hk _ _ _ _ _ _ (Nat.add_le_add_left (by decide : 1 ≤ 20) kc) (Nat.add_le_add_left (by decide : 6 ≤ 200) ks) ⟨_, _, g4, zag_m (zag_m (zag_l hg 0 v))⟩, fun h0 => absurd (zlg _) h0⟩
  · refine ⟨g.1, ?_⟩
    refine ⟨zrm 1 6 hr (by decide) (by decide), [.ref 0], _, _, Fm, (zag_c hg).2, rfl, g.2, fun q F2 g2 => ?_, fun E F2 g2 => g2.elim⟩
    obtain ⟨⟨v, rfl⟩, ⟨g3, g4, -⟩, g6⟩ := g2
    refine ⟨zrm 1 6 hr (by decide) (by decide), [.ref 0], fun q G => q = some (.int (F2 0 0)) ∧ G = F2, zX0, F2, (zag_m (zag_c hg)).2, rfl, ⟨rfl, rfl⟩, fun q G g5 => ?_, fun E G g5 => g5.elim⟩
    obtain ⟨rfl, rfl⟩ := g5
    exact ⟨fun _ => ⟨fun _ => hk _ _ _ _ _ _ (Nat.add_le_add_left (by decide : 1 ≤ 20) kc) (Nat.add_le_add_left (by decide : 6 ≤ 200) ks) ⟨_, _, g6, zag_m (zag_m (zag_c hg))⟩, fun h0 => absurd h0 g4⟩, fun h0 => absurd g3 h0⟩
theorem cL_22 (L : Nat) (xs : Nat → Int32) : zCase L xs 1453 := by
  intro x w6 w7 w8 kc ks F hF hr hi hk
  obtain ⟨Fc, Fm, hb, hg⟩ := hF
  refine zatX_ok (YL_law_ok L xs) (inv := zixX YL_law (zKw L xs) zQw zAw [1488]) zixX_ok kL_law_22 (List.all_eq_true.mp kL_law_22_ok) 1453 _ _ _ _ _ ?_
  refine ⟨zrm 0 0 hr (by decide) (by decide), _, zX0, Fc, hg.1, e_save (k_save Fc Fm hb), fun r F1 g => ?_, fun E F1 g => g.elim⟩
  obtain ⟨rfl, g⟩ := g
  refine ⟨zrm 0 0 hr (by decide) (by decide), [.ref 0], _, _, Fm, (zag_c hg).2, rfl, g, fun q F2 g2 => ?_, fun E F2 g2 => g2.elim⟩
  obtain ⟨rfl, g3, g4⟩ := g2
  exact hk _ _ _ _ _ _ (Nat.le_add_right _ _) (Nat.le_add_right _ _) ⟨_, _, g4, zag_m (zag_c hg)⟩
theorem cL_23 (L : Nat) (xs : Nat → Int32) : zCase L xs 1464 := by
  intro x w6 w7 w8 kc ks F hF hr hi hk
  obtain ⟨Fc, Fm, hb, hg⟩ := hF
  refine zatX_ok (YL_law_ok L xs) (inv := zixX YL_law (zKw L xs) zQw zAw [1488]) zixX_ok kL_law_23 (List.all_eq_true.mp kL_law_23_ok) 1464 _ _ _ _ _ ?_
  refine ⟨zrm 1 6 hr (by decide) (by decide), _, _, Fc, hg.1, e_restore (k_restore Fc Fm hb), fun r F1 g => ?_, fun E F1 g => ?_⟩
  · obtain ⟨rfl, g⟩ := g
    refine ⟨rfl, ?_⟩
    refine ⟨zrm 1 6 hr (by decide) (by decide), [.ref 0], _, _, Fm, (zag_c hg).2, rfl, g, fun q F2 g2 => ?_, fun E F2 g2 => g2.elim⟩
    obtain ⟨rfl, g3, g4⟩ := g2
    refine ⟨zrm 1 6 hr (by decide) (by decide), [.ref 0], fun q G => q = some (.int (F2 0 0)) ∧ G = F2, zX0, F2, (zag_m (zag_c hg)).2, rfl, ⟨rfl, rfl⟩, fun q G g5 => ?_, fun E G g5 => g5.elim⟩
    obtain ⟨rfl, rfl⟩ := g5
    exact ⟨fun _ => hk _ _ _ _ _ _ (Nat.add_le_add_left (by decide : 1 ≤ 20) kc) (Nat.add_le_add_left (by decide : 6 ≤ 200) ks) ⟨_, _, g4, zag_m (zag_m (zag_c hg))⟩, fun h0 => absurd g3 h0⟩
  · refine ⟨g.1, ?_⟩
    refine ⟨zrm 1 6 hr (by decide) (by decide), [.ref 0], _, _, Fm, (zag_c hg).2, rfl, g.2, fun q F2 g2 => ?_, fun E F2 g2 => g2.elim⟩
    obtain ⟨rfl, ⟨g3, g4, -⟩, g6⟩ := g2
    refine ⟨zrm 1 6 hr (by decide) (by decide), [.ref 0], fun q G => q = some (.int (F2 0 0)) ∧ G = F2, zX0, F2, (zag_m (zag_c hg)).2, rfl, ⟨rfl, rfl⟩, fun q G g5 => ?_, fun E G g5 => g5.elim⟩
    obtain ⟨rfl, rfl⟩ := g5
    exact ⟨fun _ => hk _ _ _ _ _ _ (Nat.add_le_add_left (by decide : 1 ≤ 20) kc) (Nat.add_le_add_left (by decide : 6 ≤ 200) ks) ⟨_, _, g6, zag_m (zag_m (zag_c hg))⟩, fun h0 => absurd g3 h0⟩
end ZFi

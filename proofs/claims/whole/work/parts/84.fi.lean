/-! the law's cases -/
section ZFi
set_option maxRecDepth 40000
theorem cL_1 (L : Nat) (xs : Nat → Int32) : zCase L xs 260 := by
  intro x w6 w7 w8 kc ks F hF hr hi hk
  obtain ⟨Fc, Fm, hb, hg⟩ := hF
  refine zatX_ok (YL_law_ok L xs) (inv := zixX YL_law (zKw L xs) zQw zAw [1488]) zixX_ok kL_law_1 (List.all_eq_true.mp kL_law_1_ok) 260 _ _ _ _ _ ?_
  refine ⟨⟨rfl, hi.1⟩, ⟨rfl, hi.2.1⟩, zrm 2 12 hr (by decide) (by decide), _, _, Fc, hg.1, e_set (k_set _ _ Fc Fm hb), fun r F1 g => ?_, fun E F1 g => ?_⟩
  · obtain ⟨v, rfl, g⟩ := g
    refine ⟨v, rfl, ?_⟩
    refine ⟨⟨rfl, hi.1⟩, ⟨rfl, hi.2.1⟩, zrm 2 12 hr (by decide) (by decide), [.ref 0, .int _, .int _], _, _, Fm, (zag_l hg 0 v).2, rfl, g, fun q F2 g2 => ?_, fun E F2 g2 => g2.elim⟩
    obtain ⟨rfl, g3, g4⟩ := g2
    refine ⟨zrm 2 12 hr (by decide) (by decide), [.ref 0], fun q G => q = some (.int (F2 0 0)) ∧ G = F2, zX0, F2, (zag_m (zag_l hg 0 v)).2, rfl, ⟨rfl, rfl⟩, fun q G g5 => ?_, fun E G g5 => g5.elim⟩
    obtain ⟨rfl, rfl⟩ := g5
    refine ⟨fun _ => ⟨fun h0 => absurd rfl h0, fun _ => ?_⟩, fun h0 => absurd g3 h0⟩
    exact ⟨vp01, fun _ => hk _ _ _ _ _ _ (Nat.add_le_add_left (by decide : 2 ≤ 20) kc) (Nat.add_le_add_left (by decide : 12 ≤ 200) ks) ⟨_, _, g4, zag_m (zag_m (zag_l hg 0 v))⟩, fun h0 => absurd (zlg _) h0⟩
  · refine ⟨g.1, ?_⟩
    refine ⟨⟨rfl, hi.1⟩, ⟨rfl, hi.2.1⟩, zrm 2 12 hr (by decide) (by decide), [.ref 0, .int _, .int _], _, _, Fm, (zag_c hg).2, rfl, g.2, fun q F2 g2 => ?_, fun E F2 g2 => g2.elim⟩
    obtain ⟨⟨v, rfl⟩, ⟨g3, g4, -⟩, g6⟩ := g2
    refine ⟨zrm 2 12 hr (by decide) (by decide), [.ref 0], fun q G => q = some (.int (F2 0 0)) ∧ G = F2, zX0, F2, (zag_m (zag_c hg)).2, rfl, ⟨rfl, rfl⟩, fun q G g5 => ?_, fun E G g5 => g5.elim⟩
    obtain ⟨rfl, rfl⟩ := g5
    exact ⟨fun _ => ⟨fun _ => hk _ _ _ _ _ _ (Nat.add_le_add_left (by decide : 2 ≤ 20) kc) (Nat.add_le_add_left (by decide : 12 ≤ 200) ks) ⟨_, _, g6, zag_m (zag_m (zag_c hg))⟩, fun h0 => absurd h0 g4⟩, fun h0 => absurd g3 h0⟩
end ZFi

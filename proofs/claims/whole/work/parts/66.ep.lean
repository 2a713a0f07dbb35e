/-! THE PURE PART: the calls priority, convoy, ship, reach -/
section ZEp
set_option maxRecDepth 20000
theorem mT_1 (F : zF) : mT F 1 = F 1 := zup_ne _ _ _ (by decide)
theorem mT_00 (F : zF) : mT F 0 0 = 0 := zup_at _ _ _ _
theorem k_priority (s : Int32) : eCall sX8_priority sX9_priority [.ref 495, .int s] [.ref 0, .int s] [xI, xS] := by
  intro Fc Fm h
  dsimp only [sX8_priority, sX9_priority]
  obtain ⟨n, m, tk, cv, hC⟩ := h.1
  have hC0 := hC
  obtain ⟨hS, h2, h3, h6, h7⟩ := hC
  obtain ⟨⟨hn, hm, hnm, ht⟩, ⟨s0, s1, s2, s3, s4, s5⟩, -, ⟨p, hp1, hp2, hp⟩, -, -⟩ := hS
  have hq : (0 ≤ s ∧ s ≤ Fm 1 2 - 1) ↔ (0 ≤ s ∧ s < Fc 25 9) := by rw [s2, s4]; exact eShp hn
  by_cases c1 : 0 ≤ s ∧ s < Fc 25 9
  · have c1' := hq.mpr c1
    have c1b := c1
    rw [s4] at c1b
    obtain ⟨i, hi, rfl⟩ := eI16 hn c1b
    obtain ⟨a, ha, a1, a2, a3, a4, a5, a6, a7⟩ := eCv_of hn h7 hi
    have vi := eSh_v h6 hn hm hi
    have hl : qWa Fc (nI i) = -1 ↔ mOf Fm i 4 < 0 := by
      rw [vi.2.2.2.2.2.2.2.1]
      exact (eLeft h6 hm hi).1
    refine ⟨fun _ => ⟨fun c2 => ?_, fun c2 => ?_⟩, fun q => absurd c1 q⟩
    · have c3 : ¬ mOf Fm i 4 < 0 := fun q => c2 (hl.mpr q)
      have h35 : ¬ Fc 35 a = -1 := by
        rw [← a6, ← vi.2.2.2.2.2.2.2.1]
        exact c2
      rcases (eLeft h6 hm ha).2 with ⟨q, -⟩ | ⟨k, k1, k2⟩
      · exact absurd q h35
      · obtain ⟨-, -, -, -, g5, x, g6, g7, g8⟩ := eAt h6 hm ha k2 (by omega)
        obtain ⟨v, v1, v2, v3⟩ := ePr hC0 ha a5 g7 g8 g6 g5
        refine ⟨_, rfl, fun _ => ⟨i, rfl, by omega, fun q => absurd q c3, fun _ => ⟨a, n, a3, by omega, hn, s2, by rw [hp]; exact nI_ne0 (by omega) (by omega), ?_, mT_00 _, eBoth_t h 0⟩⟩, fun q => absurd c1' q⟩
        rw [a2, v2, mPr_c (mT_1 Fm), v3]
    · exact ⟨fun _ => ⟨i, rfl, by omega, fun _ => eRs h 2 _ _ (by simp) (by decide) (by decide), fun q => absurd (hl.mp (Classical.not_not.mp c2)) q⟩, fun q => absurd c1' q⟩
  · exact ⟨fun q => absurd q c1, fun _ => ⟨fun q => absurd (hq.mp q) c1, fun _ => eRs h 1 _ _ (by simp) (by decide) (by decide)⟩⟩
theorem k_convoy (s x : Int32) : eCall sX8_convoy sX9_convoy [.ref 495, .int s, .int x] [.ref 0, .int s, .int x] [xI, xE] := by
  intro Fc Fm h
  dsimp only [sX8_convoy, sX9_convoy]
  obtain ⟨n, m, tk, cv, hC⟩ := h.1
  obtain ⟨hS, h2, h3, h6, h7⟩ := hC
  obtain ⟨⟨hn, hm, hnm, ht⟩, ⟨s0, s1, s2, s3, s4, s5⟩, -⟩ := hS
  have hq : (0 ≤ s ∧ s ≤ Fm 1 2 - 1) ↔ (0 ≤ s ∧ s < Fc 25 9) := by rw [s2, s4]; exact eShp hn
  by_cases c1 : 0 ≤ s ∧ s < Fc 25 9
  · have c1' := hq.mpr c1
    have c1b := c1
    rw [s4] at c1b
    obtain ⟨i, hi, rfl⟩ := eI16 hn c1b
    obtain ⟨a, ha, a1, a2, a3, a4, a5, a6, a7⟩ := eCv_of hn h7 hi
    have hlen := eCv_len hn h7 ha
    have eT : mSz (mT Fm) (mOf Fm i 6) n = (cv a).length := (mSz_c (mT_1 Fm) _ _).trans (eSIC hn h7 hi ha a1).2
    have hx : (0 ≤ x ∧ x ≤ nI (cv a).length - 1) ↔ (0 ≤ x ∧ x < nI (cv a).length) := eShp hlen
    by_cases c2 : 0 ≤ x ∧ x ≤ nI (cv a).length - 1
    · obtain ⟨p, hp, rfl⟩ := eI16 hlen (hx.mp c2)
      obtain ⟨y, hy⟩ : ∃ y, (cv a)[p]? = some y := ⟨_, List.getElem?_eq_getElem hp⟩
      have hv : qSOC Fc (nI i) (nI p) = nI y := by rw [eSOC hn h7 ha a5 a2 (by omega), eHd_drop, hy]
      obtain ⟨y1, y2, y3, y4⟩ := mCv_ship (eCv_m hn h7 ha) hn hy
      have hne : ¬ qSOC Fc (nI i) (nI p) = -1 := by rw [hv]; exact nI_nm (by omega)
      refine ⟨fun _ => ⟨fun _ => ⟨_, rfl, fun _ => ⟨i, n, rfl, by omega, hn, s2, fun _ => ⟨y, y1, by rw [a3]; exact y2, y3, by rw [a3]; exact y4, by rw [hv], mT_00 _, eBoth_t h 0⟩, fun q => absurd (by rw [eT]; exact c2) q⟩, fun q => absurd c1' q⟩, fun q => absurd hne q⟩, fun q => absurd c1 q⟩
    · have hv : qSOC Fc (nI i) x = -1 := eSOCn hn h7 ha a5 a2 c2
      refine ⟨fun _ => ⟨fun q => absurd hv q, fun _ => ⟨fun _ => ⟨i, n, rfl, by omega, hn, s2, fun q => absurd (by rw [eT] at q; exact q) c2, fun _ => eRs h 2 _ _ (by simp) (by decide) (by decide)⟩, fun q => absurd c1' q⟩⟩, fun q => absurd c1 q⟩
  · exact ⟨fun q => absurd q c1, fun _ => ⟨fun q => absurd (hq.mp q) c1, fun _ => eRs h 1 _ _ (by simp) (by decide) (by decide)⟩⟩
theorem k_ship (s w : Int32) : eCall sX8_ship sX9_ship [.ref 495, .int s, .int w] [.ref 0, .int s, .int w] [xI, xA] := by
  intro Fc Fm h
  dsimp only [sX8_ship, sX9_ship]
  obtain ⟨n, m, tk, cv, hC⟩ := h.1
  obtain ⟨hS, h2, h3, h6, h7⟩ := hC
  obtain ⟨⟨hn, hm, hnm, ht⟩, ⟨s0, s1, s2, s3, s4, s5⟩, ⟨p4, p5, p6, p7, p8, p9, p10, p11⟩, -⟩ := hS
  have hq : (0 ≤ s ∧ s ≤ Fm 1 2 - 1) ↔ (0 ≤ s ∧ s < Fc 25 9) := by rw [s2, s4]; exact eShp hn
  by_cases c1 : 0 ≤ s ∧ s < Fc 25 9
  · have c1' := hq.mpr c1
    have c1b := c1
    rw [s4] at c1b
    obtain ⟨i, hi, rfl⟩ := eI16 hn c1b
    obtain ⟨a, ha, a1, a2, a3, a4, a5, a6, a7⟩ := eCv_of hn h7 hi
    have g := eSIC hn h7 hi ha a1
    have eT : mSz (mT Fm) (mOf Fm i 6) n = (cv a).length := (mSz_c (mT_1 Fm) _ _).trans g.2
    obtain ⟨v0, v1, v2, v3, v8, v5, v4, v35, v37⟩ := eSh_v h6 hn hm hi
    have hl : qWa Fc (nI i) = -1 ↔ mOf Fm i 4 < 0 := by
      rw [v35]
      exact (eLeft h6 hm hi).1
    have e6 : (if qWa Fc (nI i) = -1 then 0 else qWt Fc (nI i)) = mWd Fm i := by
      unfold mWd
      by_cases c3 : mOf Fm i 4 < 0
      · rw [if_pos c3, if_pos (hl.mpr c3)]
      · rw [if_neg c3, if_neg (fun q => c3 (hl.mp q))]
        rcases (eLeft h6 hm hi).2 with ⟨q, -⟩ | ⟨k, k1, k2⟩
        · exact absurd (hl.mp (v35.trans q)) c3
        · obtain ⟨-, -, -, -, -, x, -, g7, g8⟩ := eAt h6 hm hi k2 (by omega)
          unfold qWt
          rw [v37, g7, g8, p7]
    have fin : ∀ {v v' : Int32}, v = v' → some (Value.int v) = some (Value.int v') ∧ mT Fm 0 0 = 0 ∧ eBoth Fc (mT Fm) := fun e => ⟨by rw [e], mT_00 _, eBoth_t h 0⟩
    by_cases c2 : 0 ≤ w ∧ w ≤ 9
    · refine ⟨fun _ => ⟨fun _ => ⟨_, rfl, fun _ => ⟨i, n, rfl, by omega, hn, s2, fun q => ?_, fun q => ?_, fun q => ?_, fun q => ?_, fun q => ?_, fun j hj q => ?_, fun q => absurd c2 q⟩, fun q => absurd c1' q⟩, fun q => absurd c2 q⟩, fun q => absurd c1 q⟩
      · subst q
        refine fin ?_
        unfold aShip
        rw [if_neg (by decide), if_neg (by decide), if_neg (by decide), if_neg (by decide), if_neg (by decide), if_pos rfl, v5]
      · subst q
        refine fin ?_
        unfold aShip
        rw [if_neg (by decide), if_neg (by decide), if_neg (by decide), if_neg (by decide), if_neg (by decide), if_neg (by decide), if_pos rfl, e6]
      · subst q
        refine fin ?_
        unfold aShip
        rw [if_neg (by decide), if_neg (by decide), if_neg (by decide), if_neg (by decide), if_neg (by decide), if_neg (by decide), if_neg (by decide), if_pos rfl, a2, a3]
      · subst q
        refine fin ?_
        unfold aShip
        rw [if_neg (by decide), if_neg (by decide), if_neg (by decide), if_neg (by decide), if_neg (by decide), if_neg (by decide), if_neg (by decide), if_neg (by decide), if_pos rfl, g.1, eT]
      · subst q
        refine fin ?_
        unfold aShip
        rw [if_neg (by decide), if_neg (by decide), if_neg (by decide), if_neg (by decide), if_neg (by decide), if_neg (by decide), if_neg (by decide), if_neg (by decide), if_neg (by decide)]
        exact v8.symm
      · subst q
        refine fin ?_
        rcases (show j = 0 ∨ j = 1 ∨ j = 2 ∨ j = 3 ∨ j = 4 by omega) with rfl | rfl | rfl | rfl | rfl
        · exact v0.symm.trans (if_pos rfl).symm
        · exact v1.symm.trans ((if_neg (by decide)).trans (if_pos rfl)).symm
        · exact v2.symm.trans ((if_neg (by decide)).trans ((if_neg (by decide)).trans (if_pos rfl))).symm
        · exact v3.symm.trans ((if_neg (by decide)).trans ((if_neg (by decide)).trans ((if_neg (by decide)).trans (if_pos rfl)))).symm
        · exact v4.symm.trans ((if_neg (by decide)).trans ((if_neg (by decide)).trans ((if_neg (by decide)).trans ((if_neg (by decide)).trans (if_pos rfl))))).symm
    · have no : ∀ j, j < 10 → ¬ w = nI j := fun j hj q => c2 (by rw [q]; exact ⟨nI_pos' (by omega), nI_le (b := 9) (by omega) (by decide)⟩)
      refine ⟨fun _ => ⟨fun q => absurd q c2, fun _ => ⟨fun _ => ⟨i, n, rfl, by omega, hn, s2, fun q => absurd q (no 5 (by decide)), fun q => absurd q (no 6 (by decide)), fun q => absurd q (no 7 (by decide)), fun q => absurd q (no 8 (by decide)), fun q => absurd q (no 9 (by decide)), fun j hj q => absurd q (no j (by omega)), fun _ => eRs h 2 _ _ (by simp) (by decide) (by decide)⟩, fun q => absurd c1' q⟩⟩, fun q => absurd c1 q⟩
  · exact ⟨fun q => absurd q c1, fun _ => ⟨fun q => absurd (hq.mp q) c1, fun _ => eRs h 1 _ _ (by simp) (by decide) (by decide)⟩⟩
theorem k_reach (r w : Int32) : eCall sX8_reach sX9_reach [.ref 495, .int r, .int w] [.ref 0, .int r, .int w] [xI, xA] := by
  intro Fc Fm h
  dsimp only [sX8_reach, sX9_reach]
  obtain ⟨n, m, tk, cv, hC⟩ := h.1
  obtain ⟨hS, h2, h3, h6, h7⟩ := hC
  obtain ⟨⟨hn, hm, hnm, ht⟩, ⟨s0, s1, s2, s3, s4, s5⟩, -⟩ := hS
  have hq : (0 ≤ r ∧ r ≤ Fm 1 1 - 1) ↔ (0 ≤ r ∧ r < Fc 1 3) := by rw [s1, s3]; exact eShp (by omega)
  by_cases c1 : 0 ≤ r ∧ r < Fc 1 3
  · have c1' := hq.mpr c1
    have c1b := c1
    rw [s3] at c1b
    obtain ⟨k, hk, rfl⟩ := eI16 (by omega) c1b
    have fin : ∀ {v v' : Int32}, v = v' → some (Value.int v) = some (Value.int v') ∧ mT Fm 0 0 = 0 ∧ eBoth Fc (mT Fm) := fun e => ⟨by rw [e], mT_00 _, eBoth_t h 0⟩
    obtain ⟨⟨e1, e2, e3⟩, a, l, wt, g1, g2, g3, g4, g5, g6, g7, g8⟩ := h2.1 k hk
    have z : ∀ c, zrd 5 (Fc c) (nI k) = Fc c k := fun c => zrd_k _ (by omega) (by decide)
    have hG25 : (Fc 25 9).toNatClampNeg = n := by rw [s4]; exact nI_clamp (by omega)
    by_cases c2 : 0 ≤ w ∧ w ≤ 5
    · refine ⟨fun _ => ⟨fun _ => ⟨_, rfl, fun _ => ⟨fun _ => ⟨k, n, rfl, by omega, hn, s2, by rw [g6]; exact nI_ne0 (by omega) (by omega), fun j hj q => ?_, fun q => ?_, fun q => ?_, fun q => ?_⟩, fun q => absurd c2 q⟩, fun q => absurd c1' q⟩, fun q => absurd c2 q⟩, fun q => absurd c1 q⟩
      · subst q
        refine fin ?_
        rcases (show j = 0 ∨ j = 1 ∨ j = 2 by omega) with rfl | rfl | rfl
        · exact (e1.symm.trans (z 3).symm).trans (if_pos rfl).symm
        · exact (e2.symm.trans (z 5).symm).trans ((if_neg (by decide)).trans (if_pos rfl)).symm
        · exact (e3.symm.trans (z 7).symm).trans ((if_neg (by decide)).trans ((if_neg (by decide)).trans (if_pos rfl))).symm
      · subst q
        refine fin ?_
        unfold aReach
        rw [if_neg (by decide), if_neg (by decide), if_neg (by decide), if_pos rfl, (eLev h2 hm (by decide) hk).1]
      · subst q
        refine fin ?_
        unfold aReach
        rw [if_neg (by decide), if_neg (by decide), if_neg (by decide), if_neg (by decide), if_pos rfl, eDry h2 hm (by decide) hk]
      · subst q
        refine fin ?_
        unfold aReach
        rw [if_neg (by decide), if_neg (by decide), if_neg (by decide), if_neg (by decide), if_neg (by decide), hG25, eSir hn hm h6 (nI k) n (Nat.le_refl _)]
        congr 1
        exact mSr_c Fm (mT Fm) (nI k) n (fun s _ => by unfold mOf; rw [mT_1])
    · refine ⟨fun _ => ⟨fun q => absurd q c2, fun _ => ⟨fun _ => ⟨fun q => absurd q c2, fun _ => eRs h 2 _ _ (by simp) (by decide) (by decide)⟩, fun q => absurd c1' q⟩⟩, fun q => absurd c1 q⟩
  · exact ⟨fun q => absurd q c1, fun _ => ⟨fun q => absurd (hq.mp q) c1, fun _ => eRs h 1 _ _ (by simp) (by decide) (by decide)⟩⟩
end ZEp

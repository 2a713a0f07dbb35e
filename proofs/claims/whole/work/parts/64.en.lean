/-! THE PURE PART: the calls join, part, refusal, faultPosition, tick, save, restore, undo -/
section ZEn
set_option maxRecDepth 20000
theorem eI16 {s : Int32} {n : Nat} (hn : n ≤ 16) (h : 0 ≤ s ∧ s < nI n) : ∃ i, i < n ∧ s = nI i := eNat3 h.1 h.2 (by omega)
/-- a call of the reference that is refused -/
theorem eRf {Fc Fm : zF} (h : eBoth Fc Fm) (y c : Int32) (names : List String) (E : String) (hE : E ∈ names) (h1 : eCd names 1 E = c) (h2 : ¬ c = 0) :
    (∃ v, some (Value.int 0) = some (Value.int v)) ∧ ((zup (zup (mT Fm) 0 11 y) 0 0 c) 0 0 = eCd names 1 E ∧ ¬ eCd names 1 E = 0 ∧ E ∈ names) ∧ eBoth (zup Fc 495 7 y) (zup (zup (mT Fm) 0 11 y) 0 0 c) :=
  ⟨⟨_, rfl⟩, ⟨by rw [zup_at, h1], by rw [h1]; exact h2, hE⟩, eBoth_r h y c⟩
theorem eRs {Fc Fm : zF} (h : eBoth Fc Fm) (c : Int32) (names : List String) (E : String) (hE : E ∈ names) (h1 : eCd names 1 E = c) (h2 : ¬ c = 0) :
    (∃ v, some (Value.int 0) = some (Value.int v)) ∧ ((zup (mT Fm) 0 0 c) 0 0 = eCd names 1 E ∧ ¬ eCd names 1 E = 0 ∧ E ∈ names) ∧ eBoth Fc (zup (mT Fm) 0 0 c) :=
  ⟨⟨_, rfl⟩, ⟨by rw [zup_at, h1], by rw [h1]; exact h2, hE⟩, eBoth_t (eBoth_t h 0) c⟩
theorem k_join (s t : Int32) : eCall sX8_join sX9_join [.ref 495, .int s, .int t] [.ref 0, .int s, .int t] [xU] := by
  intro Fc Fm h
  dsimp only [sX8_join, sX9_join]
  obtain ⟨n, m, tk, cv, hC⟩ := h.1
  have hS := hC.1
  obtain ⟨⟨hn, hm, hnm, ht⟩, ⟨s0, s1, s2, s3, s4, s5⟩, -⟩ := hS
  have hq : ∀ x : Int32, (0 ≤ x ∧ x ≤ Fm 1 2 - 1) ↔ (0 ≤ x ∧ x < Fc 25 9) := fun x => by rw [s2, s4]; exact eShp hn
  by_cases c1 : (0 ≤ s ∧ s < Fc 25 9) ∧ (0 ≤ t ∧ t < Fc 25 9)
  · have hr1 : aRJ Fc s t = if qFi Fc s = qFi Fc t then 2 else if ¬ qWa Fc s = -1 ∧ qWa Fc s = qWa Fc t ∧ qUp Fc s = qUp Fc t then 0 else 3 := if_pos c1
    have c1' : (0 ≤ s ∧ s ≤ Fm 1 2 - 1) ∧ (0 ≤ t ∧ t ≤ Fm 1 2 - 1) := ⟨(hq s).mpr c1.1, (hq t).mpr c1.2⟩
    rw [s4] at c1
    obtain ⟨i, hi, rfl⟩ := eI16 hn c1.1
    obtain ⟨j, hj, rfl⟩ := eI16 hn c1.2
    obtain ⟨b, hb, b1, b2, b3, b4, b5, b6, b7⟩ := eCv_of hn hC.2.2.2.2 hi
    obtain ⟨a, ha, a1, a2, a3, a4, a5, a6, a7⟩ := eCv_of hn hC.2.2.2.2 hj
    have vi := eSh_v hC.2.2.2.1 hn hm hi
    have vj := eSh_v hC.2.2.2.1 hn hm hj
    by_cases c2 : qFi Fc (nI i) = qFi Fc (nI j)
    · rw [if_pos c2] at hr1
      refine ⟨fun q => absurd (hr1.symm.trans q) (by decide), fun _ => ?_⟩
      rw [hr1]
      refine ⟨fun _ => ⟨i, j, rfl, by omega, rfl, by omega, fun _ => eRf h 2 1 _ _ (by simp) rfl (by decide), fun q => absurd ?_ q⟩, fun q => absurd c1' q⟩
      rw [b3, a3, ← b2, ← a2, c2]
    · rw [if_neg c2] at hr1
      have c2' : ¬ mOf Fm i 6 = mOf Fm j 6 := fun q => c2 (by rw [b2, a2, ← b3, ← a3, q])
      have hab : a ≠ b := fun q => c2 (by rw [b2, a2, q])
      have hl : qWa Fc (nI i) = -1 ↔ mOf Fm i 4 < 0 := by
        rw [vi.2.2.2.2.2.2.2.1]
        exact (eLeft hC.2.2.2.1 hm hi).1
      have c3 : (¬ qWa Fc (nI i) = -1 ∧ qWa Fc (nI i) = qWa Fc (nI j) ∧ qUp Fc (nI i) = qUp Fc (nI j)) ↔ (¬ mOf Fm i 4 < 0 ∧ mLk Fm i = mLk Fm j ∧ mOf Fm i 3 = mOf Fm j 3) := by
        rw [hl, ← vi.2.2.2.2.2.1, ← vj.2.2.2.2.2.1, vi.2.2.2.1, vj.2.2.2.1]
      by_cases c4 : ¬ qWa Fc (nI i) = -1 ∧ qWa Fc (nI i) = qWa Fc (nI j) ∧ qUp Fc (nI i) = qUp Fc (nI j)
      · rw [if_pos c4] at hr1
        refine ⟨fun _ => ?_, fun q => absurd hr1 q⟩
        obtain ⟨k, u, h1, h2, h3, h4, h5, h6, h7, h8, h9, h10, h11⟩ := eKept h
        have hC2 := h10 _ _ _ _ _ _ hC
        have hz41 := h9 41 (by decide)
        have e35 : ∀ x, zcp (aKp Fc) (135 + 45 * k) 0 35 x = Fc 35 x := fun x => by rw [h9 35 (by decide)]
        have eo : ∀ x w, mOf (mKeep (mT Fm) u) x w = mOf Fm x w := fun x w => by unfold mOf; rw [h5]
        obtain ⟨cv', r1, r2, r3, r4, r5, r6⟩ := eJoin (F := mKeep (mT Fm) u) hC2 hi hj ha hb b1 a1 hab (by rw [e35, e35, ← vi.2.2.2.2.2.2.2.1, ← vj.2.2.2.2.2.2.2.1]; exact c4.2.1) (by rw [e35, ← vi.2.2.2.2.2.2.2.1]; exact c4.1) (by rw [eo, eo]; exact (c3.mp c4).2.2)
        refine ⟨k, h1, h2, _, rfl, fun _ => ⟨i, j, rfl, by omega, rfl, by omega, fun q => absurd q c2', fun _ => ⟨fun _ => ⟨u, n, h3, h4, hn, ?_, ?_, ?_, ?_⟩, fun q => absurd (c3.mp c4) q⟩⟩, fun q => absurd c1' q⟩
        · rw [h5]; exact s2
        · have g := eSIC hn r1.2.2.2.2 hj ha r2
          rw [r6] at g
          rw [r3, g.1, g.2]
        · rw [r5 0 (by decide)]; exact h6
        · exact h11 _ _ ⟨n, m, tk, cv', r1⟩ r4 (r5 2 (by decide)) (r5 3 (by decide)) (r5 5 (by decide)) (fun i _ => by rw [r5 0 (by decide)])
      · rw [if_neg c4] at hr1
        refine ⟨fun q => absurd (hr1.symm.trans q) (by decide), fun _ => ?_⟩
        rw [hr1]
        exact ⟨fun _ => ⟨i, j, rfl, by omega, rfl, by omega, fun q => absurd q c2', fun _ => ⟨fun q => absurd (c3.mpr q) c4, fun _ => eRf h 3 1 _ _ (by simp) rfl (by decide)⟩⟩, fun q => absurd c1' q⟩
  · have hr1 : aRJ Fc s t = 1 := if_neg c1
    refine ⟨fun q => absurd (hr1.symm.trans q) (by decide), fun _ => ?_⟩
    rw [hr1]
    exact ⟨fun q => absurd ⟨(hq s).mp q.1, (hq t).mp q.2⟩ c1, fun _ => eRf h 1 1 _ _ (by simp) rfl (by decide)⟩
theorem k_part (s : Int32) : eCall sX8_part sX9_part [.ref 495, .int s] [.ref 0, .int s] [xU] := by
  intro Fc Fm h
  dsimp only [sX8_part, sX9_part]
  obtain ⟨n, m, tk, cv, hC⟩ := h.1
  have hS := hC.1
  obtain ⟨⟨hn, hm, hnm, ht⟩, ⟨s0, s1, s2, s3, s4, s5⟩, -⟩ := hS
  have hq : (0 ≤ s ∧ s ≤ Fm 1 2 - 1) ↔ (0 ≤ s ∧ s < Fc 25 9) := by rw [s2, s4]; exact eShp hn
  by_cases c1 : 0 ≤ s ∧ s < Fc 25 9
  · have hr1 : aRP Fc s = if qSIC Fc s = 1 then 6 else 0 := if_pos c1
    have c1' := hq.mpr c1
    rw [s4] at c1
    obtain ⟨i, hi, rfl⟩ := eI16 hn c1
    obtain ⟨b, hb, b1, b2, b3, b4, b5, b6, b7⟩ := eCv_of hn hC.2.2.2.2 hi
    have g := eSIC hn hC.2.2.2.2 hi hb b1
    have hlen := eCv_len hn hC.2.2.2.2 hb
    have eT : mSz (mT Fm) (mOf Fm i 6) n = (cv b).length := (mSz_c (show mT Fm 1 = Fm 1 from zup_ne _ _ _ (by decide)) _ _).trans g.2
    have c2 : qSIC Fc (nI i) = 1 ↔ (cv b).length = 1 := by
      rw [g.1]
      exact nI_eq (b := 1) (by omega) (by decide)
    have c3 : nI (mSz (mT Fm) (mOf Fm i 6) n) = 1 ↔ (cv b).length = 1 := by
      rw [eT]
      exact nI_eq (b := 1) (by omega) (by decide)
    by_cases c4 : (cv b).length = 1
    · rw [if_pos (c2.mpr c4)] at hr1
      refine ⟨fun q => absurd (hr1.symm.trans q) (by decide), fun _ => ?_⟩
      rw [hr1]
      exact ⟨fun _ => ⟨i, n, rfl, by omega, hn, s2, fun _ => eRf h 6 1 _ _ (by simp) rfl (by decide), fun q => absurd (c3.mpr c4) q⟩, fun q => absurd c1' q⟩
    · rw [if_neg (fun q => c4 (c2.mp q))] at hr1
      refine ⟨fun _ => ?_, fun q => absurd hr1 q⟩
      obtain ⟨k, u, h1, h2, h3, h4, h5, h6, h7, h8, h9, h10, h11⟩ := eKept h
      have hC2 := h10 _ _ _ _ _ _ hC
      have eo : ∀ x w, mOf (mKeep (mT Fm) u) x w = mOf Fm x w := fun x w => by unfold mOf; rw [h5]
      obtain ⟨cv', p, r1, r2, r3, r4, r5, r6, r7, r8⟩ := ePart (F := mKeep (mT Fm) u) hC2 hi hb b1 c4
      rw [eo] at r2
      refine ⟨k, h1, h2, _, rfl, fun _ => ⟨i, n, rfl, by omega, hn, s2, fun q => absurd (c3.mp q) c4, fun _ => ⟨u, p, h3, h4, by rw [h5]; exact s2, r1, by rw [r2]; exact r3, r4, by rw [r2]; exact r5, ?_, ?_, ?_⟩⟩, fun q => absurd c1' q⟩
      · have g2 := eSIC hn hC2.2.2.2.2 hi hb b1
        rw [g2.1, eT]
      · rw [r2, r8 0 (by decide)]; exact h6
      · rw [r2]
        exact h11 _ _ ⟨n, m, tk, cv', r6⟩ r7 (r8 2 (by decide)) (r8 3 (by decide)) (r8 5 (by decide)) (fun i _ => by rw [r8 0 (by decide)])
  · have hr1 : aRP Fc s = 1 := if_neg c1
    refine ⟨fun q => absurd (hr1.symm.trans q) (by decide), fun _ => ?_⟩
    rw [hr1]
    exact ⟨fun q => absurd (hq.mp q) c1, fun _ => eRf h 1 1 _ _ (by simp) rfl (by decide)⟩
theorem k_refusal : eCall sX8_refusal sX9_refusal [.ref 495] [.ref 0] [xE] := by
  intro Fc Fm h
  dsimp only [sX8_refusal, sX9_refusal]
  have h11 : Fc 495 7 = Fm 0 11 := h.2.2.2.2.2
  refine ⟨fun c1 => ⟨_, rfl, by rw [h11], ?_, ?_⟩, fun c1 => ⟨⟨_, rfl⟩, ⟨?_, by decide, by simp⟩, ?_⟩⟩
  · rw [zup_at, if_neg (by rw [← h11]; exact c1)]
  · exact eBoth_t h _
  · rw [zup_at, if_pos (by rw [← h11]; exact Classical.not_not.mp c1)]
    decide
  · exact eBoth_t h _
theorem k_faultPosition : eCall sX8_faultPosition sX9_faultPosition [.ref 495] [.ref 0] [] := by
  intro Fc Fm h
  dsimp only [sX8_faultPosition, sX9_faultPosition]
  exact ⟨_, rfl, by rw [h.2.2.2.2.1], zup_at _ _ _ _, eBoth_t h _⟩
theorem k_tick : eCall sX8_tick sX9_tick [.ref 495] [.ref 0] [] := by
  intro Fc Fm h
  dsimp only [sX8_tick, sX9_tick]
  obtain ⟨n, m, tk, cv, hC⟩ := h.1
  exact ⟨_, rfl, by rw [hC.1.2.2.1.2.2.2.1], zup_at _ _ _ _, eBoth_t h _⟩
end ZEn

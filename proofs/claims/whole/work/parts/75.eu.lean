/-! THE PURE PART: the text, read by both sides -/
section ZEu
set_option maxRecDepth 20000
theorem xDg (c : Int32) : (xDig c = -1 ∧ ¬ (48 ≤ c ∧ c ≤ 57)) ∨ ∃ j, j ≤ 9 ∧ c = nI (48 + j) ∧ xDig c = nI j := by
  by_cases h : 48 ≤ c ∧ c ≤ 57
  · obtain ⟨j, h1, h2, h3⟩ := eNat4 (a := 48) (n := 57) h.1 h.2 (by decide) (by decide)
    refine Or.inr ⟨j - 48, by omega, by rw [show 48 + (j - 48) = j by omega]; exact h3, ?_⟩
    subst h3
    rcases (show j = 48 ∨ j = 49 ∨ j = 50 ∨ j = 51 ∨ j = 52 ∨ j = 53 ∨ j = 54 ∨ j = 55 ∨ j = 56 ∨ j = 57 by omega) with rfl | rfl | rfl | rfl | rfl | rfl | rfl | rfl | rfl | rfl <;> rfl
  · refine Or.inl ⟨?_, h⟩
    unfold xDig
    by_cases h1 : c < 48
    · rw [if_pos h1]
    · by_cases h2 : 57 < c
      · rw [if_neg h1, if_pos h2]
      · exact absurd ⟨Int32.not_lt.mp h1, Int32.not_lt.mp h2⟩ h
theorem xD1 (c : Int32) : 1 ≤ xDig c ↔ 49 ≤ c ∧ c ≤ 57 := by
  rcases xDg c with ⟨h1, h2⟩ | ⟨j, h1, h2, h3⟩
  · rw [h1]
    refine ⟨fun q => absurd q (by decide), fun q => absurd ⟨?_, q.2⟩ h2⟩
    exact Int32.le_trans (by decide) q.1
  · rw [h3, h2]
    rcases (show j = 0 ∨ j = 1 ∨ j = 2 ∨ j = 3 ∨ j = 4 ∨ j = 5 ∨ j = 6 ∨ j = 7 ∨ j = 8 ∨ j = 9 by omega) with rfl | rfl | rfl | rfl | rfl | rfl | rfl | rfl | rfl | rfl <;> decide
theorem xD0 (c : Int32) : 0 ≤ xDig c ↔ 48 ≤ c ∧ c ≤ 57 := by
  rcases xDg c with ⟨h1, h2⟩ | ⟨j, h1, h2, h3⟩
  · rw [h1]
    exact ⟨fun q => absurd q (by decide), fun q => absurd q h2⟩
  · rw [h3, h2]
    rcases (show j = 0 ∨ j = 1 ∨ j = 2 ∨ j = 3 ∨ j = 4 ∨ j = 5 ∨ j = 6 ∨ j = 7 ∨ j = 8 ∨ j = 9 by omega) with rfl | rfl | rfl | rfl | rfl | rfl | rfl | rfl | rfl | rfl <;> decide
theorem xD3 (c : Int32) : (0 ≤ xDig c ∧ xDig c ≤ 3) ↔ 48 ≤ c ∧ c ≤ 51 := by
  rcases xDg c with ⟨h1, h2⟩ | ⟨j, h1, h2, h3⟩
  · rw [h1]
    refine ⟨fun q => absurd q.1 (by decide), fun q => absurd ⟨q.1, ?_⟩ h2⟩
    exact Int32.le_trans q.2 (by decide)
  · rw [h3, h2]
    rcases (show j = 0 ∨ j = 1 ∨ j = 2 ∨ j = 3 ∨ j = 4 ∨ j = 5 ∨ j = 6 ∨ j = 7 ∨ j = 8 ∨ j = 9 by omega) with rfl | rfl | rfl | rfl | rfl | rfl | rfl | rfl | rfl | rfl <;> decide
/-- a digit's worth -/
theorem xDv {c : Int32} (h0 : 48 ≤ c) (h9 : c ≤ 57) : xDig c = c - 48 ∧ ∃ j, j ≤ 9 ∧ c = nI (48 + j) ∧ c - 48 = nI j ∧ (49 ≤ c → 1 ≤ j) ∧ (c ≤ 51 → j ≤ 3) := by
  rcases xDg c with ⟨h1, h2⟩ | ⟨j, h1, h2, h3⟩
  · exact absurd ⟨h0, h9⟩ h2
  · have e : c - 48 = nI j := by
      rw [h2]
      rcases (show j = 0 ∨ j = 1 ∨ j = 2 ∨ j = 3 ∨ j = 4 ∨ j = 5 ∨ j = 6 ∨ j = 7 ∨ j = 8 ∨ j = 9 by omega) with rfl | rfl | rfl | rfl | rfl | rfl | rfl | rfl | rfl | rfl <;> rfl
    refine ⟨h3.trans e.symm, j, h1, h2, e, fun q => ?_, fun q => ?_⟩
    · rw [h2, show (49 : Int32) = nI 49 from rfl, nI_leI (by decide) (by omega)] at q
      omega
    · rw [h2, show (51 : Int32) = nI 51 from rfl, nI_leI (by omega) (by decide)] at q
      omega
theorem sn_get {α : Type} {L : List α} {v w : α} {j : Nat} (h : (L ++ [v])[j]? = some w) : (j < L.length ∧ L[j]? = some w) ∨ (j = L.length ∧ w = v) := by
  rcases Nat.lt_trichotomy j L.length with h1 | h1 | h1
  · rw [List.getElem?_append_left h1] at h
    exact Or.inl ⟨h1, h⟩
  · rw [List.getElem?_append_right (by omega), h1, Nat.sub_self] at h
    exact Or.inr ⟨h1, (Option.some.inj h).symm⟩
  · rw [List.getElem?_append_right (by omega)] at h
    obtain ⟨k, hk⟩ : ∃ k, j - L.length = k + 1 := ⟨j - L.length - 1, by omega⟩
    rw [hk] at h
    exact nomatch h
theorem sn_put {α : Type} {L : List α} {P : Nat → α → Prop} {v : α} (h1 : ∀ j w, j < L.length → L[j]? = some w → P j w) (h2 : P L.length v) : ∀ j w, (L ++ [v])[j]? = some w → P j w := by
  intro j w h
  rcases sn_get h with ⟨q1, q2⟩ | ⟨q1, q2⟩
  · exact h1 j w q1 q2
  · rw [q1, q2]; exact h2
theorem sn_lt {α : Type} {L : List α} {v : α} {j : Nat} {w : α} (h : j < L.length) (h1 : L[j]? = some w) : (L ++ [v])[j]? = some w := by
  rw [List.getElem?_append_left h]; exact h1
theorem sn_at {α : Type} (L : List α) (v : α) : (L ++ [v])[L.length]? = some v := by
  rw [List.getElem?_append_right (Nat.le_refl _), Nat.sub_self]
  rfl
/-- the class's text with the arrivals read so far -/
def tT (F : zF) (C : Nat → Int32) (l : Nat) (L : List zVa) : Prop := F 2 = C ∧ F 0 5 = nI l ∧ F 0 6 = nI L.length ∧ ∀ j (v : zVa), L[j]? = some v → F 4 j = v.1 ∧ F 6 j = v.2.1 ∧ F 8 j = v.2.2.1 ∧ F 10 j = v.2.2.2
def tCh (C : Nat → Int32) (l p : Nat) : Int32 := if p < l then C p else 0
theorem tBeg {F : zF} {C : Nat → Int32} {l : Nat} {L : List zVa} (h : tT F C l L) (hL : L.length < 10) (b : Int32) : tT (xBeg F b) C l (L ++ [(0, 0, 0, b)]) := by
  obtain ⟨h1, h2, h3, h4⟩ := h
  have e : xBeg F b = zup (zup (zup (zup (zup F 4 L.length 0) 6 L.length 0) 8 L.length 0) 10 L.length b) 0 6 (nI (L.length + 1)) := by
    unfold xBeg
    rw [h3, nI_1, zwr_k _ _ _ hL (by decide), zwr_k _ _ _ hL (by decide), zwr_k _ _ _ hL (by decide), zwr_k _ _ _ hL (by decide)]
  rw [e]
  refine ⟨?_, ?_, ?_, sn_put (fun j w q1 q2 => ?_) ?_⟩
  · rw [zup_ne _ _ _ (by decide), zup_ne _ _ _ (by decide), zup_ne _ _ _ (by decide), zup_ne _ _ _ (by decide), zup_ne _ _ _ (by decide)]; exact h1
  · rw [zup_an _ _ _ (by decide), zup_ne _ _ _ (by decide), zup_ne _ _ _ (by decide), zup_ne _ _ _ (by decide), zup_ne _ _ _ (by decide)]; exact h2
  · rw [zup_at, List.length_append]; rfl
  · have := h4 j w q2
    have hj : j ≠ L.length := by omega
    refine ⟨?_, ?_, ?_, ?_⟩
    · simp [zup, hj]; exact this.1
    · simp [zup, hj]; exact this.2.1
    · simp [zup, hj]; exact this.2.2.1
    · simp [zup, hj]; exact this.2.2.2
  · refine ⟨?_, ?_, ?_, ?_⟩ <;> simp [zup]
theorem tTk {F : zF} {C : Nat → Int32} {l : Nat} {L : List zVa} {z d r u : Int32} (h : tT F C l (L ++ [(z, d, r, u)])) (hL : L.length < 10) (a : Int32) :
    tT (xTk F 4 a) C l (L ++ [(z * 10 + a, d, r, u)]) ∧ tT (xTk F 6 a) C l (L ++ [(z, d * 10 + a, r, u)]) ∧ tT (xTk F 8 a) C l (L ++ [(z, d, r * 10 + a, u)]) := by
  obtain ⟨h1, h2, h3, h4⟩ := h
  have h6 : F 0 6 - 1 = nI L.length := by
    rw [h3, List.length_append, show L.length + [(z, d, r, u)].length = L.length + 1 from rfl, nI_m1 (by omega)]
    rfl
  have hv := h4 L.length (z, d, r, u) (sn_at _ _)
  have e : ∀ j, xTk F j a = zup F j L.length (F j L.length * 10 + a) := fun j => by
    unfold xTk
    rw [h6, zwr_k _ _ _ hL (by decide), zrd_k _ hL (by decide)]
  have h3' : F 0 6 = nI (L.length + 1) := by rw [h3, List.length_append]; rfl
  refine ⟨?_, ?_, ?_⟩
  · rw [e, hv.1]
    refine ⟨(zup_ne _ _ _ (by decide)).trans h1, by rw [zup_ne _ _ _ (by decide)]; exact h2, by rw [zup_ne _ _ _ (by decide), h3', List.length_append]; rfl, sn_put (fun j w q1 q2 => ?_) ?_⟩
    · have := h4 j w (sn_lt q1 q2)
      rw [zup_an _ _ _ (by omega), zup_ne _ _ _ (by decide), zup_ne _ _ _ (by decide), zup_ne _ _ _ (by decide)]
      exact this
    · rw [zup_at, zup_ne _ _ _ (by decide), zup_ne _ _ _ (by decide), zup_ne _ _ _ (by decide)]
      exact ⟨rfl, hv.2⟩
  · rw [e, hv.2.1]
    refine ⟨(zup_ne _ _ _ (by decide)).trans h1, by rw [zup_ne _ _ _ (by decide)]; exact h2, by rw [zup_ne _ _ _ (by decide), h3', List.length_append]; rfl, sn_put (fun j w q1 q2 => ?_) ?_⟩
    · have := h4 j w (sn_lt q1 q2)
      rw [zup_an _ _ _ (by omega), zup_ne _ _ _ (by decide), zup_ne _ _ _ (by decide), zup_ne _ _ _ (by decide)]
      exact this
    · rw [zup_at, zup_ne _ _ _ (by decide), zup_ne _ _ _ (by decide), zup_ne _ _ _ (by decide)]
      exact ⟨hv.1, rfl, hv.2.2⟩
  · rw [e, hv.2.2.1]
    refine ⟨(zup_ne _ _ _ (by decide)).trans h1, by rw [zup_ne _ _ _ (by decide)]; exact h2, by rw [zup_ne _ _ _ (by decide), h3', List.length_append]; rfl, sn_put (fun j w q1 q2 => ?_) ?_⟩
    · have := h4 j w (sn_lt q1 q2)
      rw [zup_an _ _ _ (by omega), zup_ne _ _ _ (by decide), zup_ne _ _ _ (by decide), zup_ne _ _ _ (by decide)]
      exact this
    · rw [zup_at, zup_ne _ _ _ (by decide), zup_ne _ _ _ (by decide), zup_ne _ _ _ (by decide)]
      exact ⟨hv.1, hv.2.1, rfl, hv.2.2.2⟩
theorem xS1 (F : zF) (c : Int32) : xSt F 1 c = if c = 100 ∨ c = 117 then (2, xBeg F (if c = 117 then 1 else 0)) else (0, F) := if_pos rfl
theorem xS2 (F : zF) (c : Int32) : xSt F 2 c = if 1 ≤ xDig c then (3, xTk F 4 (xDig c)) else (0, F) := (if_neg (by decide)).trans (if_pos rfl)
theorem xS3 (F : zF) (c : Int32) : xSt F 3 c = if c = 116 then (4, F) else (0, F) := (if_neg (by decide)).trans ((if_neg (by decide)).trans (if_pos rfl))
theorem xS4 (F : zF) (c : Int32) : xSt F 4 c = if 1 ≤ xDig c then (5, xTk F 6 (xDig c)) else (0, F) := (if_neg (by decide)).trans ((if_neg (by decide)).trans ((if_neg (by decide)).trans (if_pos rfl)))
theorem xS5 (F : zF) (c : Int32) : xSt F 5 c = if 0 ≤ xDig c then (6, xTk F 6 (xDig c)) else (xSD c, F) := (if_neg (by decide)).trans ((if_neg (by decide)).trans ((if_neg (by decide)).trans ((if_neg (by decide)).trans (if_pos rfl))))
theorem xS6 (F : zF) (c : Int32) : xSt F 6 c = (xSD c, F) := (if_neg (by decide)).trans ((if_neg (by decide)).trans ((if_neg (by decide)).trans ((if_neg (by decide)).trans ((if_neg (by decide)).trans (if_pos rfl)))))
theorem xS7 (F : zF) (c : Int32) : xSt F 7 c = if 0 ≤ xDig c ∧ xDig c ≤ 3 then (8, xTk F 8 (xDig c)) else (0, F) := (if_neg (by decide)).trans ((if_neg (by decide)).trans ((if_neg (by decide)).trans ((if_neg (by decide)).trans ((if_neg (by decide)).trans ((if_neg (by decide)).trans (if_pos rfl))))))
theorem xS8 (F : zF) (c : Int32) : xSt F 8 c = if c = 44 then (1, F) else (0, F) := (if_neg (by decide)).trans ((if_neg (by decide)).trans ((if_neg (by decide)).trans ((if_neg (by decide)).trans ((if_neg (by decide)).trans ((if_neg (by decide)).trans (if_neg (by decide)))))))
/-- the rest of the text from k on -/
def tR (l k : Nat) (F : zF) (s : Int32) : Int32 × zF := xRd (l - k) k F s
theorem tR_lt {F : zF} {C : Nat → Int32} {l : Nat} {L : List zVa} (h : tT F C l L) (hl : l ≤ 50) {k : Nat} (hk : k < l) (s : Int32) :
    tR l k F s = if (xSt F s (tCh C l k)).1 = 0 then (nI k, (xSt F s (tCh C l k)).2) else tR l (k + 1) (xSt F s (tCh C l k)).2 (xSt F s (tCh C l k)).1 := by
  unfold tR tCh
  rw [if_pos hk, show l - k = (l - (k + 1)) + 1 by omega, xRd, zrd_k _ (show k < 50 by omega) (by decide), h.1]
theorem tR_st {F : zF} {C : Nat → Int32} {l : Nat} {L : List zVa} (h : tT F C l L) (hl : l ≤ 50) {k : Nat} (hk : k ≤ l) {s : Int32} (hs : s = 1 ∨ s = 2 ∨ s = 3 ∨ s = 4 ∨ s = 7) :
    tR l k F s = if (xSt F s (tCh C l k)).1 = 0 then (nI k, (xSt F s (tCh C l k)).2) else tR l (k + 1) (xSt F s (tCh C l k)).2 (xSt F s (tCh C l k)).1 := by
  by_cases hkl : k < l
  · exact tR_lt h hl hkl s
  · have e : k = l := by omega
    subst e
    have e0 : tCh C k k = 0 := if_neg (by omega)
    have hx : xSt F s 0 = (0, F) := by
      rcases hs with rfl | rfl | rfl | rfl | rfl <;> rfl
    rw [e0, hx, if_pos rfl]
    unfold tR
    rw [Nat.sub_self, xRd, h.2.1, if_neg (by rcases hs with rfl | rfl | rfl | rfl | rfl <;> decide)]
theorem tCh_lt {C : Nat → Int32} {l p : Nat} (h : ¬ tCh C l p = 0) : p < l := by
  rcases Nat.lt_or_ge p l with g | g
  · exact g
  · exact absurd (if_neg (by omega)) h
/-- behind an arrival -/
def tE (C : Nat → Int32) (l q : Nat) (G : zF) : Int32 × zF := if q = l then (-1, G) else if tCh C l q = 44 then tR l (q + 1) G 1 else (nI q, G)
theorem tE_8 {F : zF} {C : Nat → Int32} {l : Nat} {L : List zVa} (h : tT F C l L) (hl : l ≤ 50) {q : Nat} (hq : q ≤ l) : tR l q F 8 = tE C l q F := by
  unfold tE
  by_cases hql : q = l
  · rw [if_pos hql, hql]
    unfold tR
    rw [Nat.sub_self, xRd, if_pos (by decide)]
  · rw [if_neg hql, tR_lt h hl (by omega), xS8]
    by_cases h44 : tCh C l q = 44
    · rw [if_pos h44, if_pos h44, if_neg (show ¬ (1 : Int32) = 0 by decide)]
    · rw [if_neg h44, if_neg h44, if_pos rfl]
theorem tP2 {F : zF} {C : Nat → Int32} {l : Nat} {L : List zVa} {z d u : Int32} (h : tT F C l (L ++ [(z, d, 0, u)])) (hL : L.length < 10) (hl : l ≤ 50) {q : Nat} (hq : q ≤ l) {s : Int32} (hs : s = 5 ∧ ¬ 0 ≤ xDig (tCh C l q) ∨ s = 6) :
    ((mPt2 (tCh C l) q z d u).1 = false → (tR l q F s).1 = nI (mPt2 (tCh C l) q z d u).2.1) ∧
    ((mPt2 (tCh C l) q z d u).1 = true → ∃ G, tT G C l (L ++ [(mPt2 (tCh C l) q z d u).2.2]) ∧ tR l q F s = tE C l (mPt2 (tCh C l) q z d u).2.1 G) := by
  have hx : xSt F s (tCh C l q) = (xSD (tCh C l q), F) := by
    rcases hs with ⟨rfl, g⟩ | rfl
    · rw [xS5, if_neg g]
    · exact xS6 _ _
  unfold mPt2
  by_cases h1 : tCh C l q = 114
  · have hql : q < l := tCh_lt (by rw [h1]; decide)
    have e1 : tR l q F s = tR l (q + 1) F 7 := by
      rw [tR_lt h hl hql, hx, h1, show xSD 114 = 7 from rfl, if_neg (show ¬ (7 : Int32) = 0 by decide)]
    rw [if_pos h1, e1, tR_st h hl (show q + 1 ≤ l by omega) (by simp), xS7]
    by_cases h2 : 48 ≤ tCh C l (q + 1) ∧ tCh C l (q + 1) ≤ 51
    · have hq2 : q + 1 < l := tCh_lt (mIn0 (by decide) h2.1)
      have hv := (xDv h2.1 (Int32.le_trans h2.2 (by decide))).1
      rw [if_pos h2, if_pos ((xD3 _).mpr h2), if_neg (show ¬ (8 : Int32) = 0 by decide)]
      refine ⟨fun g => absurd (show true = false from g) (by decide), fun _ => ⟨xTk F 8 (xDig (tCh C l (q + 1))), ?_, ?_⟩⟩
      · have := (tTk h hL (xDig (tCh C l (q + 1)))).2.2
        rw [show (0 : Int32) * 10 = 0 from rfl, Int32.zero_add, hv] at this
        rw [hv]
        exact this
      · exact tE_8 (tTk h hL (xDig (tCh C l (q + 1)))).2.2 hl (by omega)
    · rw [if_neg h2, if_neg (fun g => h2 ((xD3 _).mp g)), if_pos rfl]
      exact ⟨fun _ => rfl, fun g => absurd (show false = true from g) (by decide)⟩
  · rw [if_neg h1]
    refine ⟨fun g => absurd (show true = false from g) (by decide), fun _ => ⟨F, h, ?_⟩⟩
    unfold tE
    dsimp only
    by_cases hql : q = l
    · rw [if_pos hql, hql]
      unfold tR
      rw [Nat.sub_self, xRd, if_pos (by rcases hs with ⟨rfl, g⟩ | rfl <;> decide)]
    · rw [if_neg hql, tR_lt h hl (by omega), hx]
      unfold xSD
      rw [if_neg h1]
      by_cases h44 : tCh C l q = 44
      · rw [if_pos h44, if_pos h44, if_neg (show ¬ (1 : Int32) = 0 by decide)]
      · rw [if_neg h44, if_neg h44, if_pos rfl]
theorem tP1 {F : zF} {C : Nat → Int32} {l : Nat} {L : List zVa} {u : Int32} (h : tT F C l (L ++ [(0, 0, 0, u)])) (hL : L.length < 10) (hl : l ≤ 50) {p : Nat} (hp : p < l) :
    ((mPz (tCh C l) p u).1 = false → (tR l (p + 1) F 2).1 = nI (mPz (tCh C l) p u).2.1) ∧
    ((mPz (tCh C l) p u).1 = true → ∃ G, tT G C l (L ++ [(mPz (tCh C l) p u).2.2]) ∧ tR l (p + 1) F 2 = tE C l (mPz (tCh C l) p u).2.1 G) := by
  unfold mPz
  rw [tR_st h hl (show p + 1 ≤ l by omega) (by simp), xS2]
  by_cases h1 : 49 ≤ tCh C l (p + 1) ∧ tCh C l (p + 1) ≤ 57
  · have hp1 : p + 1 < l := tCh_lt (mIn0 (by decide) h1.1)
    have hv1 := (xDv (Int32.le_trans (by decide) h1.1) h1.2).1
    rw [if_pos h1, if_pos ((xD1 _).mpr h1), if_neg (show ¬ (3 : Int32) = 0 by decide)]
    have t1 := (tTk h hL (xDig (tCh C l (p + 1)))).1
    rw [show (0 : Int32) * 10 = 0 from rfl, Int32.zero_add] at t1
    rw [hv1] at t1 ⊢
    dsimp only
    rw [tR_st t1 hl (show p + 1 + 1 ≤ l by omega) (by simp), xS3]
    by_cases h2 : tCh C l (p + 2) = 116
    · have hp2 : p + 2 < l := tCh_lt (by rw [h2]; decide)
      rw [if_pos h2, if_pos h2, if_neg (show ¬ (4 : Int32) = 0 by decide)]
      dsimp only
      rw [tR_st t1 hl (show p + 1 + 1 + 1 ≤ l by omega) (by simp), xS4]
      by_cases h3 : 49 ≤ tCh C l (p + 3) ∧ tCh C l (p + 3) ≤ 57
      · have hp3 : p + 3 < l := tCh_lt (mIn0 (by decide) h3.1)
        have hv3 := (xDv (Int32.le_trans (by decide) h3.1) h3.2).1
        rw [if_pos h3, if_pos ((xD1 _).mpr h3), if_neg (show ¬ (5 : Int32) = 0 by decide)]
        have t3 := (tTk t1 hL (xDig (tCh C l (p + 3)))).2.1
        rw [show (0 : Int32) * 10 = 0 from rfl, Int32.zero_add] at t3
        dsimp only
        rw [show p + 1 + 1 + 1 = p + 3 from rfl]
        rw [hv3] at t3 ⊢
        by_cases h4 : 48 ≤ tCh C l (p + 4) ∧ tCh C l (p + 4) ≤ 57
        · have hp4 : p + 4 < l := tCh_lt (mIn0 (by decide) h4.1)
          have hv4 := (xDv h4.1 h4.2).1
          rw [if_pos h4, tR_lt t3 hl (show p + 3 + 1 < l by omega), xS5, show p + 3 + 1 = p + 4 from rfl, if_pos ((xD0 _).mpr h4), if_neg (show ¬ (6 : Int32) = 0 by decide)]
          have t4 := (tTk t3 hL (xDig (tCh C l (p + 4)))).2.1
          have e : (tCh C l (p + 3) - 48) * 10 + xDig (tCh C l (p + 4)) = 10 * (tCh C l (p + 3) - 48) + tCh C l (p + 4) - 48 := by
            rw [hv4, Int32.mul_comm, Int32.sub_eq_add_neg (10 * (tCh C l (p + 3) - 48) + tCh C l (p + 4)), Int32.add_assoc, ← Int32.sub_eq_add_neg]
          rw [e] at t4
          exact tP2 t4 hL hl (show p + 5 ≤ l by omega) (Or.inr rfl)
        · rw [if_neg h4]
          exact tP2 t3 hL hl (show p + 4 ≤ l by omega) (Or.inl ⟨rfl, fun g => h4 ((xD0 _).mp g)⟩)
      · rw [if_neg h3, if_neg (fun g => h3 ((xD1 _).mp g)), if_pos rfl]
        exact ⟨fun _ => rfl, fun g => absurd (show false = true from g) (by decide)⟩
    · rw [if_neg h2, if_neg h2, if_pos rfl]
      exact ⟨fun _ => rfl, fun g => absurd (show false = true from g) (by decide)⟩
  · rw [if_neg h1, if_neg (fun g => h1 ((xD1 _).mp g)), if_pos rfl]
    exact ⟨fun _ => rfl, fun g => absurd (show false = true from g) (by decide)⟩
theorem tP0 {F : zF} {C : Nat → Int32} {l : Nat} {L : List zVa} (h : tT F C l L) (hl : l ≤ 50) {p : Nat} (hp : p ≤ l) (hL : p < l → L.length < 10) :
    ((mPa (tCh C l) p).1 = false → (tR l p F 1).1 = nI (mPa (tCh C l) p).2.1) ∧
    ((mPa (tCh C l) p).1 = true → ∃ G, tT G C l (L ++ [(mPa (tCh C l) p).2.2]) ∧ tR l p F 1 = tE C l (mPa (tCh C l) p).2.1 G) := by
  unfold mPa
  rw [tR_st h hl hp (by simp), xS1]
  by_cases h1 : tCh C l p = 117
  · have hpl : p < l := tCh_lt (by rw [h1]; decide)
    rw [if_pos h1, if_pos (Or.inr h1), if_pos h1, if_neg (show ¬ (2 : Int32) = 0 by decide)]
    exact tP1 (tBeg h (hL hpl) 1) (hL hpl) hl hpl
  · by_cases h2 : tCh C l p = 100
    · have hpl : p < l := tCh_lt (by rw [h2]; decide)
      rw [if_neg h1, if_pos h2, if_pos (Or.inl h2), if_neg h1, if_neg (show ¬ (2 : Int32) = 0 by decide)]
      exact tP1 (tBeg h (hL hpl) 0) (hL hpl) hl hpl
    · rw [if_neg h1, if_neg h2, if_neg (show ¬ (tCh C l p = 100 ∨ tCh C l p = 117) from fun g => g.elim h2 h1), if_pos rfl]
      exact ⟨fun _ => rfl, fun g => absurd (show false = true from g) (by decide)⟩
end ZEu

/-! THE PURE PART: what the class's canal (cells 0 to 44 of G) and the reference's numbers (M) have in common -/
section ZE1
set_option maxRecDepth 20000
abbrev eO (M : Nat → Int32) (s w : Nat) : Int32 := M (53 + 9 * s + w)
abbrev eP (M : Nat → Int32) (k w : Nat) : Int32 := M (25 + 7 * k + w)
abbrev eR (M : Nat → Int32) (r w : Nat) : Int32 := M (10 + 3 * r + w)
/-- n ships, m reaches, tick t -/
def eS (G : zF) (M : Nat → Int32) (n m t : Nat) : Prop := (n ≤ 16 ∧ m ≤ 5 ∧ (0 < n → 2 ≤ m) ∧ t ≤ 500) ∧ (M 0 = nI t ∧ M 1 = nI m ∧ M 2 = nI n ∧ G 1 3 = nI m ∧ G 25 9 = nI n ∧ G 8 9 = nI (m - 1)) ∧
  (G 0 4 = M 3 ∧ G 0 5 = M 4 ∧ G 0 6 = M 5 ∧ G 0 7 = M 0 ∧ G 0 8 = M 6 ∧ G 0 9 = M 7 ∧ G 8 8 = M 8 ∧ G 0 10 = M 9) ∧ (∃ p, 1 ≤ p ∧ p ≤ 20 ∧ M 3 = nI p) ∧ (∃ g, g ≤ 50 ∧ M 4 = nI g) ∧ ∃ i, i ≤ 99 ∧ M 5 = nI i
def eRe1 (G : zF) (M : Nat → Int32) (r B : Nat) : Prop := (G 3 r = M (10 + 3 * r) ∧ G 5 r = eR M r 1 ∧ G 7 r = eR M r 2) ∧ ∃ a l w, 1 ≤ a ∧ a ≤ 9 ∧ 10 ≤ l ∧ l ≤ 99 ∧ w ≤ B ∧ M (10 + 3 * r) = nI a ∧ eR M r 1 = nI l ∧ eR M r 2 = nI w
/-- the reaches, their waters at most B -/
def eRe (G : zF) (M : Nat → Int32) (m B : Nat) : Prop := (∀ r, r < m → eRe1 G M r B) ∧ ∀ r, m ≤ r → r < 5 → G 7 r = 0
def eLo1 (G : zF) (M : Nat → Int32) (k : Nat) : Prop := (G 10 k = eP M k 0 ∧ G 12 k = eP M k 1 ∧ G 16 k = eP M k 2 ∧ G 18 k = eP M k 3 ∧ G 22 k = eP M k 5 ∧ G 24 k = eP M k 6) ∧
  ∃ len c nb f b, (1 ≤ len ∧ len ≤ 9 ∧ 4 ≤ c ∧ c ≤ 60 ∧ nb ≤ 3 ∧ f ≤ 1 ∧ b < 2 ^ nb) ∧ (eP M k 0 = nI len ∧ eP M k 1 = nI c ∧ eP M k 2 = nI nb ∧ eP M k 3 = nI f ∧ eP M k 4 = nI b) ∧ G 14 k = nI (c / 4) ∧ G 20 k = nI (mBit b)
def eLo (G : zF) (M : Nat → Int32) (m : Nat) : Prop := (∀ k, k + 1 < m → eLo1 G M k) ∧ ∀ k, m ≤ k + 1 → k < 4 → G 18 k = 0 ∧ G 20 k = 0 ∧ G 22 k = 0 ∧ G 24 k = 0
def eSh1 (G : zF) (M : Nat → Int32) (m T s : Nat) : Prop := (G 27 s = eO M s 0 ∧ G 29 s = eO M s 1 ∧ G 31 s = eO M s 2 ∧ G 33 s = eO M s 3 ∧ G 39 s = eO M s 8) ∧
  ∃ z d r u, (1 ≤ z ∧ z ≤ 9 ∧ 1 ≤ d ∧ d ≤ 99 ∧ r ≤ 3 ∧ u ≤ 1) ∧ (eO M s 0 = nI z ∧ eO M s 1 = nI d ∧ eO M s 2 = nI r ∧ eO M s 3 = nI u) ∧
  ((eO M s 4 = -1 ∧ G 35 s = -1) ∨ ∃ k x, k + 1 < m ∧ G 35 s = nI k ∧ eO M s 4 = nI (k + u) ∧ G 37 s = eO M s 5 ∧ x ≤ T ∧ eO M s 5 = nI x)
/-- the ships; those that wait wait since T at most -/
def eSh (G : zF) (M : Nat → Int32) (n m T : Nat) : Prop := ∀ s, s < n → eSh1 G M m T s
def eCv1 (G : zF) (M : Nat → Int32) (n h : Nat) (L : List Nat) : Prop := (eChn G L ∧ L.Nodup) ∧ (L = [] ∨ L.head? = some h) ∧ (∀ i x, L[i]? = some x → x < n ∧ eO M x 6 = nI h ∧ eO M x 7 = nI i) ∧ (∀ x, x ∈ L → G 41 x = nI h ∧ G 35 x = G 35 h ∧ eO M x 3 = eO M h 3) ∧ (G 35 h = -1 → L.length ≤ 1)
/-- the convoys -/
def eCv (G : zF) (M : Nat → Int32) (n : Nat) (cv : Nat → List Nat) : Prop := (∀ s, s < n → ∃ h, h < n ∧ s ∈ cv h) ∧ ∀ h, h < n → eCv1 G M n h (cv h)
def eC (G : zF) (M : Nat → Int32) (n m t T B : Nat) (cv : Nat → List Nat) : Prop := eS G M n m t ∧ eRe G M m B ∧ eLo G M m ∧ eSh G M n m T ∧ eCv G M n cv
/-- between two calls -/
def eCan (G : zF) (M : Nat → Int32) : Prop := ∃ n m t cv, eC G M n m t t 900 cv
/-- the places that count -/
def eDom (c i : Nat) : Bool := match c with
  | 0 => Nat.ble 4 i && Nat.ble i 10
  | 1 => Nat.beq i 3
  | 3 => Nat.blt i 5
  | 5 => Nat.blt i 5
  | 7 => Nat.blt i 5
  | 8 => Nat.ble 8 i && Nat.ble i 9
  | 10 => Nat.blt i 4
  | 12 => Nat.blt i 4
  | 14 => Nat.blt i 4
  | 16 => Nat.blt i 4
  | 18 => Nat.blt i 4
  | 20 => Nat.blt i 4
  | 22 => Nat.blt i 4
  | 24 => Nat.blt i 4
  | 25 => Nat.beq i 9
  | 27 => Nat.blt i 16
  | 29 => Nat.blt i 16
  | 31 => Nat.blt i 16
  | 33 => Nat.blt i 16
  | 35 => Nat.blt i 16
  | 37 => Nat.blt i 16
  | 39 => Nat.blt i 16
  | 41 => Nat.blt i 16
  | 43 => Nat.blt i 16
  | _ => false
def eQ (G H : zF) : Prop := ∀ c i, eDom c i = true → H c i = G c i
def eM (M N : Nat → Int32) : Prop := ∀ i, i < 197 → N i = M i
theorem eDb {i n : Nat} (h : i < n) : Nat.blt i n = true := by simpa using h
theorem eS_q {G H : zF} {M N : Nat → Int32} {n m t : Nat} (hq : eQ G H) (hm : eM M N) (h : eS G M n m t) : eS H N n m t := by
  unfold eS at *
  rw [hm 0 (by decide), hm 1 (by decide), hm 2 (by decide), hm 3 (by decide), hm 4 (by decide), hm 5 (by decide), hm 6 (by decide), hm 7 (by decide), hm 8 (by decide), hm 9 (by decide), hq 1 3 rfl, hq 25 9 rfl, hq 8 9 rfl, hq 8 8 rfl, hq 0 4 rfl, hq 0 5 rfl, hq 0 6 rfl, hq 0 7 rfl, hq 0 8 rfl, hq 0 9 rfl, hq 0 10 rfl]
  exact h
theorem eRe_q {G H : zF} {M N : Nat → Int32} {m B : Nat} (hm5 : m ≤ 5) (hq : eQ G H) (hm : eM M N) (h : eRe G M m B) : eRe H N m B := by
  refine ⟨fun r hr => ?_, fun r h1 h2 => ?_⟩
  · have h1 := h.1 r hr
    unfold eRe1 eR at *
    rw [hq 3 r (eDb (by omega)), hq 5 r (eDb (by omega)), hq 7 r (eDb (by omega)), hm (10 + 3 * r) (by omega), hm (10 + 3 * r + 1) (by omega), hm (10 + 3 * r + 2) (by omega)]
    exact h1
  · rw [hq 7 r (eDb h2)]
    exact h.2 r h1 h2
theorem eLo_q {G H : zF} {M N : Nat → Int32} {m : Nat} (hm5 : m ≤ 5) (hq : eQ G H) (hm : eM M N) (h : eLo G M m) : eLo H N m := by
  refine ⟨fun k hk => ?_, fun k h1 h2 => ?_⟩
  · have h1 := h.1 k hk
    unfold eLo1 eP at *
    rw [hq 10 k (eDb (by omega)), hq 12 k (eDb (by omega)), hq 14 k (eDb (by omega)), hq 16 k (eDb (by omega)), hq 18 k (eDb (by omega)), hq 20 k (eDb (by omega)), hq 22 k (eDb (by omega)), hq 24 k (eDb (by omega)), hm (25 + 7 * k + 0) (by omega), hm (25 + 7 * k + 1) (by omega), hm (25 + 7 * k + 2) (by omega), hm (25 + 7 * k + 3) (by omega), hm (25 + 7 * k + 4) (by omega), hm (25 + 7 * k + 5) (by omega), hm (25 + 7 * k + 6) (by omega)]
    exact h1
  · rw [hq 18 k (eDb h2), hq 20 k (eDb h2), hq 22 k (eDb h2), hq 24 k (eDb h2)]
    exact h.2 k h1 h2
theorem eSh_q {G H : zF} {M N : Nat → Int32} {n m T : Nat} (hn : n ≤ 16) (hq : eQ G H) (hm : eM M N) (h : eSh G M n m T) : eSh H N n m T := by
  intro s hs
  have h1 := h s hs
  unfold eSh1 eO at *
  rw [hq 27 s (eDb (by omega)), hq 29 s (eDb (by omega)), hq 31 s (eDb (by omega)), hq 33 s (eDb (by omega)), hq 35 s (eDb (by omega)), hq 37 s (eDb (by omega)), hq 39 s (eDb (by omega)), hm (53 + 9 * s + 0) (by omega), hm (53 + 9 * s + 1) (by omega), hm (53 + 9 * s + 2) (by omega), hm (53 + 9 * s + 3) (by omega), hm (53 + 9 * s + 4) (by omega), hm (53 + 9 * s + 5) (by omega), hm (53 + 9 * s + 8) (by omega)]
  exact h1
theorem eCv_q {G H : zF} {M N : Nat → Int32} {n : Nat} {cv : Nat → List Nat} (hn : n ≤ 16) (hq : eQ G H) (hm : eM M N) (h : eCv G M n cv) : eCv H N n cv := by
  refine ⟨h.1, fun a ha => ?_⟩
  obtain ⟨⟨h1, h9⟩, h2, h3, h4, h5⟩ := h.2 a ha
  have hl : ∀ x, x ∈ cv a → x < 16 := eChn_16 _ h1
  refine ⟨⟨eChn_c _ (fun x hx => hq 43 x (eDb (hl x hx))) h1, h9⟩, h2, fun i x hx => ?_, fun x hx => ?_, fun h6 => h5 ?_⟩
  · have h6 := h3 i x hx
    unfold eO at *
    rw [hm (53 + 9 * x + 6) (by omega), hm (53 + 9 * x + 7) (by omega)]
    exact h6
  · have h6 := h4 x hx
    have h7 := hl x hx
    unfold eO at *
    rw [hq 41 x (eDb h7), hq 35 x (eDb h7), hq 35 a (eDb (by omega)), hm (53 + 9 * x + 3) (by omega), hm (53 + 9 * a + 3) (by omega)]
    exact h6
  · rw [← hq 35 a (eDb (by omega))]
    exact h6
theorem eC_q {G H : zF} {M N : Nat → Int32} {n m t T B : Nat} {cv : Nat → List Nat} (hq : eQ G H) (hm : eM M N) (h : eC G M n m t T B cv) : eC H N n m t T B cv := by
  obtain ⟨h1, h2, h3, h4, h5⟩ := h
  have hn := h1.1.1
  have hm5 := h1.1.2.1
  exact ⟨eS_q hq hm h1, eRe_q hm5 hq hm h2, eLo_q hm5 hq hm h3, eSh_q hn hq hm h4, eCv_q hn hq hm h5⟩
theorem eCan_q {G H : zF} {M N : Nat → Int32} (hq : eQ G H) (hm : eM M N) (h : eCan G M) : eCan H N := by
  obtain ⟨n, m, t, cv, h1⟩ := h
  exact ⟨n, m, t, cv, eC_q hq hm h1⟩
theorem eM_r (M : Nat → Int32) : eM M M := fun _ _ => rfl
theorem eQ_r (G : zF) : eQ G G := fun _ _ _ => rfl
theorem eDom_44 {c i : Nat} (h : eDom c i = true) : c < 44 := by
  unfold eDom at h
  split at h <;> first | omega | cases h
theorem eQ_44 {G H : zF} (h : ∀ c, c < 44 → H c = G c) : eQ G H := fun c i h1 => by rw [h c (eDom_44 h1)]
/-- the reference's convoys -/
theorem eCv_m {G F : zF} {n : Nat} {cv : Nat → List Nat} (hn : n ≤ 16) (h : eCv G (F 1) n cv) {a : Nat} (ha : a < n) : mCv F n a (cv a) := by
  obtain ⟨⟨h1, h9⟩, h2, h3, h4, h5⟩ := h.2 a ha
  refine ⟨h9, fun s hs => ⟨fun h6 => ?_, fun h6 => ?_⟩, fun i x hx => ⟨(h3 i x hx).1, (h3 i x hx).2.2⟩⟩
  · obtain ⟨b, hb, hsb⟩ := h.1 s hs
    obtain ⟨i, hi⟩ := List.mem_iff_getElem?.mp hsb
    have g1 := ((h.2 b hb).2.2.1 i s hi).2.1
    have g2 : nI b = nI a := g1.symm.trans h6
    rw [nI_eq (by omega) (by omega)] at g2
    rw [← g2]
    exact hsb
  · obtain ⟨i, hi⟩ := List.mem_iff_getElem?.mp h6
    exact (h3 i s hi).2.1
end ZE1

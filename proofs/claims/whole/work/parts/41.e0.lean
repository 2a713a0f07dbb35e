/-! THE PURE PART: numbers, rows, chains of ships -/
section ZE0
theorem zrd_k {n k : Nat} (f : Nat → Int32) (h : k < n) (hn : n < 2 ^ 31) : zrd n f (nI k) = f k := by
  unfold zrd
  rw [if_neg (nI_pos (by omega)), if_pos (show nI k < Int32.ofNat n from nI_lt h hn), nI_clamp (by omega)]
theorem zrd_m (n : Nat) (f : Nat → Int32) : zrd n f (-1) = 0 := by
  unfold zrd
  rw [if_pos (by decide)]
theorem zwr_k {n k : Nat} (F : zF) (j : Nat) (v : Int32) (h : k < n) (hn : n < 2 ^ 31) : zwr n F j (nI k) v = zup F j k v := by
  unfold zwr
  rw [if_neg (nI_pos (by omega)), if_pos (show nI k < Int32.ofNat n from nI_lt h hn), nI_clamp (by omega)]
theorem zwr_m (n : Nat) (F : zF) (j : Nat) (v : Int32) : zwr n F j (-1) v = F := by
  unfold zwr
  rw [if_pos (by decide)]
theorem nI_divc {a b : Nat} (ha : a < 2 ^ 31) (hb : b < 2 ^ 31) : nI a / nI b = nI (a / b) := (Int32.ofNat_div ha hb).symm
theorem nI_nm {a : Nat} (h : a < 2 ^ 31) : ¬ nI a = -1 := by
  intro h1
  have h2 := congrArg Int32.toInt h1
  rw [nI_toInt h] at h2
  have h3 : (-1 : Int32).toInt = -1 := rfl
  omega
theorem nI_m1 {a : Nat} (h : 1 ≤ a) : nI a - 1 = nI (a - 1) := by
  rw [show (1 : Int32) = nI 1 from rfl, nI_subc h]
/-- the first of a list, -1 of none -/
def eHd : List Nat → Int32
  | [] => -1
  | x :: _ => nI x
/-- the ships of a list stand in the class's chain -/
def eChn (G : zF) : List Nat → Prop
  | [] => True
  | x :: t => x < 16 ∧ G 43 x = eHd t ∧ eChn G t
theorem eChn_c {G H : zF} : ∀ (L : List Nat), (∀ x, x ∈ L → H 43 x = G 43 x) → eChn G L → eChn H L
  | [], _, _ => True.intro
  | x :: t, e, h => ⟨h.1, (e x List.mem_cons_self).trans h.2.1, eChn_c t (fun y hy => e y (List.mem_cons_of_mem _ hy)) h.2.2⟩
theorem eChn_16 {G : zF} : ∀ (L : List Nat), eChn G L → ∀ x, x ∈ L → x < 16
  | [], _, x, hx => nomatch hx
  | y :: t, h, x, hx => by
    rcases List.mem_cons.mp hx with h1 | h1
    · rw [h1]; exact h.1
    · exact eChn_16 t h.2.2 x h1
theorem eHd_m {x : Nat} {t : List Nat} (h : x < 16) : ¬ eHd (x :: t) = -1 := nI_nm (by omega)
theorem eNx_k {G : zF} {x : Nat} {t : List Nat} (h : eChn G (x :: t)) : qNx G (nI x) = eHd t := by
  unfold qNx
  rw [zrd_k _ h.1 (by decide)]
  exact h.2.1
theorem eLenC {G : zF} : ∀ (f : Nat) (L : List Nat), eChn G L → L.length ≤ f → qLenC G f (eHd L) = L.length
  | 0, [], _, _ => rfl
  | 0, x :: t, _, h => absurd h (by simp)
  | f + 1, [], _, _ => by
    unfold qLenC
    exact if_pos rfl
  | f + 1, x :: t, hc, h => by
    unfold qLenC
    rw [if_neg (eHd_m hc.1)]
    have ih := eLenC f t hc.2.2 (by simpa using h)
    rw [show qNx G (eHd (x :: t)) = eHd t from eNx_k hc, ih]
    rfl
theorem eNth {G : zF} (p : Nat) (hp : p < 2 ^ 31) : ∀ (f k : Nat) (L : List Nat), eChn G L → L.length ≤ f → k ≤ p → qNth G (nI p) f k (eHd L) = eHd (L.drop (p - k))
  | 0, k, [], _, _, _ => by simp [qNth, eHd]
  | 0, k, x :: t, _, h, _ => absurd h (by simp)
  | f + 1, k, [], _, _, _ => by
    unfold qNth
    rw [if_pos (show eHd [] = -1 from rfl), List.drop_nil]
    rfl
  | f + 1, k, x :: t, hc, h, hk => by
    unfold qNth
    rw [if_neg (eHd_m hc.1)]
    by_cases h1 : k = p
    · rw [if_pos (by rw [h1]), h1, Nat.sub_self]
      rfl
    · rw [if_neg (fun h2 => h1 ((nI_eq (by omega) hp).mp h2))]
      have ih := eNth p hp f (k + 1) t hc.2.2 (by simpa using h) (by omega)
      rw [show qNx G (eHd (x :: t)) = eHd t from eNx_k hc, ih, show p - k = (p - (k + 1)) + 1 by omega]
      rfl
theorem eNthn {G : zF} (x : Int32) : ∀ (f k : Nat) (L : List Nat), eChn G L → L.length ≤ f → (∀ j, k ≤ j → j < k + L.length → ¬ nI j = x) → qNth G x f k (eHd L) = -1
  | 0, k, L, _, _, _ => rfl
  | f + 1, k, [], _, _, _ => by
    unfold qNth
    rw [if_pos (show eHd [] = -1 from rfl)]
  | f + 1, k, y :: t, hc, h, hn => by
    unfold qNth
    rw [if_neg (eHd_m hc.1), if_neg (hn k (Nat.le_refl _) (by simp))]
    rw [show qNx G (eHd (y :: t)) = eHd t from eNx_k hc]
    exact eNthn x f (k + 1) t hc.2.2 (by simpa using h) (fun j h1 h2 => hn j (by omega) (by rw [List.length_cons]; omega))
def eMx (G : zF) : List Nat → Int32 → Int32
  | [], a => a
  | x :: t, a => eMx G t (imax a (G 31 x))
theorem eGr {G : zF} : ∀ (f : Nat) (L : List Nat) (a : Int32), eChn G L → L.length ≤ f → qGr G f (eHd L) a = eMx G L a
  | 0, [], _, _, _ => rfl
  | 0, x :: t, _, _, h => absurd h (by simp)
  | f + 1, [], a, _, _ => by
    unfold qGr
    exact if_pos rfl
  | f + 1, x :: t, a, hc, h => by
    unfold qGr
    rw [if_neg (eHd_m hc.1)]
    rw [show qNx G (eHd (x :: t)) = eHd t from eNx_k hc, show qRk G (eHd (x :: t)) = G 31 x from zrd_k _ hc.1 (by decide)]
    exact eGr f t _ hc.2.2 (by simpa using h)
/-- v at every place of the list, in cell c -/
def eSt (c : Nat) (v : Int32) (L : List Nat) (G : zF) : zF := fun a b => if a = c ∧ b ∈ L then v else G a b
theorem eSt_nil (c : Nat) (v : Int32) (G : zF) : eSt c v [] G = G := by
  funext a b
  unfold eSt
  rw [if_neg (fun h => nomatch h.2)]
theorem eSt_cons (c : Nat) (v : Int32) (x : Nat) (t : List Nat) (G : zF) : eSt c v t (zup G c x v) = eSt c v (x :: t) G := by
  funext a b
  unfold eSt zup
  by_cases h1 : a = c
  · by_cases h2 : b ∈ t
    · rw [if_pos ⟨h1, h2⟩, if_pos ⟨h1, List.mem_cons_of_mem _ h2⟩]
    · rw [if_neg (fun h => h2 h.2), if_pos h1]
      by_cases h3 : b = x
      · rw [if_pos h3, if_pos ⟨h1, by rw [h3]; exact List.mem_cons_self⟩]
      · rw [if_neg h3, if_neg (fun h => (List.mem_cons.mp h.2).elim h3 h2)]
  · rw [if_neg (fun h => h1 h.1), if_neg h1, if_neg (fun h => h1 h.1)]
theorem eSt_ne (c : Nat) (v : Int32) (L : List Nat) (G : zF) {a : Nat} (h : a ≠ c) : eSt c v L G a = G a := by
  funext b
  unfold eSt
  rw [if_neg (fun h1 => h h1.1)]
theorem eSt_in (c : Nat) (v : Int32) (L : List Nat) (G : zF) {b : Nat} (h : b ∈ L) : eSt c v L G c b = v := by
  unfold eSt
  rw [if_pos ⟨rfl, h⟩]
theorem eSt_out (c : Nat) (v : Int32) (L : List Nat) (G : zF) {b : Nat} (h : ¬ b ∈ L) : eSt c v L G c b = G c b := by
  unfold eSt
  rw [if_neg (fun h1 => h h1.2)]
theorem eNm (h : Int32) : ∀ (f : Nat) (G : zF) (L : List Nat), eChn G L → L.length ≤ f → qNm h f G (eHd L) = eSt 41 h L G
  | 0, G, [], _, _ => (eSt_nil 41 h G).symm
  | 0, G, x :: t, _, h1 => absurd h1 (by simp)
  | f + 1, G, [], _, _ => by
    unfold qNm
    rw [if_pos (show eHd [] = -1 from rfl), eSt_nil]
  | f + 1, G, x :: t, hc, h1 => by
    unfold qNm
    rw [if_neg (eHd_m hc.1)]
    have e : zwr 16 G 41 (eHd (x :: t)) h = zup G 41 x h := zwr_k _ _ _ hc.1 (by decide)
    have hc2 : eChn (zup G 41 x h) (x :: t) := eChn_c _ (fun y _ => by rw [zup_ne _ _ _ (by decide)]) hc
    rw [e, show qNx (zup G 41 x h) (eHd (x :: t)) = eHd t from eNx_k hc2, eNm h f _ t hc2.2.2 (by simpa using h1), eSt_cons]
theorem eHd_drop (L : List Nat) (i : Nat) : eHd (L.drop i) = match L[i]? with
    | some y => nI y
    | none => -1 := by
  induction L generalizing i with
  | nil => simp [eHd]
  | cons x t ih => cases i with
    | zero => rfl
    | succ i => simpa using ih i
end ZE0

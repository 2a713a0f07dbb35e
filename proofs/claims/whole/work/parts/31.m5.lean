/-! the reference's convoys are broken; a row is locked -/
section ZM5
set_option maxRecDepth 20000
theorem mCv_c {F G : zF} (e : G 1 = F 1) {n h : Nat} {L : List Nat} (c : mCv F n h L) : mCv G n h L := by
  unfold mCv mOf at *
  rw [e]
  exact c
theorem mCv_ship {F : zF} {n h : Nat} {L : List Nat} (c : mCv F n h L) (hn : n ≤ 16) {i x : Nat} (hx : L[i]? = some x) : x < 16 ∧ mOf F x 6 = nI h ∧ mOf F x 7 = nI i ∧ ∀ j, j < x → ¬ (mOf F j 6 = nI h ∧ mOf F j 7 = nI i) := by
  have h16 := mCv_16 c hn
  have h3 := c.2.2 i x hx
  have hi : i < L.length := (List.getElem?_eq_some_iff.mp hx).1
  refine ⟨by omega, (c.2.1 x h3.1).mpr (List.mem_of_getElem? hx), h3.2, fun j hj h7 => ?_⟩
  have h8 := (c.2.1 j (by omega)).mp h7.1
  obtain ⟨i2, hi2⟩ := List.mem_iff_getElem?.mp h8
  have h9 := (c.2.2 i2 j hi2).2
  have h10 : i2 < L.length := (List.getElem?_eq_some_iff.mp hi2).1
  rw [h7.2, nI_eq (by omega) (by omega)] at h9
  rw [← h9, hx] at hi2
  cases hi2
  omega
def mSa (F : zF) (s j : Nat) : zF := zup (zup F 1 (53 + 9 * s + 6) 16) 1 (53 + 9 * s + 7) (nI j)
def mSp1 (F : zF) : List Nat → Nat → zF
  | [], _ => F
  | s :: t, j => mSp1 (mSa F s j) t (j + 1)
def mSp2 (F : zF) (f : Nat) : Nat → zF
  | 0 => F
  | k + 1 => if mOf (mSp2 F f k) k 6 = 16 then zup (mSp2 F f k) 1 (53 + 9 * k + 6) (nI f) else mSp2 F f k
def mSpl (F : zF) (n : Nat) (L : List Nat) (r : Nat) : zF := match L.drop r with
  | [] => F
  | f :: t => mSp2 (mSp1 F (f :: t) 0) f n
theorem mSp1_ne {c : Nat} (hc : c ≠ 1) : ∀ (t : List Nat) (F : zF) (j : Nat), mSp1 F t j c = F c
  | [], _, _ => rfl
  | s :: t, F, j => by
    show mSp1 (mSa F s j) t (j + 1) c = F c
    rw [mSp1_ne hc t]
    unfold mSa
    rw [zup_ne _ _ _ hc, zup_ne _ _ _ hc]
theorem mSp2_ne (F : zF) (f : Nat) {c : Nat} (hc : c ≠ 1) : ∀ n, mSp2 F f n c = F c
  | 0 => rfl
  | n + 1 => by
    unfold mSp2
    split
    · rw [zup_ne _ _ _ hc, mSp2_ne F f hc n]
    · exact mSp2_ne F f hc n
theorem mSpl_ne (F : zF) (n : Nat) (L : List Nat) (r : Nat) {c : Nat} (hc : c ≠ 1) : mSpl F n L r c = F c := by
  unfold mSpl
  cases L.drop r with
  | nil => rfl
  | cons f t =>
    show mSp2 (mSp1 F (f :: t) 0) f n c = F c
    rw [mSp2_ne _ _ hc, mSp1_ne hc]
theorem mSa_lo (F : zF) (s j : Nat) {i : Nat} (h : i < 53) : mSa F s j 1 i = F 1 i := by
  unfold mSa
  rw [zup_an _ _ _ (by omega), zup_an _ _ _ (by omega)]
theorem mSp1_lo {i : Nat} (h : i < 53) : ∀ (t : List Nat) (F : zF) (j : Nat), mSp1 F t j 1 i = F 1 i
  | [], _, _ => rfl
  | s :: t, F, j => by
    show mSp1 (mSa F s j) t (j + 1) 1 i = F 1 i
    rw [mSp1_lo h t, mSa_lo F s j h]
theorem mSp2_lo (F : zF) (f : Nat) {i : Nat} (h : i < 53) : ∀ n, mSp2 F f n 1 i = F 1 i
  | 0 => rfl
  | n + 1 => by
    unfold mSp2
    split
    · rw [zup_an _ _ _ (by omega), mSp2_lo F f h n]
    · exact mSp2_lo F f h n
theorem mSpl_lo (F : zF) (n : Nat) (L : List Nat) (r : Nat) {i : Nat} (h : i < 53) : mSpl F n L r 1 i = F 1 i := by
  unfold mSpl
  cases L.drop r with
  | nil => rfl
  | cons f t =>
    show mSp2 (mSp1 F (f :: t) 0) f n 1 i = F 1 i
    rw [mSp2_lo _ _ h, mSp1_lo h]
theorem mSa_s6 (F : zF) (s j : Nat) : mOf (mSa F s j) s 6 = 16 := by
  unfold mSa mOf
  rw [zup_an _ _ _ (by omega), zup_at]
theorem mSa_o (F : zF) (s j : Nat) {x w : Nat} (hx : x ≠ s) (hw : w < 9) : mOf (mSa F s j) x w = mOf F x w := by
  unfold mSa mOf
  rw [zup_an _ _ _ (by omega), zup_an _ _ _ (by omega)]
def sX9_splits : zSp := fun as F ok _ => match as with
  | [.ref 0, .int x, .int f] => ∃ h n L r, x = nI h ∧ f = nI r ∧ h < 16 ∧ n ≤ 16 ∧ r < 17 ∧ F 1 2 = nI n ∧ mCv F n h L ∧ ok none (mSpl F n L r)
  | _ => False

def kX9_splits : List zI := [
  (0, 1, .aload_n 0, [], 0),
  (1, 1, .iload_n 1, [], 0),
  (2, 3, .invokevirtual 139, [], 0),
  (5, 1, .istore_n 3, [], 0),
  (6, 1, .iload_n 2, [], 0),
  (7, 1, .iload_n 3, [], 0),
  (8, 3, .if_icmp .lt 4, [12], 0),
  (11, 1, .return_, [], 0),
  (12, 1, .aload_n 0, [], 0),
  (13, 1, .iload_n 1, [], 0),
  (14, 1, .iload_n 2, [], 0),
  (15, 3, .invokevirtual 142, [], 0),
  (18, 2, .istore 4, [], 0),
  (20, 1, .iload_n 2, [], 0),
  (21, 2, .istore 5, [], 0),
  (23, 2, .iload 5, [], 0),
  (25, 1, .iload_n 3, [], 0),
  (26, 3, .if_icmp .ge 51, [77], 0),
  (29, 2, .iload 5, [], 0),
  (31, 1, .iload_n 2, [], 0),
  (32, 3, .if_icmp .ne 8, [40], 0),
  (35, 2, .iload 4, [], 0),
  (37, 3, .goto 10, [47], 0),
  (40, 1, .aload_n 0, [], 0),
  (41, 1, .iload_n 1, [], 0),
  (42, 2, .iload 5, [], 0),
  (44, 3, .invokevirtual 142, [], 0),
  (47, 2, .istore 6, [], 0),
  (49, 1, .aload_n 0, [], 0),
  (50, 2, .iload 6, [], 0),
  (52, 2, .bipush 6, [], 6),
  (54, 2, .bipush 16, [], 16),
  (56, 3, .invokevirtual 106, [], 0),
  (59, 1, .aload_n 0, [], 0),
  (60, 2, .iload 6, [], 0),
  (62, 2, .bipush 7, [], 7),
  (64, 2, .iload 5, [], 0),
  (66, 1, .iload_n 2, [], 0),
  (67, 1, .isub, [], 0),
  (68, 3, .invokevirtual 106, [], 0),
  (71, 3, .iinc 5 1, [], 1),
  (74, 3, .goto (-51), [23], 0),
  (77, 1, .iconst 0, [], 0),
  (78, 2, .istore 5, [], 0),
  (80, 2, .iload 5, [], 0),
  (82, 1, .aload_n 0, [], 0),
  (83, 3, .getfield 9, [], 0),
  (86, 1, .iconst 2, [], 2),
  (87, 1, .iaload, [], 0),
  (88, 3, .if_icmp .ge 32, [120], 0),
  (91, 1, .aload_n 0, [], 0),
  (92, 2, .iload 5, [], 0),
  (94, 2, .bipush 6, [], 6),
  (96, 3, .invokevirtual 75, [], 0),
  (99, 2, .bipush 16, [], 16),
  (101, 3, .if_icmp .ne 13, [114], 0),
  (104, 1, .aload_n 0, [], 0),
  (105, 2, .iload 5, [], 0),
  (107, 2, .bipush 6, [], 6),
  (109, 2, .iload 4, [], 0),
  (111, 3, .invokevirtual 106, [], 0),
  (114, 3, .iinc 5 1, [], 1),
  (117, 3, .goto (-37), [80], 0),
  (120, 1, .return_, [], 0)]
theorem kX9_splits_ok : kX9_splits.all (zck cX9_splits) = true := by decide +kernel

def rX9_splits : Room := { frames := 2, cells := 0, slots := 0, locals := 45 }
abbrev YX9_splits : zM := (RX9, cX9_splits, 7, none, rX9_splits, UM, zlk fX9, zcs [(139, 2, 0, 0, zvs (UM) 9 (sX9_sizeOf)), (142, 3, 0, 0, zvs (UM) 9 (sX9_shipIn)), (106, 4, 0, 0, zvs (UM) 9 (sX9_puts)), (75, 3, 0, 0, zvs (UM) 9 (sX9_of))] [])
theorem YX9_splits_ok : zYok (YX9_splits) := zYok_of fX9_ok (zall (zcal_mono (zcalV (Y := YX9_splits) (y := yX9_sizeOf) (cc := cX9_sizeOf) (nL := 4) (ret := some .int) (rm := rX9_sizeOf) (mX9_sizeOf) 139 1 9 (T := TX9) rfl wX9_139 ⟨by decide +kernel, by decide +kernel, by decide +kernel⟩ (by decide) ⟨Nat.le_of_ble_eq_true rfl, Nat.le_of_ble_eq_true rfl⟩) (fun _ _ _ _ h => zvs_P h)) (zall (zcal_mono (zcalV (Y := YX9_splits) (y := yX9_shipIn) (cc := cX9_shipIn) (nL := 4) (ret := some .int) (rm := rX9_shipIn) (mX9_shipIn) 142 2 9 (T := TX9) rfl wX9_142 ⟨by decide +kernel, by decide +kernel, by decide +kernel⟩ (by decide) ⟨Nat.le_of_ble_eq_true rfl, Nat.le_of_ble_eq_true rfl⟩) (fun _ _ _ _ h => zvs_P h)) (zall (zcal_mono (zcalV (Y := YX9_splits) (y := yX9_puts) (cc := cX9_puts) (nL := 4) (ret := none) (rm := rX9_puts) (mX9_puts) 106 3 9 (T := TX9) rfl wX9_106 ⟨by decide +kernel, by decide +kernel, by decide +kernel⟩ (by decide) ⟨Nat.le_of_ble_eq_true rfl, Nat.le_of_ble_eq_true rfl⟩) (fun _ _ _ _ h => zvs_P h)) (zall (zcal_mono (zcalV (Y := YX9_splits) (y := yX9_of) (cc := cX9_of) (nL := 3) (ret := some .int) (rm := rX9_of) (mX9_of) 75 2 9 (T := TX9) rfl wX9_75 ⟨by decide +kernel, by decide +kernel, by decide +kernel⟩ (by decide) ⟨Nat.le_of_ble_eq_true rfl, Nat.le_of_ble_eq_true rfl⟩) (fun _ _ _ _ h => zvs_P h)) znil)))) znil

theorem lX9_spl2 (ok : zO) (ex : zX) (F : zF) (n f : Nat) (hn : n ≤ 16) (h0 : F 1 2 = nI n) (h : ok none (mSp2 F f n)) (a b c : Int32) : ∀ (d k : Nat) (w : Option Value), k + d = n → zWP YX9_splits ok ex 80 [some (.ref 0), some (.int a), some (.int b), some (.int c), some (.int (nI f)), some (.int (nI k)), w] [] 0 0 (mSp2 F f k) := by
  intro d
  induction d with
  | zero =>
    intro k w hk
    have hk : k = n := hk
    subst hk
    refine zat_ok YX9_splits_ok (inv := zi2 23 (fun ls st kc ks G => zWP YX9_splits ok ex 23 ls st kc ks G) 80 (fun ls st kc ks G => zWP YX9_splits ok ex 80 ls st kc ks G)) (ztwo (fun _ _ _ _ _ h => h) (fun _ _ _ _ _ h => h)) kX9_splits (List.all_eq_true.mp kX9_splits_ok) 80 _ _ _ _ _ ?_
    refine Exists.intro (zix (k := 2) rfl (by decide) (by decide)) ?_
    refine And.intro (fun _ => h) (fun h1 => absurd ?_ h1)
    show mSp2 F f k 1 2 ≤ nI k
    rw [mSp2_lo F f (by decide), h0]
    exact nI_le (Nat.le_refl _) (by omega)
  | succ d ih =>
    intro k w hk
    have ih := ih (k + 1) w (by omega)
    rw [← nI_1 k] at ih
    refine zat_ok YX9_splits_ok (inv := zi2 23 (fun ls st kc ks G => zWP YX9_splits ok ex 23 ls st kc ks G) 80 (fun ls st kc ks G => zWP YX9_splits ok ex 80 ls st kc ks G)) (ztwo (fun _ _ _ _ _ h => h) (fun _ _ _ _ _ h => h)) kX9_splits (List.all_eq_true.mp kX9_splits_ok) 80 _ _ _ _ _ ?_
    refine Exists.intro (zix (k := 2) rfl (by decide) (by decide)) ?_
    refine And.intro (fun h1 => absurd ?_ (nI_ge (a := k) (b := n) (by omega) (by omega))) (fun h1 => ?_)
    · have h1 : mSp2 F f k 1 2 ≤ nI k := h1
      rw [mSp2_lo F f (by decide), h0] at h1
      exact h1
    refine ⟨k, 6, rfl, rfl, by omega, by decide, ?_⟩
    refine And.intro (fun h2 => ?_) (fun h2 => ?_)
    · have h2 : ¬ mOf (mSp2 F f k) k 6 = 16 := h2
      have h3 : mSp2 F f (k + 1) = mSp2 F f k := if_neg h2
      rw [h3] at ih
      exact ih
    · have h2 : mOf (mSp2 F f k) k 6 = 16 := h2
      have h3 : mSp2 F f (k + 1) = zup (mSp2 F f k) 1 (53 + 9 * k + 6) (nI f) := if_pos h2
      rw [h3] at ih
      refine ⟨k, 6, rfl, rfl, by omega, by decide, ?_⟩
      exact ih
theorem lX9_spl1 (ok : zO) (ex : zX) (F : zF) (t n f r : Nat) (L : List Nat) (ht : t < 16) (hn : n ≤ 16) (h0 : F 1 2 = nI n) (c : mCv F n t L) (hf : L[r]? = some f) : ∀ (rest : List Nat) (j : Nat) (G : zF) (w : Option Value), r + j + rest.length = L.length → (∀ i, rest[i]? = L[r + j + i]?) → G 1 2 = nI n →
    (∀ i x, L[i]? = some x → r ≤ i → i < r + j → mOf G x 6 = 16) → (∀ x, (∀ i, r ≤ i → i < r + j → L[i]? ≠ some x) → mOf G x 6 = mOf F x 6 ∧ mOf G x 7 = mOf F x 7) → ok none (mSp2 (mSp1 G rest j) f n) →
    zWP YX9_splits ok ex 23 [some (.ref 0), some (.int (nI t)), some (.int (nI r)), some (.int (nI L.length)), some (.int (nI f)), some (.int (nI (r + j))), w] [] 0 0 G := by
  have h16 := mCv_16 c hn
  intro rest
  induction rest with
  | nil =>
    intro j G w hl hr hG h1 h2 h
    have hl : r + j = L.length := hl
    refine zat_ok YX9_splits_ok (inv := zi2 23 (fun ls st kc ks G => zWP YX9_splits ok ex 23 ls st kc ks G) 80 (fun ls st kc ks G => zWP YX9_splits ok ex 80 ls st kc ks G)) (ztwo (fun _ _ _ _ _ h => h) (fun _ _ _ _ _ h => h)) kX9_splits (List.all_eq_true.mp kX9_splits_ok) 23 _ _ _ _ _ ?_
    refine And.intro (fun _ => ?_) (fun h3 => absurd (by rw [hl]; exact nI_le (Nat.le_refl _) (by omega)) h3)
    exact lX9_spl2 ok ex G n f hn hG h _ _ _ n 0 _ (Nat.zero_add _)
  | cons x u ih =>
    intro j G w hl hr hG h1 h2 h
    have hl2 : r + j + (u.length + 1) = L.length := by rw [← hl, List.length_cons]
    have hx : L[r + j]? = some x := by
      have h3 := hr 0
      rw [Nat.add_zero] at h3
      rw [← h3]
      rfl
    have h3 := mCv_ship c hn hx
    have hnew : ∀ i, r ≤ i → i < r + j → L[i]? ≠ some x := by
      intro i hi1 hi2 hi3
      have h4 := (c.2.2 i x hi3).2
      rw [h3.2.2.1, nI_eq (by omega) (by omega)] at h4
      omega
    have ih := ih (j + 1) (mSa G x j) (some (.int (nI x))) (by omega) (fun i => by
      have h4 := hr (i + 1)
      rw [List.getElem?_cons_succ] at h4
      rw [h4]
      congr 1
      omega) (by rw [mSa_lo G x j (by decide)]; exact hG) (fun i y hy hi1 hi2 => by
      by_cases h5 : y = x
      · rw [h5]
        exact mSa_s6 G x j
      · rw [mSa_o G x j h5 (by decide)]
        refine h1 i y hy hi1 ?_
        rcases Nat.lt_or_ge i (r + j) with h6 | h6
        · exact h6
        · have h7 : i = r + j := by omega
          rw [h7, hx] at hy
          cases hy
          exact absurd rfl h5) (fun y hy => by
      have h5 : y ≠ x := fun h6 => hy (r + j) (by omega) (by omega) (by rw [h6]; exact hx)
      rw [mSa_o G x j h5 (by decide), mSa_o G x j h5 (by decide)]
      exact h2 y (fun i hi1 hi2 => hy i hi1 (by omega))) h
    rw [show r + (j + 1) = (r + j) + 1 from rfl, ← nI_1] at ih
    have hq : nI (r + j) - nI r = nI j := by
      rw [nI_subc (by omega), Nat.add_sub_cancel_left]
    have fin : zWP YX9_splits ok ex 23 [some (.ref 0), some (.int (nI t)), some (.int (nI r)), some (.int (nI L.length)), some (.int (nI f)), some (.int (nI (r + j) + 1)), some (.int (nI x))] [] 0 0 (zup (zup G 1 (53 + 9 * x + 6) 16) 1 (53 + 9 * x + 7) (nI (r + j) - nI r)) := by
      rw [hq]
      exact ih
    refine zat_ok YX9_splits_ok (inv := zi2 23 (fun ls st kc ks G => zWP YX9_splits ok ex 23 ls st kc ks G) 80 (fun ls st kc ks G => zWP YX9_splits ok ex 80 ls st kc ks G)) (ztwo (fun _ _ _ _ _ h => h) (fun _ _ _ _ _ h => h)) kX9_splits (List.all_eq_true.mp kX9_splits_ok) 23 _ _ _ _ _ ?_
    refine And.intro (fun h4 => absurd h4 (nI_ge (a := r + j) (b := L.length) (by omega) (by omega))) (fun _ => ?_)
    refine And.intro (fun h4 => ?_) (fun h4 => ?_)
    · have h5 := h2 x hnew
      refine ⟨x, h3.1, ?_, ?_, fun y hy h6 => ?_, ?_⟩
      · rw [h5.1]
        exact h3.2.1
      · rw [h5.2]
        exact h3.2.2.1
      · by_cases h7 : ∃ i, r ≤ i ∧ i < r + j ∧ L[i]? = some y
        · obtain ⟨i, hi1, hi2, hi3⟩ := h7
          have h8 := h1 i y hi3 hi1 hi2
          rw [h6.1] at h8
          have h9 := (nI_eq (a := t) (b := 16) (by omega) (by decide)).mp h8
          omega
        · have h8 := h2 y (fun i hi1 hi2 hi3 => h7 ⟨i, hi1, hi2, hi3⟩)
          rw [h8.1, h8.2] at h6
          exact h3.2.2.2 y hy h6
      refine ⟨x, 6, rfl, rfl, h3.1, by decide, ?_⟩
      refine ⟨x, 7, rfl, rfl, h3.1, by decide, ?_⟩
      exact fin
    · have h4 : nI (r + j) = nI r := h4
      have h5 := (nI_eq (a := r + j) (b := r) (by omega) (by omega)).mp h4
      have h6 : j = 0 := by omega
      have h7 : f = x := by
        rw [h5, hf] at hx
        exact Option.some.inj hx
      refine ⟨x, 6, by rw [h7], rfl, h3.1, by decide, ?_⟩
      refine ⟨x, 7, by rw [h7], rfl, h3.1, by decide, ?_⟩
      rw [← h7] at fin
      rw [h7] at fin ⊢
      exact fin

theorem mX9_splits : zMet (UM) yX9_splits cX9_splits 7 (none) rX9_splits (sX9_splits) := by
  refine zmet (Y := YX9_splits) rfl (by decide +kernel) ?_
  intro av F ok ex h
  unfold sX9_splits at h
  split at h
  · rename_i x f
    refine zgo_ok (YX9_splits_ok) (inv := zi2 23 (fun ls st kc ks G => zWP YX9_splits ok ex 23 ls st kc ks G) 80 (fun ls st kc ks G => zWP YX9_splits ok ex 80 ls st kc ks G)) (ztwo (fun _ _ _ _ _ h => h) (fun _ _ _ _ _ h => h)) kX9_splits (List.all_eq_true.mp kX9_splits_ok) 0 _ _ _ _ _ ?_
    obtain ⟨t, n, L, r, rfl, rfl, ht, hn, hr, h0, c, h⟩ := h
    have h2 := mCv_sz c
    have h16 := mCv_16 c hn
    unfold mSpl at h
    refine ⟨n, hn, h0, ?_⟩
    rw [h2]
    refine And.intro (fun h3 => ?_) (fun h3 => ?_)
    · have h3 : nI r < nI L.length := h3
      have h4 : r < L.length := (nI_ltI (by omega) (by omega)).mp h3
      obtain ⟨f, hf⟩ : ∃ f, L[r]? = some f := ⟨L[r], List.getElem?_eq_getElem h4⟩
      have h5 : L.drop r = f :: L.drop (r + 1) := by
        rw [List.drop_eq_getElem_cons h4]
        rw [List.getElem?_eq_getElem h4] at hf
        rw [Option.some.inj hf]
      rw [h5] at h
      have h6 := mCv_ship c hn hf
      refine ⟨f, h6.1, h6.2.1, h6.2.2.1, h6.2.2.2, ?_⟩
      exact lX9_spl1 ok ex F t n f r L ht hn h0 c hf (f :: L.drop (r + 1)) 0 F none (by rw [← h5, List.length_drop]; omega) (fun i => by rw [← h5, List.getElem?_drop]; rfl) h0 (fun i x _ h7 h8 => absurd h8 (by omega)) (fun x _ => ⟨rfl, rfl⟩) h
    · have h3 : ¬ nI r < nI L.length := h3
      have h4 : ¬ r < L.length := fun h5 => h3 ((nI_ltI (by omega) (by omega)).mpr h5)
      rw [List.drop_eq_nil_of_le (by omega)] at h
      exact h
  · exact h.elim

end ZM5

/-! the reference's order of the convoys at a lock -/
section ZM4
set_option maxRecDepth 20000
theorem mMost_c {F G : zF} (e : G 1 = F 1) (h : Int32) : ∀ n, mMost G h n = mMost F h n
  | 0 => rfl
  | n + 1 => by
    have h1 : mOf G n 6 = mOf F n 6 := by unfold mOf; rw [e]
    have h2 : mOf G n 2 = mOf F n 2 := by unfold mOf; rw [e]
    show (if mOf G n 6 = h then imax (mMost G h n) (mOf G n 2) else mMost G h n) = (if mOf F n 6 = h then imax (mMost F h n) (mOf F n 2) else mMost F h n)
    rw [mMost_c e h n, h1, h2]
theorem mWd_c {F G : zF} (e : G 1 = F 1) (s : Nat) : mWd G s = mWd F s := by
  unfold mWd mOf
  rw [e]
theorem mPr_c {F G : zF} (e : G 1 = F 1) (n s : Nat) : mPr G n s = mPr F n s := by
  unfold mPr
  rw [mMost_c e, mWd_c e, e]
def mInR (F : zF) (n s : Nat) : List Nat → List Nat
  | [] => [s]
  | h :: t => if mPr F n h < mPr F n s then h :: mInR F n s t else s :: h :: t
def mOrd (F : zF) (n : Nat) (l : Int32) : Nat → List Nat
  | 0 => []
  | k + 1 => if mOf F k 6 = nI k ∧ ¬ mOf F k 4 < 0 ∧ mLk F k = l then (mInR F n k (mOrd F n l k).reverse).reverse else mOrd F n l k
theorem mInR_len (F : zF) (n s : Nat) : ∀ R, (mInR F n s R).length = R.length + 1
  | [] => rfl
  | h :: t => by
    unfold mInR
    split
    · rw [List.length_cons, mInR_len F n s t, List.length_cons]
    · rfl
theorem mInR_mem (F : zF) (n s : Nat) : ∀ R x, x ∈ mInR F n s R ↔ x = s ∨ x ∈ R
  | [], x => by simp [mInR]
  | h :: t, x => by
    unfold mInR
    split
    · rw [List.mem_cons, mInR_mem F n s t x, List.mem_cons]
      constructor
      · rintro (h1 | h1 | h1)
        · exact Or.inr (Or.inl h1)
        · exact Or.inl h1
        · exact Or.inr (Or.inr h1)
      · rintro (h1 | h1 | h1)
        · exact Or.inr (Or.inl h1)
        · exact Or.inl h1
        · exact Or.inr (Or.inr h1)
    · rw [List.mem_cons]
theorem mOrd_len (F : zF) (n : Nat) (l : Int32) : ∀ k, (mOrd F n l k).length ≤ k
  | 0 => Nat.le_refl _
  | k + 1 => by
    have h1 := mOrd_len F n l k
    unfold mOrd
    split
    · rw [List.length_reverse, mInR_len, List.length_reverse]
      omega
    · omega
theorem mOrd_lt (F : zF) (n : Nat) (l : Int32) : ∀ k, ∀ x, x ∈ mOrd F n l k → x < k
  | 0, x, h => by cases h
  | k + 1, x, h => by
    unfold mOrd at h
    split at h
    · rw [List.mem_reverse, mInR_mem, List.mem_reverse] at h
      rcases h with h1 | h1
      · omega
      · have h2 := mOrd_lt F n l k x h1
        omega
    · have h2 := mOrd_lt F n l k x h
      omega
theorem zls_put (c i0 : Nat) (hc : c ≠ 0) (F : zF) (A B : List Nat) (s : Nat) : zup (zls c i0 F (A ++ 0 :: B)) c A.length (nI s) = zls c i0 F (A ++ s :: B) := by
  funext a b
  unfold zup zls
  have hl : (A ++ 0 :: B).length = (A ++ s :: B).length := by simp
  rw [hl]
  by_cases h : a = c
  · subst h
    rw [if_pos rfl]
    by_cases h2 : b = A.length
    · subst h2
      rw [if_pos rfl, if_pos ⟨rfl, by simp⟩]
      simp
    · rw [if_neg h2]
      by_cases h3 : b < (A ++ s :: B).length
      · rw [if_pos ⟨rfl, h3⟩, if_pos ⟨rfl, h3⟩]
        congr 1
        rw [List.getD_eq_getElem?_getD, List.getD_eq_getElem?_getD]
        congr 1
        by_cases h4 : b < A.length
        · rw [List.getElem?_append_left h4, List.getElem?_append_left h4]
        · rw [List.getElem?_append_right (by omega), List.getElem?_append_right (by omega)]
          obtain ⟨d, hd⟩ : ∃ d, b - A.length = d + 1 := ⟨b - A.length - 1, by omega⟩
          rw [hd, List.getElem?_cons_succ, List.getElem?_cons_succ]
      · rw [if_neg (fun h4 => h3 h4.2), if_neg (fun h4 => hc h4.1), if_neg (fun h4 => h3 h4.2)]
  · simp [h]
theorem zls_open (c i0 : Nat) (hc : c ≠ 0) (F : zF) (L : List Nat) : zup (zls c i0 F L) 0 i0 (nI (L.length + 1)) = zup (zls c i0 F (L ++ [0])) c L.length (F c L.length) := by
  funext a b
  unfold zup zls
  rw [List.length_append, List.length_singleton]
  by_cases h : a = c
  · subst h
    rw [if_neg hc, if_pos rfl]
    by_cases h2 : b = L.length
    · subst h2
      rw [if_neg (fun h3 => absurd h3.2 (Nat.lt_irrefl _)), if_neg (fun h4 => hc h4.1), if_pos rfl]
    · rw [if_neg h2]
      by_cases h3 : b < L.length
      · rw [if_pos ⟨rfl, h3⟩, if_pos ⟨rfl, by omega⟩]
        simp [List.getElem?_append_left h3]
      · rw [if_neg (fun h4 => h3 h4.2), if_neg (fun h4 => hc h4.1), if_neg (fun h4 => h3 (by omega)), if_neg (fun h4 => hc h4.1)]
  · rw [if_neg h]
    by_cases h2 : a = 0
    · by_cases h3 : b = i0
      · rw [if_pos h2, if_pos h3, if_neg (fun h4 => h h4.1), if_pos ⟨h2, h3⟩]
      · rw [if_pos h2, if_neg h3, if_neg (fun h4 => h h4.1), if_neg (fun h4 => h3 h4.2), if_neg (fun h4 => h h4.1), if_neg (fun h4 => h3 h4.2)]
    · rw [if_neg h2, if_neg (fun h4 => h h4.1), if_neg (fun h4 => h2 h4.1), if_neg (fun h4 => h h4.1), if_neg (fun h4 => h2 h4.1)]
theorem zls_get (c i0 : Nat) (F : zF) (A B : List Nat) (s : Nat) : zls c i0 F (A ++ s :: B) c A.length = nI s := by
  unfold zls
  rw [if_pos ⟨rfl, by simp⟩]
  simp
def sX9_orders : zSp := fun as F ok _ => match as with
  | [.ref 0, .int l] => ∃ n, n ≤ 16 ∧ F 1 2 = nI n ∧ ¬ F 1 3 = 0 ∧ ok none (zls 7 14 F (mOrd F n l n))
  | _ => False

def kX9_orders : List zI := [
  (0, 1, .aload_n 0, [], 0),
  (1, 1, .iconst 0, [], 0),
  (2, 3, .putfield 100, [], 0),
  (5, 1, .iconst 0, [], 0),
  (6, 1, .istore_n 2, [], 0),
  (7, 1, .iload_n 2, [], 0),
  (8, 1, .aload_n 0, [], 0),
  (9, 3, .getfield 9, [], 0),
  (12, 1, .iconst 2, [], 2),
  (13, 1, .iaload, [], 0),
  (14, 3, .if_icmp .ge 104, [118], 0),
  (17, 1, .aload_n 0, [], 0),
  (18, 1, .iload_n 2, [], 0),
  (19, 2, .bipush 6, [], 6),
  (21, 3, .invokevirtual 75, [], 0),
  (24, 1, .iload_n 2, [], 0),
  (25, 3, .if_icmp .ne 87, [112], 0),
  (28, 1, .aload_n 0, [], 0),
  (29, 1, .iload_n 2, [], 0),
  (30, 1, .iconst 4, [], 4),
  (31, 3, .invokevirtual 75, [], 0),
  (34, 3, .ifCond .lt 78, [112], 0),
  (37, 1, .aload_n 0, [], 0),
  (38, 1, .iload_n 2, [], 0),
  (39, 3, .invokevirtual 136, [], 0),
  (42, 1, .iload_n 1, [], 0),
  (43, 3, .if_icmp .eq 6, [49], 0),
  (46, 3, .goto 66, [112], 0),
  (49, 1, .aload_n 0, [], 0),
  (50, 1, .dup, [], 0),
  (51, 3, .getfield 100, [], 0),
  (54, 1, .dup_x1, [], 0),
  (55, 1, .iconst 1, [], 1),
  (56, 1, .iadd, [], 0),
  (57, 3, .putfield 100, [], 0),
  (60, 1, .istore_n 3, [], 0),
  (61, 1, .iload_n 3, [], 0),
  (62, 3, .ifCond .le 43, [105], 0),
  (65, 1, .aload_n 0, [], 0),
  (66, 1, .aload_n 0, [], 0),
  (67, 3, .getfield 32, [], 0),
  (70, 1, .iload_n 3, [], 0),
  (71, 1, .iconst 1, [], 1),
  (72, 1, .isub, [], 0),
  (73, 1, .iaload, [], 0),
  (74, 3, .invokevirtual 156, [], 0),
  (77, 1, .aload_n 0, [], 0),
  (78, 1, .iload_n 2, [], 0),
  (79, 3, .invokevirtual 156, [], 0),
  (82, 3, .if_icmp .ge 23, [105], 0),
  (85, 1, .aload_n 0, [], 0),
  (86, 3, .getfield 32, [], 0),
  (89, 1, .iload_n 3, [], 0),
  (90, 1, .aload_n 0, [], 0),
  (91, 3, .getfield 32, [], 0),
  (94, 1, .iload_n 3, [], 0),
  (95, 1, .iconst 1, [], 1),
  (96, 1, .isub, [], 0),
  (97, 1, .iaload, [], 0),
  (98, 1, .iastore, [], 0),
  (99, 3, .iinc 3 (-1), [], (-1)),
  (102, 3, .goto (-41), [61], 0),
  (105, 1, .aload_n 0, [], 0),
  (106, 3, .getfield 32, [], 0),
  (109, 1, .iload_n 3, [], 0),
  (110, 1, .iload_n 2, [], 0),
  (111, 1, .iastore, [], 0),
  (112, 3, .iinc 2 1, [], 1),
  (115, 3, .goto (-108), [7], 0),
  (118, 1, .return_, [], 0)]
theorem kX9_orders_ok : kX9_orders.all (zck cX9_orders) = true := by decide +kernel

def rX9_orders : Room := { frames := 3, cells := 0, slots := 0, locals := 66 }
abbrev YX9_orders : zM := (RX9, cX9_orders, 4, none, rX9_orders, UM, zlk fX9, zcs [(75, 3, 0, 0, zvs (UM) 9 (sX9_of)), (136, 2, 0, 0, zvs (UM) 9 (sX9_lockOf)), (156, 2, 0, 0, zvs (UM) 9 (sX9_priorityOf))] [])
theorem YX9_orders_ok : zYok (YX9_orders) := zYok_of fX9_ok (zall (zcal_mono (zcalV (Y := YX9_orders) (y := yX9_of) (cc := cX9_of) (nL := 3) (ret := some .int) (rm := rX9_of) (mX9_of) 75 2 9 (T := TX9) rfl wX9_75 ⟨by decide +kernel, by decide +kernel, by decide +kernel⟩ (by decide) ⟨Nat.le_of_ble_eq_true rfl, Nat.le_of_ble_eq_true rfl⟩) (fun _ _ _ _ h => zvs_P h)) (zall (zcal_mono (zcalV (Y := YX9_orders) (y := yX9_lockOf) (cc := cX9_lockOf) (nL := 2) (ret := some .int) (rm := rX9_lockOf) (mX9_lockOf) 136 1 9 (T := TX9) rfl wX9_136 ⟨by decide +kernel, by decide +kernel, by decide +kernel⟩ (by decide) ⟨Nat.le_of_ble_eq_true rfl, Nat.le_of_ble_eq_true rfl⟩) (fun _ _ _ _ h => zvs_P h)) (zall (zcal_mono (zcalV (Y := YX9_orders) (y := yX9_priorityOf) (cc := cX9_priorityOf) (nL := 4) (ret := some .int) (rm := rX9_priorityOf) (mX9_priorityOf) 156 1 9 (T := TX9) rfl wX9_156 ⟨by decide +kernel, by decide +kernel, by decide +kernel⟩ (by decide) ⟨Nat.le_of_ble_eq_true rfl, Nat.le_of_ble_eq_true rfl⟩) (fun _ _ _ _ h => zvs_P h)) znil))) znil

theorem lX9_ordIn (ok : zO) (ex : zX) (F : zF) (n k : Nat) (l : Int32) (hn : n ≤ 16) (hk : k < 16) (h0 : F 1 2 = nI n) (h9 : ¬ F 1 3 = 0) : ∀ (R B : List Nat) (x : Int32), (∀ y, y ∈ R → y < 16) → R.length < 16 →
    (∀ w, zWP YX9_orders ok ex 7 [some (.ref 0), some (.int l), some (.int (nI k + 1)), w] [] 0 0 (zls 7 14 F ((mInR F n k R).reverse ++ B))) →
    zWP YX9_orders ok ex 61 [some (.ref 0), some (.int l), some (.int (nI k)), some (.int (nI R.length))] [] 0 0 (zup (zls 7 14 F (R.reverse ++ 0 :: B)) 7 R.length x) := by
  intro R
  induction R with
  | nil =>
    intro B x hR hl h
    refine zat_ok YX9_orders_ok (inv := zi2 7 (fun ls st kc ks G => zWP YX9_orders ok ex 7 ls st kc ks G) 61 (fun ls st kc ks G => zWP YX9_orders ok ex 61 ls st kc ks G)) (ztwo (fun _ _ _ _ _ h => h) (fun _ _ _ _ _ h => h)) kX9_orders (List.all_eq_true.mp kX9_orders_ok) 61 _ _ _ _ _ ?_
    refine And.intro (fun _ => ?_) (fun h1 => absurd (by decide) h1)
    refine Exists.intro (zix (x := nI 0) rfl (by decide) (by decide)) ?_
    have h := h (some (.int (nI 0)))
    have h2 : zls 7 14 F ((mInR F n k []).reverse ++ B) = zup (zup (zls 7 14 F ([] ++ 0 :: B)) 7 0 x) 7 0 (nI k) := by
      rw [zup_zup]
      exact (zls_put 7 14 (by decide) F [] B k).symm
    rw [h2] at h
    exact h
  | cons y t ih =>
    intro B x hR hl h
    have hy : y < 16 := hR y List.mem_cons_self
    have hl2 : t.length + 1 < 16 := by simpa using hl
    have e1 : (y :: t).reverse ++ 0 :: B = t.reverse ++ y :: 0 :: B := by simp
    have e3 : zup (zls 7 14 F ((y :: t).reverse ++ 0 :: B)) 7 (y :: t).length x 7 t.length = nI y := by
      rw [zup_an _ _ _ (by simp), e1]
      have h5 := zls_get 7 14 F t.reverse (0 :: B) y
      rw [List.length_reverse] at h5
      exact h5
    have h5 : (nI (t.length + 1)).toNatClampNeg = t.length + 1 := nI_clamp (by omega)
    have h6 : (nI (t.length + 1) - 1).toNatClampNeg = t.length := by
      rw [nI_pred]
      exact nI_clamp (by omega)
    refine zat_ok YX9_orders_ok (inv := zi2 7 (fun ls st kc ks G => zWP YX9_orders ok ex 7 ls st kc ks G) 61 (fun ls st kc ks G => zWP YX9_orders ok ex 61 ls st kc ks G)) (ztwo (fun _ _ _ _ _ h => h) (fun _ _ _ _ _ h => h)) kX9_orders (List.all_eq_true.mp kX9_orders_ok) 61 _ _ _ _ _ ?_
    refine And.intro (fun h1 => absurd h1 (nI_nle (by simp) (by rw [List.length_cons]; omega))) (fun _ => ?_)
    refine Exists.intro (zix (x := nI (t.length + 1) - 1) (nI_pred _) (by omega) (by decide)) ?_
    have e4 : zup (zls 7 14 F ((y :: t).reverse ++ 0 :: B)) 7 (y :: t).length x 1 = F 1 := by
      rw [zup_ne _ _ _ (by decide)]
      rfl
    have e5 : zup (zls 7 14 F ((y :: t).reverse ++ 0 :: B)) 7 (y :: t).length x 7 (nI (t.length + 1) - 1).toNatClampNeg = nI y := by rw [h6, e3]
    refine ⟨y, n, e5, hy, hn, by rw [e4]; exact h0, by rw [e4]; exact h9, ?_⟩
    refine ⟨k, n, rfl, hk, hn, by rw [e4]; exact h0, by rw [e4]; exact h9, ?_⟩
    rw [mPr_c e4, mPr_c e4]
    refine And.intro (fun h1 => ?_) (fun h1 => ?_)
    · have h1 : mPr F n k ≤ mPr F n y := h1
      have h2 : mInR F n k (y :: t) = k :: y :: t := if_neg (Int32.not_lt.mpr h1)
      rw [h2] at h
      refine Exists.intro (zix (x := nI (t.length + 1)) rfl (by omega) (by decide)) ?_
      have h := h (some (.int (nI (t.length + 1))))
      have h3 : zls 7 14 F ((k :: y :: t).reverse ++ B) = zup (zup (zls 7 14 F ((y :: t).reverse ++ 0 :: B)) 7 (y :: t).length x) 7 (nI (t.length + 1)).toNatClampNeg (nI k) := by
        rw [h5, List.length_cons, zup_zup]
        have h7 := zls_put 7 14 (by decide) F (y :: t).reverse B k
        rw [List.length_reverse, List.length_cons] at h7
        rw [h7]
        simp
      rw [h3] at h
      exact h
    · have h1 : ¬ mPr F n k ≤ mPr F n y := h1
      have h2 : mInR F n k (y :: t) = y :: mInR F n k t := if_pos (Int32.not_le.mp h1)
      rw [h2] at h
      refine Exists.intro (zix (x := nI (t.length + 1) - 1) (nI_pred _) (by omega) (by decide)) ?_
      refine Exists.intro (zix (x := nI (t.length + 1)) rfl (by omega) (by decide)) ?_
      have ih := ih (y :: B) (nI y) (fun z hz => hR z (List.mem_cons_of_mem _ hz)) (by omega) (fun w => by
        have h8 := h w
        rw [List.reverse_cons, List.append_assoc] at h8
        exact h8)
      have h7 : zup (zls 7 14 F (t.reverse ++ 0 :: y :: B)) 7 t.length (nI y) = zup (zup (zls 7 14 F ((y :: t).reverse ++ 0 :: B)) 7 (y :: t).length x) 7 (nI (t.length + 1)).toNatClampNeg (zup (zls 7 14 F ((y :: t).reverse ++ 0 :: B)) 7 (y :: t).length x 7 (nI (t.length + 1) - 1).toNatClampNeg) := by
        rw [e5, h5, List.length_cons, zup_zup]
        have h10 := zls_put 7 14 (by decide) F t.reverse (y :: B) y
        have h11 := zls_put 7 14 (by decide) F (y :: t).reverse B y
        rw [List.length_reverse] at h10 h11
        rw [List.length_cons] at h11
        rw [h10, h11]
        simp
      have h12 : nI t.length = nI (t.length + 1) + (-1) := by rw [← nI_pred, Int32.sub_eq_add_neg]
      rw [h7, h12] at ih
      exact ih
theorem lX9_orders (ok : zO) (ex : zX) (F : zF) (n : Nat) (l : Int32) (hn : n ≤ 16) (h0 : F 1 2 = nI n) (h9 : ¬ F 1 3 = 0) (h : ok none (zls 7 14 F (mOrd F n l n))) : ∀ (d k : Nat) (w : Option Value), k + d = n → zWP YX9_orders ok ex 7 [some (.ref 0), some (.int l), some (.int (nI k)), w] [] 0 0 (zls 7 14 F (mOrd F n l k)) := by
  intro d
  induction d with
  | zero =>
    intro k w hk
    have hk : k = n := hk
    subst hk
    refine zat_ok YX9_orders_ok (inv := zi2 7 (fun ls st kc ks G => zWP YX9_orders ok ex 7 ls st kc ks G) 61 (fun ls st kc ks G => zWP YX9_orders ok ex 61 ls st kc ks G)) (ztwo (fun _ _ _ _ _ h => h) (fun _ _ _ _ _ h => h)) kX9_orders (List.all_eq_true.mp kX9_orders_ok) 7 _ _ _ _ _ ?_
    refine Exists.intro (zix (k := 2) rfl (by decide) (by decide)) ?_
    refine And.intro (fun _ => h) (fun h1 => absurd ?_ h1)
    show F 1 2 ≤ nI k
    rw [h0]
    exact nI_le (Nat.le_refl _) (by omega)
  | succ d ih =>
    intro k w hk
    have hz := mOrd_lt F n l k
    have hy := mOrd_len F n l k
    have ih := fun w => ih (k + 1) w (by omega)
    refine zat_ok YX9_orders_ok (inv := zi2 7 (fun ls st kc ks G => zWP YX9_orders ok ex 7 ls st kc ks G) 61 (fun ls st kc ks G => zWP YX9_orders ok ex 61 ls st kc ks G)) (ztwo (fun _ _ _ _ _ h => h) (fun _ _ _ _ _ h => h)) kX9_orders (List.all_eq_true.mp kX9_orders_ok) 7 _ _ _ _ _ ?_
    refine Exists.intro (zix (k := 2) rfl (by decide) (by decide)) ?_
    refine And.intro (fun h1 => absurd ?_ (nI_ge (a := k) (b := n) (by omega) (by omega))) (fun h1 => ?_)
    · have h1 : F 1 2 ≤ nI k := h1
      rw [h0] at h1
      exact h1
    refine ⟨k, 6, rfl, rfl, by omega, by decide, ?_⟩
    refine And.intro (fun h2 => ?_) (fun h2 => ?_)
    · have h2 : ¬ mOf F k 6 = nI k := h2
      have h3 : mOrd F n l (k + 1) = mOrd F n l k := if_neg (fun g => h2 g.1)
      rw [h3, ← nI_1 k] at ih
      exact ih w
    have h2 : mOf F k 6 = nI k := h2
    refine ⟨k, 4, rfl, rfl, by omega, by decide, ?_⟩
    refine And.intro (fun h4 => ?_) (fun h4 => ?_)
    · have h4 : mOf F k 4 < 0 := h4
      have h3 : mOrd F n l (k + 1) = mOrd F n l k := if_neg (fun g => g.2.1 h4)
      rw [h3, ← nI_1 k] at ih
      exact ih w
    have h4 : ¬ mOf F k 4 < 0 := h4
    refine ⟨k, rfl, by omega, ?_⟩
    refine And.intro (fun h5 => ?_) (fun h5 => ?_)
    · have h5 : mLk F k = l := h5
      have h3 : mOrd F n l (k + 1) = (mInR F n k (mOrd F n l k).reverse).reverse := if_pos ⟨h2, h4, h5⟩
      rw [h3, ← nI_1 k] at ih
      generalize mOrd F n l k = L at ih hz hy
      have h6 := lX9_ordIn ok ex F n k l hn (by omega) h0 h9 L.reverse [] (F 7 L.length) (fun y hq => by
        have h7 := hz y (List.mem_reverse.mp hq)
        omega) (by rw [List.length_reverse]; omega) (fun w => by
        rw [List.append_nil]
        exact ih w)
      rw [List.reverse_reverse, List.length_reverse, ← zls_open 7 14 (by decide), ← nI_1] at h6
      exact h6
    · have h5 : ¬ mLk F k = l := h5
      have h3 : mOrd F n l (k + 1) = mOrd F n l k := if_neg (fun g => h5 g.2.2)
      rw [h3, ← nI_1 k] at ih
      exact ih w

theorem mX9_orders : zMet (UM) yX9_orders cX9_orders 4 (none) rX9_orders (sX9_orders) := by
  refine zmet (Y := YX9_orders) rfl (by decide +kernel) ?_
  intro av F ok ex h
  unfold sX9_orders at h
  split at h
  · rename_i l
    refine zgo_ok (YX9_orders_ok) (inv := zi2 7 (fun ls st kc ks G => zWP YX9_orders ok ex 7 ls st kc ks G) 61 (fun ls st kc ks G => zWP YX9_orders ok ex 61 ls st kc ks G)) (ztwo (fun _ _ _ _ _ h => h) (fun _ _ _ _ _ h => h)) kX9_orders (List.all_eq_true.mp kX9_orders_ok) 0 _ _ _ _ _ ?_
    obtain ⟨n, hn, h0, h9, h⟩ := h
    have h5 := lX9_orders ok ex F n l hn h0 h9 h n 0 none (Nat.zero_add _)
    have h6 : zls 7 14 F (mOrd F n l 0) = zup F 0 14 0 := (zls_nil 7 14 F).symm
    rw [h6] at h5
    exact h5
  · exact h.elim

end ZM4

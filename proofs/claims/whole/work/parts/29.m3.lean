/-! the reference's convoys as lists; the row that would go; the rules -/
section ZM3
set_option maxRecDepth 20000
/-- the ships of the convoy with head h, in their order -/
def mCv (F : zF) (n h : Nat) (L : List Nat) : Prop := L.Nodup ∧ (∀ s, s < n → (mOf F s 6 = nI h ↔ s ∈ L)) ∧ ∀ i x, L[i]? = some x → x < n ∧ mOf F x 7 = nI i
theorem mSz_len (F : zF) (h : Int32) : ∀ (n : Nat) (L : List Nat), L.Nodup → (∀ s, s < n → (mOf F s 6 = h ↔ s ∈ L)) → (∀ x, x ∈ L → x < n) → mSz F h n = L.length
  | 0, L, _, _, h3 => by
    cases L with
    | nil => rfl
    | cons x t => exact absurd (h3 x List.mem_cons_self) (Nat.not_lt_zero x)
  | n + 1, L, h1, h2, h3 => by
    have ih := mSz_len F h n (L.erase n) (h1.erase n) (fun s hs => by rw [h2 s (by omega), h1.mem_erase_iff]; exact ⟨fun h4 => ⟨by omega, h4⟩, fun h4 => h4.2⟩) (fun x hx => by
      have h4 := h1.mem_erase_iff.mp hx
      have h5 := h3 x h4.2
      omega)
    show mSz F h n + (if mOf F n 6 = h then 1 else 0) = L.length
    rw [ih]
    by_cases h4 : n ∈ L
    · rw [if_pos ((h2 n (by omega)).mpr h4), List.length_erase_of_mem h4]
      have h5 := List.length_pos_of_mem h4
      omega
    · rw [if_neg (fun h5 => h4 ((h2 n (by omega)).mp h5)), List.erase_of_not_mem h4, Nat.add_zero]
theorem mCv_lt {F : zF} {n h : Nat} {L : List Nat} (c : mCv F n h L) : ∀ x, x ∈ L → x < n := by
  intro x hx
  obtain ⟨i, hi⟩ := List.mem_iff_getElem?.mp hx
  exact (c.2.2 i x hi).1
theorem mCv_sz {F : zF} {n h : Nat} {L : List Nat} (c : mCv F n h L) : mSz F (nI h) n = L.length := mSz_len F (nI h) n L c.1 c.2.1 (mCv_lt c)
theorem mCv_16 {F : zF} {n h : Nat} {L : List Nat} (c : mCv F n h L) (hn : n ≤ 16) : L.length ≤ 16 := by
  have h1 := mSz_le F (nI h) n
  rw [mCv_sz c] at h1
  omega
theorem mSz_c {F G : zF} (e : G 1 = F 1) (h : Int32) : ∀ n, mSz G h n = mSz F h n
  | 0 => rfl
  | n + 1 => by
    have h1 : mOf G n 6 = mOf F n 6 := by unfold mOf; rw [e]
    show mSz G h n + (if mOf G n 6 = h then 1 else 0) = mSz F h n + (if mOf F n 6 = h then 1 else 0)
    rw [mSz_c e h n, h1]
/-- a row of ships in cell c, its length at i0 of the object -/
def zls (c i0 : Nat) (F : zF) (L : List Nat) : zF := fun a b => if a = c ∧ b < L.length then nI (L.getD b 0) else if a = 0 ∧ b = i0 then nI L.length else F a b
theorem zls_nil (c i0 : Nat) (F : zF) : zup F 0 i0 0 = zls c i0 F [] := by
  funext a b
  unfold zup zls
  rw [if_neg (show ¬ (a = c ∧ b < [].length) from fun h => absurd h.2 (Nat.not_lt_zero b))]
  by_cases h : a = 0
  · by_cases h2 : b = i0
    · rw [if_pos h, if_pos h2, if_pos ⟨h, h2⟩]
      rfl
    · rw [if_pos h, if_neg h2, if_neg (fun h3 => h2 h3.2)]
  · rw [if_neg h, if_neg (fun h3 => h h3.1)]
theorem zls_push (c i0 : Nat) (hc : c ≠ 0) (F : zF) (L : List Nat) (s : Nat) : zup (zup (zls c i0 F L) 0 i0 (nI (L.length + 1))) c L.length (nI s) = zls c i0 F (L ++ [s]) := by
  funext a b
  unfold zup zls
  rw [List.length_append, List.length_singleton]
  by_cases h : a = c
  · subst h
    rw [if_pos rfl]
    by_cases h2 : b = L.length
    · subst h2
      rw [if_pos rfl, if_pos ⟨rfl, by omega⟩]
      simp
    · rw [if_neg h2, if_neg hc]
      by_cases h3 : b < L.length
      · rw [if_pos ⟨rfl, h3⟩, if_pos ⟨rfl, by omega⟩]
        simp [List.getElem?_append_left h3]
      · rw [if_neg (fun h4 => h3 h4.2), if_neg (fun h4 => hc h4.1), if_neg (fun h4 => h3 (by omega)), if_neg (fun h4 => hc h4.1)]
  · rw [if_neg h]
    by_cases h2 : a = 0
    · by_cases h3 : b = i0
      · rw [if_pos h2, if_pos h3, if_neg (fun h4 => h h4.1), if_pos ⟨h2, h3⟩]
      · rw [if_pos h2, if_neg h3, if_neg (fun h4 => h h4.1), if_neg (fun h4 => h3 h4.2), if_neg (fun h4 => h h4.1), if_neg (fun h4 => h3 h4.2)]
    · rw [if_neg h2, if_neg (fun h4 => h h4.1), if_neg (fun h4 => h2 h4.1), if_neg (fun h4 => h h4.1), if_neg (fun h4 => h2 h4.1)]
def mRw (F : zF) (len : Int32) : List Nat → Int32 → List Nat
  | [], _ => []
  | s :: t, a => if a + mOf F s 0 ≤ len then s :: mRw F len t (a + mOf F s 0) else []
def mRow (F : zF) (k : Nat) (L : List Nat) : List Nat := mRw F (mLP F k 0) L 0
def sX9_rows : zSp := fun as F ok _ => match as with
  | [.ref 0, .int x] => ∃ h n k L, x = nI h ∧ h < 16 ∧ n ≤ 16 ∧ k < 4 ∧ F 1 2 = nI n ∧ mCv F n h L ∧ mLk F h = nI k ∧ ok none (zls 8 16 F (mRow F k L))
  | _ => False
def mRf (F : zF) (h k : Nat) (a z : Int32) : Int32 := if mDry F k = 1 ∧ 2 * a < mLP F k 0 ∧ mWd F h < F 1 4 then 3 else if mDry F k = 2 ∧ z = 0 then 3 else 0
def mRl (F : zF) (h k : Nat) (low : Int32) : List Nat → Int32 → Int32 → Int32
  | [], a, z => mRf F h k a z
  | s :: t, a, z => if low < mOf F s 1 then 2 else mRl F h k low t (a + mOf F s 0) (if mOf F s 2 < 3 then 0 else z)
def mRu (F : zF) (h k r t : Nat) (L : List Nat) : Int32 := match mRow F k L with
  | [] => 1
  | s :: u => mRl F h k (imin (mLev F r) (mLev F t)) (s :: u) 0 1
def sX9_rules : zSp := fun as F ok _ => match as with
  | [.ref 0, .int x] => ∃ h n k r t L, x = nI h ∧ h < 16 ∧ n ≤ 16 ∧ k < 4 ∧ F 1 2 = nI n ∧ mCv F n h L ∧ mLk F h = nI k ∧ mOf F h 4 = nI r ∧ r < 5 ∧ mNx F h = nI t ∧ t < 5 ∧ (∀ j, j < 5 → j = r ∨ j = t ∨ j = k → ¬ F 1 (10 + 3 * j) = 0) ∧ ok (some (.int (mRu F h k r t L))) (zls 8 16 F (mRow F k L))
  | _ => False
theorem mRw_sub (F : zF) (len : Int32) : ∀ (L : List Nat) (a : Int32), ∀ x, x ∈ mRw F len L a → x ∈ L
  | [], _, x, h => h
  | s :: t, a, x, h => by
    unfold mRw at h
    split at h
    · rcases List.mem_cons.mp h with h1 | h1
      · rw [h1]
        exact List.mem_cons_self
      · exact List.mem_cons_of_mem _ (mRw_sub F len t _ x h1)
    · cases h
theorem mRw_len (F : zF) (len : Int32) : ∀ (L : List Nat) (a : Int32), (mRw F len L a).length ≤ L.length
  | [], _ => Nat.le_refl _
  | s :: t, a => by
    unfold mRw
    split
    · have h1 := mRw_len F len t (a + mOf F s 0)
      simp only [List.length_cons]
      omega
    · exact Nat.zero_le _

def kX9_rows : List zI := [
  (0, 1, .aload_n 0, [], 0),
  (1, 1, .iconst 0, [], 0),
  (2, 3, .putfield 159, [], 0),
  (5, 1, .iconst 0, [], 0),
  (6, 1, .istore_n 2, [], 0),
  (7, 1, .aload_n 0, [], 0),
  (8, 1, .iload_n 1, [], 0),
  (9, 3, .invokevirtual 139, [], 0),
  (12, 1, .istore_n 3, [], 0),
  (13, 1, .iconst 1, [], 1),
  (14, 2, .istore 4, [], 0),
  (16, 1, .iconst 0, [], 0),
  (17, 2, .istore 5, [], 0),
  (19, 2, .iload 5, [], 0),
  (21, 1, .iload_n 3, [], 0),
  (22, 3, .if_icmp .ge 77, [99], 0),
  (25, 2, .iload 4, [], 0),
  (27, 3, .ifCond .eq 72, [99], 0),
  (30, 1, .aload_n 0, [], 0),
  (31, 1, .iload_n 1, [], 0),
  (32, 2, .iload 5, [], 0),
  (34, 3, .invokevirtual 142, [], 0),
  (37, 2, .istore 6, [], 0),
  (39, 1, .iload_n 2, [], 0),
  (40, 1, .aload_n 0, [], 0),
  (41, 2, .iload 6, [], 0),
  (43, 1, .iconst 0, [], 0),
  (44, 3, .invokevirtual 75, [], 0),
  (47, 1, .iadd, [], 0),
  (48, 1, .istore_n 2, [], 0),
  (49, 1, .iload_n 2, [], 0),
  (50, 1, .aload_n 0, [], 0),
  (51, 1, .aload_n 0, [], 0),
  (52, 1, .iload_n 1, [], 0),
  (53, 3, .invokevirtual 136, [], 0),
  (56, 1, .iconst 0, [], 0),
  (57, 3, .invokevirtual 79, [], 0),
  (60, 3, .if_icmp .gt 7, [67], 0),
  (63, 1, .iconst 1, [], 1),
  (64, 3, .goto 4, [68], 0),
  (67, 1, .iconst 0, [], 0),
  (68, 2, .istore 4, [], 0),
  (70, 2, .iload 4, [], 0),
  (72, 3, .ifCond .eq 21, [93], 0),
  (75, 1, .aload_n 0, [], 0),
  (76, 3, .getfield 35, [], 0),
  (79, 1, .aload_n 0, [], 0),
  (80, 1, .dup, [], 0),
  (81, 3, .getfield 159, [], 0),
  (84, 1, .dup_x1, [], 0),
  (85, 1, .iconst 1, [], 1),
  (86, 1, .iadd, [], 0),
  (87, 3, .putfield 159, [], 0),
  (90, 2, .iload 6, [], 0),
  (92, 1, .iastore, [], 0),
  (93, 3, .iinc 5 1, [], 1),
  (96, 3, .goto (-77), [19], 0),
  (99, 1, .return_, [], 0)]
theorem kX9_rows_ok : kX9_rows.all (zck cX9_rows) = true := by decide +kernel

def rX9_rows : Room := { frames := 2, cells := 0, slots := 0, locals := 45 }
abbrev YX9_rows : zM := (RX9, cX9_rows, 7, none, rX9_rows, UM, zlk fX9, zcs [(139, 2, 0, 0, zvs (UM) 9 (sX9_sizeOf)), (142, 3, 0, 0, zvs (UM) 9 (sX9_shipIn)), (75, 3, 0, 0, zvs (UM) 9 (sX9_of)), (136, 2, 0, 0, zvs (UM) 9 (sX9_lockOf)), (79, 3, 0, 0, zvs (UM) 9 (sX9_lockPart))] [])
theorem YX9_rows_ok : zYok (YX9_rows) := zYok_of fX9_ok (zall (zcal_mono (zcalV (Y := YX9_rows) (y := yX9_sizeOf) (cc := cX9_sizeOf) (nL := 4) (ret := some .int) (rm := rX9_sizeOf) (mX9_sizeOf) 139 1 9 (T := TX9) rfl wX9_139 ⟨by decide +kernel, by decide +kernel, by decide +kernel⟩ (by decide) ⟨Nat.le_of_ble_eq_true rfl, Nat.le_of_ble_eq_true rfl⟩) (fun _ _ _ _ h => zvs_P h)) (zall (zcal_mono (zcalV (Y := YX9_rows) (y := yX9_shipIn) (cc := cX9_shipIn) (nL := 4) (ret := some .int) (rm := rX9_shipIn) (mX9_shipIn) 142 2 9 (T := TX9) rfl wX9_142 ⟨by decide +kernel, by decide +kernel, by decide +kernel⟩ (by decide) ⟨Nat.le_of_ble_eq_true rfl, Nat.le_of_ble_eq_true rfl⟩) (fun _ _ _ _ h => zvs_P h)) (zall (zcal_mono (zcalV (Y := YX9_rows) (y := yX9_of) (cc := cX9_of) (nL := 3) (ret := some .int) (rm := rX9_of) (mX9_of) 75 2 9 (T := TX9) rfl wX9_75 ⟨by decide +kernel, by decide +kernel, by decide +kernel⟩ (by decide) ⟨Nat.le_of_ble_eq_true rfl, Nat.le_of_ble_eq_true rfl⟩) (fun _ _ _ _ h => zvs_P h)) (zall (zcal_mono (zcalV (Y := YX9_rows) (y := yX9_lockOf) (cc := cX9_lockOf) (nL := 2) (ret := some .int) (rm := rX9_lockOf) (mX9_lockOf) 136 1 9 (T := TX9) rfl wX9_136 ⟨by decide +kernel, by decide +kernel, by decide +kernel⟩ (by decide) ⟨Nat.le_of_ble_eq_true rfl, Nat.le_of_ble_eq_true rfl⟩) (fun _ _ _ _ h => zvs_P h)) (zall (zcal_mono (zcalV (Y := YX9_rows) (y := yX9_lockPart) (cc := cX9_lockPart) (nL := 3) (ret := some .int) (rm := rX9_lockPart) (mX9_lockPart) 79 2 9 (T := TX9) rfl wX9_79 ⟨by decide +kernel, by decide +kernel, by decide +kernel⟩ (by decide) ⟨Nat.le_of_ble_eq_true rfl, Nat.le_of_ble_eq_true rfl⟩) (fun _ _ _ _ h => zvs_P h)) znil))))) znil

theorem lX9_rows0 (ok : zO) (ex : zX) (G : zF) (h : ok none G) (x a m p : Int32) (w : Option Value) : zWP YX9_rows ok ex 19 [some (.ref 0), some (.int x), some (.int a), some (.int m), some (.int 0), some (.int p), w] [] 0 0 G := by
  refine zat_ok YX9_rows_ok (inv := zi1 19 (fun ls st kc ks G => zWP YX9_rows ok ex 19 ls st kc ks G)) (zone fun _ _ _ _ _ h => h) kX9_rows (List.all_eq_true.mp kX9_rows_ok) 19 _ _ _ _ _ ?_
  exact And.intro (fun _ => h) (fun _ => zjeq0 h)
theorem lX9_rows (ok : zO) (ex : zX) (F : zF) (t n k : Nat) (L : List Nat) (ht : t < 16) (hn : n ≤ 16) (hk : k < 4) (h0 : F 1 2 = nI n) (c : mCv F n t L) (h1 : mLk F t = nI k) : ∀ (rest pre : List Nat) (a : Int32) (w : Option Value), L = pre ++ rest → ok none (zls 8 16 F (pre ++ mRw F (mLP F k 0) rest a)) → zWP YX9_rows ok ex 19 [some (.ref 0), some (.int (nI t)), some (.int a), some (.int (nI L.length)), some (.int 1), some (.int (nI pre.length)), w] [] 0 0 (zls 8 16 F pre) := by
  have h16 := mCv_16 c hn
  intro rest
  induction rest with
  | nil =>
    intro pre a w hL h
    have h2 : mRw F (mLP F k 0) [] a = [] := rfl
    rw [h2, List.append_nil] at h
    rw [List.append_nil] at hL
    subst hL
    refine zat_ok YX9_rows_ok (inv := zi1 19 (fun ls st kc ks G => zWP YX9_rows ok ex 19 ls st kc ks G)) (zone fun _ _ _ _ _ h => h) kX9_rows (List.all_eq_true.mp kX9_rows_ok) 19 _ _ _ _ _ ?_
    exact And.intro (fun _ => h) (fun h3 => absurd (nI_le (Nat.le_refl _) (by omega)) h3)
  | cons x u ih =>
    intro pre a w hL h
    have hlen : L.length = pre.length + (u.length + 1) := by rw [hL, List.length_append, List.length_cons]
    have hx : L[pre.length]? = some x := by rw [hL]; simp
    have h3 := c.2.2 pre.length x hx
    have h4 : x ∈ L := List.mem_of_getElem? hx
    refine zat_ok YX9_rows_ok (inv := zi1 19 (fun ls st kc ks G => zWP YX9_rows ok ex 19 ls st kc ks G)) (zone fun _ _ _ _ _ h => h) kX9_rows (List.all_eq_true.mp kX9_rows_ok) 19 _ _ _ _ _ ?_
    refine And.intro (fun h5 => absurd h5 (nI_ge (a := pre.length) (b := L.length) (by omega) (by omega))) (fun _ => ?_)
    refine zjeq1 ?_
    refine ⟨x, by omega, (c.2.1 x h3.1).mpr h4, h3.2, fun j hj h6 => ?_, ?_⟩
    · have h7 : mOf F j 6 = nI t ∧ mOf F j 7 = nI pre.length := h6
      have h8 := (c.2.1 j (by omega)).mp h7.1
      obtain ⟨i, hi⟩ := List.mem_iff_getElem?.mp h8
      have h9 := (c.2.2 i j hi).2
      have h10 : i < L.length := (List.getElem?_eq_some_iff.mp hi).1
      rw [h7.2, nI_eq (by omega) (by omega)] at h9
      rw [← h9, hx] at hi
      cases hi
      omega
    refine ⟨x, 0, rfl, rfl, by omega, by decide, ?_⟩
    refine ⟨t, rfl, ht, ?_⟩
    refine ⟨k, 0, h1, rfl, hk, by decide, ?_⟩
    refine And.intro (fun h5 => ?_) (fun h5 => ?_)
    · have h5 : mLP F k 0 < a + mOf F x 0 := h5
      have h6 : mRw F (mLP F k 0) (x :: u) a = [] := if_neg (Int32.not_le.mpr h5)
      rw [h6, List.append_nil] at h
      refine zjeq0 ?_
      exact lX9_rows0 ok ex _ h _ _ _ _ _
    · have h5 : ¬ mLP F k 0 < a + mOf F x 0 := h5
      have h6 : mRw F (mLP F k 0) (x :: u) a = x :: mRw F (mLP F k 0) u (a + mOf F x 0) := if_pos (Int32.not_lt.mp h5)
      rw [h6, List.append_cons] at h
      refine zjeq1 ?_
      have ih := ih (pre ++ [x]) (a + mOf F x 0) (some (.int (nI x))) (by rw [hL, List.append_cons]) h
      rw [List.length_append, List.length_singleton, ← nI_1, ← zls_push 8 16 (by decide), ← nI_1] at ih
      have h7 : (nI pre.length).toNatClampNeg = pre.length := nI_clamp (by omega)
      refine Exists.intro (zix (x := nI pre.length) rfl (by omega) (by decide)) ?_
      show zWP YX9_rows ok ex 19 _ [] 0 0 (zup (zup (zls 8 16 F pre) 0 16 (nI pre.length + 1)) 8 (nI pre.length).toNatClampNeg (nI x))
      rw [h7]
      exact ih

theorem mX9_rows : zMet (UM) yX9_rows cX9_rows 7 (none) rX9_rows (sX9_rows) := by
  refine zmet (Y := YX9_rows) rfl (by decide +kernel) ?_
  intro av F ok ex h
  unfold sX9_rows at h
  split at h
  · rename_i x
    refine zgo_ok (YX9_rows_ok) (inv := zi1 19 (fun ls st kc ks G => zWP YX9_rows ok ex 19 ls st kc ks G)) (zone fun _ _ _ _ _ h => h) kX9_rows (List.all_eq_true.mp kX9_rows_ok) 0 _ _ _ _ _ ?_
    obtain ⟨t, n, k, L, rfl, ht, hn, hk, h0, c, h1, h⟩ := h
    have h2 := mCv_sz c
    refine ⟨n, hn, h0, ?_⟩
    have h5 := lX9_rows ok ex F t n k L ht hn hk h0 c h1 L [] 0 none rfl h
    rw [← zls_nil, ← h2, ← mSz_c (F := F) (G := zup F 0 16 0) (zup_ne F 16 0 (by decide)) (nI t) n] at h5
    exact h5
  · exact h.elim

def kX9_rules : List zI := [
  (0, 1, .aload_n 0, [], 0),
  (1, 1, .iload_n 1, [], 0),
  (2, 3, .invokevirtual 162, [], 0),
  (5, 1, .aload_n 0, [], 0),
  (6, 3, .getfield 159, [], 0),
  (9, 3, .ifCond .ne 5, [14], 0),
  (12, 1, .iconst 1, [], 1),
  (13, 1, .ireturn, [], 0),
  (14, 1, .aload_n 0, [], 0),
  (15, 1, .aload_n 0, [], 0),
  (16, 1, .iload_n 1, [], 0),
  (17, 1, .iconst 4, [], 4),
  (18, 3, .invokevirtual 75, [], 0),
  (21, 3, .invokevirtual 65, [], 0),
  (24, 1, .aload_n 0, [], 0),
  (25, 1, .aload_n 0, [], 0),
  (26, 1, .iload_n 1, [], 0),
  (27, 3, .invokevirtual 165, [], 0),
  (30, 3, .invokevirtual 65, [], 0),
  (33, 3, .invokestatic 168, [], 0),
  (36, 1, .istore_n 2, [], 0),
  (37, 1, .iconst 0, [], 0),
  (38, 1, .istore_n 3, [], 0),
  (39, 1, .iconst 1, [], 1),
  (40, 2, .istore 4, [], 0),
  (42, 1, .iconst 0, [], 0),
  (43, 2, .istore 5, [], 0),
  (45, 2, .iload 5, [], 0),
  (47, 1, .aload_n 0, [], 0),
  (48, 3, .getfield 159, [], 0),
  (51, 3, .if_icmp .ge 61, [112], 0),
  (54, 1, .aload_n 0, [], 0),
  (55, 1, .aload_n 0, [], 0),
  (56, 3, .getfield 35, [], 0),
  (59, 2, .iload 5, [], 0),
  (61, 1, .iaload, [], 0),
  (62, 1, .iconst 1, [], 1),
  (63, 3, .invokevirtual 75, [], 0),
  (66, 1, .iload_n 2, [], 0),
  (67, 3, .if_icmp .le 5, [72], 0),
  (70, 1, .iconst 2, [], 2),
  (71, 1, .ireturn, [], 0),
  (72, 1, .iload_n 3, [], 0),
  (73, 1, .aload_n 0, [], 0),
  (74, 1, .aload_n 0, [], 0),
  (75, 3, .getfield 35, [], 0),
  (78, 2, .iload 5, [], 0),
  (80, 1, .iaload, [], 0),
  (81, 1, .iconst 0, [], 0),
  (82, 3, .invokevirtual 75, [], 0),
  (85, 1, .iadd, [], 0),
  (86, 1, .istore_n 3, [], 0),
  (87, 1, .aload_n 0, [], 0),
  (88, 1, .aload_n 0, [], 0),
  (89, 3, .getfield 35, [], 0),
  (92, 2, .iload 5, [], 0),
  (94, 1, .iaload, [], 0),
  (95, 1, .iconst 2, [], 2),
  (96, 3, .invokevirtual 75, [], 0),
  (99, 1, .iconst 3, [], 3),
  (100, 3, .if_icmp .ge 6, [106], 0),
  (103, 1, .iconst 0, [], 0),
  (104, 2, .istore 4, [], 0),
  (106, 3, .iinc 5 1, [], 1),
  (109, 3, .goto (-64), [45], 0),
  (112, 1, .aload_n 0, [], 0),
  (113, 1, .iload_n 1, [], 0),
  (114, 3, .invokevirtual 136, [], 0),
  (117, 2, .istore 5, [], 0),
  (119, 1, .aload_n 0, [], 0),
  (120, 2, .iload 5, [], 0),
  (122, 3, .invokevirtual 72, [], 0),
  (125, 2, .istore 6, [], 0),
  (127, 2, .iload 6, [], 0),
  (129, 1, .iconst 1, [], 1),
  (130, 3, .if_icmp .ne 32, [162], 0),
  (133, 1, .iconst 2, [], 2),
  (134, 1, .iload_n 3, [], 0),
  (135, 1, .imul, [], 0),
  (136, 1, .aload_n 0, [], 0),
  (137, 2, .iload 5, [], 0),
  (139, 1, .iconst 0, [], 0),
  (140, 3, .invokevirtual 79, [], 0),
  (143, 3, .if_icmp .ge 19, [162], 0),
  (146, 1, .aload_n 0, [], 0),
  (147, 1, .iload_n 1, [], 0),
  (148, 3, .invokevirtual 150, [], 0),
  (151, 1, .aload_n 0, [], 0),
  (152, 3, .getfield 9, [], 0),
  (155, 1, .iconst 4, [], 4),
  (156, 1, .iaload, [], 0),
  (157, 3, .if_icmp .ge 5, [162], 0),
  (160, 1, .iconst 3, [], 3),
  (161, 1, .ireturn, [], 0),
  (162, 2, .iload 6, [], 0),
  (164, 1, .iconst 2, [], 2),
  (165, 3, .if_icmp .ne 12, [177], 0),
  (168, 2, .iload 4, [], 0),
  (170, 3, .ifCond .ne 7, [177], 0),
  (173, 1, .iconst 3, [], 3),
  (174, 3, .goto 4, [178], 0),
  (177, 1, .iconst 0, [], 0),
  (178, 1, .ireturn, [], 0)]
theorem kX9_rules_ok : kX9_rules.all (zck cX9_rules) = true := by decide +kernel

def rX9_rules : Room := { frames := 3, cells := 0, slots := 0, locals := 71 }
abbrev YX9_rules : zM := (RX9, cX9_rules, 7, some .int, rX9_rules, UM, zlk fX9, zcs [(162, 2, 0, 0, zvs (UM) 9 (sX9_rows)), (75, 3, 0, 0, zvs (UM) 9 (sX9_of)), (65, 2, 0, 0, zvs (UM) 9 (sX9_level)), (165, 2, 0, 0, zvs (UM) 9 (sX9_next)), (136, 2, 0, 0, zvs (UM) 9 (sX9_lockOf)), (72, 2, 0, 0, zvs (UM) 9 (sX9_dryness)), (79, 3, 0, 0, zvs (UM) 9 (sX9_lockPart)), (150, 2, 0, 0, zvs (UM) 9 (sX9_waited))] [(168, 2, 0, 0, sJ9_min_7cf53)])
theorem YX9_rules_ok : zYok (YX9_rules) := zYok_of fX9_ok (zall (zcal_mono (zcalV (Y := YX9_rules) (y := yX9_rows) (cc := cX9_rows) (nL := 7) (ret := none) (rm := rX9_rows) (mX9_rows) 162 1 9 (T := TX9) rfl wX9_162 ⟨by decide +kernel, by decide +kernel, by decide +kernel⟩ (by decide) ⟨Nat.le_of_ble_eq_true rfl, Nat.le_of_ble_eq_true rfl⟩) (fun _ _ _ _ h => zvs_P h)) (zall (zcal_mono (zcalV (Y := YX9_rules) (y := yX9_of) (cc := cX9_of) (nL := 3) (ret := some .int) (rm := rX9_of) (mX9_of) 75 2 9 (T := TX9) rfl wX9_75 ⟨by decide +kernel, by decide +kernel, by decide +kernel⟩ (by decide) ⟨Nat.le_of_ble_eq_true rfl, Nat.le_of_ble_eq_true rfl⟩) (fun _ _ _ _ h => zvs_P h)) (zall (zcal_mono (zcalV (Y := YX9_rules) (y := yX9_level) (cc := cX9_level) (nL := 2) (ret := some .int) (rm := rX9_level) (mX9_level) 65 1 9 (T := TX9) rfl wX9_65 ⟨by decide +kernel, by decide +kernel, by decide +kernel⟩ (by decide) ⟨Nat.le_of_ble_eq_true rfl, Nat.le_of_ble_eq_true rfl⟩) (fun _ _ _ _ h => zvs_P h)) (zall (zcal_mono (zcalV (Y := YX9_rules) (y := yX9_next) (cc := cX9_next) (nL := 2) (ret := some .int) (rm := rX9_next) (mX9_next) 165 1 9 (T := TX9) rfl wX9_165 ⟨by decide +kernel, by decide +kernel, by decide +kernel⟩ (by decide) ⟨Nat.le_of_ble_eq_true rfl, Nat.le_of_ble_eq_true rfl⟩) (fun _ _ _ _ h => zvs_P h)) (zall (zcal_mono (zcalV (Y := YX9_rules) (y := yX9_lockOf) (cc := cX9_lockOf) (nL := 2) (ret := some .int) (rm := rX9_lockOf) (mX9_lockOf) 136 1 9 (T := TX9) rfl wX9_136 ⟨by decide +kernel, by decide +kernel, by decide +kernel⟩ (by decide) ⟨Nat.le_of_ble_eq_true rfl, Nat.le_of_ble_eq_true rfl⟩) (fun _ _ _ _ h => zvs_P h)) (zall (zcal_mono (zcalV (Y := YX9_rules) (y := yX9_dryness) (cc := cX9_dryness) (nL := 3) (ret := some .int) (rm := rX9_dryness) (mX9_dryness) 72 1 9 (T := TX9) rfl wX9_72 ⟨by decide +kernel, by decide +kernel, by decide +kernel⟩ (by decide) ⟨Nat.le_of_ble_eq_true rfl, Nat.le_of_ble_eq_true rfl⟩) (fun _ _ _ _ h => zvs_P h)) (zall (zcal_mono (zcalV (Y := YX9_rules) (y := yX9_lockPart) (cc := cX9_lockPart) (nL := 3) (ret := some .int) (rm := rX9_lockPart) (mX9_lockPart) 79 2 9 (T := TX9) rfl wX9_79 ⟨by decide +kernel, by decide +kernel, by decide +kernel⟩ (by decide) ⟨Nat.le_of_ble_eq_true rfl, Nat.le_of_ble_eq_true rfl⟩) (fun _ _ _ _ h => zvs_P h)) (zall (zcal_mono (zcalV (Y := YX9_rules) (y := yX9_waited) (cc := cX9_waited) (nL := 2) (ret := some .int) (rm := rX9_waited) (mX9_waited) 150 1 9 (T := TX9) rfl wX9_150 ⟨by decide +kernel, by decide +kernel, by decide +kernel⟩ (by decide) ⟨Nat.le_of_ble_eq_true rfl, Nat.le_of_ble_eq_true rfl⟩) (fun _ _ _ _ h => zvs_P h)) znil)))))))) (zall (zcalS (Y := YX9_rules) (y := yJ9_min_7cf53) (cc := cJ9_min_7cf53) (nL := 2) (ret := some .int) (rm := rJ9_min_7cf53) (mJ9_min_7cf53 UM) 168 2 wX9_168 ⟨by decide +kernel, by decide +kernel, by decide +kernel⟩ (by decide) ⟨Nat.le_of_ble_eq_true rfl, Nat.le_of_ble_eq_true rfl⟩) znil)

theorem lX9_rules (ok : zO) (ex : zX) (F : zF) (b k : Nat) (low : Int32) (R : List Nat) (hb : b < 16) (hk : k < 4) (h1 : mLk F b = nI k) (h4 : ¬ F 1 (10 + 3 * k) = 0) (h5 : R.length ≤ 16) (h7 : ∀ x, x ∈ R → x < 16) : ∀ (rest pre : List Nat) (a z : Int32) (w : Option Value), R = pre ++ rest → ok (some (.int (mRl F b k low rest a z))) (zls 8 16 F R) → zWP YX9_rules ok ex 45 [some (.ref 0), some (.int (nI b)), some (.int low), some (.int a), some (.int z), some (.int (nI pre.length)), w] [] 0 0 (zls 8 16 F R) := by
  intro rest
  induction rest with
  | nil =>
    intro pre a z w hR h
    rw [List.append_nil] at hR
    have h8 : mRl F b k low [] a z = mRf F b k a z := rfl
    rw [h8] at h
    unfold mRf at h
    refine zat_ok YX9_rules_ok (inv := zi1 45 (fun ls st kc ks G => zWP YX9_rules ok ex 45 ls st kc ks G)) (zone fun _ _ _ _ _ h => h) kX9_rules (List.all_eq_true.mp kX9_rules_ok) 45 _ _ _ _ _ ?_
    refine And.intro (fun _ => ?_) (fun h9 => absurd ?_ h9)
    · refine ⟨b, rfl, hb, ?_⟩
      refine ⟨k, h1, by omega, h4, ?_⟩
      have hz : ok (some (.int (if mDry F k = 2 ∧ z = 0 then 3 else 0))) (zls 8 16 F R) → (mDry F k = 2 → z = 0 → ok (some (.int 3)) (zls 8 16 F R)) ∧ ((¬ mDry F k = 2 ∨ ¬ z = 0) → ok (some (.int 0)) (zls 8 16 F R)) := fun h10 => ⟨fun g1 g2 => by rw [if_pos ⟨g1, g2⟩] at h10; exact h10, fun g1 => by rw [if_neg (fun g2 => g1.elim (fun g3 => g3 g2.1) (fun g3 => g3 g2.2))] at h10; exact h10⟩
      refine And.intro (fun h10 => ?_) (fun h10 => ?_)
      · have h10 : ¬ mDry F k = 1 := h10
        rw [if_neg (fun g => h10 g.1)] at h
        have h := hz h
        exact And.intro (fun g => h.2 (Or.inl g)) (fun g => And.intro (fun g2 => h.2 (Or.inr g2)) (fun g2 => h.1 g g2))
      · have h10 : mDry F k = 1 := h10
        refine ⟨k, 0, h1, rfl, hk, by decide, ?_⟩
        refine And.intro (fun h11 => ?_) (fun h11 => ?_)
        · have h11 : mLP F k 0 ≤ 2 * a := h11
          rw [if_neg (fun g => absurd g.2.1 (Int32.not_lt.mpr h11))] at h
          have h := hz h
          exact And.intro (fun g => h.2 (Or.inl g)) (fun g => And.intro (fun g2 => h.2 (Or.inr g2)) (fun g2 => h.1 g g2))
        · have h11 : ¬ mLP F k 0 ≤ 2 * a := h11
          refine ⟨b, rfl, hb, ?_⟩
          refine Exists.intro (zix (k := 4) rfl (by decide) (by decide)) ?_
          refine And.intro (fun h12 => ?_) (fun h12 => ?_)
          · have h12 : F 1 4 ≤ mWd F b := h12
            rw [if_neg (fun g => absurd g.2.2 (Int32.not_lt.mpr h12))] at h
            have h := hz h
            exact And.intro (fun g => h.2 (Or.inl g)) (fun g => And.intro (fun g2 => h.2 (Or.inr g2)) (fun g2 => h.1 g g2))
          · have h12 : ¬ F 1 4 ≤ mWd F b := h12
            rw [if_pos ⟨h10, Int32.not_le.mp h11, Int32.not_le.mp h12⟩] at h
            exact h
    · show nI R.length ≤ nI pre.length
      rw [hR]
      exact nI_le (Nat.le_refl _) (by rw [← hR]; omega)
  | cons x u ih =>
    intro pre a z w hR h
    have hlen : R.length = pre.length + (u.length + 1) := by rw [hR, List.length_append, List.length_cons]
    have hx : R[pre.length]? = some x := by rw [hR]; simp
    have h9 : x < 16 := h7 x (List.mem_of_getElem? hx)
    have hp : (nI pre.length).toNatClampNeg = pre.length := nI_clamp (by omega)
    have hg : zls 8 16 F R 8 (nI pre.length).toNatClampNeg = nI x := by
      rw [hp]
      unfold zls
      rw [if_pos ⟨rfl, by omega⟩, List.getD_eq_getElem?_getD, hx]
      rfl
    have ih := ih (pre ++ [x]) (a + mOf F x 0) (if mOf F x 2 < 3 then 0 else z) w (by rw [hR, List.append_cons])
    rw [List.length_append, List.length_singleton, ← nI_1] at ih
    refine zat_ok YX9_rules_ok (inv := zi1 45 (fun ls st kc ks G => zWP YX9_rules ok ex 45 ls st kc ks G)) (zone fun _ _ _ _ _ h => h) kX9_rules (List.all_eq_true.mp kX9_rules_ok) 45 _ _ _ _ _ ?_
    refine And.intro (fun h10 => absurd h10 (nI_ge (a := pre.length) (b := R.length) (by omega) (by omega))) (fun _ => ?_)
    refine Exists.intro (zix (x := nI pre.length) rfl (by omega) (by decide)) ?_
    refine ⟨x, 1, hg, rfl, h9, by decide, ?_⟩
    refine And.intro (fun h10 => ?_) (fun h10 => ?_)
    · have h10 : mOf F x 1 ≤ low := h10
      have h11 : mRl F b k low (x :: u) a z = mRl F b k low u (a + mOf F x 0) (if mOf F x 2 < 3 then 0 else z) := if_neg (Int32.not_lt.mpr h10)
      rw [h11] at h
      have ih := ih h
      refine Exists.intro (zix (x := nI pre.length) rfl (by omega) (by decide)) ?_
      refine ⟨x, 0, hg, rfl, h9, by decide, ?_⟩
      refine Exists.intro (zix (x := nI pre.length) rfl (by omega) (by decide)) ?_
      refine ⟨x, 2, hg, rfl, h9, by decide, ?_⟩
      refine And.intro (fun h12 => ?_) (fun h12 => ?_)
      · have h12 : (3 : Int32) ≤ mOf F x 2 := h12
        rw [if_neg (Int32.not_lt.mpr h12)] at ih
        exact ih
      · have h12 : ¬ (3 : Int32) ≤ mOf F x 2 := h12
        rw [if_pos (Int32.not_le.mp h12)] at ih
        exact ih
    · have h10 : ¬ mOf F x 1 ≤ low := h10
      have h11 : mRl F b k low (x :: u) a z = 2 := if_pos (Int32.not_le.mp h10)
      rw [h11] at h
      exact h

theorem mX9_rules : zMet (UM) yX9_rules cX9_rules 7 (some .int) rX9_rules (sX9_rules) := by
  refine zmet (Y := YX9_rules) rfl (by decide +kernel) ?_
  intro av F ok ex h
  unfold sX9_rules at h
  split at h
  · rename_i x
    refine zgo_ok (YX9_rules_ok) (inv := zi1 45 (fun ls st kc ks G => zWP YX9_rules ok ex 45 ls st kc ks G)) (zone fun _ _ _ _ _ h => h) kX9_rules (List.all_eq_true.mp kX9_rules_ok) 0 _ _ _ _ _ ?_
    obtain ⟨b, n, k, r, t, L, rfl, hb, hn, hk, h0, c, h1, h2, hr, h3, ht, h4, h⟩ := h
    refine ⟨b, n, k, L, rfl, hb, hn, hk, h0, c, h1, ?_⟩
    have h5 : (mRow F k L).length ≤ 16 := Nat.le_trans (mRw_len F (mLP F k 0) L 0) (mCv_16 c hn)
    have h7 : ∀ x, x ∈ mRow F k L → x < 16 := fun x hx => Nat.lt_of_lt_of_le (mCv_lt c x (mRw_sub F (mLP F k 0) L 0 x hx)) hn
    unfold mRu at h
    generalize mRow F k L = R at h h5 h7
    refine And.intro (fun h6 => ?_) (fun h6 => ?_)
    · have h6 : ¬ nI R.length = 0 := h6
      refine ⟨b, 4, rfl, rfl, hb, by decide, ?_⟩
      refine ⟨r, h2, hr, h4 r hr (Or.inl rfl), ?_⟩
      refine ⟨b, rfl, hb, ?_⟩
      refine ⟨t, h3, ht, h4 t ht (Or.inr (Or.inl rfl)), ?_⟩
      have h8 : ok (some (.int (mRl F b k (imin (mLev F r) (mLev F t)) R 0 1))) (zls 8 16 F R) := by
        cases R with
        | nil => exact absurd rfl h6
        | cons x u => exact h
      exact lX9_rules ok ex F b k (imin (mLev F r) (mLev F t)) R hb hk h1 (h4 k (by omega) (Or.inr (Or.inr rfl))) h5 h7 R [] 0 1 none rfl h8
    · have h6 : nI R.length = 0 := h6
      have h9 : R = [] := by
        cases R with
        | nil => rfl
        | cons x u => exact absurd h6 (nI_ne0 (by simp) (by omega))
      subst h9
      exact h
  · exact h.elim

end ZM3

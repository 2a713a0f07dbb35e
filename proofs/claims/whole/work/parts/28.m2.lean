/-! the reference's locks: filling, emptying; who was locked -/
section ZM2
set_option maxRecDepth 20000
theorem zup_id (F : zF) (j i : Nat) : zup F j i (F j i) = F := by
  funext x y
  unfold zup
  split
  · rename_i hx
    split
    · rename_i hy
      rw [hx, hy]
    · rfl
  · rfl
def mLc (F : zF) (k b : Nat) : Int32 := mLP F k 1 - mLP F k 1 / 4 * nI (mBit b)
def mFil (F : zF) (k b : Nat) : zF := zup (zup (zup (zup F 1 (10 + 3 * k + 2) (mWa F k - mLc F k b)) 1 8 (F 1 8 + mLP F k 1 / 4 * nI (mBit b))) 1 (25 + 7 * k + 3) 1) 1 (25 + 7 * k + 4) 0
def sX9_fills : zSp := fun as F ok _ => match as with
  | [.ref 0, .int x] => ∃ k b, x = nI k ∧ k < 4 ∧ b < 8 ∧ mLP F k 4 = nI b ∧ (mWa F k < mLc F k b → ok (some (.int 0)) F) ∧ (¬ mWa F k < mLc F k b → ok (some (.int 1)) (mFil F k b))
  | _ => False
def mEa : Nat → Nat → Nat → Nat → Nat × Nat
  | 0, _, m, j => (m, j)
  | d + 1, b, m, j => if m / 2 ^ b % 2 = 1 then mEa d (b + 1) m j else mEa d (b + 1) (m ||| 2 ^ b) (j + 1)
def mEmp (F : zF) (k c nb m : Nat) : zF := zup (zup (zup F 1 (25 + 7 * k + 4) (nI (2 ^ nb - 1))) 1 (10 + 3 * (k + 1) + 2) (F 1 (10 + 3 * (k + 1) + 2) + nI (c - (nb - mBit m) * (c / 4)))) 1 (25 + 7 * k + 3) 0
def sX9_empties : zSp := fun as F ok _ => match as with
  | [.ref 0, .int x] => ∃ k c nb m, x = nI k ∧ k < 4 ∧ mLP F k 1 = nI c ∧ c ≤ 60 ∧ mLP F k 2 = nI nb ∧ nb ≤ 3 ∧ mLP F k 4 = nI m ∧ m < 2 ^ nb ∧ ok none (mEmp F k c nb m)
  | _ => False
def sX9_wasLocked : zSp := fun as F ok _ => match as with
  | [.ref 0, .int h] => ∃ n, n ≤ 16 ∧ F 1 2 = nI n ∧ zbo (∃ s, s < n ∧ mOf F s 6 = h ∧ ¬ F 9 s = 0) F ok
  | _ => False

def kX9_wasLocked : List zI := [
  (0, 1, .iconst 0, [], 0),
  (1, 1, .istore_n 2, [], 0),
  (2, 1, .iload_n 2, [], 0),
  (3, 1, .aload_n 0, [], 0),
  (4, 3, .getfield 9, [], 0),
  (7, 1, .iconst 2, [], 2),
  (8, 1, .iaload, [], 0),
  (9, 3, .if_icmp .ge 31, [40], 0),
  (12, 1, .aload_n 0, [], 0),
  (13, 1, .iload_n 2, [], 0),
  (14, 2, .bipush 6, [], 6),
  (16, 3, .invokevirtual 75, [], 0),
  (19, 1, .iload_n 1, [], 0),
  (20, 3, .if_icmp .ne 14, [34], 0),
  (23, 1, .aload_n 0, [], 0),
  (24, 3, .getfield 38, [], 0),
  (27, 1, .iload_n 2, [], 0),
  (28, 1, .baload, [], 0),
  (29, 3, .ifCond .eq 5, [34], 0),
  (32, 1, .iconst 1, [], 1),
  (33, 1, .ireturn, [], 0),
  (34, 3, .iinc 2 1, [], 1),
  (37, 3, .goto (-35), [2], 0),
  (40, 1, .iconst 0, [], 0),
  (41, 1, .ireturn, [], 0)]
theorem kX9_wasLocked_ok : kX9_wasLocked.all (zck cX9_wasLocked) = true := by decide +kernel

def rX9_wasLocked : Room := { frames := 1, cells := 0, slots := 0, locals := 22 }
abbrev YX9_wasLocked : zM := (RX9, cX9_wasLocked, 3, some .boolean, rX9_wasLocked, UM, zlk fX9, zcs [(75, 3, 0, 0, zvs (UM) 9 (sX9_of))] [])
theorem YX9_wasLocked_ok : zYok (YX9_wasLocked) := zYok_of fX9_ok (zall (zcal_mono (zcalV (Y := YX9_wasLocked) (y := yX9_of) (cc := cX9_of) (nL := 3) (ret := some .int) (rm := rX9_of) (mX9_of) 75 2 9 (T := TX9) rfl wX9_75 ⟨by decide +kernel, by decide +kernel, by decide +kernel⟩ (by decide) ⟨Nat.le_of_ble_eq_true rfl, Nat.le_of_ble_eq_true rfl⟩) (fun _ _ _ _ h => zvs_P h)) znil) znil

theorem lX9_wasLocked (ok : zO) (ex : zX) (F : zF) (x : Int32) (n : Nat) (hn : n ≤ 16) (h0 : F 1 2 = nI n) (h : zbo (∃ s, s < n ∧ mOf F s 6 = x ∧ ¬ F 9 s = 0) F ok) : ∀ (d k : Nat), k + d = n → (∀ j, j < k → ¬ (mOf F j 6 = x ∧ ¬ F 9 j = 0)) → zWP YX9_wasLocked ok ex 2 [some (.ref 0), some (.int x), some (.int (nI k))] [] 0 0 F := by
  intro d
  induction d with
  | zero =>
    intro k hk hb
    have hk : k = n := hk
    subst hk
    refine zat_ok YX9_wasLocked_ok (inv := zi1 2 (fun ls st kc ks G => zWP YX9_wasLocked ok ex 2 ls st kc ks G)) (zone fun _ _ _ _ _ h => h) kX9_wasLocked (List.all_eq_true.mp kX9_wasLocked_ok) 2 _ _ _ _ _ ?_
    refine Exists.intro (zix (k := 2) rfl (by decide) (by decide)) ?_
    refine And.intro (fun _ => Exists.intro (Or.inl rfl) (h.2 fun h1 => ?_)) (fun h1 => absurd ?_ h1)
    · obtain ⟨t, ht, h2⟩ := h1
      exact hb t ht h2
    · show F 1 2 ≤ nI k
      rw [h0]
      exact nI_le (Nat.le_refl _) (by omega)
  | succ d ih =>
    intro k hk hb
    refine zat_ok YX9_wasLocked_ok (inv := zi1 2 (fun ls st kc ks G => zWP YX9_wasLocked ok ex 2 ls st kc ks G)) (zone fun _ _ _ _ _ h => h) kX9_wasLocked (List.all_eq_true.mp kX9_wasLocked_ok) 2 _ _ _ _ _ ?_
    refine Exists.intro (zix (k := 2) rfl (by decide) (by decide)) ?_
    refine And.intro (fun h1 => absurd ?_ (nI_ge (a := k) (b := n) (by omega) (by omega))) (fun h1 => ?_)
    · have h1 : F 1 2 ≤ nI k := h1
      rw [h0] at h1
      exact h1
    refine ⟨k, 6, rfl, rfl, by omega, by decide, ?_⟩
    have ih := ih (k + 1) (by omega)
    rw [← nI_1 k] at ih
    refine And.intro (fun h2 => ih fun j hj h3 => ?_) (fun h2 => ?_)
    · by_cases h4 : j = k
      · exact h2 (by rw [← h4]; exact h3.1)
      · exact hb j (by omega) h3
    · refine Exists.intro (zix rfl (by omega) (by decide)) ?_
      have h5 : (nI k).toNatClampNeg = k := nI_clamp (by omega)
      refine And.intro (fun h3 => ih fun j hj h6 => ?_) (fun h3 => Exists.intro (Or.inr rfl) (h.1 ⟨k, by omega, h2, ?_⟩))
      · have h3 : F 9 (nI k).toNatClampNeg = 0 := h3
        rw [h5] at h3
        by_cases h4 : j = k
        · exact h6.2 (by rw [h4]; exact h3)
        · exact hb j (by omega) h6
      · have h3 : ¬ F 9 (nI k).toNatClampNeg = 0 := h3
        rw [h5] at h3
        exact h3

theorem mX9_wasLocked : zMet (UM) yX9_wasLocked cX9_wasLocked 3 (some .boolean) rX9_wasLocked (sX9_wasLocked) := by
  refine zmet (Y := YX9_wasLocked) rfl (by decide +kernel) ?_
  intro av F ok ex h
  unfold sX9_wasLocked at h
  split at h
  · rename_i x
    refine zgo_ok (YX9_wasLocked_ok) (inv := zi1 2 (fun ls st kc ks G => zWP YX9_wasLocked ok ex 2 ls st kc ks G)) (zone fun _ _ _ _ _ h => h) kX9_wasLocked (List.all_eq_true.mp kX9_wasLocked_ok) 0 _ _ _ _ _ ?_
    obtain ⟨n, hn, h0, h⟩ := h
    exact lX9_wasLocked ok ex F x n hn h0 h n 0 (Nat.zero_add _) (fun j hj => absurd hj (Nat.not_lt_zero j))
  · exact h.elim

theorem ix_lp3 (k : Nat) : 25 + 7 * nI k + 3 = nI (25 + 7 * k + 3) := by
  rw [show (3 : Int32) = nI 3 from rfl, ix_lp]
theorem ix_lp4 (k : Nat) : 25 + 7 * nI k + 4 = nI (25 + 7 * k + 4) := by
  rw [show (4 : Int32) = nI 4 from rfl, ix_lp]
theorem ix_lp5 (k : Nat) : 25 + 7 * nI k + 5 = nI (25 + 7 * k + 5) := by
  rw [show (5 : Int32) = nI 5 from rfl, ix_lp]
theorem ix_lp6 (k : Nat) : 25 + 7 * nI k + 6 = nI (25 + 7 * k + 6) := by
  rw [show (6 : Int32) = nI 6 from rfl, ix_lp]
theorem ix_rs2 (k : Nat) : 10 + 3 * (nI k + 1) + 2 = nI (10 + 3 * (k + 1) + 2) := by
  rw [nI_1, ix_re2]

def kX9_fills : List zI := [
  (0, 1, .aload_n 0, [], 0),
  (1, 1, .iload_n 1, [], 0),
  (2, 1, .iconst 4, [], 4),
  (3, 3, .invokevirtual 79, [], 0),
  (6, 3, .invokestatic 85, [], 0),
  (9, 1, .istore_n 2, [], 0),
  (10, 1, .aload_n 0, [], 0),
  (11, 1, .iload_n 1, [], 0),
  (12, 1, .iload_n 2, [], 0),
  (13, 3, .invokevirtual 103, [], 0),
  (16, 1, .istore_n 3, [], 0),
  (17, 1, .aload_n 0, [], 0),
  (18, 1, .iload_n 1, [], 0),
  (19, 3, .invokevirtual 62, [], 0),
  (22, 1, .iload_n 3, [], 0),
  (23, 3, .if_icmp .ge 5, [28], 0),
  (26, 1, .iconst 0, [], 0),
  (27, 1, .ireturn, [], 0),
  (28, 1, .aload_n 0, [], 0),
  (29, 3, .getfield 9, [], 0),
  (32, 2, .bipush 10, [], 10),
  (34, 1, .iconst 3, [], 3),
  (35, 1, .iload_n 1, [], 0),
  (36, 1, .imul, [], 0),
  (37, 1, .iadd, [], 0),
  (38, 1, .iconst 2, [], 2),
  (39, 1, .iadd, [], 0),
  (40, 1, .dup2, [], 0),
  (41, 1, .iaload, [], 0),
  (42, 1, .iload_n 3, [], 0),
  (43, 1, .isub, [], 0),
  (44, 1, .iastore, [], 0),
  (45, 1, .aload_n 0, [], 0),
  (46, 3, .getfield 9, [], 0),
  (49, 2, .bipush 8, [], 8),
  (51, 1, .dup2, [], 0),
  (52, 1, .iaload, [], 0),
  (53, 1, .aload_n 0, [], 0),
  (54, 1, .iload_n 1, [], 0),
  (55, 3, .invokevirtual 82, [], 0),
  (58, 1, .iload_n 2, [], 0),
  (59, 1, .imul, [], 0),
  (60, 1, .iadd, [], 0),
  (61, 1, .iastore, [], 0),
  (62, 1, .aload_n 0, [], 0),
  (63, 3, .getfield 9, [], 0),
  (66, 2, .bipush 25, [], 25),
  (68, 2, .bipush 7, [], 7),
  (70, 1, .iload_n 1, [], 0),
  (71, 1, .imul, [], 0),
  (72, 1, .iadd, [], 0),
  (73, 1, .iconst 3, [], 3),
  (74, 1, .iadd, [], 0),
  (75, 1, .iconst 1, [], 1),
  (76, 1, .iastore, [], 0),
  (77, 1, .aload_n 0, [], 0),
  (78, 3, .getfield 9, [], 0),
  (81, 2, .bipush 25, [], 25),
  (83, 2, .bipush 7, [], 7),
  (85, 1, .iload_n 1, [], 0),
  (86, 1, .imul, [], 0),
  (87, 1, .iadd, [], 0),
  (88, 1, .iconst 4, [], 4),
  (89, 1, .iadd, [], 0),
  (90, 1, .iconst 0, [], 0),
  (91, 1, .iastore, [], 0),
  (92, 1, .iconst 1, [], 1),
  (93, 1, .ireturn, [], 0)]
theorem kX9_fills_ok : kX9_fills.all (zck cX9_fills) = true := by decide +kernel

def rX9_fills : Room := { frames := 3, cells := 0, slots := 0, locals := 65 }
abbrev YX9_fills : zM := (RX9, cX9_fills, 4, some .boolean, rX9_fills, UM, zlk fX9, zcs [(79, 3, 0, 0, zvs (UM) 9 (sX9_lockPart)), (103, 3, 0, 0, zvs (UM) 9 (sX9_lacks)), (62, 2, 0, 0, zvs (UM) 9 (sX9_water)), (82, 2, 0, 0, zvs (UM) 9 (sX9_quarter))] [(85, 1, 0, 0, sJ6_bitCount_0f7a4)])
theorem YX9_fills_ok : zYok (YX9_fills) := zYok_of fX9_ok (zall (zcal_mono (zcalV (Y := YX9_fills) (y := yX9_lockPart) (cc := cX9_lockPart) (nL := 3) (ret := some .int) (rm := rX9_lockPart) (mX9_lockPart) 79 2 9 (T := TX9) rfl wX9_79 ⟨by decide +kernel, by decide +kernel, by decide +kernel⟩ (by decide) ⟨Nat.le_of_ble_eq_true rfl, Nat.le_of_ble_eq_true rfl⟩) (fun _ _ _ _ h => zvs_P h)) (zall (zcal_mono (zcalV (Y := YX9_fills) (y := yX9_lacks) (cc := cX9_lacks) (nL := 3) (ret := some .int) (rm := rX9_lacks) (mX9_lacks) 103 2 9 (T := TX9) rfl wX9_103 ⟨by decide +kernel, by decide +kernel, by decide +kernel⟩ (by decide) ⟨Nat.le_of_ble_eq_true rfl, Nat.le_of_ble_eq_true rfl⟩) (fun _ _ _ _ h => zvs_P h)) (zall (zcal_mono (zcalV (Y := YX9_fills) (y := yX9_water) (cc := cX9_water) (nL := 2) (ret := some .int) (rm := rX9_water) (mX9_water) 62 1 9 (T := TX9) rfl wX9_62 ⟨by decide +kernel, by decide +kernel, by decide +kernel⟩ (by decide) ⟨Nat.le_of_ble_eq_true rfl, Nat.le_of_ble_eq_true rfl⟩) (fun _ _ _ _ h => zvs_P h)) (zall (zcal_mono (zcalV (Y := YX9_fills) (y := yX9_quarter) (cc := cX9_quarter) (nL := 2) (ret := some .int) (rm := rX9_quarter) (mX9_quarter) 82 1 9 (T := TX9) rfl wX9_82 ⟨by decide +kernel, by decide +kernel, by decide +kernel⟩ (by decide) ⟨Nat.le_of_ble_eq_true rfl, Nat.le_of_ble_eq_true rfl⟩) (fun _ _ _ _ h => zvs_P h)) znil)))) (zall (zcalS (Y := YX9_fills) (y := yJ6_bitCount_0f7a4) (cc := cJ6_bitCount_0f7a4) (nL := 1) (ret := some .int) (rm := rJ6_bitCount_0f7a4) (mJ6_bitCount_0f7a4) 85 1 wX9_85 ⟨by decide +kernel, by decide +kernel, by decide +kernel⟩ (by decide) ⟨Nat.le_of_ble_eq_true rfl, Nat.le_of_ble_eq_true rfl⟩) znil)

theorem mX9_fills : zMet (UM) yX9_fills cX9_fills 4 (some .boolean) rX9_fills (sX9_fills) := by
  refine zmet (Y := YX9_fills) rfl (by decide +kernel) ?_
  intro av F ok ex h
  unfold sX9_fills at h
  split at h
  · rename_i x
    refine zgo_ok (YX9_fills_ok) zno kX9_fills (List.all_eq_true.mp kX9_fills_ok) 0 _ _ _ _ _ ?_
    obtain ⟨k, b, rfl, hk, hb, h0, h1, h2⟩ := h
    refine ⟨k, 4, rfl, rfl, hk, by decide, ?_⟩
    refine ⟨b, hb, h0, ?_⟩
    refine ⟨k, rfl, hk, ?_⟩
    refine ⟨k, rfl, by omega, ?_⟩
    refine And.intro (fun h3 => ?_) (fun h3 => Exists.intro (Or.inl rfl) (h1 (Int32.not_le.mp h3)))
    have h2 := h2 (Int32.not_lt.mpr h3)
    refine Exists.intro (zix (ix_re2 k) (by omega) (by decide)) ?_
    refine Exists.intro (zix (ix_re2 k) (by omega) (by decide)) ?_
    refine Exists.intro (zix (k := 8) rfl (by decide) (by decide)) ?_
    refine ⟨k, rfl, hk, ?_⟩
    refine Exists.intro (zix (k := 8) rfl (by decide) (by decide)) ?_
    refine Exists.intro (zix (ix_lp3 k) (by omega) (by decide)) ?_
    refine Exists.intro (zix (ix_lp4 k) (by omega) (by decide)) ?_
    refine Exists.intro (Or.inr rfl) ?_
    refine zleaf ok h2 rfl ?_
    have h5 : (10 + 3 * nI k + 2).toNatClampNeg = 10 + 3 * k + 2 := zicl (ix_re2 k) (by omega)
    have h6 : (25 + 7 * nI k + 3).toNatClampNeg = 25 + 7 * k + 3 := zicl (ix_lp3 k) (by omega)
    have h7 : (25 + 7 * nI k + 4).toNatClampNeg = 25 + 7 * k + 4 := zicl (ix_lp4 k) (by omega)
    have h8 : mFil F k b = zup (zup (zup (zup F 1 (10 + 3 * k + 2) (F 1 (10 + 3 * k + 2) - mLc F k b)) 1 8 (zup F 1 (10 + 3 * k + 2) (F 1 (10 + 3 * k + 2) - mLc F k b) 1 8 + mLP (zup F 1 (10 + 3 * k + 2) (F 1 (10 + 3 * k + 2) - mLc F k b)) k 1 / 4 * nI (mBit b))) 1 (25 + 7 * k + 3) 1) 1 (25 + 7 * k + 4) 0 := by
      have h9 : mLP (zup F 1 (10 + 3 * k + 2) (F 1 (10 + 3 * k + 2) - mLc F k b)) k 1 = mLP F k 1 := by
        unfold mLP
        rw [zup_an _ _ _ (by omega)]
      rw [h9, zup_an _ _ _ (by omega)]
      rfl
    rw [h8]
    show _ = zup (zup (zup (zup F 1 (10 + 3 * nI k + 2).toNatClampNeg (F 1 (10 + 3 * nI k + 2).toNatClampNeg - mLc F k b)) 1 8 (zup F 1 (10 + 3 * nI k + 2).toNatClampNeg (F 1 (10 + 3 * nI k + 2).toNatClampNeg - mLc F k b) 1 8 + mLP (zup F 1 (10 + 3 * nI k + 2).toNatClampNeg (F 1 (10 + 3 * nI k + 2).toNatClampNeg - mLc F k b)) k 1 / 4 * nI (mBit b))) 1 (25 + 7 * nI k + 3).toNatClampNeg 1) 1 (25 + 7 * nI k + 4).toNatClampNeg 0
    rw [h5, h6, h7]
  · exact h.elim

theorem mB_bit : ∀ b, b < 3 → ∀ m, m < 8 → (((nI m >>> (nI b &&& 31)) &&& 1 = 1) ↔ m / 2 ^ b % 2 = 1) := by decide +kernel
theorem mB_or : ∀ b, b < 3 → ∀ m, m < 8 → (nI m ||| ((1 : Int32) <<< (nI b &&& 31))) = nI (m ||| 2 ^ b) ∧ m ||| 2 ^ b < 8 := by decide +kernel
theorem mB_fin : ∀ nb, nb < 4 → ∀ m, m < 2 ^ nb → mEa nb 0 m 0 = (2 ^ nb - 1, nb - mBit m) := by decide +kernel
theorem nI_div4 (c : Nat) (h : c ≤ 60) : nI c / 4 = nI (c / 4) := by
  have h1 : ∀ c, c < 61 → nI c / 4 = nI (c / 4) := by decide +kernel
  exact h1 c (by omega)
theorem nI_subc {a b : Nat} (h : b ≤ a) : nI a - nI b = nI (a - b) := by
  have h1 : nI (a - b) + nI b = nI a := by rw [nI_add, Nat.sub_add_cancel h]
  rw [← h1, Int32.add_sub_cancel]

def kX9_empties : List zI := [
  (0, 1, .aload_n 0, [], 0),
  (1, 1, .iload_n 1, [], 0),
  (2, 1, .iconst 1, [], 1),
  (3, 3, .invokevirtual 79, [], 0),
  (6, 1, .istore_n 2, [], 0),
  (7, 1, .iconst 0, [], 0),
  (8, 1, .istore_n 3, [], 0),
  (9, 1, .iload_n 3, [], 0),
  (10, 1, .aload_n 0, [], 0),
  (11, 1, .iload_n 1, [], 0),
  (12, 1, .iconst 2, [], 2),
  (13, 3, .invokevirtual 79, [], 0),
  (16, 3, .if_icmp .ge 63, [79], 0),
  (19, 1, .aload_n 0, [], 0),
  (20, 1, .iload_n 1, [], 0),
  (21, 1, .iconst 4, [], 4),
  (22, 3, .invokevirtual 79, [], 0),
  (25, 1, .iload_n 3, [], 0),
  (26, 1, .ishr, [], 0),
  (27, 1, .iconst 1, [], 1),
  (28, 1, .iand, [], 0),
  (29, 1, .iconst 1, [], 1),
  (30, 3, .if_icmp .eq 43, [73], 0),
  (33, 1, .iload_n 2, [], 0),
  (34, 1, .aload_n 0, [], 0),
  (35, 1, .iload_n 1, [], 0),
  (36, 3, .invokevirtual 82, [], 0),
  (39, 3, .if_icmp .ge 6, [45], 0),
  (42, 3, .goto 31, [73], 0),
  (45, 1, .aload_n 0, [], 0),
  (46, 3, .getfield 9, [], 0),
  (49, 2, .bipush 25, [], 25),
  (51, 2, .bipush 7, [], 7),
  (53, 1, .iload_n 1, [], 0),
  (54, 1, .imul, [], 0),
  (55, 1, .iadd, [], 0),
  (56, 1, .iconst 4, [], 4),
  (57, 1, .iadd, [], 0),
  (58, 1, .dup2, [], 0),
  (59, 1, .iaload, [], 0),
  (60, 1, .iconst 1, [], 1),
  (61, 1, .iload_n 3, [], 0),
  (62, 1, .ishl, [], 0),
  (63, 1, .ior, [], 0),
  (64, 1, .iastore, [], 0),
  (65, 1, .iload_n 2, [], 0),
  (66, 1, .aload_n 0, [], 0),
  (67, 1, .iload_n 1, [], 0),
  (68, 3, .invokevirtual 82, [], 0),
  (71, 1, .isub, [], 0),
  (72, 1, .istore_n 2, [], 0),
  (73, 3, .iinc 3 1, [], 1),
  (76, 3, .goto (-67), [9], 0),
  (79, 1, .aload_n 0, [], 0),
  (80, 3, .getfield 9, [], 0),
  (83, 2, .bipush 10, [], 10),
  (85, 1, .iconst 3, [], 3),
  (86, 1, .iload_n 1, [], 0),
  (87, 1, .iconst 1, [], 1),
  (88, 1, .iadd, [], 0),
  (89, 1, .imul, [], 0),
  (90, 1, .iadd, [], 0),
  (91, 1, .iconst 2, [], 2),
  (92, 1, .iadd, [], 0),
  (93, 1, .dup2, [], 0),
  (94, 1, .iaload, [], 0),
  (95, 1, .iload_n 2, [], 0),
  (96, 1, .iadd, [], 0),
  (97, 1, .iastore, [], 0),
  (98, 1, .aload_n 0, [], 0),
  (99, 3, .getfield 9, [], 0),
  (102, 2, .bipush 25, [], 25),
  (104, 2, .bipush 7, [], 7),
  (106, 1, .iload_n 1, [], 0),
  (107, 1, .imul, [], 0),
  (108, 1, .iadd, [], 0),
  (109, 1, .iconst 3, [], 3),
  (110, 1, .iadd, [], 0),
  (111, 1, .iconst 0, [], 0),
  (112, 1, .iastore, [], 0),
  (113, 1, .return_, [], 0)]
theorem kX9_empties_ok : kX9_empties.all (zck cX9_empties) = true := by decide +kernel

def rX9_empties : Room := { frames := 2, cells := 0, slots := 0, locals := 43 }
abbrev YX9_empties : zM := (RX9, cX9_empties, 4, none, rX9_empties, UM, zlk fX9, zcs [(79, 3, 0, 0, zvs (UM) 9 (sX9_lockPart)), (82, 2, 0, 0, zvs (UM) 9 (sX9_quarter))] [])
theorem YX9_empties_ok : zYok (YX9_empties) := zYok_of fX9_ok (zall (zcal_mono (zcalV (Y := YX9_empties) (y := yX9_lockPart) (cc := cX9_lockPart) (nL := 3) (ret := some .int) (rm := rX9_lockPart) (mX9_lockPart) 79 2 9 (T := TX9) rfl wX9_79 ⟨by decide +kernel, by decide +kernel, by decide +kernel⟩ (by decide) ⟨Nat.le_of_ble_eq_true rfl, Nat.le_of_ble_eq_true rfl⟩) (fun _ _ _ _ h => zvs_P h)) (zall (zcal_mono (zcalV (Y := YX9_empties) (y := yX9_quarter) (cc := cX9_quarter) (nL := 2) (ret := some .int) (rm := rX9_quarter) (mX9_quarter) 82 1 9 (T := TX9) rfl wX9_82 ⟨by decide +kernel, by decide +kernel, by decide +kernel⟩ (by decide) ⟨Nat.le_of_ble_eq_true rfl, Nat.le_of_ble_eq_true rfl⟩) (fun _ _ _ _ h => zvs_P h)) znil)) znil

theorem mLP_z (F : zF) (k w : Nat) (v : Int32) (hk : k < 4) (h : w < 4) : mLP (zup F 1 (25 + 7 * k + 4) v) k w = mLP F k w := by
  unfold mLP
  rw [zup_an _ _ _ (by omega)]
theorem mLP_4 (F : zF) (k : Nat) (v : Int32) : mLP (zup F 1 (25 + 7 * k + 4) v) k 4 = v := by
  unfold mLP
  rw [zup_at]
theorem lX9_empties (ok : zO) (ex : zX) (F : zF) (k c nb : Nat) (hk : k < 4) (hc : mLP F k 1 = nI c) (h60 : c ≤ 60) (hb : mLP F k 2 = nI nb) (h3 : nb ≤ 3) :
    ∀ (d b m j : Nat), b + d = nb → m < 8 → j ≤ b → ok none (zup (zup (zup F 1 (25 + 7 * k + 4) (nI (mEa d b m j).1)) 1 (10 + 3 * (k + 1) + 2) (F 1 (10 + 3 * (k + 1) + 2) + nI (c - (mEa d b m j).2 * (c / 4)))) 1 (25 + 7 * k + 3) 0) →
    zWP YX9_empties ok ex 9 [some (.ref 0), some (.int (nI k)), some (.int (nI (c - j * (c / 4)))), some (.int (nI b))] [] 0 0 (zup F 1 (25 + 7 * k + 4) (nI m)) := by
  intro d
  induction d with
  | zero =>
    intro b m j hd hm hj h
    have hd : b = nb := hd
    subst hd
    refine zat_ok YX9_empties_ok (inv := zi1 9 (fun ls st kc ks G => zWP YX9_empties ok ex 9 ls st kc ks G)) (zone fun _ _ _ _ _ h => h) kX9_empties (List.all_eq_true.mp kX9_empties_ok) 9 _ _ _ _ _ ?_
    refine ⟨k, 2, rfl, rfl, hk, by decide, ?_⟩
    refine And.intro (fun _ => ?_) (fun h1 => absurd ?_ h1)
    · refine Exists.intro (zix (ix_rs2 k) (by omega) (by decide)) ?_
      refine Exists.intro (zix (ix_rs2 k) (by omega) (by decide)) ?_
      refine Exists.intro (zix (ix_lp3 k) (by omega) (by decide)) ?_
      refine zleaf ok h rfl ?_
      have h5 : (10 + 3 * (nI k + 1) + 2).toNatClampNeg = 10 + 3 * (k + 1) + 2 := zicl (ix_rs2 k) (by omega)
      have h6 : (25 + 7 * nI k + 3).toNatClampNeg = 25 + 7 * k + 3 := zicl (ix_lp3 k) (by omega)
      show _ = zup (zup (zup F 1 (25 + 7 * k + 4) (nI m)) 1 (10 + 3 * (nI k + 1) + 2).toNatClampNeg (zup F 1 (25 + 7 * k + 4) (nI m) 1 (10 + 3 * (nI k + 1) + 2).toNatClampNeg + nI (c - j * (c / 4)))) 1 (25 + 7 * nI k + 3).toNatClampNeg 0
      rw [h5, h6, zup_an _ _ _ (show 10 + 3 * (k + 1) + 2 ≠ 25 + 7 * k + 4 by omega)]
      rfl
    · show mLP (zup F 1 (25 + 7 * k + 4) (nI m)) k 2 ≤ nI b
      rw [mLP_z F k 2 _ hk (by decide), hb]
      exact nI_le (Nat.le_refl _) (by omega)
  | succ d ih =>
    intro b m j hd hm hj h
    refine zat_ok YX9_empties_ok (inv := zi1 9 (fun ls st kc ks G => zWP YX9_empties ok ex 9 ls st kc ks G)) (zone fun _ _ _ _ _ h => h) kX9_empties (List.all_eq_true.mp kX9_empties_ok) 9 _ _ _ _ _ ?_
    refine ⟨k, 2, rfl, rfl, hk, by decide, ?_⟩
    refine And.intro (fun h1 => absurd ?_ (nI_ge (a := b) (b := nb) (by omega) (by omega))) (fun h1 => ?_)
    · have h1 : mLP (zup F 1 (25 + 7 * k + 4) (nI m)) k 2 ≤ nI b := h1
      rw [mLP_z F k 2 _ hk (by decide), hb] at h1
      exact h1
    refine ⟨k, 4, rfl, rfl, hk, by decide, ?_⟩
    have h5 := mB_bit b (by omega) m hm
    refine And.intro (fun h2 => ?_) (fun h2 => ?_)
    · have h2 : (mLP (zup F 1 (25 + 7 * k + 4) (nI m)) k 4 >>> (nI b &&& 31)) &&& 1 = 1 := h2
      rw [mLP_4] at h2
      have h6 : mEa (d + 1) b m j = mEa d (b + 1) m j := if_pos (h5.mp h2)
      rw [h6] at h
      have ih := ih (b + 1) m j (by omega) hm (by omega) h
      rw [← nI_1 b] at ih
      exact ih
    · have h2 : ¬ (mLP (zup F 1 (25 + 7 * k + 4) (nI m)) k 4 >>> (nI b &&& 31)) &&& 1 = 1 := h2
      rw [mLP_4] at h2
      have h6 : mEa (d + 1) b m j = mEa d (b + 1) (m ||| 2 ^ b) (j + 1) := if_neg (fun h7 => h2 (h5.mpr h7))
      rw [h6] at h
      have h8 := mB_or b (by omega) m hm
      have h10 : mLP (zup F 1 (25 + 7 * k + 4) (nI m)) k 1 / 4 = nI (c / 4) := by
        rw [mLP_z F k 1 _ hk (by decide), hc, nI_div4 c h60]
      have h11 : j * (c / 4) ≤ 2 * (c / 4) := Nat.mul_le_mul_right _ (by omega)
      have ih := ih (b + 1) (m ||| 2 ^ b) (j + 1) (by omega) h8.2 (by omega) h
      refine ⟨k, rfl, hk, ?_⟩
      refine And.intro (fun h9 => ?_) (fun h9 => absurd ?_ h9)
      · refine Exists.intro (zix (ix_lp4 k) (by omega) (by decide)) ?_
        refine Exists.intro (zix (ix_lp4 k) (by omega) (by decide)) ?_
        refine ⟨k, rfl, hk, ?_⟩
        have h12 : (25 + 7 * nI k + 4).toNatClampNeg = 25 + 7 * k + 4 := zicl (ix_lp4 k) (by omega)
        show zWP YX9_empties ok ex 9 [some (.ref 0), some (.int (nI k)), some (.int (nI (c - j * (c / 4)) - mLP (zup (zup F 1 (25 + 7 * k + 4) (nI m)) 1 (25 + 7 * nI k + 4).toNatClampNeg (zup F 1 (25 + 7 * k + 4) (nI m) 1 (25 + 7 * nI k + 4).toNatClampNeg ||| (1 <<< (nI b &&& 31)))) k 1 / 4)), some (.int (nI b + 1))] [] 0 0 (zup (zup F 1 (25 + 7 * k + 4) (nI m)) 1 (25 + 7 * nI k + 4).toNatClampNeg (zup F 1 (25 + 7 * k + 4) (nI m) 1 (25 + 7 * nI k + 4).toNatClampNeg ||| (1 <<< (nI b &&& 31))))
        rw [h12, zup_zup, zup_at, h8.1, mLP_z F k 1 _ hk (by decide), hc, nI_div4 c h60, nI_subc (by omega), nI_1, show c - j * (c / 4) - c / 4 = c - (j + 1) * (c / 4) by rw [Nat.add_mul]; omega]
        exact ih
      · show mLP (zup F 1 (25 + 7 * k + 4) (nI m)) k 1 / 4 ≤ nI (c - j * (c / 4))
        rw [h10]
        exact nI_le (by omega) (by omega)

theorem mX9_empties : zMet (UM) yX9_empties cX9_empties 4 (none) rX9_empties (sX9_empties) := by
  refine zmet (Y := YX9_empties) rfl (by decide +kernel) ?_
  intro av F ok ex h
  unfold sX9_empties at h
  split at h
  · rename_i x
    refine zgo_ok (YX9_empties_ok) (inv := zi1 9 (fun ls st kc ks G => zWP YX9_empties ok ex 9 ls st kc ks G)) (zone fun _ _ _ _ _ h => h) kX9_empties (List.all_eq_true.mp kX9_empties_ok) 0 _ _ _ _ _ ?_
    obtain ⟨k, c, nb, m, rfl, hk, hc, h60, hb, h3, hm, h4, h⟩ := h
    refine ⟨k, 1, rfl, rfl, hk, by decide, ?_⟩
    have h8 : m < 8 := Nat.lt_of_lt_of_le h4 (Nat.pow_le_pow_right (n := 2) (by decide) h3)
    have h5 := lX9_empties ok ex F k c nb hk hc h60 hb h3 nb 0 m 0 (Nat.zero_add _) h8 (Nat.le_refl _)
    rw [mB_fin nb (by omega) m h4] at h5
    have h5 := h5 h
    have h6 : zup F 1 (25 + 7 * k + 4) (nI m) = F := by
      rw [← hm]
      exact zup_id F 1 (25 + 7 * k + 4)
    rw [h6, Nat.zero_mul, Nat.sub_zero, ← hc] at h5
    exact h5
  · exact h.elim

end ZM2

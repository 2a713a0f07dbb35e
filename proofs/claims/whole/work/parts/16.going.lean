/-! LockMaster.GoingRow: 44: ships, sizes, draught, least rank -/
section ZGo
def qLk1 (F : zF) (i : Int32) : zF := zup (zup (zup (zup F 44 0 (F 44 0 + 1)) 44 1 (F 44 1 + qSz F i)) 44 2 (imax (F 44 2) (qDr F i))) 44 3 (imin (F 44 3) (qRk F i))
def qLk0 (F : zF) : zF := zup (zup (zup (zup F 44 0 0) 44 1 0) 44 2 0) 44 3 3
def qLok (len : Int32) : Nat → zF → Int32 → zF
  | 0, F, _ => F
  | f + 1, F, i => if i = -1 then F else if len < F 44 1 + qSz F i then F else qLok len f (qLk1 F i) (qNx F i)
def qLook (F : zF) (h len : Int32) : zF := qLok len 16 (qLk0 F) h
abbrev qHb (F : zF) (d l b : Int32) : Prop := (d = 2 ∧ F 44 3 < 3) ∨ (d ≠ 2 ∧ d = 1 ∧ 2 * F 44 1 < l ∧ b = 0)
def sX4_lookAt : zSp := fun as F ok _ => match as with
  | [.ref 44, .ref 25, .int h, .int l] => ok none (qLook F h l)
  | _ => False
def sX4_isHeldBack : zSp := fun as F ok _ => match as with
  | [.ref 44, .int d, .int l, .int b] => zbo (qHb F d l b) F ok
  | _ => False
theorem qLk1_0 (F : zF) (i : Int32) : qLk1 F i 44 0 = F 44 0 + 1 := by simp [qLk1, zup]
theorem qLk1_o (F : zF) (i : Int32) {k : Nat} (h : k ≠ 44) : qLk1 F i k = F k := by simp only [qLk1, zup_ne _ _ _ h]

def kX4_lookAt : List zI := [
  (0, 1, .aload_n 0, [], 0),
  (1, 1, .iconst 0, [], 0),
  (2, 3, .putfield 9, [], 0),
  (5, 1, .aload_n 0, [], 0),
  (6, 1, .iconst 0, [], 0),
  (7, 3, .putfield 15, [], 0),
  (10, 1, .aload_n 0, [], 0),
  (11, 1, .iconst 0, [], 0),
  (12, 3, .putfield 18, [], 0),
  (15, 1, .aload_n 0, [], 0),
  (16, 1, .iconst 3, [], 3),
  (17, 3, .putfield 21, [], 0),
  (20, 1, .iload_n 2, [], 0),
  (21, 2, .istore 4, [], 0),
  (23, 2, .iload 4, [], 0),
  (25, 1, .iconst (-1), [], (-1)),
  (26, 3, .if_icmp .eq 113, [139], 0),
  (29, 1, .aload_n 0, [], 0),
  (30, 3, .getfield 9, [], 0),
  (33, 2, .bipush 16, [], 16),
  (35, 3, .if_icmp .ge 104, [139], 0),
  (38, 1, .aload_n 0, [], 0),
  (39, 3, .getfield 15, [], 0),
  (42, 1, .aload_n 1, [], 0),
  (43, 3, .getfield 24, [], 0),
  (46, 2, .iload 4, [], 0),
  (48, 3, .invokevirtual 30, [], 0),
  (51, 1, .iadd, [], 0),
  (52, 1, .iload_n 3, [], 0),
  (53, 3, .if_icmp .le 4, [57], 0),
  (56, 1, .return_, [], 0),
  (57, 1, .aload_n 0, [], 0),
  (58, 1, .dup, [], 0),
  (59, 3, .getfield 9, [], 0),
  (62, 1, .iconst 1, [], 1),
  (63, 1, .iadd, [], 0),
  (64, 3, .putfield 9, [], 0),
  (67, 1, .aload_n 0, [], 0),
  (68, 1, .dup, [], 0),
  (69, 3, .getfield 15, [], 0),
  (72, 1, .aload_n 1, [], 0),
  (73, 3, .getfield 24, [], 0),
  (76, 2, .iload 4, [], 0),
  (78, 3, .invokevirtual 30, [], 0),
  (81, 1, .iadd, [], 0),
  (82, 3, .putfield 15, [], 0),
  (85, 1, .aload_n 0, [], 0),
  (86, 1, .aload_n 0, [], 0),
  (87, 3, .getfield 18, [], 0),
  (90, 1, .aload_n 1, [], 0),
  (91, 3, .getfield 36, [], 0),
  (94, 2, .iload 4, [], 0),
  (96, 3, .invokevirtual 30, [], 0),
  (99, 3, .invokestatic 38, [], 0),
  (102, 3, .putfield 18, [], 0),
  (105, 1, .aload_n 0, [], 0),
  (106, 1, .aload_n 0, [], 0),
  (107, 3, .getfield 21, [], 0),
  (110, 1, .aload_n 1, [], 0),
  (111, 3, .getfield 44, [], 0),
  (114, 2, .iload 4, [], 0),
  (116, 3, .invokevirtual 30, [], 0),
  (119, 3, .invokestatic 47, [], 0),
  (122, 3, .putfield 21, [], 0),
  (125, 1, .aload_n 1, [], 0),
  (126, 3, .getfield 50, [], 0),
  (129, 2, .iload 4, [], 0),
  (131, 3, .invokevirtual 30, [], 0),
  (134, 2, .istore 4, [], 0),
  (136, 3, .goto (-113), [23], 0),
  (139, 1, .return_, [], 0)]
theorem kX4_lookAt_ok : kX4_lookAt.all (zck cX4_lookAt) = true := by decide +kernel

def rX4_lookAt : Room := { frames := 1, cells := 0, slots := 0, locals := 21 }
abbrev YX4_lookAt : zM := (RX4, cX4_lookAt, 5, none, rX4_lookAt, UC, zlk fX4, zcs [(30, 2, 0, 0, zvs (UC) 7 (sU_at UC))] [(38, 2, 0, 0, sJ9_max_7cf53), (47, 2, 0, 0, sJ9_min_7cf53)])
theorem YX4_lookAt_ok : zYok (YX4_lookAt) := zYok_of fX4_ok (zall (zcal_mono (zcalV (Y := YX4_lookAt) (y := yX7_at) (cc := cX7_at) (nL := 2) (ret := some .int) (rm := rX7_at) (mU_at UC UC_small) 30 1 7 (T := TX7) rfl wX4_30 ⟨by decide +kernel, by decide +kernel, by decide +kernel⟩ (by decide) ⟨Nat.le_of_ble_eq_true rfl, Nat.le_of_ble_eq_true rfl⟩) (fun _ _ _ _ h => zvs_P h)) znil) (zall (zcalS (Y := YX4_lookAt) (y := yJ9_max_7cf53) (cc := cJ9_max_7cf53) (nL := 2) (ret := some .int) (rm := rJ9_max_7cf53) (mJ9_max_7cf53 UC) 38 2 wX4_38 ⟨by decide +kernel, by decide +kernel, by decide +kernel⟩ (by decide) ⟨Nat.le_of_ble_eq_true rfl, Nat.le_of_ble_eq_true rfl⟩) (zall (zcalS (Y := YX4_lookAt) (y := yJ9_min_7cf53) (cc := cJ9_min_7cf53) (nL := 2) (ret := some .int) (rm := rJ9_min_7cf53) (mJ9_min_7cf53 UC) 47 2 wX4_47 ⟨by decide +kernel, by decide +kernel, by decide +kernel⟩ (by decide) ⟨Nat.le_of_ble_eq_true rfl, Nat.le_of_ble_eq_true rfl⟩) znil))

theorem lX4_lookAt (ok : zO) (ex : zX) (x l : Int32) : ∀ (f k : Nat) (i : Int32) (F : zF), k + f = 16 → F 44 0 = nI k → ok none (qLok l f F i) → zWP YX4_lookAt ok ex 23 [some (.ref 44), some (.ref 25), some (.int x), some (.int l), some (.int i)] [] 0 0 F := by
  intro f
  induction f with
  | zero =>
    intro k i F hk hF h
    have hk : k = 16 := hk
    subst hk
    refine zat_ok YX4_lookAt_ok zno kX4_lookAt (List.all_eq_true.mp kX4_lookAt_ok) 23 _ _ _ _ _ ?_
    refine And.intro (fun _ => h) (fun _ => And.intro (fun _ => h) (fun h1 => absurd ?_ h1))
    show (16 : Int32) ≤ F 44 0
    rw [hF]
    exact z16_ge
  | succ f ih =>
    intro k i F hk hF h
    refine zat_ok YX4_lookAt_ok (inv := zi1 23 (fun ls st kc ks G => zWP YX4_lookAt ok ex 23 ls st kc ks G)) (zone fun _ _ _ _ _ h => h) kX4_lookAt (List.all_eq_true.mp kX4_lookAt_ok) 23 _ _ _ _ _ ?_
    refine And.intro (fun h1 => ?_) (fun h1 => And.intro (fun h2 => absurd ?_ (z16_lt hk (by omega))) (fun _ => And.intro (fun h3 => ?_) (fun h3 => ?_)))
    · have e : qLok l (f + 1) F i = F := by simp only [qLok]; exact if_pos h1
      rw [e] at h
      exact h
    · rw [← hF]
      exact h2
    · have h3 : F 44 1 + qSz F i ≤ l := h3
      have e : qLok l (f + 1) F i = qLok l f (qLk1 F i) (qNx F i) := by simp only [qLok]; rw [if_neg h1]; exact if_neg (Int32.not_lt.mpr h3)
      rw [e] at h
      have := ih (k + 1) (qNx F i) (qLk1 F i) (by omega) (by rw [qLk1_0, hF, nI_1]) h
      unfold qLk1 at this
      have e2 : ∀ (G : zF) (n : Nat) (v : Int32), zup G 44 n v 27 = G 27 ∧ zup G 44 n v 29 = G 29 ∧ zup G 44 n v 31 = G 31 ∧ zup G 44 n v 43 = G 43 := fun G n v => ⟨zup_ne _ _ _ (by decide), zup_ne _ _ _ (by decide), zup_ne _ _ _ (by decide), zup_ne _ _ _ (by decide)⟩
      refine Eq.mp ?_ this
      congr 1
    · have h3 : ¬ F 44 1 + qSz F i ≤ l := h3
      have e : qLok l (f + 1) F i = F := by simp only [qLok]; rw [if_neg h1]; exact if_pos (Int32.not_le.mp h3)
      rw [e] at h
      exact h

theorem mX4_lookAt : zMet (UC) yX4_lookAt cX4_lookAt 5 (none) rX4_lookAt (sX4_lookAt) := by
  refine zmet (Y := YX4_lookAt) rfl (by decide +kernel) ?_
  intro av F ok ex h
  unfold sX4_lookAt at h
  split at h
  · rename_i hd l
    refine zgo_ok (YX4_lookAt_ok) (inv := zi1 23 (fun ls st kc ks G => zWP YX4_lookAt ok ex 23 ls st kc ks G)) (zone fun _ _ _ _ _ h => h) kX4_lookAt (List.all_eq_true.mp kX4_lookAt_ok) 0 _ _ _ _ _ ?_
    exact lX4_lookAt ok ex hd l 16 0 hd (qLk0 F) rfl (by simp [qLk0, zup, nI]) h
  · exact h.elim

def kX4_isHeldBack : List zI := [
  (0, 1, .iload_n 1, [], 0),
  (1, 1, .iconst 2, [], 2),
  (2, 3, .if_icmp .ne 17, [19], 0),
  (5, 1, .aload_n 0, [], 0),
  (6, 3, .getfield 21, [], 0),
  (9, 1, .iconst 3, [], 3),
  (10, 3, .if_icmp .ge 7, [17], 0),
  (13, 1, .iconst 1, [], 1),
  (14, 3, .goto 4, [18], 0),
  (17, 1, .iconst 0, [], 0),
  (18, 1, .ireturn, [], 0),
  (19, 1, .iload_n 1, [], 0),
  (20, 1, .iconst 1, [], 1),
  (21, 3, .if_icmp .ne 21, [42], 0),
  (24, 1, .iconst 2, [], 2),
  (25, 1, .aload_n 0, [], 0),
  (26, 3, .getfield 15, [], 0),
  (29, 1, .imul, [], 0),
  (30, 1, .iload_n 2, [], 0),
  (31, 3, .if_icmp .ge 11, [42], 0),
  (34, 1, .iload_n 3, [], 0),
  (35, 3, .ifCond .ne 7, [42], 0),
  (38, 1, .iconst 1, [], 1),
  (39, 3, .goto 4, [43], 0),
  (42, 1, .iconst 0, [], 0),
  (43, 1, .ireturn, [], 0)]
theorem kX4_isHeldBack_ok : kX4_isHeldBack.all (zck cX4_isHeldBack) = true := by decide +kernel

def rX4_isHeldBack : Room := { frames := 0, cells := 0, slots := 0, locals := 0 }
abbrev YX4_isHeldBack : zM := (RX4, cX4_isHeldBack, 4, some .boolean, rX4_isHeldBack, UC, zlk fX4, zcs [] [])
theorem YX4_isHeldBack_ok : zYok (YX4_isHeldBack) := zYok_of fX4_ok znil znil

theorem mX4_isHeldBack : zMet (UC) yX4_isHeldBack cX4_isHeldBack 4 (some .boolean) rX4_isHeldBack (sX4_isHeldBack) := by
  refine zmet (Y := YX4_isHeldBack) rfl (by decide +kernel) ?_
  intro av F ok ex h
  unfold sX4_isHeldBack at h
  split at h
  · rename_i d l b
    refine zgo_ok (YX4_isHeldBack_ok) zno kX4_isHeldBack (List.all_eq_true.mp kX4_isHeldBack_ok) 0 _ _ _ _ _ ?_
    refine And.intro (fun h1 => ?_) (fun h1 => ?_)
    · refine And.intro (fun h2 => ?_) (fun h2 => ?_)
      · exact Exists.intro (Or.inl rfl) (h.2 fun hc => hc.elim (fun q => h1 q.1) (fun q => h2 q.2.1))
      · refine And.intro (fun h3 => ?_) (fun h3 => ?_)
        · exact Exists.intro (Or.inl rfl) (h.2 fun hc => hc.elim (fun q => h1 q.1) (fun q => Int32.not_lt.mpr h3 q.2.2.1))
        · refine And.intro (fun h4 => ?_) (fun h4 => ?_)
          · exact Exists.intro (Or.inl rfl) (h.2 fun hc => hc.elim (fun q => h1 q.1) (fun q => h4 q.2.2.2))
          · exact Exists.intro (Or.inr rfl) (h.1 (Or.inr ⟨h1, h2, Int32.not_le.mp h3, h4⟩))
    · refine And.intro (fun h2 => ?_) (fun h2 => ?_)
      · exact Exists.intro (Or.inl rfl) (h.2 fun hc => hc.elim (fun q => Int32.not_lt.mpr h2 q.2) (fun q => q.1 h1))
      · exact Exists.intro (Or.inr rfl) (h.1 (Or.inl ⟨h1, Int32.not_le.mp h2⟩))
  · exact h.elim

end ZGo

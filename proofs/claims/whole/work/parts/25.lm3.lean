/-! LockMaster's methods with loops: pass, arrive, untilLeft -/
section ZL3
set_option maxRecDepth 20000

def kX8_pass : List zI := [
  (0, 1, .iload_n 1, [], 0),
  (1, 1, .iconst 1, [], 1),
  (2, 2, .bipush 40, [], 40),
  (4, 3, .invokestatic 47, [], 0),
  (7, 3, .ifCond .eq 22, [29], 0),
  (10, 1, .iload_n 1, [], 0),
  (11, 3, .sipush 500, [], 500),
  (14, 1, .aload_n 0, [], 0),
  (15, 3, .getfield 10, [], 0),
  (18, 3, .getfield 255, [], 0),
  (21, 1, .isub, [], 0),
  (22, 3, .if_icmp .gt 7, [29], 0),
  (25, 1, .iconst 1, [], 1),
  (26, 3, .goto 4, [30], 0),
  (29, 1, .iconst 0, [], 0),
  (30, 3, .invokestatic 51, [], 0),
  (33, 1, .aload_n 0, [], 0),
  (34, 3, .getfield 10, [], 0),
  (37, 3, .getfield 55, [], 0),
  (40, 3, .getfield 59, [], 0),
  (43, 1, .iconst 2, [], 2),
  (44, 3, .if_icmp .lt 7, [51], 0),
  (47, 1, .iconst 1, [], 1),
  (48, 3, .goto 4, [52], 0),
  (51, 1, .iconst 0, [], 0),
  (52, 3, .invokestatic 71, [], 0),
  (55, 1, .aload_n 0, [], 0),
  (56, 3, .getfield 25, [], 0),
  (59, 1, .aload_n 0, [], 0),
  (60, 3, .getfield 10, [], 0),
  (63, 3, .invokevirtual 74, [], 0),
  (66, 1, .aload_n 0, [], 0),
  (67, 3, .getfield 10, [], 0),
  (70, 3, .getfield 64, [], 0),
  (73, 3, .invokevirtual 258, [], 0),
  (76, 1, .istore_n 2, [], 0),
  (77, 1, .iconst 0, [], 0),
  (78, 1, .istore_n 3, [], 0),
  (79, 1, .iload_n 3, [], 0),
  (80, 1, .iload_n 1, [], 0),
  (81, 3, .if_icmp .ge 16, [97], 0),
  (84, 1, .aload_n 0, [], 0),
  (85, 3, .getfield 10, [], 0),
  (88, 3, .invokevirtual 261, [], 0),
  (91, 3, .iinc 3 1, [], 1),
  (94, 3, .goto (-15), [79], 0),
  (97, 1, .aload_n 0, [], 0),
  (98, 3, .getfield 10, [], 0),
  (101, 3, .getfield 64, [], 0),
  (104, 3, .invokevirtual 258, [], 0),
  (107, 1, .iload_n 2, [], 0),
  (108, 1, .isub, [], 0),
  (109, 1, .ireturn, [], 0)]
theorem kX8_pass_ok : kX8_pass.all (zck cX8_pass) = true := by decide +kernel

def rX8_pass : Room := { frames := 7, cells := 2, slots := 12, locals := 139 }
abbrev YX8_pass : zM := (RX8, cX8_pass, 4, some .int, rX8_pass, ULM, zlk fX8, zcs [(74, 2, 0, 0, zvs (ULM) 2 (sX2_keep)), (258, 1, 0, 0, zvs (ULM) 3 (sX3_shipsThatLeft)), (261, 1, 0, 0, zvs (ULM) 1 (sF_goOneTick))] [(47, 3, 0, 0, sX8_isWithin), (51, 1, 1, 6, sX8_requireArgument), (71, 1, 1, 6, sX8_requireState)])
theorem YX8_pass_ok : zYok (YX8_pass) := zYok_of fX8_ok (zall (zcal_mono (zcalV (Y := YX8_pass) (y := yX2_keep) (cc := cX2_keep) (nL := 3) (ret := none) (rm := rX2_keep) (mX2_keep) 74 1 2 (T := TX2) rfl wX8_74 ⟨by decide +kernel, by decide +kernel, by decide +kernel⟩ (by decide) ⟨Nat.le_of_ble_eq_true rfl, Nat.le_of_ble_eq_true rfl⟩) (fun _ _ _ _ h => zvs_P h)) (zall (zcal_mono (zcalV (Y := YX8_pass) (y := yX3_shipsThatLeft) (cc := cX3_shipsThatLeft) (nL := 1) (ret := some .int) (rm := rX3_shipsThatLeft) (uX3_shipsThatLeft) 258 0 3 (T := TX3) rfl wX8_258 ⟨by decide +kernel, by decide +kernel, by decide +kernel⟩ (by decide) ⟨Nat.le_of_ble_eq_true rfl, Nat.le_of_ble_eq_true rfl⟩) (fun _ _ _ _ h => zvs_P h)) (zall (zcal_mono (zcalV (Y := YX8_pass) (y := yX1_goOneTick) (cc := cX1_goOneTick) (nL := 2) (ret := none) (rm := rX1_goOneTick) (uF_goOneTick) 261 0 1 (T := TX1) rfl wX8_261 ⟨by decide +kernel, by decide +kernel, by decide +kernel⟩ (by decide) ⟨Nat.le_of_ble_eq_true rfl, Nat.le_of_ble_eq_true rfl⟩) (fun _ _ _ _ h => zvs_P h)) znil))) (zall (zcalS (Y := YX8_pass) (y := yX8_isWithin) (cc := cX8_isWithin) (nL := 3) (ret := some .boolean) (rm := rX8_isWithin) (mX8_isWithin) 47 3 wX8_47 ⟨by decide +kernel, by decide +kernel, by decide +kernel⟩ (by decide) ⟨Nat.le_of_ble_eq_true rfl, Nat.le_of_ble_eq_true rfl⟩) (zall (zcalS (Y := YX8_pass) (y := yX8_requireArgument) (cc := cX8_requireArgument) (nL := 1) (ret := none) (rm := rX8_requireArgument) (mX8_requireArgument) 51 1 wX8_51 ⟨by decide +kernel, by decide +kernel, by decide +kernel⟩ (by decide) ⟨Nat.le_of_ble_eq_true rfl, Nat.le_of_ble_eq_true rfl⟩) (zall (zcalS (Y := YX8_pass) (y := yX8_requireState) (cc := cX8_requireState) (nL := 1) (ret := none) (rm := rX8_requireState) (mX8_requireState) 71 1 wX8_71 ⟨by decide +kernel, by decide +kernel, by decide +kernel⟩ (by decide) ⟨Nat.le_of_ble_eq_true rfl, Nat.le_of_ble_eq_true rfl⟩) znil)))

theorem lX8_pass (ok : zO) (ex : zX) (G : zF) (n b : Int32) (h : ok (some (.int (qSir (aTicks G n.toNatClampNeg) (-1) (aTicks G n.toNatClampNeg 25 9).toNatClampNeg - b))) (aTicks G n.toNatClampNeg)) : ∀ (d k : Nat), k + d = n.toNatClampNeg → zWP YX8_pass ok ex 79 [some (.ref 495), some (.int n), some (.int b), some (.int (nI k))] [] 2 12 (aTicks G k) := by
  intro d
  induction d with
  | zero =>
    intro k hk
    have hk : k = n.toNatClampNeg := hk
    subst hk
    refine zat_ok YX8_pass_ok (inv := zi1 79 (fun ls st kc ks G => zWP YX8_pass ok ex 79 ls st kc ks G)) (zone fun _ _ _ _ _ h => h) kX8_pass (List.all_eq_true.mp kX8_pass_ok) 79 _ _ _ _ _ ?_
    exact And.intro (fun _ => h) (fun h1 => absurd (zcnt_ge n) h1)
  | succ d ih =>
    intro k hk
    refine zat_ok YX8_pass_ok (inv := zi1 79 (fun ls st kc ks G => zWP YX8_pass ok ex 79 ls st kc ks G)) (zone fun _ _ _ _ _ h => h) kX8_pass (List.all_eq_true.mp kX8_pass_ok) 79 _ _ _ _ _ ?_
    refine And.intro (fun h1 => absurd h1 (zcnt_lt (c := n) (k := k) (by omega))) (fun h1 => ?_)
    have ih := ih (k + 1) (by omega)
    rw [← nI_1] at ih
    exact ih

theorem mX8_pass : zMet (ULM) yX8_pass cX8_pass 4 (some .int) rX8_pass (sX8_pass) := by
  refine zmet (Y := YX8_pass) rfl (by decide +kernel) ?_
  intro av F ok ex h
  unfold sX8_pass at h
  split at h
  · rename_i n
    refine zgo_ok (YX8_pass_ok) (inv := zi1 79 (fun ls st kc ks G => zWP YX8_pass ok ex 79 ls st kc ks G)) (zone fun _ _ _ _ _ h => h) kX8_pass (List.all_eq_true.mp kX8_pass_ok) 0 _ _ _ _ _ ?_
    refine And.intro (fun h1 => ?_) (fun h1 => zjeq0 (zreq0 (h.2 fun h0 => h1 h0.1)))
    refine zjeq1 ?_
    refine And.intro (fun h2 => zreq0 (h.2 fun h0 => absurd h0.2 (Int32.not_le.mpr h2))) (fun h2 => ?_)
    refine zreq1 ?_
    have h := h.1 ⟨h1, Int32.not_lt.mp h2⟩
    refine And.intro (fun h3 => zreq0 (h.2 (Int32.not_le.mpr h3))) (fun h3 => ?_)
    refine zreq1 ?_
    have h := h.1 (Int32.not_lt.mp h3)
    obtain ⟨kk, hk, h4, h⟩ := h
    refine ⟨kk, hk, h4, ?_⟩
    exact lX8_pass ok ex _ n _ h n.toNatClampNeg 0 (Nat.zero_add _)
  · exact h.elim

def kX8_arrive : List zI := [
  (0, 1, .aload_n 0, [], 0),
  (1, 1, .aload_n 0, [], 0),
  (2, 3, .getfield 32, [], 0),
  (5, 3, .invokevirtual 175, [], 0),
  (8, 3, .putfield 40, [], 0),
  (11, 1, .aload_n 0, [], 0),
  (12, 3, .getfield 32, [], 0),
  (15, 1, .iconst 0, [], 0),
  (16, 3, .putfield 169, [], 0),
  (19, 1, .aload_n 0, [], 0),
  (20, 3, .getfield 40, [], 0),
  (23, 1, .iconst (-1), [], (-1)),
  (24, 3, .if_icmp .ne 7, [31], 0),
  (27, 1, .iconst 1, [], 1),
  (28, 3, .goto 4, [32], 0),
  (31, 1, .iconst 0, [], 0),
  (32, 3, .invokestatic 51, [], 0),
  (35, 1, .aload_n 0, [], 0),
  (36, 1, .aload_n 0, [], 0),
  (37, 1, .aload_n 0, [], 0),
  (38, 3, .getfield 32, [], 0),
  (41, 3, .getfield 179, [], 0),
  (44, 3, .invokevirtual 158, [], 0),
  (47, 3, .invokevirtual 161, [], 0),
  (50, 1, .aload_n 0, [], 0),
  (51, 3, .getfield 25, [], 0),
  (54, 1, .aload_n 0, [], 0),
  (55, 3, .getfield 10, [], 0),
  (58, 3, .invokevirtual 74, [], 0),
  (61, 1, .iconst 0, [], 0),
  (62, 1, .istore_n 1, [], 0),
  (63, 1, .iload_n 1, [], 0),
  (64, 1, .aload_n 0, [], 0),
  (65, 3, .getfield 32, [], 0),
  (68, 3, .getfield 179, [], 0),
  (71, 3, .if_icmp .ge 70, [141], 0),
  (74, 1, .aload_n 0, [], 0),
  (75, 3, .getfield 10, [], 0),
  (78, 1, .aload_n 0, [], 0),
  (79, 3, .getfield 32, [], 0),
  (82, 3, .getfield 182, [], 0),
  (85, 1, .iload_n 1, [], 0),
  (86, 3, .invokevirtual 107, [], 0),
  (89, 1, .aload_n 0, [], 0),
  (90, 3, .getfield 32, [], 0),
  (93, 3, .getfield 185, [], 0),
  (96, 1, .iload_n 1, [], 0),
  (97, 3, .invokevirtual 107, [], 0),
  (100, 1, .aload_n 0, [], 0),
  (101, 3, .getfield 32, [], 0),
  (104, 3, .getfield 188, [], 0),
  (107, 1, .iload_n 1, [], 0),
  (108, 3, .invokevirtual 107, [], 0),
  (111, 1, .aload_n 0, [], 0),
  (112, 3, .getfield 32, [], 0),
  (115, 3, .getfield 191, [], 0),
  (118, 1, .iload_n 1, [], 0),
  (119, 3, .invokevirtual 107, [], 0),
  (122, 1, .iconst 1, [], 1),
  (123, 3, .if_icmp .ne 7, [130], 0),
  (126, 1, .iconst 1, [], 1),
  (127, 3, .goto 4, [131], 0),
  (130, 1, .iconst 0, [], 0),
  (131, 3, .invokevirtual 165, [], 0),
  (134, 1, .pop, [], 0),
  (135, 3, .iinc 1 1, [], 1),
  (138, 3, .goto (-75), [63], 0),
  (141, 1, .aload_n 0, [], 0),
  (142, 3, .getfield 32, [], 0),
  (145, 3, .getfield 179, [], 0),
  (148, 1, .ireturn, [], 0)]
theorem kX8_arrive_ok : kX8_arrive.all (zck cX8_arrive) = true := by decide +kernel

def rX8_arrive : Room := { frames := 7, cells := 2, slots := 12, locals := 107 }
abbrev YX8_arrive : zM := (RX8, cX8_arrive, 2, some .int, rX8_arrive, ULM, zlk fX8, zcs [(175, 1, 0, 0, zvs (ULM) 0 (sT_read)), (158, 2, 0, 0, zvs (ULM) 8 (sX8_refusalOfShips)), (161, 2, 1, 6, zvs (ULM) 8 (sX8_refuseFor)), (74, 2, 0, 0, zvs (ULM) 2 (sX2_keep)), (107, 2, 0, 0, zvs (ULM) 7 (sU_at ULM)), (165, 5, 0, 0, zvs (ULM) 1 (sX1_makeShip))] [(51, 1, 1, 6, sX8_requireArgument)])
theorem YX8_arrive_ok : zYok (YX8_arrive) := zYok_of fX8_ok (zall (zcal_mono (zcalV (Y := YX8_arrive) (y := yX0_read) (cc := cX0_read) (nL := 3) (ret := some .int) (rm := rX0_read) (uT_read) 175 0 0 (T := TX0) rfl wX8_175 ⟨by decide +kernel, by decide +kernel, by decide +kernel⟩ (by decide) ⟨Nat.le_of_ble_eq_true rfl, Nat.le_of_ble_eq_true rfl⟩) (fun _ _ _ _ h => zvs_P h)) (zall (zcal_mono (zcalV (Y := YX8_arrive) (y := yX8_refusalOfShips) (cc := cX8_refusalOfShips) (nL := 2) (ret := some .int) (rm := rX8_refusalOfShips) (mX8_refusalOfShips) 158 1 8 (T := TX8) rfl wX8_158 ⟨by decide +kernel, by decide +kernel, by decide +kernel⟩ (by decide) ⟨Nat.le_of_ble_eq_true rfl, Nat.le_of_ble_eq_true rfl⟩) (fun _ _ _ _ h => zvs_P h)) (zall (zcal_mono (zcalV (Y := YX8_arrive) (y := yX8_refuseFor) (cc := cX8_refuseFor) (nL := 2) (ret := none) (rm := rX8_refuseFor) (mX8_refuseFor) 161 1 8 (T := TX8) rfl wX8_161 ⟨by decide +kernel, by decide +kernel, by decide +kernel⟩ (by decide) ⟨Nat.le_of_ble_eq_true rfl, Nat.le_of_ble_eq_true rfl⟩) (fun _ _ _ _ h => zvs_P h)) (zall (zcal_mono (zcalV (Y := YX8_arrive) (y := yX2_keep) (cc := cX2_keep) (nL := 3) (ret := none) (rm := rX2_keep) (mX2_keep) 74 1 2 (T := TX2) rfl wX8_74 ⟨by decide +kernel, by decide +kernel, by decide +kernel⟩ (by decide) ⟨Nat.le_of_ble_eq_true rfl, Nat.le_of_ble_eq_true rfl⟩) (fun _ _ _ _ h => zvs_P h)) (zall (zcal_mono (zcalV (Y := YX8_arrive) (y := yX7_at) (cc := cX7_at) (nL := 2) (ret := some .int) (rm := rX7_at) (mU_at ULM ULM_small) 107 1 7 (T := TX7) rfl wX8_107 ⟨by decide +kernel, by decide +kernel, by decide +kernel⟩ (by decide) ⟨Nat.le_of_ble_eq_true rfl, Nat.le_of_ble_eq_true rfl⟩) (fun _ _ _ _ h => zvs_P h)) (zall (zcal_mono (zcalV (Y := YX8_arrive) (y := yX1_makeShip) (cc := cX1_makeShip) (nL := 6) (ret := some .int) (rm := rX1_makeShip) (uX1_makeShip) 165 4 1 (T := TX1) rfl wX8_165 ⟨by decide +kernel, by decide +kernel, by decide +kernel⟩ (by decide) ⟨Nat.le_of_ble_eq_true rfl, Nat.le_of_ble_eq_true rfl⟩) (fun _ _ _ _ h => zvs_P h)) znil)))))) (zall (zcalS (Y := YX8_arrive) (y := yX8_requireArgument) (cc := cX8_requireArgument) (nL := 1) (ret := none) (rm := rX8_requireArgument) (mX8_requireArgument) 51 1 wX8_51 ⟨by decide +kernel, by decide +kernel, by decide +kernel⟩ (by decide) ⟨Nat.le_of_ble_eq_true rfl, Nat.le_of_ble_eq_true rfl⟩) znil)

theorem qMkC_o (F : zF) (a b c d : Int32) {k : Nat} (h : 45 ≤ k) : qMkC F a b c d k = F k := by
  unfold qMkC
  rw [zwr_ne _ _ _ _ (by omega), zwr_ne _ _ _ _ (by omega), qMkS_o _ _ _ _ _ h]
theorem aArr_o (G : zF) {k : Nat} (h : 45 ≤ k) : ∀ n, aArr G n k = G k
  | 0 => rfl
  | n + 1 => (qMkC_o _ _ _ _ _ h).trans (aArr_o G h n)
theorem lX8_arrive (ok : zO) (ex : zX) (G : zF) (h : ok (some (.int (G 498 6))) (aArr G (G 498 6).toNatClampNeg)) : ∀ (d k : Nat), k + d = (G 498 6).toNatClampNeg → zWP YX8_arrive ok ex 63 [some (.ref 495), some (.int (nI k))] [] 2 12 (aArr G k) := by
  intro d
  induction d with
  | zero =>
    intro k hk
    have hk : k = (G 498 6).toNatClampNeg := hk
    refine zat_ok YX8_arrive_ok (inv := zi1 63 (fun ls st kc ks G => zWP YX8_arrive ok ex 63 ls st kc ks G)) (zone fun _ _ _ _ _ h => h) kX8_arrive (List.all_eq_true.mp kX8_arrive_ok) 63 _ _ _ _ _ ?_
    refine And.intro (fun _ => ?_) (fun h1 => absurd ?_ h1)
    · rw [← hk] at h
      refine zleaf ok h ?_ rfl
      show some (Value.int (G 498 6)) = some (Value.int (aArr G k 498 6))
      rw [aArr_o G (by decide)]
    · show aArr G k 498 6 ≤ nI k
      rw [aArr_o G (by decide), hk]
      exact zcnt_ge _
  | succ d ih =>
    intro k hk
    refine zat_ok YX8_arrive_ok (inv := zi1 63 (fun ls st kc ks G => zWP YX8_arrive ok ex 63 ls st kc ks G)) (zone fun _ _ _ _ _ h => h) kX8_arrive (List.all_eq_true.mp kX8_arrive_ok) 63 _ _ _ _ _ ?_
    refine And.intro (fun h1 => absurd ?_ (zcnt_lt (c := G 498 6) (k := k) (by omega))) (fun h1 => ?_)
    · have h1 : aArr G k 498 6 ≤ nI k := h1
      rw [aArr_o G (by decide)] at h1
      exact h1
    have ih := ih (k + 1) (by omega)
    rw [← nI_1] at ih
    refine And.intro (fun h2 => ?_) (fun h2 => ?_)
    · have h2 : ¬ zrd 10 (aArr G k 508) (nI k) = 1 := h2
      have h3 : aArr G (k + 1) = qMkC (aArr G k) (zrd 10 (aArr G k 502) (nI k)) (zrd 10 (aArr G k 504) (nI k)) (zrd 10 (aArr G k 506) (nI k)) 0 := by
        show qMkC (aArr G k) (zrd 10 (aArr G k 502) (nI k)) (zrd 10 (aArr G k 504) (nI k)) (zrd 10 (aArr G k 506) (nI k)) (if zrd 10 (aArr G k 508) (nI k) = 1 then 1 else 0) = _
        rw [if_neg h2]
      rw [h3] at ih
      exact ih
    · have h2 : zrd 10 (aArr G k 508) (nI k) = 1 := h2
      have h3 : aArr G (k + 1) = qMkC (aArr G k) (zrd 10 (aArr G k 502) (nI k)) (zrd 10 (aArr G k 504) (nI k)) (zrd 10 (aArr G k 506) (nI k)) 1 := by
        show qMkC (aArr G k) (zrd 10 (aArr G k 502) (nI k)) (zrd 10 (aArr G k 504) (nI k)) (zrd 10 (aArr G k 506) (nI k)) (if zrd 10 (aArr G k 508) (nI k) = 1 then 1 else 0) = _
        rw [if_pos h2]
      rw [h3] at ih
      exact ih

theorem aArR_6 (F : zF) : aArR F 495 6 = (xRead (vw 498 F)).1 := by
  unfold aArR
  rw [zup_ne _ _ _ (by decide), zup_at]

theorem mX8_arrive : zMet (ULM) yX8_arrive cX8_arrive 2 (some .int) rX8_arrive (sX8_arrive) := by
  refine zmet (Y := YX8_arrive) rfl (by decide +kernel) ?_
  intro av F ok ex h
  unfold sX8_arrive at h
  split at h
  · refine zgo_ok (YX8_arrive_ok) (inv := zi1 63 (fun ls st kc ks G => zWP YX8_arrive ok ex 63 ls st kc ks G)) (zone fun _ _ _ _ _ h => h) kX8_arrive (List.all_eq_true.mp kX8_arrive_ok) 0 _ _ _ _ _ ?_
    refine And.intro (fun h1 => zreq0 (h.2 fun h0 => h1 ?_)) (fun h1 => ?_)
    · rw [← aArR_6] at h0
      exact h0
    refine zreq1 ?_
    have h1 : aArR F 495 6 = -1 := h1
    rw [aArR_6] at h1
    have h := h.1 h1
    refine And.intro (fun h2 => ?_) h.2
    have h := h.1 h2
    obtain ⟨kk, hk, h4, h⟩ := h
    refine ⟨kk, hk, h4, ?_⟩
    have h5 : zcp (aKp (aArR F)) (135 + 45 * kk) 0 498 6 = aArR F 498 6 := by
      rw [zcp_out _ _ _ (by omega)]
      unfold aKp
      rw [zup_ne _ _ _ (by decide), zup_ne _ _ _ (by decide)]
    rw [← h5] at h
    exact lX8_arrive ok ex _ h _ 0 (Nat.zero_add _)
  · exact h.elim

def kX8_untilLeft : List zI := [
  (0, 1, .iload_n 1, [], 0),
  (1, 1, .aload_n 0, [], 0),
  (2, 3, .getfield 10, [], 0),
  (5, 3, .getfield 64, [], 0),
  (8, 3, .getfield 68, [], 0),
  (11, 3, .invokestatic 92, [], 0),
  (14, 1, .iload_n 2, [], 0),
  (15, 1, .iconst 1, [], 1),
  (16, 2, .bipush 40, [], 40),
  (18, 3, .invokestatic 47, [], 0),
  (21, 3, .invokestatic 51, [], 0),
  (24, 1, .aload_n 0, [], 0),
  (25, 3, .getfield 10, [], 0),
  (28, 3, .getfield 64, [], 0),
  (31, 1, .iload_n 1, [], 0),
  (32, 3, .invokevirtual 233, [], 0),
  (35, 3, .ifCond .ne 7, [42], 0),
  (38, 1, .iconst 1, [], 1),
  (39, 3, .goto 4, [43], 0),
  (42, 1, .iconst 0, [], 0),
  (43, 3, .invokestatic 71, [], 0),
  (46, 1, .aload_n 0, [], 0),
  (47, 3, .getfield 16, [], 0),
  (50, 1, .aload_n 0, [], 0),
  (51, 3, .getfield 10, [], 0),
  (54, 3, .invokevirtual 264, [], 0),
  (57, 1, .iconst 0, [], 0),
  (58, 1, .istore_n 3, [], 0),
  (59, 1, .iload_n 3, [], 0),
  (60, 1, .iload_n 2, [], 0),
  (61, 3, .if_icmp .ge 43, [104], 0),
  (64, 1, .aload_n 0, [], 0),
  (65, 3, .getfield 16, [], 0),
  (68, 3, .getfield 255, [], 0),
  (71, 3, .sipush 500, [], 500),
  (74, 3, .if_icmp .ge 30, [104], 0),
  (77, 1, .aload_n 0, [], 0),
  (78, 3, .getfield 16, [], 0),
  (81, 3, .getfield 64, [], 0),
  (84, 1, .iload_n 1, [], 0),
  (85, 3, .invokevirtual 233, [], 0),
  (88, 3, .ifCond .ne 16, [104], 0),
  (91, 1, .aload_n 0, [], 0),
  (92, 3, .getfield 16, [], 0),
  (95, 3, .invokevirtual 261, [], 0),
  (98, 3, .iinc 3 1, [], 1),
  (101, 3, .goto (-42), [59], 0),
  (104, 1, .aload_n 0, [], 0),
  (105, 3, .getfield 16, [], 0),
  (108, 3, .getfield 64, [], 0),
  (111, 1, .iload_n 1, [], 0),
  (112, 3, .invokevirtual 233, [], 0),
  (115, 3, .invokestatic 212, [], 0),
  (118, 1, .iload_n 3, [], 0),
  (119, 1, .ireturn, [], 0)]
theorem kX8_untilLeft_ok : kX8_untilLeft.all (zck cX8_untilLeft) = true := by decide +kernel

def rX8_untilLeft : Room := { frames := 7, cells := 4, slots := 24, locals := 139 }
abbrev YX8_untilLeft : zM := (RX8, cX8_untilLeft, 4, some .int, rX8_untilLeft, ULM, zlk fX8, zcs [(233, 2, 0, 0, zvs (ULM) 3 (sF_hasLeft)), (264, 2, 0, 0, zvs (ULM) 1 (sL_copyFrom)), (261, 1, 0, 0, zvs (ULM) 1 (sF_goOneTick))] [(92, 2, 1, 6, sX8_requireIndex), (47, 3, 0, 0, sX8_isWithin), (51, 1, 1, 6, sX8_requireArgument), (71, 1, 1, 6, sX8_requireState), (212, 1, 1, 6, sX8_requireElement)])
theorem YX8_untilLeft_ok : zYok (YX8_untilLeft) := zYok_of fX8_ok (zall (zcal_mono (zcalV (Y := YX8_untilLeft) (y := yX3_hasLeft) (cc := cX3_hasLeft) (nL := 2) (ret := some .boolean) (rm := rX3_hasLeft) (uF_hasLeft) 233 1 3 (T := TX3) rfl wX8_233 ⟨by decide +kernel, by decide +kernel, by decide +kernel⟩ (by decide) ⟨Nat.le_of_ble_eq_true rfl, Nat.le_of_ble_eq_true rfl⟩) (fun _ _ _ _ h => zvs_P h)) (zall (zcal_mono (zcalV (Y := YX8_untilLeft) (y := yX1_copyFrom) (cc := cX1_copyFrom) (nL := 2) (ret := none) (rm := rX1_copyFrom) (uL_copyFrom) 264 1 1 (T := TX1) rfl wX8_264 ⟨by decide +kernel, by decide +kernel, by decide +kernel⟩ (by decide) ⟨Nat.le_of_ble_eq_true rfl, Nat.le_of_ble_eq_true rfl⟩) (fun _ _ _ _ h => zvs_P h)) (zall (zcal_mono (zcalV (Y := YX8_untilLeft) (y := yX1_goOneTick) (cc := cX1_goOneTick) (nL := 2) (ret := none) (rm := rX1_goOneTick) (uF_goOneTick) 261 0 1 (T := TX1) rfl wX8_261 ⟨by decide +kernel, by decide +kernel, by decide +kernel⟩ (by decide) ⟨Nat.le_of_ble_eq_true rfl, Nat.le_of_ble_eq_true rfl⟩) (fun _ _ _ _ h => zvs_P h)) znil))) (zall (zcalS (Y := YX8_untilLeft) (y := yX8_requireIndex) (cc := cX8_requireIndex) (nL := 2) (ret := none) (rm := rX8_requireIndex) (mX8_requireIndex) 92 2 wX8_92 ⟨by decide +kernel, by decide +kernel, by decide +kernel⟩ (by decide) ⟨Nat.le_of_ble_eq_true rfl, Nat.le_of_ble_eq_true rfl⟩) (zall (zcalS (Y := YX8_untilLeft) (y := yX8_isWithin) (cc := cX8_isWithin) (nL := 3) (ret := some .boolean) (rm := rX8_isWithin) (mX8_isWithin) 47 3 wX8_47 ⟨by decide +kernel, by decide +kernel, by decide +kernel⟩ (by decide) ⟨Nat.le_of_ble_eq_true rfl, Nat.le_of_ble_eq_true rfl⟩) (zall (zcalS (Y := YX8_untilLeft) (y := yX8_requireArgument) (cc := cX8_requireArgument) (nL := 1) (ret := none) (rm := rX8_requireArgument) (mX8_requireArgument) 51 1 wX8_51 ⟨by decide +kernel, by decide +kernel, by decide +kernel⟩ (by decide) ⟨Nat.le_of_ble_eq_true rfl, Nat.le_of_ble_eq_true rfl⟩) (zall (zcalS (Y := YX8_untilLeft) (y := yX8_requireState) (cc := cX8_requireState) (nL := 1) (ret := none) (rm := rX8_requireState) (mX8_requireState) 71 1 wX8_71 ⟨by decide +kernel, by decide +kernel, by decide +kernel⟩ (by decide) ⟨Nat.le_of_ble_eq_true rfl, Nat.le_of_ble_eq_true rfl⟩) (zall (zcalS (Y := YX8_untilLeft) (y := yX8_requireElement) (cc := cX8_requireElement) (nL := 1) (ret := none) (rm := rX8_requireElement) (mX8_requireElement) 212 1 wX8_212 ⟨by decide +kernel, by decide +kernel, by decide +kernel⟩ (by decide) ⟨Nat.le_of_ble_eq_true rfl, Nat.le_of_ble_eq_true rfl⟩) znil)))))

theorem aFc_go (s : Int32) (d n : Nat) (G : zF) (h1 : G 45 7 < 500) (h2 : ¬ qWa (vw 45 G) s = -1) : aFc s (d + 1) n G = aFc s d (n + 1) (aFt G) := if_pos ⟨h1, h2⟩
theorem aFc_no (s : Int32) (d n : Nat) (G : zF) (h : ¬ (G 45 7 < 500 ∧ ¬ qWa (vw 45 G) s = -1)) : aFc s (d + 1) n G = (n, G) := if_neg h
theorem lX8_untilLeft (ok : zO) (ex : zX) (s n : Int32) : ∀ (d k : Nat) (G : zF), k + d = n.toNatClampNeg → zfo (qWa (vw 45 (aFc s d k G).2) s = -1) xE (aFc s d k G).2 ex (ok (some (.int (nI (aFc s d k G).1))) (aFc s d k G).2) → zWP YX8_untilLeft ok ex 59 [some (.ref 495), some (.int s), some (.int n), some (.int (nI k))] [] 3 18 G := by
  intro d
  induction d with
  | zero =>
    intro k G hk h
    have hk : k = n.toNatClampNeg := hk
    subst hk
    refine zat_ok YX8_untilLeft_ok (inv := zi1 59 (fun ls st kc ks G => zWP YX8_untilLeft ok ex 59 ls st kc ks G)) (zone fun _ _ _ _ _ h => h) kX8_untilLeft (List.all_eq_true.mp kX8_untilLeft_ok) 59 _ _ _ _ _ ?_
    exact And.intro (fun _ => And.intro (fun h5 => zreq1 (h.1 h5)) (fun h5 => zreq0 (h.2 h5))) (fun h1 => absurd (zcnt_ge n) h1)
  | succ d ih =>
    intro k G hk h
    refine zat_ok YX8_untilLeft_ok (inv := zi1 59 (fun ls st kc ks G => zWP YX8_untilLeft ok ex 59 ls st kc ks G)) (zone fun _ _ _ _ _ h => h) kX8_untilLeft (List.all_eq_true.mp kX8_untilLeft_ok) 59 _ _ _ _ _ ?_
    refine And.intro (fun h1 => absurd h1 (zcnt_lt (c := n) (k := k) (by omega))) (fun h1 => ?_)
    refine And.intro (fun h2 => ?_) (fun h2 => ?_)
    · have h2 : (500 : Int32) ≤ G 45 7 := h2
      rw [aFc_no s d k G (fun h0 => absurd h0.1 (Int32.not_lt.mpr h2))] at h
      exact And.intro (fun h5 => zreq1 (h.1 h5)) (fun h5 => zreq0 (h.2 h5))
    · have h2 : ¬ (500 : Int32) ≤ G 45 7 := h2
      refine And.intro (fun h3 => ?_) (fun h3 => ?_)
      · have h3 : qWa (vw 45 G) s = -1 := h3
        rw [aFc_no s d k G (fun h0 => h0.2 h3)] at h
        refine zjne1 ?_
        exact And.intro (fun h5 => zreq1 (h.1 h5)) (fun h5 => zreq0 (h.2 h5))
      · have h3 : ¬ qWa (vw 45 G) s = -1 := h3
        rw [aFc_go s d k G (Int32.not_le.mp h2) h3] at h
        refine zjne0 ?_
        have ih := ih (k + 1) _ (by omega) h
        rw [← nI_1] at ih
        exact ih

theorem mX8_untilLeft : zMet (ULM) yX8_untilLeft cX8_untilLeft 4 (some .int) rX8_untilLeft (sX8_untilLeft) := by
  refine zmet (Y := YX8_untilLeft) rfl (by decide +kernel) ?_
  intro av F ok ex h
  unfold sX8_untilLeft at h
  split at h
  · rename_i s n
    refine zgo_ok (YX8_untilLeft_ok) (inv := zi1 59 (fun ls st kc ks G => zWP YX8_untilLeft ok ex 59 ls st kc ks G)) (zone fun _ _ _ _ _ h => h) kX8_untilLeft (List.all_eq_true.mp kX8_untilLeft_ok) 0 _ _ _ _ _ ?_
    refine And.intro (fun h1 => ?_) h.2
    have h := h.1 h1
    refine And.intro (fun h2 => ?_) (fun h2 => zreq0 (h.2 h2))
    refine zreq1 ?_
    have h := h.1 h2
    refine And.intro (fun h2 => zjne1 (zreq0 (h.2 (fun h3 => h3 h2)))) (fun h2 => ?_)
    refine zjne0 ?_
    refine zreq1 ?_
    have h := h.1 h2
    exact lX8_untilLeft ok ex s n n.toNatClampNeg 0 _ (Nat.zero_add _) h
  · exact h.elim

end ZL3

/-! the law's case of meanLocked: its walk -/
section ZFl
set_option maxRecDepth 40000
def kL_law_m1 : List zI := [
  (1344, 1, .aload_n 1, [], 0),
  (1345, 2, .aload 4, [], 0),
  (1347, 3, .invokestatic 168, [], 0)]
theorem kL_law_m1_ok : kL_law_m1.all (zck cL_law) = true := by decide +kernel
def kL_law_m2 : List zI := [
  (1350, 2, .istore 6, [], 0),
  (1352, 1, .aload_n 2, [], 0),
  (1353, 3, .invokevirtual 171, [], 0)]
theorem kL_law_m2_ok : kL_law_m2.all (zck cL_law) = true := by decide +kernel
/-- a call of the reference, seen from the machine -/
theorem zcalQ {L : Nat} {xs : Nat → Int32} {y : MethodName} {cc : ByteArray} {nL : Nat} {ret : Option FieldType} {rm : Room} {sp : zSp} (hM : zMet UL y cc nL ret rm sp) (ix n ci : Nat) {T : u_T} {N : Nat} (hci : zcl[ci]? = some (y.cls, T, N)) (hw : ∀ w ∈ [Cond.methodLink RL ix y, Cond.initialized y.cls, Cond.code y cc nL ret, Cond.instanceMethod y, Cond.selects y.cls y y], w ∈ zts)
    (hd : y.cls ≠ "java/lang/invoke/MethodHandle" ∧ y.cls ≠ "java/lang/invoke/VarHandle" ∧ (parseMethodDescriptor y.desc).map (fun d => d.parameters.length) = some n) (hn : n + 1 ≤ nL) (hR : rm.frames + 1 ≤ 19 ∧ 8 + (nL + 11) + rm.locals ≤ 10796)
    {pc : Nat} (hdg : decode cL_law pc = .ok (.invokevirtual ix, 3)) {as r : List Value} {kc ks : Nat} {F : zF} {ok' : zO} (hlen : as.length = n + 1) (hall : as.all zsm = true) (hwt : zwt r ≤ 8) (hkc : kc + rm.cells ≤ room_1.cells) (hks : ks + rm.slots ≤ room_1.slots) (hsp : zvsP UL ci sp as F ok' zX0)
    {p : Program} {l : Launch} {e : Env} {s : State} {m : MethodId} {args : Array Value} {below : List Frame} {meth : Method} {c : Code} {D : va_G} {cA : zT} {ad : Nat → Nat} (hC : zKw L xs p l e s m args below meth c D cA ad)
    {H : Heap} {locs : List Loc} {lsl : Array Slot} (hP : va_P D zcl (zWs cA UL ad F) H) (hS : va_S (fun q => s.heap.size ≤ q) s.heap H locs) (hl : lsl.size = 9)
    (hcont : ∀ (q : Option Value) (F' : zF) (H' : Heap) (locs' : List Loc), ok' q F' → va_P D zcl (zWs cA UL ad F') H' → va_S (fun q => s.heap.size ≤ q) s.heap H' locs' → W p l e room_1 s m args below meth c H' locs' (kc + rm.cells) (ks + rm.slots) (lw_Z below args s) (F0 m (pc + 3) lsl ((q.toList ++ r).map (zv ad)))) :
    W p l e room_1 s m args below meth c H locs kc ks (lw_Z below args s) (F0 m pc lsl ((as.reverse ++ r).map (zv ad))) := by
  obtain ⟨⟨hx, hb, hml, hown, hts, hK, hZ, hinj, hfl⟩, -, -⟩ := zKw_ok YL_law_w L xs p l e s m args below meth c D cA ad hC
  have hap := hC.2.2.2.2.2.2.1
  rcases as with _ | ⟨v0, r'⟩
  · exact hsp.elim
  cases v0 with
  | ref j =>
    obtain ⟨hrc, hsp⟩ := hsp
    have cb := zcalB (Y := YL_law) (cc := cc) (nL := nL) (ret := ret) (rm := rm) ix n hts (fun w h => hw w (List.mem_append_left [Cond.instanceMethod y, Cond.selects y.cls y y] h)) hd hR
    have hf := zA_w (ad := ad) hap hS
    have hr := vx_runV (e := e) (below := below) (locs := locs) (cells := kc) (slots := ks) (As := r'.map (zv ad)) (rest := r.map (zv ad)) (g := F0 m pc lsl ((List.reverse (Value.ref j :: r') ++ r).map (zv ad))) (meth := meth) ⟨hx, hb, hml, hown, hts⟩ (hM l hfl D cA ad F H.size _ ok' zX0 hsp hinj hall (by rw [hlen]; exact hn)) ⟨cb, hts _ (hw _ (by simp)), hts _ (hw _ (by simp))⟩
      ⟨zB.blind, zrc_at hrc hci hK hP, fun U hU hW => ⟨rfl, by rw [hU], by rw [hU]; exact hP, zK.warm hW hK, by rw [hU]; exact ((hZ.kept hS.2.1).moved hW.alike).narrow hf⟩⟩ rfl (by simp at hlen ⊢; exact hlen) hl (by simp [zv]) (lv_room (by rw [zwt_cat]; exact hwt)) hdg ⟨hkc, hks⟩
    intro T hT X
    rcases hr T hT X with ⟨v, st₀, t, T', L9, h0, X', hL, e1, e2, ⟨⟨q, F', hv, hok, hP'⟩, hF⟩, st⟩ | ⟨q9, st₀, t, T', L9, E, ce, h0, X', hL, e1, e2, ⟨⟨F', hex, hP'⟩, hF⟩, hce, hcv, hcl, st⟩
    · obtain ⟨k1, k2, k3⟩ := vx_keep h0 e1 hS (fun q _ h => hf q h) hf hL hF
      cases hv
      obtain ⟨t2, a1, b1⟩ := hcont q F' T'.heap (locs ++ L9) hok (by rw [e1]; exact hP') k3 T' rfl X'
      refine ⟨t2, st t2 ?_, b1⟩
      cases q with
      | none => exact a1
      | some v => exact a1
    · exact hex.elim
  | _ => exact hsp.elim
set_option maxHeartbeats 4000000 in
theorem zm20 {L : Nat} {xs : Nat → Int32} {x kk : Int32} {w7 w8 : Option Value} {d : UInt64} {kc ks : Nat} {F Fm : zF} (hkc : kc ≤ 603072) (hks : ks ≤ 7198825) (hm : ∀ k, k < 10 → Fm k = F (509 + k)) (ht : Fm 0 0 = kk) (hd0 : kk = 0 → FP.ddiv (FP.i2d (F 520 0)) (FP.i2d (F 520 1)) = d)
    (hk : zW L xs 1488 (zLs x (some (.int kk)) none none) [] kc ks (jM F Fm)) : zW L xs 1356 (zLs x (some (.int kk)) w7 w8) [.double d] kc ks F := by
  intro p l e s m args below meth c D cA ad hC H locs lsl hP hS hl hln _ _
  obtain ⟨⟨hx, hb, hml, hown, hts, hK, hZ, hinj, hfl⟩, -, hap⟩ := zKw_ok YL_law_w L xs p l e s m args below meth c D cA ad hC
  have hb : c.code = cL_law := hb
  have hl0 : lv_has lsl 9 [(0, .ref (ad 521)), (1, .ref (ad 495)), (2, .ref (ad 509)), (3, .ref (ad 519)), (4, .ref (ad 520)), (5, .int x), (6, .int kk)] := lv_sub hl [0, 1, 2, 3, 4, 5, 6] rfl
  refine lv_dstore (lv' := [(7, .double d), (0, .ref (ad 521)), (1, .ref (ad 495)), (2, .ref (ad 509)), (3, .ref (ad 519)), (4, .ref (ad 520)), (5, .int x), (6, .int kk)]) hx hb (by decide +kernel) hl0 (by decide) rfl (fun ls hl => ?_)
  refine lv_aload_n (k := 2) hx hb (by decide +kernel) rfl (lv_at hl 3 rfl) ?_
  refine zcalQ (zliftM mX9_thrown) 101 0 9 (T := TX9) rfl wL_101 ⟨by decide +kernel, by decide +kernel, by decide +kernel⟩ (by decide) ⟨Nat.le_of_ble_eq_true rfl, Nat.le_of_ble_eq_true rfl⟩ (pc := 1359) (by decide +kernel) (as := [.ref 509]) (r := []) (ok' := fun q G => q = some (.int kk) ∧ G = jM F Fm) rfl rfl (by decide) hkc hks ⟨rfl, [.ref 0], fun q G => q = some (.int (Fm 0 0)) ∧ G = Fm, zX0, Fm, hm, rfl, ⟨rfl, rfl⟩, fun q G g => ?_, fun E G g => g.elim⟩ hC hP hS hl.1 ?_
  · obtain ⟨rfl, rfl⟩ := g
    rw [ht]
    exact ⟨rfl, rfl⟩
  · rintro q F' H1 locs1 ⟨rfl, rfl⟩ hP hS
    have hat := zWs_at cA UL ad (jM F Fm) (show 520 < UL.1 by decide)
    have hgo : W p l e room_1 s m args below meth c H1 locs1 kc ks (lw_Z below args s) (F0 m 1406 ls []) := by
      refine lv_goto (off := 82) (tgt := 1488) hx hb (by decide +kernel) (by decide) ?_
      exact hk p l e s m args below meth c D cA ad hC H1 locs1 ls hP hS (lv_sub hl [1, 2, 3, 4, 5, 6, 7] rfl) (Nat.le_refl 9) hkc hks
    show W p l e room_1 s m args below meth c H1 locs1 kc ks (lw_Z below args s) (F0 m 1362 ls [.int kk])
    refine lv_iload hx hb (by decide +kernel) (lv_at hl 7 rfl) ?_
    refine lv_icmp_eq (off := 5) (tgt := 1369) hx hb (by decide +kernel) (by decide) (fun _ => ?_) (fun h9 => absurd rfl h9)
    refine lv_iload hx hb (by decide +kernel) (lv_at hl 7 rfl) ?_
    refine lv_if_ne (off := 35) (tgt := 1406) hx hb (by decide +kernel) (by decide) (fun _ => hgo) (fun h0 => ?_)
    have hdd : FP.ddiv (FP.i2d (jM F Fm 520 0)) (FP.i2d (jM F Fm 520 1)) = d := hd0 h0
    refine lv_aload hx hb (by decide +kernel) (lv_at hl 5 rfl) ?_
    refine lv_iconst (n := 0) (v := 0) hx hb (by decide +kernel) (by decide) ?_
    refine va_dald hx hb hK.1 hP 520 4 hat rfl vp01 (by decide +kernel) ?_
    show W p l e room_1 s m args below meth c H1 locs1 kc ks (lw_Z below args s) (F0 m 1378 ls [.double (FP.ddiv (FP.i2d (jM F Fm 520 0)) (FP.i2d (jM F Fm 520 1)))])
    rw [hdd]
    refine lv_dload hx hb (by decide +kernel) (lv_at hl 0 rfl) ?_
    refine lv_dcmp (op := .l) hx hb (by decide +kernel) ?_
    refine lv_if_eq (off := 25) (tgt := 1406) hx hb (by decide +kernel) (by decide) (fun _ => hgo) (fun h1 => ?_)
    refine lv_aload hx hb (by decide +kernel) (lv_at hl 5 rfl) ?_
    refine lv_iconst (n := 0) (v := 0) hx hb (by decide +kernel) (by decide) ?_
    refine va_dald hx hb hK.1 hP 520 4 hat rfl vp01 (by decide +kernel) ?_
    refine lv_aload hx hb (by decide +kernel) (lv_at hl 5 rfl) ?_
    refine lv_iconst (n := 0) (v := 0) hx hb (by decide +kernel) (by decide) ?_
    refine va_dald hx hb hK.1 hP 520 4 hat rfl vp01 (by decide +kernel) ?_
    show W p l e room_1 s m args below meth c H1 locs1 kc ks (lw_Z below args s) (F0 m 1392 ls [.double (FP.ddiv (FP.i2d (jM F Fm 520 0)) (FP.i2d (jM F Fm 520 1))), .double (FP.ddiv (FP.i2d (jM F Fm 520 0)) (FP.i2d (jM F Fm 520 1)))])
    rw [hdd]
    refine lv_dcmp (op := .l) hx hb (by decide +kernel) ?_
    refine lv_if_eq (off := 11) (tgt := 1404) hx hb (by decide +kernel) (by decide) (fun h2 => absurd h2 h1) (fun _ => ?_)
    refine lv_dload hx hb (by decide +kernel) (lv_at hl 0 rfl) ?_
    refine lv_dload hx hb (by decide +kernel) (lv_at hl 0 rfl) ?_
    refine lv_dcmp (op := .l) hx hb (by decide +kernel) ?_
    exact lv_if_ne (off := 5) (tgt := 1406) hx hb (by decide +kernel) (by decide) (fun _ => hgo) (fun h2 => absurd h2 h1)
theorem e_meanLocked {F : zF} {ok : zO} {ex : zX} (h : sX8_meanLocked [.ref 495] F ok ex) : sX8_meanLocked [.ref 495] F ok (fun E F' => E ∈ [xR] ∧ ex E F') := zfo_n h (by simp) id
theorem cL_20 (hfp : eNoNaN) (L : Nat) (xs : Nat → Int32) : zCase L xs 1344 := by
  intro x w6 w7 w8 kc ks F hF hr hi hk
  obtain ⟨Fc, Fm, hb, hg⟩ := hF
  have h1 : kc + 1 ≤ 603072 := by omega
  have h2 : ks + 6 ≤ 7198825 := by omega
  have hk6 : ∀ (v6 : Option Value) (Gc Gm G : zF), eBoth Gc Gm → zAg2 Gc Gm G → zW L xs 1488 (zLs x v6 none none) [] (kc + 1) (ks + 6) G := fun v6 Gc Gm G e1 e2 => hk v6 none none _ _ _ (Nat.add_le_add_left (by decide : 1 ≤ 20) kc) (Nat.add_le_add_left (by decide : 6 ≤ 200) ks) ⟨Gc, Gm, e1, e2⟩
  refine zatX_ok (YL_law_ok L xs) (inv := zixX YL_law (zKw L xs) zQw zAw [1347]) zixX_ok kL_law_m1 (List.all_eq_true.mp kL_law_m1_ok) 1344 _ _ _ _ _ ?_
  show zW L xs 1347 (zLs x w6 w7 w8) [.ref 520, .ref 495] kc ks F
  refine vT_168 YL_law_w L xs 1347 (by decide +kernel) (zLs x w6 w7 w8) [.ref 495, .ref 520] [] kc ks F (fun q F' => ∃ kk, q = some (.int kk) ∧ zW L xs 1350 (zLs x w6 w7 w8) [.int kk] (kc + 1) (ks + 6) F') rfl rfl (by decide) h1 h2 ?_ ?_
  · have hq : ∀ (kk : Int32) (G : zF), zW L xs 1353 (zLs x (some (.int kk)) w7 w8) [.ref 509] (kc + 1) (ks + 6) G → zW L xs 1350 (zLs x w6 w7 w8) [.int kk] (kc + 1) (ks + 6) G := fun kk G g => by
      refine zatX_ok (YL_law_ok L xs) (inv := zixX YL_law (zKw L xs) zQw zAw [1353]) zixX_ok kL_law_m2 (List.all_eq_true.mp kL_law_m2_ok) 1350 _ _ _ _ _ ?_
      exact g
    refine ⟨_, _, Fc, hg.1, e_meanLocked (k_meanLocked hfp Fc Fm hb), fun r F1 g => ?_, fun E F1 g => ?_⟩
    · obtain ⟨a, b, rfl, g⟩ := g
      refine ⟨a, b, rfl, 0, rfl, hq 0 _ ?_⟩
      have hg1 : zAg2 F1 Fm (zup (zup (jC F F1) 520 0 a) 520 1 b) := ⟨fun k hk => by rw [zup_ne _ _ _ (by omega), zup_ne _ _ _ (by omega)]; exact (zag_c hg).1 k hk, fun k hk => by rw [zup_ne _ _ _ (by omega), zup_ne _ _ _ (by omega)]; exact (zag_c hg).2 k hk⟩
      refine vV_171 YL_law_w L xs 1353 (by decide +kernel) (zLs x (some (.int 0)) w7 w8) [.ref 509] [] (kc + 1) (ks + 6) _ (fun q F' => ∃ F2, q = some (.double (FP.ddiv (FP.i2d a) (FP.i2d b))) ∧ F2 0 0 = 0 ∧ eBoth F1 F2 ∧ F' = jM (zup (zup (jC F F1) 520 0 a) 520 1 b) F2) rfl rfl (by decide) h1 h2 ⟨rfl, [.ref 0], _, _, Fm, hg1.2, rfl, g, fun q F2 g2 => ?_, fun E F2 g2 => g2.elim⟩ ?_
      · obtain ⟨rfl, g3, g4⟩ := g2
        exact ⟨F2, rfl, g3, g4, rfl⟩
      · rintro q F' ⟨F2, rfl, g3, g4, rfl⟩
        exact zm20 (Fm := F2) h1 h2 (zag_m hg1).2 g3 (fun _ => rfl) (hk6 _ F1 F2 _ g4 (zag_m (zag_m hg1)))
    · refine ⟨g.1, _, rfl, hq _ _ ?_⟩
      · refine vV_171 YL_law_w L xs 1353 (by decide +kernel) (zLs x (some (.int (eCd [xR] 1 E))) w7 w8) [.ref 509] [] (kc + 1) (ks + 6) _ (fun q F' => ∃ v F2, q = some (.double v) ∧ (F2 0 0 = eCd [xR] 1 E ∧ ¬ eCd [xR] 1 E = 0) ∧ eBoth F1 F2 ∧ F' = jM (jC F F1) F2) rfl rfl (by decide) h1 h2 ⟨rfl, [.ref 0], _, _, Fm, (zag_c hg).2, rfl, g.2, fun q F2 g2 => ?_, fun E F2 g2 => g2.elim⟩ ?_
        · obtain ⟨⟨v, rfl⟩, ⟨g3, g4, -⟩, g5⟩ := g2
          exact ⟨v, F2, rfl, ⟨g3, g4⟩, g5, rfl⟩
        · rintro q F' ⟨v, F2, rfl, ⟨g3, g4⟩, g5, rfl⟩
          exact zm20 (Fm := F2) h1 h2 (zag_m (zag_c hg)).2 g3 (fun h0 => absurd h0 g4) (hk6 _ F1 F2 _ g5 (zag_m (zag_m (zag_c hg))))
  · rintro q F' ⟨kk, rfl, g⟩
    exact g
end ZFl

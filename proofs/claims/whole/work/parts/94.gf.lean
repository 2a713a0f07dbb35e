/-! CONSTRUCTORS: a place is given a new row of numbers of its own -/
section ZGf
set_option maxRecDepth 20000
def uA (kd n : Nat) : zU := (1, fun _ => (kd, n, []))
def zNv (cc : ByteArray) (pc cl : Nat) (v : Int32) : Prop := (∃ n, cl = 2 ∧ decode cc pc = .ok (.bipush n, 2) ∧ (Int8.ofInt n).toInt32 = v) ∨ ∃ n, cl = 3 ∧ decode cc pc = .ok (.sipush n, 3) ∧ (Int16.ofInt n).toInt32 = v
set_option maxHeartbeats 4000000 in
theorem zNarr {Y : zM} {ci : Nat} {U : zU} {G0 : zF} {pc kc ks : Nat} {fs : List Value} {bl : List zBl} {T : u_T} {N : Nat} (hci : zcl[ci]? = some (zMo Y, T, N)) (hfs : fs.length = N) (kd n : Nat) (atp : ArrayType) (ty : FieldType) (cid : zT → ClassId) (t0 : Nat) {cl ip k : Nat}
    (hn : n < 2 ^ 20) (hobj : ∀ C, ty ≠ .object C) (hty : newarray.typeOf atp = ty) (ht0 : t0 < 5) (ht : ∀ cA, (ztys cA)[t0]? = some (cid cA, ty)) (hz : ∀ cA ad, zE cA ad (kd, n, []) (fun _ => 0) = .inl (cid cA, n, .inl (fun _ => 0))) (ha : ∀ cI : ClassId, vp_cell cI (n, .inl (fun _ => 0)) = arrV cI n (fun _ => defaultValue ty)) (hcb : n * componentBytes ty ≤ 536870912) (hword : Cond.arrayClass (newarray.typeOf atp) ∈ zts)
    (d0 : decode (zMc Y) pc = .ok (.aload_n 0, 1)) (hpu : zNv (zMc Y) (pc + 1) cl (nI n)) (d1 : decode (zMc Y) (pc + 1 + cl) = .ok (.newarray atp, 2)) (dP : decode (zMc Y) (pc + 1 + cl + 2) = .ok (.putfield ip, 3)) (w7 : Cond.fieldLink (zMo Y) ip (zMo Y) (T k).2.1 (T k).2.2.1 ∈ zts) (hk : k < N) (hTk : (T k).1 = zMo Y) {ty9 : FieldType} (hty9 : parseFieldDescriptor (T k).2.2.1 = some ty9) (hn9 : ∀ q : Nat, narrow ty9 (.ref q) = .ref q) (hf9 : ∀ q : Nat, fits ty9 (.ref q) = true)
    (hkc : kc + 1 ≤ (zMr Y).cells) (hks : ks + n ≤ (zMr Y).slots)
    (hgo : ∀ q : Nat, zNW Y ci U G0 (pc + 1 + cl + 2 + 3) (kc + 1) (ks + n) (fs.set k (.ref q)) (bl ++ [(uA kd n, fun _ => q, fun _ _ => 0)])) : zNW Y ci U G0 pc kc ks fs bl := by
  intro p l e s m args below meth c D cA h0 hC H locs lsl hP hD hS hl
  obtain ⟨hx, hb, hr, hml, hown, hts, hlocks, hin, hK, hfl, hlt, hao⟩ := id hC
  have hA : ∀ q : Nat, s.heap.size ≤ q → zAn h0 s.heap.size q := fun q h => Or.inr h
  have hnn : ¬ nI n < 0 := show ¬ nI n < nI 0 from nI_nlt (Nat.zero_le n) (by omega)
  refine lv_aload_n (k := 0) hx hb d0 rfl (lv_at hl 0 rfl) ?_
  have hmain : W p l e (zMr Y) s m args below meth c H locs kc ks (MQ below (va_Qv (fun ad : Nat → Nat => ad 0 = h0 ∧ zinj U ad ∧ ∀ k, k < U.1 → k ≠ 0 → s.heap.size ≤ ad k) (fun ad t => va_P D zcl (zWs cA U ad G0) t.heap) (zAn h0 s.heap.size)) args s (zMr Y).cells (zMr Y).slots (zAn h0 s.heap.size)) (F0 m (pc + 1 + cl) lsl [.int (nI n), .ref h0]) := by
    refine va_newa (a0 := (n, .inl (fun _ => 0))) (ty := ty) (atype := atp) hx hb (hts _ hword) hty hK.1 hP hD hS hA ha hnn (nI_clamp (by omega)) hcb hkc hks d1 (fun q cI H1 hK1 hP1 hD1 hS1 => ?_)
    have hlen : (ztys cA).length = 5 := rfl
    have h5 : (ztys cA ++ [(cI, ty)])[5]? = some (cI, ty) := by rw [List.getElem?_append_right (by rw [hlen]; exact Nat.le_refl _), hlen]; rfl
    have hcI : cI = cid cA := zRA_eq hobj (hK1.2 5 (cI, ty) h5).2 (hK.1.2 t0 (cid cA, ty) (ht cA)).2
    subst hcI
    have hblk : zBs cA (bl ++ [(uA kd n, fun _ => q, fun _ _ => 0)]) = zBs cA bl ++ [(q, .inl (cid cA, n, .inl (fun _ => 0)))] := by
      rw [zBs_sn]
      congr 1
      show [(q, zE cA (fun _ => q) (kd, n, []) (fun _ => 0))] = _
      rw [hz]
    obtain ⟨hw9, ty0, hty0, hnm0⟩ := zcl_ok _ (List.mem_of_getElem? hci)
    have hfin : ∀ (H3 : Heap) (locs3 : List Loc), va_P D zcl ((((h0, .inr (ci, fs)) :: zBs cA bl : va_W) ++ ([(q, .inl (cid cA, n, .inl (fun _ => 0)))] : va_W)).set 0 (h0, .inr (ci, fs.set k (.ref q)))) H3 → va_D (zAn h0 s.heap.size) ((((h0, .inr (ci, fs)) :: zBs cA bl : va_W) ++ ([(q, .inl (cid cA, n, .inl (fun _ => 0)))] : va_W)).set 0 (h0, .inr (ci, fs.set k (.ref q)))) → va_S (zAn h0 s.heap.size) s.heap H3 locs3 →
        W p l e (zMr Y) s m args below meth c H3 locs3 (kc + 1) (ks + n) (MQ below (va_Qv (fun ad : Nat → Nat => ad 0 = h0 ∧ zinj U ad ∧ ∀ k, k < U.1 → k ≠ 0 → s.heap.size ≤ ad k) (fun ad t => va_P D zcl (zWs cA U ad G0) t.heap) (zAn h0 s.heap.size)) args s (zMr Y).cells (zMr Y).slots (zAn h0 s.heap.size)) (F0 m (pc + 1 + cl + 2 + 3) lsl []) := fun H3 locs3 hP3 hD3 hS3 => by
      refine hgo q p l e s m args below meth c D cA h0 hC H3 locs3 lsl ?_ ?_ hS3 hl
      · rw [hblk]; exact hP3
      · rw [hblk]; exact hD3
    cases hfb : (T k).2.2.2 with
    | true => exact va_putF (ci := ci) (v := .ref q) (ty := ty9) (C := zMo Y) (T := T) (N := N) (ref := zMo Y) hx hb hts hw9 ty0 hty0 hnm0 hown hK1 hP1 hD1 hS1 0 rfl hci k hk (hts _ w7) (fun x h9 => by rw [hTk] at h9; exact h9) hfb hin hTk hty9 (hn9 q) (hf9 q) (by rw [hfs]; exact hk) dP hfin
    | false => exact va_put (ci := ci) (v := .ref q) (ty := ty9) (C := zMo Y) (T := T) (N := N) (ref := zMo Y) hx hb hts hw9 ty0 hty0 hnm0 hown hK1 hP1 hD1 hS1 0 rfl hci k hk (hts _ w7) (fun x h9 => by rw [hTk] at h9; exact h9) hfb hty9 (hn9 q) (hf9 q) (by rw [hfs]; exact hk) dP hfin
  rcases hpu with ⟨v, rfl, e1, e2⟩ | ⟨v, rfl, e1, e2⟩
  · exact lv_bipush hx hb e1 e2 hmain
  · exact lv_sipush hx hb e1 e2 hmain
end ZGf

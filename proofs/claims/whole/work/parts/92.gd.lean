/-! CONSTRUCTORS: their beginning, their numbers, their end -/
section ZGd
set_option maxRecDepth 20000
def zNu (cc : ByteArray) (pc cl : Nat) (v : Int32) : Prop := (∃ n, cl = 1 ∧ decode cc pc = .ok (.iconst n, 1) ∧ Int32.ofInt n = v) ∨ ∃ n, cl = 2 ∧ decode cc pc = .ok (.bipush n, 2) ∧ (Int8.ofInt n).toInt32 = v
theorem zNint {Y : zM} {ci : Nat} {U : zU} {G0 : zF} {pc kc ks : Nat} {fs : List Value} {bl : List zBl} {T : u_T} {N : Nat} (hci : zcl[ci]? = some (zMo Y, T, N)) (hfs : fs.length = N) {ip k cl : Nat} {v : Int32}
    (d0 : decode (zMc Y) pc = .ok (.aload_n 0, 1)) (hpu : zNu (zMc Y) (pc + 1) cl v) (dP : decode (zMc Y) (pc + 1 + cl) = .ok (.putfield ip, 3)) (w7 : Cond.fieldLink (zMo Y) ip (zMo Y) (T k).2.1 (T k).2.2.1 ∈ zts) (hk : k < N) (hTk : (T k).1 = zMo Y) {ty9 : FieldType} (hty9 : parseFieldDescriptor (T k).2.2.1 = some ty9) (hn9 : narrow ty9 (.int v) = .int v) (hf9 : fits ty9 (.int v) = true)
    (hgo : zNW Y ci U G0 (pc + 1 + cl + 3) kc ks (fs.set k (.int v)) bl) : zNW Y ci U G0 pc kc ks fs bl := by
  intro p l e s m args below meth c D cA h0 hC H locs lsl hP hD hS hl
  obtain ⟨hx, hb, hr, hml, hown, hts, hlocks, hin, hK, hfl, hlt, hao⟩ := id hC
  refine lv_aload_n (k := 0) hx hb d0 rfl (lv_at hl 0 rfl) ?_
  obtain ⟨hw9, ty0, hty0, hnm0⟩ := zcl_ok _ (List.mem_of_getElem? hci)
  have hmain : W p l e (zMr Y) s m args below meth c H locs kc ks (MQ below (va_Qv (fun ad : Nat → Nat => ad 0 = h0 ∧ zinj U ad ∧ ∀ k, k < U.1 → k ≠ 0 → s.heap.size ≤ ad k) (fun ad t => va_P D zcl (zWs cA U ad G0) t.heap) (zAn h0 s.heap.size)) args s (zMr Y).cells (zMr Y).slots (zAn h0 s.heap.size)) (F0 m (pc + 1 + cl) lsl [.int v, .ref h0]) := by
    have hfin : ∀ (H3 : Heap) (locs3 : List Loc), va_P D zcl (((h0, .inr (ci, fs)) :: zBs cA bl : va_W).set 0 (h0, .inr (ci, fs.set k (.int v)))) H3 → va_D (zAn h0 s.heap.size) (((h0, .inr (ci, fs)) :: zBs cA bl : va_W).set 0 (h0, .inr (ci, fs.set k (.int v)))) → va_S (zAn h0 s.heap.size) s.heap H3 locs3 →
        W p l e (zMr Y) s m args below meth c H3 locs3 kc ks (MQ below (va_Qv (fun ad : Nat → Nat => ad 0 = h0 ∧ zinj U ad ∧ ∀ k, k < U.1 → k ≠ 0 → s.heap.size ≤ ad k) (fun ad t => va_P D zcl (zWs cA U ad G0) t.heap) (zAn h0 s.heap.size)) args s (zMr Y).cells (zMr Y).slots (zAn h0 s.heap.size)) (F0 m (pc + 1 + cl + 3) lsl []) := fun H3 locs3 hP3 hD3 hS3 => hgo p l e s m args below meth c D cA h0 hC H3 locs3 lsl hP3 hD3 hS3 hl
    cases hfb : (T k).2.2.2 with
    | true => exact va_putF (ci := ci) (v := .int v) (ty := ty9) (C := zMo Y) (T := T) (N := N) (ref := zMo Y) hx hb hts hw9 ty0 hty0 hnm0 hown hK.1 hP hD hS 0 rfl hci k hk (hts _ w7) (fun x h9 => by rw [hTk] at h9; exact h9) hfb hin hTk hty9 hn9 hf9 (by rw [hfs]; exact hk) dP hfin
    | false => exact va_put (ci := ci) (v := .int v) (ty := ty9) (C := zMo Y) (T := T) (N := N) (ref := zMo Y) hx hb hts hw9 ty0 hty0 hnm0 hown hK.1 hP hD hS 0 rfl hci k hk (hts _ w7) (fun x h9 => by rw [hTk] at h9; exact h9) hfb hty9 hn9 hf9 (by rw [hfs]; exact hk) dP hfin
  rcases hpu with ⟨n, rfl, e1, e2⟩ | ⟨n, rfl, e1, e2⟩
  · exact lv_iconst hx hb e1 e2 hmain
  · exact lv_bipush hx hb e1 e2 hmain
theorem va_D1 {h0 sz : Nat} (e : va_E) : va_D (zAn h0 sz) [(h0, e)] := by
  refine ⟨fun i j p q hp hq _ => ?_, fun k q hq => ?_⟩
  · have h1 : i = 0 := by have := (List.getElem?_eq_some_iff.mp hp).1; simp at this; exact this
    have h2 : j = 0 := by have := (List.getElem?_eq_some_iff.mp hq).1; simp at this; exact this
    rw [h1, h2]
  · have h1 : k = 0 := by have := (List.getElem?_eq_some_iff.mp hq).1; simp at this; exact this
    subst h1
    cases hq
    exact Or.inl rfl
/-- from the first instructions on -/
theorem zNstart {Y : zM} {y : MethodName} {ci : Nat} {U : zU} {G0 : zF} {fs0 : List Value} {io : Nat} (hy : plainName y.cls = true) (hown0 : y.cls = zMo Y) (hname : y.name = "<init>") (hnL : 1 ≤ zMl Y)
    (d0 : decode (zMc Y) 0 = .ok (.aload_n 0, 1)) (d1 : decode (zMc Y) 1 = .ok (.invokespecial io, 3)) (w1 : Cond.methodLink (zMo Y) io objectInit ∈ zts) (w2 : Cond.instanceMethod objectInit ∈ zts) (w3 : Cond.code objectInit ⟨#[0xb1]⟩ 1 none ∈ zts) (hR : 1 ≤ (zMr Y).frames ∧ 12 ≤ (zMr Y).locals)
    (h : zNW Y ci U G0 4 0 0 fs0 []) : zNew U y (zMc Y) (zMl Y) (zMr Y) ci fs0 [] G0 := by
  intro l hfl D cA h0 sz hlt
  refine Met.ofW (cc := zMc Y) (maxL := zMl Y) (ret := none) hy rfl ?_
  intro p e s m args below meth c s₁ B hml hv
  obtain ⟨rfl, hsz, hP, hK, hao⟩ := hv
  have hx := B.exec
  have hb := B.bytes
  have hts : ∀ w ∈ zts, w.before _ s = true := fun w hw => atoms_spec (ws := Cond.code y (zMc Y) (zMl Y) none :: zts) B.pre w (List.mem_cons_of_mem _ hw)
  have hown : s.vm.findClass (zMo Y) = some m.cls := by rw [← hown0]; exact findClass_of_methodNamed B.named
  have hin : meth.name = "<init>" := (name_of_methodNamed B.named B.method).1.trans hname
  subst hsz
  have hl := lv_entry ([.ref h0]) (n := zMl Y) hnL
  rw [lg_entry_eq]
  generalize (lg_sl ([.ref h0]) ++ List.replicate (zMl Y - (lg_sl ([.ref h0])).length) Slot.unset).toArray = ls at hl ⊢
  have hl : lv_has ls (zMl Y) [(0, .ref h0)] := hl
  refine lv_aload_n (k := 0) hx hb d0 rfl (lv_at hl 0 rfl) ?_
  refine W.objInit (idx := io) hx hb hown (hts _ w1) (hts _ w2) (hts _ w3) rfl (by rw [hml]; exact hl.1) rfl d1 hR.1 hR.2 ?_
  refine W.eq (g2 := F0 m 4 ls []) rfl ?_
  exact h p l e s m _ below meth c D cA h0 ⟨hx, hb, B.returns, hml, hown, hts, B.notSynchronized, hin, hK, hfl, hlt, hao⟩ s.heap [] ls hP (va_D1 _) va_S.rf hl
/-! the blocks, put together -/
def zadl : List zBl → Nat → Nat
  | [], _ => 0
  | b :: r, k => if k < b.1.1 then b.2.1 k else zadl r (k - b.1.1)
def zBsz : List zBl → Nat
  | [] => 0
  | b :: r => b.1.1 + zBsz r
def zclo (n : Nat) (q : zS) : Bool := q.2.2.all fun o => match o with
  | none => true
  | some t => Nat.blt t n
def zBsh (U : zU) (G0 : zF) : Nat → List zBl → Prop
  | _, [] => True
  | o, b :: r => (∀ j, j < b.1.1 → U.2 (o + j) = zren (fun i => o + i) (b.1.2 j) ∧ zclo b.1.1 (b.1.2 j) = true ∧ G0 (o + j) = b.2.2 j) ∧ zBsh U G0 (o + b.1.1) r
theorem zFs_cg {ad ad' : Nat → Nat} {n : Nat} (h : ∀ k, k < n → ad k = ad' k) (f : Nat → Int32) : ∀ (l : List (Option Nat)) (b : Nat), (l.all fun o => match o with
  | none => true
  | some t => Nat.blt t n) = true → zFs ad f b l = zFs ad' f b l
  | [], _, _ => rfl
  | o :: r, b, hc => by
    rw [List.all_cons, Bool.and_eq_true] at hc
    show zFv ad f b o :: zFs ad f (b + 1) r = zFv ad' f b o :: zFs ad' f (b + 1) r
    rw [zFs_cg h f r (b + 1) hc.2]
    cases o with
    | none => rfl
    | some t =>
      have ht : t < n := by simpa using hc.1
      show Value.ref (ad t) :: _ = Value.ref (ad' t) :: _
      rw [h t ht]
theorem zE_cg {cA : zT} {ad ad' : Nat → Nat} {n : Nat} (h : ∀ k, k < n → ad k = ad' k) {q : zS} (hc : zclo n q = true) (f : Nat → Int32) : zE cA ad q f = zE cA ad' q f := by
  obtain ⟨t, a, l⟩ := q
  have hc : (l.all fun o => match o with
    | none => true
    | some t => Nat.blt t n) = true := hc
  rcases t with _ | _ | _ | _ | _ | t
  · exact congrArg (fun z => (Sum.inr (a, z) : va_E)) (zFs_cg h f l 0 hc)
  · rfl
  · rfl
  · refine congrArg (fun z => (Sum.inl (cA.2.2.1, a, .inr (.inr (.inr (.inr z)))) : va_E)) ?_
    funext j
    cases hz : znth l j with
    | none => rfl
    | some o =>
      cases o with
      | none => rfl
      | some t =>
        have hm : some t ∈ l := by
          rw [znth_eq] at hz
          exact List.mem_of_getElem? hz
        have ht : t < n := by simpa using List.all_eq_true.mp hc _ hm
        show some (ad t) = some (ad' t)
        rw [h t ht]
  · rfl
  · rfl
theorem zBpos {cA : zT} {U : zU} {G0 : zF} {ad : Nat → Nat} : ∀ (bl : List zBl) (o : Nat), zBsh U G0 o bl → (∀ k, k < zBsz bl → ad (o + k) = zadl bl k) → ∀ k, k < zBsz bl → (zBs cA bl)[k]? = some (ad (o + k), zE cA ad (U.2 (o + k)) (G0 (o + k)))
  | [], _, _, _, k, hk => absurd hk (Nat.not_lt_zero k)
  | b :: r, o, hs, ha, k, hk => by
    obtain ⟨h1, h2⟩ := hs
    show (zWs cA b.1 b.2.1 b.2.2 ++ zBs cA r)[k]? = _
    by_cases hkb : k < b.1.1
    · obtain ⟨g1, g2, g3⟩ := h1 k hkb
      rw [List.getElem?_append_left (by rw [zWs_len]; exact hkb), zWs_at _ _ _ _ hkb, g1, g3, zE_ren]
      have e1 : ad (o + k) = b.2.1 k := (ha k hk).trans (if_pos hkb)
      have e2 : zE cA (fun i => ad (o + i)) (b.1.2 k) (b.2.2 k) = zE cA b.2.1 (b.1.2 k) (b.2.2 k) := zE_cg (fun i hi => (ha i (by show i < b.1.1 + zBsz r; omega)).trans (if_pos hi)) g2 _
      rw [e1, e2]
    · have hk9 : k < b.1.1 + zBsz r := hk
      rw [List.getElem?_append_right (by rw [zWs_len]; omega), zWs_len]
      have := zBpos (cA := cA) (ad := ad) r (o + b.1.1) h2 (fun i hi => by
        have h9 := ha (b.1.1 + i) (by show b.1.1 + i < b.1.1 + zBsz r; omega)
        rw [show o + b.1.1 + i = o + (b.1.1 + i) by omega, h9]
        show (if b.1.1 + i < b.1.1 then _ else _) = _
        rw [if_neg (by omega), show b.1.1 + i - b.1.1 = i by omega]) (k - b.1.1) (by omega)
      rw [this, show o + b.1.1 + (k - b.1.1) = o + k by omega]
/-- the end: the object and its blocks are a world -/
theorem zNret {Y : zM} {ci : Nat} {U : zU} {G0 : zF} {pc kc ks : Nat} {fs : List Value} {bl : List zBl} {sl : List (Option Nat)} (hd : decode (zMc Y) pc = .ok (.return_, 1)) (hkc : kc ≤ (zMr Y).cells) (hks : ks ≤ (zMr Y).slots) (hU : U.1 = 1 + zBsz bl) (hU0 : U.2 0 = (0, ci, sl)) (hs : zBsh U G0 1 bl)
    (hfs : ∀ ad : Nat → Nat, (∀ k, k < zBsz bl → ad (1 + k) = zadl bl k) → zFs ad (G0 0) 0 sl = fs) : zNW Y ci U G0 pc kc ks fs bl := by
  intro p l e s m args below meth c D cA h0 hC H locs lsl hP hD hS hl
  obtain ⟨hx, hb, hr, hml, hown, hts, hlocks, hin, hK, hfl, hlt, hao⟩ := id hC
  have hadl : ∀ k, k < zBsz bl → (fun k => if k = 0 then h0 else zadl bl (k - 1)) (1 + k) = zadl bl k := fun k _ => by
    show (if 1 + k = 0 then h0 else zadl bl (1 + k - 1)) = zadl bl k
    rw [if_neg (by omega), show 1 + k - 1 = k by omega]
  have hadl0 : (fun k => if k = 0 then h0 else zadl bl (k - 1)) 0 = h0 := if_pos rfl
  generalize (fun k => if k = 0 then h0 else zadl bl (k - 1)) = ad at hadl hadl0
  have hpos : ∀ k, k < U.1 → ((h0, .inr (ci, fs)) :: zBs cA bl : va_W)[k]? = some (ad k, zE cA ad (U.2 k) (G0 k)) := fun k hk => by
    cases k with
    | zero =>
      have e : zE cA ad (U.2 0) (G0 0) = .inr (ci, fs) := by
        rw [hU0, ← hfs ad hadl]
        rfl
      rw [e, hadl0]
      rfl
    | succ k =>
      have h1 := zBpos (cA := cA) (ad := ad) bl 1 hs hadl k (by omega)
      rw [show 1 + k = k + 1 by omega] at h1
      exact h1
  refine W.widen (k := (zMr Y).cells) (n := (zMr Y).slots) hkc hks ?_
  refine W.vret hx hb hr (fun t ht hW => ⟨⟨ad, rfl, ⟨hadl0, fun i j hi hj hij => hD.1 i j _ _ (hpos i hi) (hpos j hj) hij, fun k hk hk0 => ?_⟩, ?_⟩, hS.F ht⟩) hS.2.2 hd
  · rcases hD.2 k _ (hpos k hk) with h | h
    · exact absurd (hD.1 k 0 _ (h0, .inr (ci, fs)) (hpos k hk) rfl h) hk0
    · exact h
  · show va_P D zcl (zWs cA U ad G0) t.heap
    rw [ht]
    intro k q hq
    obtain ⟨hk, rfl⟩ := zWs_in hq
    exact hP k _ (hpos k hk)
end ZGd

/-! CONSTRUCTORS: an object is filled with new ones -/
section ZGb
set_option maxRecDepth 20000
abbrev zBl : Type := zU × (Nat → Nat) × zF
def zBs (cA : zT) : List zBl → va_W
  | [] => []
  | b :: r => zWs cA b.1 b.2.1 b.2.2 ++ zBs cA r
theorem zBs_sn (cA : zT) (b : zBl) : ∀ bl : List zBl, zBs cA (bl ++ [b]) = zBs cA bl ++ zWs cA b.1 b.2.1 b.2.2
  | [] => by simp [zBs]
  | a :: r => by
    show zWs cA a.1 a.2.1 a.2.2 ++ zBs cA (r ++ [b]) = zWs cA a.1 a.2.1 a.2.2 ++ zBs cA r ++ zWs cA b.1 b.2.1 b.2.2
    rw [zBs_sn cA b r, List.append_assoc]
theorem va_D_app {A : Nat → Prop} {ws ws' : va_W} (h : va_D A ws) (h' : va_D A ws') (hx : ∀ (i j : Nat) (p q : Nat × va_E), ws[i]? = some p → ws'[j]? = some q → p.1 ≠ q.1) : va_D A (ws ++ ws') := by
  have hs : ∀ (i : Nat) (p : Nat × va_E), (ws ++ ws')[i]? = some p → (i < ws.length ∧ ws[i]? = some p) ∨ (ws.length ≤ i ∧ ws'[i - ws.length]? = some p) := fun i p hp => by
    by_cases hi : i < ws.length
    · rw [List.getElem?_append_left hi] at hp
      exact Or.inl ⟨hi, hp⟩
    · rw [List.getElem?_append_right (by omega)] at hp
      exact Or.inr ⟨by omega, hp⟩
  refine ⟨fun i j p q hp hq hpq => ?_, fun k q hq => ?_⟩
  · rcases hs i p hp with ⟨i1, i2⟩ | ⟨i1, i2⟩ <;> rcases hs j q hq with ⟨j1, j2⟩ | ⟨j1, j2⟩
    · exact h.1 i j p q i2 j2 hpq
    · exact absurd hpq (hx _ _ _ _ i2 j2)
    · exact absurd hpq.symm (hx _ _ _ _ j2 i2)
    · have := h'.1 _ _ p q i2 j2 hpq
      omega
  · rcases hs k q hq with ⟨_, h2⟩ | ⟨_, h2⟩
    · exact h.2 _ _ h2
    · exact h'.2 _ _ h2
def zCn (Y : zM) (p : Program) (l : Launch) (s : State) (m : MethodId) (args : Array Value) (meth : Method) (c : Code) (D : va_G) (cA : zT) (h0 : Nat) : Prop :=
  p.tables.exec = Jvm.exec ∧ c.code = zMc Y ∧ meth.sig.returnType = none ∧ c.maxLocals = zMl Y ∧ s.vm.findClass (zMo Y) = some m.cls ∧ (∀ w ∈ zts, w.before args s = true) ∧ meth.locks = false ∧ meth.name = "<init>" ∧ zK D cA s ∧ l.flags = flags0 ∧ h0 < s.heap.size ∧ va_AO RX1 s
/-- from here the constructor of the object h0 comes to its end; so far its places hold fs, and the worlds bl are made -/
def zNW (Y : zM) (ci : Nat) (U : zU) (G0 : zF) (pc kc ks : Nat) (fs : List Value) (bl : List zBl) : Prop :=
  ∀ (p : Program) (l : Launch) (e : Env) (s : State) (m : MethodId) (args : Array Value) (below : List Frame) (meth : Method) (c : Code) (D : va_G) (cA : zT) (h0 : Nat), zCn Y p l s m args meth c D cA h0 →
    ∀ (H : Heap) (locs : List Loc) (lsl : Array Slot), va_P D zcl ((h0, .inr (ci, fs)) :: zBs cA bl) H → va_D (zAn h0 s.heap.size) ((h0, .inr (ci, fs)) :: zBs cA bl) → va_S (zAn h0 s.heap.size) s.heap H locs → lv_has lsl (zMl Y) [(0, .ref h0)] →
      W p l e (zMr Y) s m args below meth c H locs kc ks (MQ below (va_Qv (fun ad : Nat → Nat => ad 0 = h0 ∧ zinj U ad ∧ ∀ k, k < U.1 → k ≠ 0 → s.heap.size ≤ ad k) (fun ad t => va_P D zcl (zWs cA U ad G0) t.heap) (zAn h0 s.heap.size)) args s (zMr Y).cells (zMr Y).slots (zAn h0 s.heap.size)) (F0 m pc lsl [])
theorem va_D_pre {A : Nat → Prop} {ws ws' : va_W} (h : va_D A (ws ++ ws')) : va_D A ws := by
  have hs : ∀ (i : Nat) (p : Nat × va_E), ws[i]? = some p → (ws ++ ws')[i]? = some p := fun i p hp => by
    rw [List.getElem?_append_left (List.getElem?_eq_some_iff.mp hp).1]
    exact hp
  exact ⟨fun i j p q hp hq => h.1 i j p q (hs i p hp) (hs j q hq), fun k q hq => h.2 k q (hs k q hq)⟩
theorem va_P_pre {D : va_G} {ws ws' : va_W} {H : Heap} (h : va_P D zcl (ws ++ ws') H) : va_P D zcl ws H := fun k q hq => h k q (by
  rw [List.getElem?_append_left (List.getElem?_eq_some_iff.mp hq).1]
  exact hq)
theorem va_P_last {D : va_G} {ws : va_W} {x : Nat × va_E} {H : Heap} (h : va_P D zcl (ws ++ [x]) H) : va_P D zcl [x] H := fun k q hq => by
  have hk : k = 0 := by have := (List.getElem?_eq_some_iff.mp hq).1; simp at this; exact this
  subst hk
  cases hq
  exact h ws.length x (by rw [List.getElem?_append_right (Nat.le_refl _), Nat.sub_self]; rfl)
/-- behind a constructor's call: what was there, and the new world -/
theorem zjoin {D : va_G} {cA : zT} {A : Nat → Prop} {ws : va_W} {q : Nat} {e : va_E} {H H1 : Heap} {U : zU} {ad : Nat → Nat} {G0 : zF} (hP : va_P D zcl (ws ++ [(q, e)]) H) (hD : va_D A (ws ++ [(q, e)])) (hk : ∀ z : Nat, z < H.size → ¬ zAn q H.size z → H1[z]? = H[z]?)
    (h0 : ad 0 = q) (hi : zinj U ad) (hn : ∀ k, k < U.1 → k ≠ 0 → H.size ≤ ad k) (hP1 : va_P D zcl (zWs cA U ad G0) H1) (hAH : ∀ z, H.size ≤ z → A z) : va_P D zcl (ws ++ zWs cA U ad G0) H1 ∧ va_D A (ws ++ zWs cA U ad G0) := by
  have hq : (ws ++ [(q, e)])[ws.length]? = some (q, e) := by rw [List.getElem?_append_right (Nat.le_refl _), Nat.sub_self]; rfl
  have hws : ∀ (i : Nat) (p : Nat × va_E), ws[i]? = some p → p.1 < H.size ∧ p.1 ≠ q := fun i p hp => by
    have hil := (List.getElem?_eq_some_iff.mp hp).1
    have hp2 : (ws ++ [(q, e)])[i]? = some p := by rw [List.getElem?_append_left hil]; exact hp
    refine ⟨(hP i p hp2).lt, fun e9 => ?_⟩
    have := hD.1 i ws.length p (q, e) hp2 hq e9
    omega
  have hnew : ∀ (j : Nat) (p : Nat × va_E), (zWs cA U ad G0)[j]? = some p → p.1 = q ∨ H.size ≤ p.1 := fun j p hp => by
    obtain ⟨hj, rfl⟩ := zWs_in hp
    by_cases hj0 : j = 0
    · subst hj0; exact Or.inl h0
    · exact Or.inr (hn j hj hj0)
  refine ⟨va_P_app (va_P.kept (va_P_pre hP) fun i p hp => hk _ (hws i p hp).1 (fun h => ?_)) hP1, va_D_app (va_D_pre hD) (zWs_D hi fun k hk9 => ?_) fun i j p p2 h1 h2 e9 => ?_⟩
  · rcases h with h | h
    · exact (hws i p hp).2 h
    · have := (hws i p hp).1
      omega
  · by_cases hk0 : k = 0
    · subst hk0
      rw [h0]
      exact hD.2 _ _ hq
    · exact hAH _ (hn k hk9 hk0)
  · obtain ⟨g1, g2⟩ := hws i p h1
    rcases hnew j p2 h2 with g | g
    · exact g2 (e9.trans g)
    · omega
end ZGb

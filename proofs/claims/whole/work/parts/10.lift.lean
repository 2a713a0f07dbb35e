/-! a contract holds in every larger world -/
section ZLi
def zren (em : Nat → Nat) (q : zS) : zS := (q.1, q.2.1, q.2.2.map (Option.map em))
def zemb (U' U : zU) (em : Nat → Nat) : Prop := (∀ k, k < U'.1 → em k < U.1) ∧ (∀ i j, i < U'.1 → j < U'.1 → em i = em j → i = j) ∧ ∀ k, k < U'.1 → U.2 (em k) = zren em (U'.2 k)
def zspl (U' : zU) (em : Nat → Nat) (F F' F2 : zF) : Prop := (∀ k, k < U'.1 → F2 (em k) = F' k) ∧ ∀ j, (∀ k, k < U'.1 → em k ≠ j) → F2 j = F j
theorem zFs_ren (ad : Nat → Nat) (em : Nat → Nat) (f : Nat → Int32) (l : List (Option Nat)) : ∀ b, zFs ad f b (l.map (Option.map em)) = zFs (fun k => ad (em k)) f b l := by
  induction l with
  | nil => intro b; rfl
  | cons o r ih =>
    intro b
    cases o with
    | none => exact congrArg (List.cons _) (ih (b + 1))
    | some t => exact congrArg (List.cons _) (ih (b + 1))
theorem znth_map {α β : Type} (g : α → β) (l : List α) (n : Nat) : znth (l.map g) n = (znth l n).map g := by
  rw [znth_eq, znth_eq, List.getElem?_map]
theorem zE_ren (cA : zT) (ad : Nat → Nat) (em : Nat → Nat) (q : zS) (f : Nat → Int32) : zE cA ad (zren em q) f = zE cA (fun k => ad (em k)) q f := by
  obtain ⟨t, n, l⟩ := q
  rcases t with _ | _ | _ | _ | _ | t
  · exact congrArg (fun z => (Sum.inr (n, z) : va_E)) (zFs_ren ad em f l 0)
  · rfl
  · rfl
  · refine congrArg (fun z => (Sum.inl (cA.2.2.1, n, .inr (.inr (.inr (.inr z)))) : va_E)) ?_
    funext j
    show ((znth (l.map (Option.map em)) j).getD none).map ad = ((znth l j).getD none).map (fun k => ad (em k))
    rw [znth_map]
    cases znth l j with
    | none => rfl
    | some o => cases o <;> rfl
  · rfl
  · rfl
theorem zv_ren (ad em : Nat → Nat) (v : Value) : zv ad (zv em v) = zv (fun k => ad (em k)) v := by cases v <;> rfl
theorem zsm_ren (em : Nat → Nat) (v : Value) : zsm (zv em v) = zsm v := by cases v <;> rfl
theorem vx_mono {l : Launch} {y : MethodName} {ws : List Cond} {rm : Room} {Pc Pc' : Array Value → State → Prop} {Qc Qc' : Array Value → State → Outcome → State → Prop} {XC XC' : String → State → State → Prop} {mc ms : Nat} {A A' : Addr → Prop}
    (hM : vx_Met l y ws rm Pc' Qc' XC' mc ms A') (hp : ∀ a s, Pc a s → Pc' a s) (hq : ∀ a s o t, Pc a s → Qc' a s o t → Qc a s o t) (hx : ∀ a s E t, Pc a s → XC' E s t → XC E s t) (hA : ∀ q, A' q → A q) : vx_Met l y ws rm Pc Qc XC mc ms A := by
  intro p e ha hc hk s m args below hf happ hP hK
  obtain ⟨n, o, h1, h2, h3, h4⟩ := hM p e ha hc hk s m args below hf happ (hp _ _ hP) hK
  refine ⟨n, o, h1, h2, h3, ?_⟩
  rcases h4 with ⟨a1, L, a2, a3⟩ | ⟨q, rfl, E, ce, L, b1, b2, b3, b4, b5, b6, b7⟩
  · exact Or.inl ⟨hq _ _ _ _ hP a1, L, a2, fun q h => hA _ (a3 q h)⟩
  · exact Or.inr ⟨q, rfl, E, ce, L, hx _ _ _ _ hP b1, b2, b3, b4, b5, b6, fun z h => hA _ (b7 z h)⟩
theorem zlift {U' U : zU} {y : MethodName} {cc : ByteArray} {nL : Nat} {ret : Option FieldType} {rm : Room} {sp' sp : zSp} (hM : zMet U' y cc nL ret rm sp')
    (h : ∀ as F ok ex, sp as F ok ex → ∃ (em : Nat → Nat) (as' : List Value) (ok' : zO) (ex' : zX), zemb U' U em ∧ as = as'.map (zv em) ∧ sp' as' (fun k => F (em k)) ok' ex' ∧
      (∀ q F', ok' q F' → ∃ F2, zspl U' em F F' F2 ∧ ok (q.map (zv em)) F2) ∧ (∀ E F', ex' E F' → ∃ F2, zspl U' em F F' F2 ∧ ex E F2)) : zMet U y cc nL ret rm sp := by
  intro l hfl D cA ad F sz av ok ex hsp hinj hall hlen
  obtain ⟨em, as', ok', ex', ⟨he1, he2, he3⟩, has, hsp', hok, hex⟩ := h _ _ _ _ hsp
  have hcell : ∀ (G : zF) (k : Nat), k < U'.1 → zE cA ad (U.2 (em k)) (G (em k)) = zE cA (fun k => ad (em k)) (U'.2 k) (G (em k)) := fun G k hk => by rw [he3 k hk, zE_ren]
  have hinj' : zinj U' (fun k => ad (em k)) := fun i j hi hj hij => he2 i j hi hj (hinj _ _ (he1 i hi) (he1 j hj) hij)
  have hA : ∀ q, zA U' (fun k => ad (em k)) sz q → zA U ad sz q := fun q h => h.elim (fun ⟨k, hk, e⟩ => Or.inl ⟨em k, he1 k hk, e⟩) Or.inr
  have hP : ∀ (G : zF) (H : Heap), va_P D zcl (zWs cA U ad G) H → va_P D zcl (zWs cA U' (fun k => ad (em k)) (fun k => G (em k))) H := by
    intro G H hP k q hq
    obtain ⟨hk, rfl⟩ := zWs_in hq
    have := hP (em k) _ (zWs_at cA U ad G (he1 k hk))
    rw [hcell G k hk] at this
    exact this
  have back : ∀ (s t : State) (F' F2 : zF), va_P D zcl (zWs cA U ad F) s.heap → s.heap.size = sz → va_F (zA U' (fun k => ad (em k)) sz) s t → va_P D zcl (zWs cA U' (fun k => ad (em k)) F') t.heap → zspl U' em F F' F2 → va_P D zcl (zWs cA U ad F2) t.heap := by
    intro s t F' F2 hPs hsz hFr hPt hs k q hq
    obtain ⟨hk, rfl⟩ := zWs_in hq
    by_cases hin : ∃ k', k' < U'.1 ∧ em k' = k
    · obtain ⟨k', hk', rfl⟩ := hin
      have := hPt k' _ (zWs_at cA U' _ F' hk')
      rw [← hs.1 k' hk', ← hcell F2 k' hk'] at this
      exact this
    · have hout : ∀ k', k' < U'.1 → em k' ≠ k := fun k' hk' e => hin ⟨k', hk', e⟩
      rw [hs.2 k hout]
      have h0 := hPs k _ (zWs_at cA U ad F hk)
      refine h0.kept (hFr.2 _ h0.lt ?_)
      rintro (⟨k', hk', e⟩ | h9)
      · exact hout k' hk' (hinj _ _ (he1 k' hk') hk e.symm)
      · have h10 : ad k < s.heap.size := h0.lt
        have h11 : sz ≤ ad k := h9
        omega
  have hav : av.map (zv ad) = as'.map (zv fun k => ad (em k)) := by
    rw [has, List.map_map]
    exact List.map_congr_left fun v _ => zv_ren ad em v
  refine vx_mono (hM l hfl D cA (fun k => ad (em k)) (fun k => F (em k)) sz as' ok' ex' hsp' hinj' ?_ ?_) ?_ ?_ ?_ hA
  · rw [has] at hall
    rw [List.all_map] at hall
    simpa [Function.comp_def, zsm_ren] using hall
  · rw [has, List.length_map] at hlen
    exact hlen
  · rintro a s ⟨h1, h2, h3, h4, h5⟩
    exact ⟨by rw [h1, hav], h2, hP F _ h3, h4, h5.narrow hA⟩
  · rintro a s o t ⟨h1, h2, h3, h4, h5⟩ ⟨⟨q, F', e, g1, g2⟩, g3⟩
    obtain ⟨F2, k1, k2⟩ := hok _ _ g1
    refine ⟨⟨q.map (zv em), F2, ?_, k2, back s t F' F2 h3 h2 g3 g2 k1⟩, g3.1, fun z hz hn => g3.2 z hz fun hh => hn (hA z hh)⟩
    rw [e]
    cases q with
    | none => rfl
    | some v => exact congrArg (fun z => Outcome.returned (some z)) (zv_ren ad em v).symm
  · rintro a s E t ⟨h1, h2, h3, h4, h5⟩ ⟨⟨F', g1, g2⟩, g3⟩
    obtain ⟨F2, k1, k2⟩ := hex _ _ g1
    exact ⟨⟨F2, k2, back s t F' F2 h3 h2 g3 g2 k1⟩, g3.1, fun z hz hn => g3.2 z hz fun hh => hn (hA z hh)⟩
end ZLi

/-! 'throw new E(text)' -/
section ZTh
theorem zflags {l : Launch} (h : l.flags = flags0) : l.stackTraces = false := by
  unfold Launch.stackTraces
  rw [h]
  decide +kernel
def zhat (own : String) (ic : Nat) (E : String) (names : List String) : Bool := (vx_atS own ic E names).all (fun w => decide (w ∈ zts) || decide (w ∈ znw))
theorem zhat_ok {Y : zM} {own : String} {ic : Nat} {E : String} {names : List String} (h : zhat own ic E names = true) {p : Program} {l : Launch} {s : State} {m : MethodId} {args : Array Value} {meth : Method} {c : Code} {D : va_G} {cA : zT} {ad : Nat → Nat} (hC : zCtx Y p l s m args meth c D cA ad) : ∀ w ∈ vx_atS own ic E names, w.before args s = true := by
  obtain ⟨hx, hb, hrt, hml, hown, hts, hlocks, hout, hK, hZ, hinj, hfl⟩ := hC
  intro w hw
  have h1 := List.all_eq_true.mp h w hw
  simp only [Bool.or_eq_true] at h1
  rcases h1 with h1 | h1
  · exact hts w (of_decide_eq_true h1)
  · have h2 := of_decide_eq_true h1
    have h3 : zisN w = true := (List.mem_filter.mp h2).2
    have h4 := hK.2.1 w h2
    cases w <;> first | exact va_Nw.use rfl h4 | cases h3
theorem zthrow {Y : zM} {ok : zO} {ex : zX} {pc ik is ic : Nat} {E text : String} {names : List String} {ls : zL} {kc ks : Nat} {F : zF}
    (hs : (zMo Y, is, text) ∈ zstr) (hcls : Bundle.fit E = true) (hnames : ∀ n ∈ names, Bundle.fit n = true) (hw1 : Cond.classLink (zMo Y) ik E ∈ zts) (hw2 : Cond.initialized E ∈ zts) (hat : zhat (zMo Y) ic E names = true)
    (hgood : ∀ w ∈ Cond.classLink (zMo Y) ik E :: Cond.initialized E :: vx_atS (zMo Y) ic E names, vx_ot w = true)
    (d0 : decode (zMc Y) pc = .ok (.new ik, 3)) (d3 : decode (zMc Y) (pc + 3) = .ok (.dup, 1)) (d4 : decode (zMc Y) (pc + 4) = .ok (.ldc_w is, 3)) (d7 : decode (zMc Y) (pc + 7) = .ok (.invokespecial ic, 3)) (d10 : decode (zMc Y) (pc + 10) = .ok (.athrow, 1))
    (hfr : names.length + 3 < (zMr Y).frames) (hlo : 13 * (names.length + 1) + 43 ≤ (zMr Y).locals) (hkc : kc + 1 ≤ (zMr Y).cells) (hks : ks + 6 ≤ (zMr Y).slots) (h : ex E F) : zWP Y ok ex pc ls [] kc ks F := by
  intro p l e s m args below meth c D cA ad hC H locs lsl hP hS hl hln _ _
  have hat' := zhat_ok hat hC
  obtain ⟨hx, hb, hrt, hml, hown, hts, hlocks, hout, hK, hZ, hinj, hfl⟩ := id hC
  obtain ⟨sa, hsa⟩ := hK.2.2 _ hs
  exact vx_throwSW (A := zA (zMu Y) ad s.heap.size) (text := text) (sa := sa) hx hb (zflags hfl) hown hcls hnames (hts _ hw1) (hts _ hw2) hsa hat' hgood hZ.1 hZ.2 hS (hl.1.trans hml.symm) d0 d3 d4 d7 d10
    (fun x hx => (hout x hx).elim) hfr (by simpa using hlo) hkc hks hlocks
    (fun t hal hsz hq => ⟨⟨F, h, hP.kept fun k q hk => hq q.1 ((hP k q hk).lt)⟩, Nat.le_trans hS.1 hsz, fun q h1 h2 => by rw [hq q (Nat.lt_of_lt_of_le h1 hS.1)]; exact hS.2.1 q h1 h2⟩) hS.2.2 hkc hks
end ZTh

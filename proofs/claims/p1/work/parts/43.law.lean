/-! part 23: the claim out of runs of the interpreter (the skeleton's text, with the interpreter's run in the place of a walk) -/
def gp_N : Nat := 3
def lw_P (N : Nat) (b : Addr) (xs : List Int32) (args : Array Value) (s : State) : Prop := args = #[.ref b] ∧ s.IntsAt b xs ∧ xs.length ≤ N ∧ (Jvm.Cond.and given_1 narrow_1).before args s = true
def lw_Q (_ : Array Value) (s : State) (o : Outcome) (t : State) : Prop := o = .returned (some (.int 1)) ∧ Framed s o t [] 600002 7302231
def lw_Z (below : List Frame) (a : Array Value) (s : State) : State → Prop := fun t => ∃ o, t.status = .running ∧ Ended t below o ∧ lw_Q a s o t
/-- the law answers true, as the interpreter sees it, on every script of at most N ints -/
def gp_Law (N : Nat) : Prop := ∀ scr : List Int32, scr.length ≤ N → ∃ (n : Nat) (w : gk_Wd), gk_run gp_P n (some scr) 8 0 0 (gk_entry [.ref 0] 7) [] [] = some (.inl (some (.int 1)), w) ∧ w.length ≤ 600002 ∧ gk_sl gp_nsl w ≤ 7302231
section GP2
variable {p : Program} {l : Launch} {e : Env} {s : State} {m : MethodId} {below : List Frame} {meth : Method} {c : Code} {b : Nat}
set_option maxHeartbeats 1000000 in
theorem gp_start {xs : List Int32} (hx : p.tables.exec = Jvm.exec) (hb : c.code = code) (hr : meth.sig.returnType = ret) (hml : c.maxLocals = 7) (hown : s.vm.findClass "GrammarDeskLaw" = some m.cls) (hts : ∀ w ∈ lw_tbl, w.before #[Value.ref b] s = true) (hX : va_X b xs.length (fun j => xs.getD j 0) s s.heap) (hbl : b < s.heap.size) (hlk : meth.locks = false)
    (hgv : (Jvm.Cond.and given_1 narrow_1).before #[Value.ref b] s = true) (hnm : meth.name = "law") (hex : c.exceptionTable.toList.map (fun h => (h.startPc, h.endPc, h.handlerPc, h.catchType)) = []) (htr : e.platform.stackTraces = false) {n : Nat} {w : gk_Wd} (hrun : gk_run gp_P n (some xs) 8 0 0 (gk_entry [.ref 0] 7) [] [] = some (.inl (some (.int 1)), w)) (hc : w.length ≤ 600002) (hs : gk_sl gp_nsl w ≤ 7302231) :
    W p l e room_1 s m #[Value.ref b] below meth c s.heap [] 0 0 (lw_Z below #[Value.ref b] s) (entryFrame m ([Value.ref b] : List Value).toArray 7) := by
  have hw := gp_words hts
  obtain ⟨D, hD⟩ := gp_D hw
  obtain ⟨cA, hcA⟩ := gp_cA hw
  have hK : gk_K D gp_cl cA gp_LW s := by
    refine ⟨⟨hD, fun k q hk => ?_⟩, hw⟩
    have hl : k < 4 := (List.getElem?_eq_some_iff.mp hk).1
    have h4 := hcA k hl
    rcases (show k = 0 ∨ k = 1 ∨ k = 2 ∨ k = 3 by omega) with rfl | rfl | rfl | rfl <;> (cases hk; exact h4)
  have hJ := gp_J0 hts hgv
  have hI : gk_I D gp_cl cA b s.heap.size s [] s.heap [] 0 := ⟨fun k q hk => by simp [gk_w] at hk, va_S.rf, rfl, rfl, Nat.le_refl _⟩
  have hM : gk_M gp_P gp_yn gp_code gp_hh 0 s m meth c := ⟨hb, hml, hr, hlk, hown, hnm, hex⟩
  obtain ⟨hL, hLn⟩ := gk_entry_L (gk_ad b s.heap.size) [.ref 0] 7 (by decide)
  have W0 := gk_right (l := l) hx htr gp_TT gp_TK gp_TD (gp_TY s.heap.size) (gp_TH s.heap.size) gp_LW_stab (gp_J_warm s.heap.size) hbl n (some xs) 8 0 0 _ [] [] _ hrun room_1 s m #[Value.ref b] below meth c s.heap [] 0 0 w.length (gk_sl gp_nsl w) _ hM hK (fun ys hy => by cases hy; exact hX) hJ hI hL hLn (by decide) (by decide) hc hs (by simp) (Nat.add_comm _ _)
  rw [lg_entry_eq]
  intro T hT X
  obtain ⟨t, hst, o, L, h1, h2, h3, h4, h5, h6⟩ := W0 T hT X
  have h3 : o = .returned (some (.int 1)) := h3
  subst h3
  refine ⟨t, hst, .returned (some (.int 1)), h1, h2, rfl, ⟨_, rfl⟩, h4, ?_⟩
  obtain ⟨e1, e2, e3, e4, e5, e6⟩ := h5
  refine ⟨e1, e2, Nat.le_trans e3 (Nat.add_le_add_left hc _), e4, Nat.le_trans e5 hs, fun a ce ha => ?_⟩
  obtain ⟨c', g1, g2, g3, g4⟩ := e6 a ce ha
  refine ⟨c', g1, g2, g3, fun i _ => g4 i fun hm => ?_⟩
  have := h6.2.1.2.2 _ hm
  have hlt : a < s.heap.size := (Array.getElem?_eq_some_iff.mp ha).1
  exact absurd hlt (Nat.not_lt.mpr this)
end GP2
theorem gp_traces {l : Launch} {e : Env} (hf : l.flags = flags0) (h : l.admits e) : e.platform.stackTraces = false := by
  have h1 : e.platform.stackTraces = l.stackTraces := by rw [h.platform]
  rw [h1]
  unfold Launch.stackTraces
  rw [hf]
  decide
set_option maxHeartbeats 4000000 in
theorem lw_walk {N : Nat} (hN : gp_Law N) (l : Launch) (hfl : l.flags = flags0) (b : Addr) (xs : List Int32) : MetFree l x (headSpec (Jvm.Cond.code x code maxLocals ret :: tables_1) room_1) (lw_P N b xs) (fun _ _ _ _ _ => True) lw_Q := by
  refine MetFree.of_bodyS (code := code) (maxLocals := maxLocals) (ret := ret) (by decide) ?_ ?_
  · intro args s m h hn
    obtain ⟨meth, c, h1, h2, h3, h4, h5, h6, -, -⟩ := Cond.code_spec hn (atoms_spec (ws := Jvm.Cond.code x code maxLocals ret :: tables_1) h _ List.mem_cons_self)
    exact ⟨meth, c, h1, h2, h3, h4, h5, h6⟩
  · intro p e s m args below meth c s₁ B hml0 hP _
    obtain ⟨rfl, hx, hbd, hgv⟩ := hP
    obtain ⟨scr, harrAt, hlist, hof, hsmall⟩ := hx
    obtain ⟨hcb, hkn, -, -⟩ := State.arrayAt?_spec harrAt
    have hown : s.vm.findClass "GrammarDeskLaw" = some m.cls := findClass_of_methodNamed B.named
    have hts0 : ∀ c ∈ (Jvm.Cond.code x code maxLocals ret :: tables_1), c.before #[Value.ref b] s = true := atoms_spec (ws := Jvm.Cond.code x code maxLocals ret :: tables_1) B.pre
    have hts : ∀ w ∈ lw_tbl, w.before #[Value.ref b] s = true := k2_hts_sels lw_privs (fun w hw => hts0 w (List.mem_cons_of_mem _ hw)) lw_privs_ok
    have hml : c.maxLocals = 7 := B.maxLocals_eq (hts0 _ List.mem_cons_self)
    have X₀ : Stand p l e room_1 s m #[Value.ref b] below meth c s₁ [] 0 0 := Stand.of_body B
    have hh0 : s₁.heap = s.heap := by rw [B.state]; rfl
    have hsz : scr.slots.size = xs.length := by rw [← Array.length_toList, hlist, List.length_map]
    have hval : ∀ j : Nat, j < xs.length → scr.slots[j]? = some (.int (xs.getD j 0)) := fun j hj => by
      rw [← Array.getElem?_toList, hlist]
      simp [hj]
    have hbl : b < s.heap.size := (Array.getElem?_eq_some_iff.mp hcb).1
    have hX : va_X b xs.length (fun j => xs.getD j 0) s s.heap := ⟨scr, hcb, hof, hkn, hsz, hval⟩
    have hex0 : c.exceptionTable.isEmpty = true := BodyLoose.noHandlers B (hts0 _ List.mem_cons_self)
    have hex : c.exceptionTable.toList.map (fun h => (h.startPc, h.endPc, h.handlerPc, h.catchType)) = [] := by
      have h0 : c.exceptionTable.size = 0 := by simpa [Array.isEmpty] using hex0
      have h1 : c.exceptionTable.toList = [] := List.eq_nil_of_length_eq_zero (by simpa using h0)
      rw [h1]; rfl
    obtain ⟨n, w, hrun, hc, hs⟩ := hN xs hbd
    have K : W p l e room_1 s m #[Value.ref b] below meth c s₁.heap [] 0 0 (lw_Z below #[Value.ref b] s) (entryFrame m ([Value.ref b] : List Value).toArray 7) := by
      rw [hh0]
      exact gp_start B.exec B.bytes B.returns hml hown hts hX hbl B.notSynchronized hgv (name_of_methodNamed B.named B.method).1 hex (gp_traces hfl X₀.admits) hrun hc hs
    obtain ⟨t, a1, o, b1, b2, b3⟩ := K s₁ rfl X₀
    exact ⟨t, o, a1, b1, b2, b3⟩
theorem lw_pre_spec {args : Array Value} {s : State} (h : (Jvm.Cond.and given_1 narrow_1).before args s = true) (hr : rest_1_c.before args s = true) : ∃ (b : Addr) (xs : List Int32), lw_P gp_N b xs args s := by
  have hs := flat_of_before _ h
  have hq := flat_of_before _ hr
  have hc : (Cond.count 1).before args s = true := hs _ (by decide +kernel)
  have harr : (Cond.arrayOf (.arg 0) .int).before args s = true := hs _ (by decide +kernel)
  have hle : (Cond.le (.length (.arg 0)) (.int (Int32.ofNat gp_N))).before args s = true := hs _ (by decide +kernel)
  have hlen : (Cond.isInt (.length (.arg 0))).before args s = true := hq _ (by decide +kernel)
  have hall : (Cond.all (.arg 0) (.isInt (.elem (.arg 0) (.index 0)))).before args s = true := hq _ (by decide +kernel)
  obtain ⟨b, xs, hb, hx⟩ := State.ints_of_pre rfl harr hlen hall
  have hsm : xs.length < 2 ^ 31 := hx.choose_spec.2.2.2
  have hev : (Term.length (.arg 0)).eval args s none [] s = some (.int xs.length.toInt32) := hx.length_eval hb
  have hv := Cond.le_ints hev (show (Term.int (Int32.ofNat gp_N)).eval args s none [] s = some (.int (Int32.ofNat gp_N)) from rfl)
  have hd : xs.length.toInt32 ≤ Int32.ofNat gp_N := by
    simpa [Cond.before, Cond.holds, hv] using hle
  have hN : xs.length ≤ gp_N := (Int32.ofNat_le_ofNat hsm (by decide)).mp (show Int32.ofNat xs.length ≤ Int32.ofNat gp_N from hd)
  exact ⟨b, xs, Cond.one_arg hc (show args[0]? = some (.ref b) from hb), hx, hN, h⟩
theorem lw_comes (hN : gp_Law gp_N) (l : Launch) (hfl : l.flags = flags0) : Comes l x (Jvm.Cond.code x code maxLocals ret :: tables_1) room_1 (fun tb e args s => Calls_1 tb e args s ∧ rest_1 tb e args s ∧ Pre_1 tb e args s)
    (fun _ _ args s o t => lw_Q args s o t) := by
  intro p e ha hc hk s m args below hf hfit hheap happ hpre
  obtain ⟨b, xs, hP⟩ := lw_pre_spec hpre.2.2 hpre.2.1
  obtain ⟨k, o, h1, h2, h3, hQ⟩ := lw_walk hN l hfl b xs p e ha hc hk s m args below hf ((Spec.applies_iff_loose hf).mp happ).1 hP trivial
  exact ⟨k, o, h1, h2, h3, hQ⟩
theorem lw_frame {s t : State} {o : Outcome} {args : Array Value} (h : Framed s o t [] 600002 7302231) :
    Framed s o t (fieldLocs frame_1_writes args s ++ arrayLocs frame_1_arrays args s ++ staticLocs frame_1_statics s) 600002 7302231 := h
theorem lw_limb (hN : gp_Law gp_N) (L : Cond) (hL : ∀ (args : Array Value) (s t : State), L.after args s (.returned (some (.int 1))) t = true) :
    ArmFor flags0 classFile x code maxLocals ret World_1 tables_1 room_1 Calls_1 rest_1 Pre_1
      (fun tb e a s o t => postC L tb e a s o t ∧ Framed s o t (fieldLocs frame_1_writes a s ++ arrayLocs frame_1_arrays a s ++ staticLocs frame_1_statics s) 600002 7302231) := by
  intro l hfl _ _ p e ha hc hk s m args below hf hfit hheap happ hpre
  obtain ⟨k, o, h1, h2, h3, rfl, hF⟩ := lw_comes hN l hfl p e ha hc hk s m args below hf hfit hheap happ hpre
  exact ⟨k, _, h1, h2, h3, hL args s _, lw_frame hF⟩
theorem gp_claim (hN : gp_Law gp_N) : Claimed_1_1 ∧ Claimed_1_2 := ⟨lw_limb hN limb_1_1 (fun args s t => by simp [limb_1_1, Cond.after, Cond.holds, Cond.value]), lw_limb hN limb_1_2 (fun args s t => Cond.after_iff.mpr (by
  first | (rw [show limb_1_2 = Cond.eq .result (.int 1) from rfl, Cond.eq_ints (x := 1) (y := 1) rfl rfl]; simp; done) | (simp [limb_1_2, Cond.value, Term.eval]; done)))⟩

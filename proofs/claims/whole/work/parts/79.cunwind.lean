/-! part 53: rules that begin with their own left side: the class -/
def slB (x : Nat) (r : Rl) : Bool := decide (r.1 = x ∧ 0 < r.2.length ∧ r.2.headD 0 = x)
/-- what a rule of x gives -/
def nwR (x z : Nat) (g : Rl) : List Rl := if slB x g = true then [(z, g.2.drop 1), (z, g.2.drop 1 ++ [z])] else [(x, g.2 ++ [z])]
def sm (f : Rl → Nat) : List Rl → Nat
  | [] => 0
  | g :: l => f g + sm f l
theorem sm_app (f : Rl → Nat) : ∀ a b : List Rl, sm f (a ++ b) = sm f a + sm f b
  | [], b => by simp [sm]
  | g :: a, b => by simp only [List.cons_append, sm, sm_app f a b]; omega
theorem sm_take (f : Rl → Nat) {G : List Rl} {k : Nat} (hk : k < G.length) : sm f (G.take (k + 1)) = sm f (G.take k) + f G[k] := by
  rw [List.take_succ_eq_append_getElem hk, sm_app]; simp [sm]
theorem sm_le (f : Rl → Nat) (G : List Rl) (k : Nat) : sm f (G.take k) ≤ sm f G := by
  have := sm_app f (G.take k) (G.drop k)
  rw [List.take_append_drop] at this; omega
def cX (x : Nat) (g : Rl) : Nat := if g.1 = x then 1 else 0
def sX (x : Nat) (g : Rl) : Nat := if slB x g = true then 1 else 0
def wX (x : Nat) (g : Rl) : Nat := cX x g + sX x g
theorem wX_sm (x : Nat) : ∀ G : List Rl, sm (wX x) G = sm (cX x) G + sm (sX x) G
  | [] => rfl
  | g :: G => by simp only [sm, wX, wX_sm x G]; omega
def tooL (x : Nat) (G : List Rl) : Prop := ∃ g ∈ G, g.1 = x ∧ slB x g = false ∧ g.2.length = 10
def fU (x z : Nat) (G : List Rl) (r : Rl) : Prop := (r ∈ G ∧ slB x r = false) ∨ ∃ g ∈ G, g.1 = x ∧ r ∈ nwR x z g
def uwO (x z : Nat) (G : List Rl) : Option (List Rl) → Prop
  | some K => srt K ∧ (∀ r, r ∈ K ↔ fU x z G r) ∧ K.length ≤ 60 ∧ K.length = G.length + sm (cX x) G ∧ ¬ tooL x G
  | none => tooL x G ∨ 60 < G.length + sm (cX x) G
def uwR (x : Nat) (G : List Rl) (o : Option (List Rl)) : Prop := if G.any (slB x) = false then o = some G else match frV G with
  | none => o = none
  | some z => uwO x z G o
theorem uwR_uniq {x : Nat} {G : List Rl} {o o' : Option (List Rl)} (h : uwR x G o) (h' : uwR x G o') : o = o' := by
  unfold uwR at h h'
  by_cases ha : G.any (slB x) = false
  · rw [if_pos ha] at h h'; rw [h, h']
  · rw [if_neg ha] at h h'
    cases hf : frV G with
    | none => rw [hf] at h h'; rw [h, h']
    | some z =>
      rw [hf] at h h'
      simp only at h h'
      cases o with
      | none =>
        cases o' with
        | none => rfl
        | some K' =>
          obtain ⟨_, _, q1, q2, q3⟩ := h'
          rcases h with h | h
          · exact absurd h q3
          · omega
      | some K =>
        cases o' with
        | none =>
          obtain ⟨_, _, q1, q2, q3⟩ := h
          rcases h' with h' | h'
          · exact absurd h' q3
          · omega
        | some K' =>
          obtain ⟨p1, p2, _⟩ := h
          obtain ⟨p1', p2', _⟩ := h'
          rw [srt_ext p1 p1' fun r => by rw [p2, p2']]
theorem usB_f {G : List Rl} {z : Nat} (hz : usB G z = false) {g : Rl} (hg : g ∈ G) : g.1 ≠ z ∧ z ∉ g.2 := by
  unfold usB at hz
  have := List.any_eq_false.mp hz g hg
  simp only [Bool.or_eq_true, decide_eq_true_eq, not_or] at this
  exact this
theorem slB_eq {x : Nat} {g : Rl} (h : slB x g = true) : g = (x, x :: g.2.drop 1) := by
  obtain ⟨h1, h2, h3⟩ := of_decide_eq_true h
  obtain ⟨l, s⟩ := g
  match s, h2, h3 with
  | y :: s, _, h3 =>
    have e1 : l = x := h1
    have e2 : y = x := h3
    subst e1; subst e2; rfl
theorem nwR_G {x z : Nat} {G : List Rl} (hz : usB G z = false) {g r : Rl} (hr : r ∈ nwR x z g) : r ∉ G := by
  intro hm
  obtain ⟨h1, h2⟩ := usB_f hz hm
  unfold nwR at hr
  split at hr
  · rcases List.mem_cons.mp hr with rfl | hr
    · exact h1 rfl
    · rw [List.mem_singleton.mp hr] at h1
      exact h1 rfl
  · rw [List.mem_singleton.mp hr] at h2
    exact h2 (by simp)
theorem nwR_inj {x z : Nat} {G : List Rl} (hz : usB G z = false) {g g' r : Rl} (hg : g ∈ G) (hg' : g' ∈ G) (h1 : g.1 = x) (h1' : g'.1 = x) (hr : r ∈ nwR x z g) (hr' : r ∈ nwR x z g') : g = g' := by
  have hxz : x ≠ z := fun e => (usB_f hz hg).1 (h1.trans e)
  have n1 := (usB_f hz hg).2
  have n2 := (usB_f hz hg').2
  unfold nwR at hr hr'
  by_cases s1 : slB x g = true
  · rw [if_pos s1] at hr
    have e1 := slB_eq s1
    have m1 : z ∉ g.2.drop 1 := fun h => n1 (List.mem_of_mem_drop h)
    by_cases s2 : slB x g' = true
    · rw [if_pos s2] at hr'
      have e2 := slB_eq s2
      have m2 : z ∉ g'.2.drop 1 := fun h => n2 (List.mem_of_mem_drop h)
      have key : g.2.drop 1 = g'.2.drop 1 := by
        simp only [List.mem_cons, List.not_mem_nil, or_false] at hr hr'
        rcases hr with rfl | rfl
        · rcases hr' with e | e
          · exact (Prod.mk.inj e).2
          · have := (Prod.mk.inj e).2
            exact absurd (by rw [this]; simp) m1
        · rcases hr' with e | e
          · have := (Prod.mk.inj e).2
            exact absurd (by rw [← this]; simp) m2
          · exact List.append_cancel_right (Prod.mk.inj e).2
      rw [e1, e2, key]
    · rw [if_neg s2] at hr'
      rw [List.mem_singleton.mp hr'] at hr
      simp only [List.mem_cons, List.not_mem_nil, or_false, Prod.mk.injEq] at hr
      rcases hr with hr | hr
      · exact absurd hr.1 hxz
      · exact absurd hr.1 hxz
  · rw [if_neg s1] at hr
    rw [List.mem_singleton.mp hr] at hr'
    by_cases s2 : slB x g' = true
    · rw [if_pos s2] at hr'
      simp only [List.mem_cons, List.not_mem_nil, or_false, Prod.mk.injEq] at hr'
      rcases hr' with hr' | hr'
      · exact absurd hr'.1 hxz
      · exact absurd hr'.1 hxz
    · rw [if_neg s2] at hr'
      have := (Prod.mk.inj (List.mem_singleton.mp hr')).2
      exact Prod.ext (h1.trans h1'.symm) (List.append_cancel_right this)
theorem srt_idx {G : List Rl} (hs : srt G) {i j : Nat} (hi : i < G.length) (hj : j < G.length) (e : G[i] = G[j]) : i = j := by
  have hn := srt_nodup hs
  rcases Nat.lt_trichotomy i j with h | h | h
  · exact absurd e ((List.pairwise_iff_getElem.mp hn) i j hi hj h)
  · exact h
  · exact absurd e.symm ((List.pairwise_iff_getElem.mp hn) j i hj hi h)
theorem putR_new {q : Rl} {H : List Rl} (h : q ∉ H) : putR (some q) H = if H.length < 60 then some (insR q H) else none := by
  simp only [putR, h, if_false]
theorem erase_mem {H : List Rl} (hs : srt H) (hok : ∀ r ∈ H, okR r) {g : Rl} (hg : g ∈ H) (r : Rl) : r ∈ H.eraseIdx (posR g H) ↔ r ∈ H ∧ r ≠ g := by
  have hp := (posR_mem hs hok (hok g hg)).mp hg
  obtain ⟨hl, he⟩ := List.getElem?_eq_some_iff.mp hp
  constructor
  · intro h
    refine ⟨List.mem_of_mem_eraseIdx h, fun e => ?_⟩
    obtain ⟨k, hk, hne, hkr⟩ := (List.mem_eraseIdx_iff_getElem).mp h
    exact hne (srt_idx hs hk hl (hkr.trans (e.trans he.symm)))
  · rintro ⟨h1, h2⟩
    obtain ⟨k, hk, rfl⟩ := List.mem_iff_getElem.mp h1
    exact List.mem_eraseIdx_iff_getElem.mpr ⟨k, hk, fun e => h2 (by subst e; exact he), rfl⟩
section UW
variable {d : Nat} {rr : List gk_S} {w : gk_Wd} {G : List Rl}
theorem f_116_pk {r : Rl} (h : okR r) : f_116 (pk r) = 0 ↔ slB r.1 r = false := by
  have h16 := h.1
  unfold f_116 slB
  by_cases h0 : 0 < r.2.length
  · have := hd_22 h h0
    rw [if_neg (by rw [f_24_le0 h]; omega), f_26_hd h h0, f_25_pk h]
    by_cases e : r.2.headD 0 = r.1
    · rw [if_neg (fun q => q (by rw [e])), decide_eq_true ⟨rfl, h0, e⟩]
      exact ⟨fun q => absurd q (by decide), fun q => by cases q⟩
    · rw [if_pos (fun q => e ((i_eq (by omega) (by omega)).mp q)), decide_eq_false (fun q => e q.2.2)]
      exact ⟨fun _ => rfl, fun _ => rfl⟩
  · rw [if_pos (by rw [f_24_le0 h]; omega), decide_eq_false (fun q => h0 q.2.1)]
    exact ⟨fun _ => rfl, fun _ => rfl⟩
/-- hasOwnLead -/
theorem E115 (hS : gk_Sh rr w) (hR : RS w 5 G) {x : Nat} (hx : x < 16) : gk_E (d + 2) 115 [.ref 6, .int (Int32.ofNat x)] w (.inl (some (.int (bI (G.any (slB x)))))) w := by
  have h60 := RS_60 hR
  have := scan (d := d + 2) (mi := 115) (pc := 2) (w := w) (slB x) G (fun k => [some (.ref (5 + 1)), some (.int (Int32.ofNat x)), some (.int k)]) (fun _ => 1) 0 (fun k hk r w' h1 h2 => by
    have ef := RS_f23 hR hk
    have hok := RS_ok hR hk
    have h16 := hok.1
    have hle : ¬ f_13 w 5 ≤ Int32.ofNat k := fun q => absurd ((RS_le hR (by omega)).mp q) (by omega)
    refine sg_115_2 (d := d) hS rs_5 _ _ ⟨fun q => absurd q hle, fun _ => ⟨RS_out hR hk, fun q => ?_, fun q => ⟨RS_out hR hk, fun q2 => ?_, fun q2 => h2 ?_⟩⟩⟩
    · rw [ef, f_25_pk hok, i_eq (by omega) (by omega)] at q
      rw [i_s]; exact h1 (decide_eq_false fun h => q h.1)
    · rw [ef, f_25_pk hok, i_eq (by omega) (by omega)] at q
      rw [ef, f_116_pk hok, q] at q2
      rw [i_s]; exact h1 q2
    · rw [ef, f_25_pk hok, i_eq (by omega) (by omega)] at q
      rw [ef, f_116_pk hok, q] at q2
      simpa using q2) (sg_115_2 (d := d) hS rs_5 _ _ ⟨fun _ => ⟨rfl, rfl⟩, fun q => absurd ((RS_le hR (by omega)).mpr (Nat.le_refl _)) q⟩) G.length 0 (by omega) rfl
  have e : hitV (fun _ => 1) 0 (fstI (slB x) G) = bI (G.any (slB x)) := by
    rw [← fstI_any]; cases fstI (slB x) G <;> rfl
  rw [e] at this
  exact gk_E_i rfl rfl (sg_115_0 (d := d) hS rs_5 _ this)
/-- the rows behind the first i rules of x -/
def cU (x z : Nat) (G : List Rl) (i : Nat) (r : Rl) : Prop := (r ∈ G ∧ ¬ (slB x r = true ∧ ∃ (j : Nat) (hj : j < G.length), j < i ∧ G[j] = r)) ∨ ∃ (j : Nat) (hj : j < G.length), j < i ∧ G[j].1 = x ∧ r ∈ nwR x z G[j]
theorem cU_all {x z : Nat} {r : Rl} : cU x z G G.length r ↔ fU x z G r := by
  unfold cU fU
  refine or_congr (and_congr_right fun hr => ?_) ?_
  · obtain ⟨k, hk, rfl⟩ := List.mem_iff_getElem.mp hr
    constructor
    · intro h
      rcases hb : slB x G[k] with _ | _
      · rfl
      · exact absurd ⟨hb, k, hk, hk, rfl⟩ h
    · rintro h ⟨h1, _⟩
      rw [h] at h1; cases h1
  · constructor
    · rintro ⟨j, hj, _, h1, h2⟩
      exact ⟨_, List.getElem_mem hj, h1, h2⟩
    · rintro ⟨g, hg, h1, h2⟩
      obtain ⟨k, hk, rfl⟩ := List.mem_iff_getElem.mp hg
      exact ⟨k, hk, hk, h1, h2⟩
theorem cU_new {x z : Nat} (hs : srt G) (hz : usB G z = false) {i : Nat} (hi : i < G.length) (hx : G[i].1 = x) {r : Rl} (hr : r ∈ nwR x z G[i]) : ¬ cU x z G i r := by
  rintro (⟨h, _⟩ | ⟨j, hj, hji, h1, h2⟩)
  · exact nwR_G hz hr h
  · have := nwR_inj hz (List.getElem_mem hi) (List.getElem_mem hj) hx h1 hr h2
    have := srt_idx hs hi hj this
    omega
theorem cU_miss {x z : Nat} {i : Nat} (hi : i < G.length) (hx : ¬ G[i].1 = x) {r : Rl} : cU x z G (i + 1) r ↔ cU x z G i r := by
  unfold cU
  have hnb : slB x G[i] = false := decide_eq_false fun q => hx q.1
  refine or_congr (and_congr_right fun hr => not_congr (and_congr_right fun hb => ?_)) ?_
  · constructor
    · rintro ⟨j, hj, hji, e⟩
      refine ⟨j, hj, ?_, e⟩
      by_cases h : j = i
      · subst h; rw [← e, hnb] at hb; cases hb
      · omega
    · rintro ⟨j, hj, hji, e⟩
      exact ⟨j, hj, by omega, e⟩
  · constructor
    · rintro ⟨j, hj, hji, e1, e2⟩
      refine ⟨j, hj, ?_, e1, e2⟩
      by_cases h : j = i
      · subst h; exact absurd e1 hx
      · omega
    · rintro ⟨j, hj, hji, e1, e2⟩
      exact ⟨j, hj, by omega, e1, e2⟩
theorem cU_n {x z : Nat} {i : Nat} (hi : i < G.length) (hx : G[i].1 = x) (hb : slB x G[i] = false) {r : Rl} : cU x z G (i + 1) r ↔ cU x z G i r ∨ r = (x, G[i].2 ++ [z]) := by
  have hn : ∀ r, r ∈ nwR x z G[i] ↔ r = (x, G[i].2 ++ [z]) := fun r => by
    unfold nwR; rw [if_neg (by rw [hb]; decide), List.mem_singleton]
  unfold cU
  constructor
  · rintro (⟨h1, h2⟩ | ⟨j, hj, hji, e1, e2⟩)
    · refine Or.inl (Or.inl ⟨h1, fun q => h2 ⟨q.1, ?_⟩⟩)
      obtain ⟨j, hj, hji, e⟩ := q.2
      exact ⟨j, hj, by omega, e⟩
    · by_cases h : j = i
      · subst h; exact Or.inr ((hn r).mp e2)
      · exact Or.inl (Or.inr ⟨j, hj, by omega, e1, e2⟩)
  · rintro ((⟨h1, h2⟩ | ⟨j, hj, hji, e1, e2⟩) | h)
    · refine Or.inl ⟨h1, fun q => h2 ⟨q.1, ?_⟩⟩
      obtain ⟨j, hj, hji, e⟩ := q.2
      refine ⟨j, hj, ?_, e⟩
      by_cases h : j = i
      · subst h
        have := q.1
        rw [← e, hb] at this; cases this
      · omega
    · exact Or.inr ⟨j, hj, by omega, e1, e2⟩
    · exact Or.inr ⟨i, hi, by omega, hx, (hn r).mpr h⟩
theorem cU_s {x z : Nat} (hz : usB G z = false) {i : Nat} (hi : i < G.length) (hb : slB x G[i] = true) {r : Rl} : cU x z G (i + 1) r ↔ (cU x z G i r ∧ r ≠ G[i]) ∨ r ∈ nwR x z G[i] := by
  have hx : G[i].1 = x := (of_decide_eq_true hb).1
  unfold cU
  constructor
  · rintro (⟨h1, h2⟩ | ⟨j, hj, hji, e1, e2⟩)
    · refine Or.inl ⟨Or.inl ⟨h1, fun q => h2 ⟨q.1, ?_⟩⟩, fun e => h2 ⟨by rw [e]; exact hb, i, hi, by omega, e.symm⟩⟩
      obtain ⟨j, hj, hji, e⟩ := q.2
      exact ⟨j, hj, by omega, e⟩
    · by_cases h : j = i
      · subst h; exact Or.inr e2
      · exact Or.inl ⟨Or.inr ⟨j, hj, by omega, e1, e2⟩, fun e => nwR_G hz e2 (by rw [e]; exact List.getElem_mem hi)⟩
  · rintro (⟨⟨h1, h2⟩ | ⟨j, hj, hji, e1, e2⟩, hne⟩ | h)
    · refine Or.inl ⟨h1, fun q => h2 ⟨q.1, ?_⟩⟩
      obtain ⟨j, hj, hji, e⟩ := q.2
      refine ⟨j, hj, ?_, e⟩
      by_cases h : j = i
      · subst h; exact absurd e.symm hne
      · omega
    · exact Or.inr ⟨j, hj, by omega, e1, e2⟩
    · exact Or.inr ⟨i, hi, by omega, hx, h⟩
/-- addTail, of a rule that doesn't begin with its left side -/
theorem E118_n (hS : gk_Sh rr w) {H : List Rl} (hR : RS w 5 H) (hs : srt H) {g : Rl} (hg : okR g) (hb : slB g.1 g = false) {z : Nat} (hz : z < 16) : ∃ w', gk_E (d + 2) 118 [.ref 6, .long (pk g), .int (Int32.ofNat z)] w (.inl (some (.int (bI (putR (apO (some g) z) H).isSome)))) w' ∧ gk_Sh rr w' ∧ Fr [6] [(5, 1)] w w' ∧ ∀ K, putR (apO (some g) z) H = some K → RS w' 5 K ∧ srt K := by
  obtain ⟨w1, e1, s1, f1, p1⟩ := E94 (d := d) hS rs_5 hR hs (okO_ap (okO_some hg) (x := z) (by omega))
  have e91 : f_91 (pk g) (Int32.ofNat z) = pko (apO (some g) z) := f_91_pko (o := some g) (okO_some hg) (by omega)
  exact ⟨w1, gk_E_i rfl rfl (sg_118_0 (d := d) hS rs_5 _ _ ⟨fun q => absurd ((f_116_pk hg).mpr hb) q, fun _ => ⟨_, w1, by rw [e91]; exact e1, s1, bI_b _, rfl, rfl⟩⟩), s1, f1, p1⟩
/-- addTail, of a rule that does -/
theorem E118_s (hS : gk_Sh rr w) {H : List Rl} (hR : RS w 5 H) (hs : srt H) {g : Rl} (hg : g ∈ H) (hb : slB g.1 g = true) {z : Nat} (hz : z < 16) (hn1 : (z, g.2.drop 1) ∉ H) (hn2 : (z, g.2.drop 1 ++ [z]) ∉ H) : ∃ w', gk_E (d + 3) 118 [.ref 6, .long (pk g), .int (Int32.ofNat z)] w (.inl (some (.int (bI (decide (H.length < 60)))))) w' ∧ gk_Sh rr w' ∧ Fr [6] [(5, 1)] w w' ∧ (H.length < 60 → ∃ K, RS w' 5 K ∧ srt K ∧ K.length = H.length + 1 ∧ ∀ r, r ∈ K ↔ (r ∈ H ∧ r ≠ g) ∨ r = (z, g.2.drop 1) ∨ r = (z, g.2.drop 1 ++ [z])) := by
  have hok := hR.2.2.1 g hg
  have h10 := hok.2.1
  have h60 := RS_60 hR
  obtain ⟨-, h0, -⟩ := of_decide_eq_true hb
  have hdl : (g.2.drop 1).length = g.2.length - 1 := List.length_drop
  have hd22 : ∀ s ∈ g.2.drop 1, s < 22 := fun s h => hok.2.2 s (List.mem_of_mem_drop h)
  obtain ⟨w1, e1, s1, f1, R1⟩ := E119 (d := d + 1) hS rs_5 hR hs hok
  rw [if_pos hg] at R1
  have t1 : srt (H.eraseIdx (posR g H)) := srt_erase hs _
  have m1 := erase_mem hs hR.2.2.1 hg
  have hlp : posR g H < H.length := (List.getElem?_eq_some_iff.mp ((posR_mem hs hR.2.2.1 hok).mp hg)).1
  have hl1 : (H.eraseIdx (posR g H)).length = H.length - 1 := List.length_eraseIdx_of_lt hlp
  have hq1 : okR (z, g.2.drop 1) := ⟨hz, by simp only; omega, hd22⟩
  have e113 := E113 (d := d) (w := w1) s1 hok (fun e => by rw [e] at h0; simp at h0) (q := (z, [])) ⟨hz, by simp, by simp⟩
  rw [mkR_fold (by simp), List.nil_append] at e113
  have em : mkR z (g.2.drop 1) = some (z, g.2.drop 1) := by unfold mkR; rw [if_pos (by omega)]
  rw [em] at e113
  have n1 : (z, g.2.drop 1) ∉ H.eraseIdx (posR g H) := fun h => hn1 ((m1 _).mp h).1
  have p1 : putR (some (z, g.2.drop 1)) (H.eraseIdx (posR g H)) = some (insR (z, g.2.drop 1) (H.eraseIdx (posR g H))) := by rw [putR_new n1, if_pos (by omega)]
  obtain ⟨w2, e2, s2, f2, k2⟩ := E94 (d := d + 1) s1 rs_5 R1 t1 (okO_some hq1)
  obtain ⟨R2, t2⟩ := k2 _ p1
  rw [p1] at e2
  have hl2 : (insR (z, g.2.drop 1) (H.eraseIdx (posR g H))).length = H.length := by rw [insR_len]; omega
  have e91 : f_91 (pko (some (z, g.2.drop 1))) (Int32.ofNat z) = pko (some (z, g.2.drop 1 ++ [z])) := by
    rw [f_91_pko (okO_some hq1) (by omega)]
    have h9 : (g.2.drop 1).length < 10 := by omega
    simp only [apO, h9, if_true]
  have hq2 : okR (z, g.2.drop 1 ++ [z]) := ⟨hz, by simp only [List.length_append, List.length_cons, List.length_nil]; omega, fun s hs => by
    rcases List.mem_append.mp hs with h | h
    · exact hd22 s h
    · rw [List.mem_singleton.mp h]; omega⟩
  have n2 : (z, g.2.drop 1 ++ [z]) ∉ insR (z, g.2.drop 1) (H.eraseIdx (posR g H)) := fun h => by
    rcases (insR_mem _ _ _).mp h with h | h
    · have := congrArg List.length (Prod.mk.inj h).2
      simp at this
    · exact hn2 ((m1 _).mp h).1
  obtain ⟨w3, e3, s3, f3, k3⟩ := E94 (d := d + 1) s2 rs_5 R2 t2 (okO_some hq2)
  have hFr : Fr [6] [(5, 1)] w w3 := Fr_trans f1 (Fr_trans f2 f3)
  have nb : ¬ f_116 (pk g) = 0 := by rw [f_116_pk hok, hb]; decide
  have e90 : f_90 (Int32.ofNat z) = pk (z, []) := f_90_pk hz
  by_cases hl : H.length < 60
  · have p2 : putR (some (z, g.2.drop 1 ++ [z])) (insR (z, g.2.drop 1) (H.eraseIdx (posR g H))) = some (insR (z, g.2.drop 1 ++ [z]) (insR (z, g.2.drop 1) (H.eraseIdx (posR g H)))) := by rw [putR_new n2, if_pos (by omega)]
    obtain ⟨R3, t3⟩ := k3 _ p2
    rw [p2] at e3
    rw [decide_eq_true hl]
    refine ⟨w3, gk_E_i rfl rfl (sg_118_0 (d := d + 1) hS rs_5 _ _ ⟨fun _ => ⟨w1, e1, s1, _, by rw [e90]; exact e113, 1, w2, e2, s2, fun q => absurd q (by decide), fun _ => ⟨1, w3, by rw [e91]; exact e3, s3, fun q => absurd q (by decide), fun _ => ⟨rfl, rfl⟩⟩⟩, fun q => absurd q nb⟩), s3, hFr, fun _ => ⟨_, R3, t3, by rw [insR_len]; omega, fun r => ?_⟩⟩
    rw [insR_mem, insR_mem, m1]
    constructor
    · rintro (h | h | h)
      · exact Or.inr (Or.inr h)
      · exact Or.inr (Or.inl h)
      · exact Or.inl h
    · rintro (h | h | h)
      · exact Or.inr (Or.inr h)
      · exact Or.inr (Or.inl h)
      · exact Or.inl h
  · have p2 : putR (some (z, g.2.drop 1 ++ [z])) (insR (z, g.2.drop 1) (H.eraseIdx (posR g H))) = none := by rw [putR_new n2, if_neg (by omega)]
    rw [p2] at e3
    rw [decide_eq_false hl]
    exact ⟨w3, gk_E_i rfl rfl (sg_118_0 (d := d + 1) hS rs_5 _ _ ⟨fun _ => ⟨w1, e1, s1, _, by rw [e90]; exact e113, 1, w2, e2, s2, fun q => absurd q (by decide), fun _ => ⟨0, w3, by rw [e91]; exact e3, s3, fun _ => ⟨rfl, rfl⟩, fun q => absurd rfl q⟩⟩, fun q => absurd q nb⟩), s3, hFr, fun q => absurd q hl⟩
/-- replaceOwnLeads -/
theorem E114 (hS : gk_Sh rr w) (hR : RS w 5 G) (hs : srt G) {x : Nat} (hx : x < 16) : ∃ (o : Option (List Rl)) (w' : gk_Wd), uwR x G o ∧ gk_E (d + 4) 114 [.ref 12, .ref 6, .int (Int32.ofNat x)] w (.inl (some (.int (bI o.isSome)))) w' ∧ gk_Sh rr w' ∧ Fr [6, 13] [(5, 1), (12, 1)] w w' ∧ ∀ K, o = some K → RS w' 5 K ∧ srt K := by
  have h60 := RS_60 hR
  have e1 := E115 (d := d + 1) hS hR hx
  by_cases ha : G.any (slB x) = false
  · rw [ha] at e1
    refine ⟨some G, w, ?_, gk_E_i rfl rfl (sg_114_0 (d := d + 3) hS rs_5 _ ⟨_, e1, fun q => absurd rfl q, fun _ => ⟨rfl, rfl⟩⟩), hS, Fr_refl, fun K e => by cases e; exact ⟨hR, hs⟩⟩
    unfold uwR; rw [if_pos ha]
  · have ha2 : G.any (slB x) = true := by simpa using ha
    rw [ha2] at e1
    have e2 := E117 (d := d + 1) hS hR
    cases hf : frV G with
    | none =>
      rw [hf] at e2
      refine ⟨none, w, ?_, gk_E_i rfl rfl (sg_114_0 (d := d + 3) hS rs_5 _ ⟨_, e1, fun _ => ⟨_, e2, fun q => absurd rfl q, fun _ => ⟨rfl, rfl⟩⟩, fun q => absurd q (by decide)⟩), hS, Fr_refl, fun K e => by cases e⟩
      unfold uwR; rw [if_neg ha, hf]
    | some z =>
      rw [hf] at e2
      obtain ⟨hz16, hz1⟩ := fsN_some hf
      have hz : usB G z = false := by simpa using hz1
      obtain ⟨w1, e3, s1, f1, B1⟩ := E20 (d := d + 3) hS rs_12 rs_5 (by decide) hR
      have R1 : RS w1 5 G := RS_Fr hR f1 (by decide) (by decide)
      obtain ⟨v, w2, ⟨s2, f2, o, ho, hv, hK⟩, g2⟩ := up_exit (d := d + 4) (mi := 114) (pc := 33) G.length (fun k (_ : List Rl) => [some (.ref 12), some (.ref (5 + 1)), some (.int (Int32.ofNat x)), some (.int (Int32.ofNat z)), some (.int (Int32.ofNat k)), none, none])
        (fun k H w2 => gk_Sh rr w2 ∧ Fr [6] [(5, 1)] w1 w2 ∧ RS w2 5 H ∧ srt H ∧ (∀ r, r ∈ H ↔ cU x z G k r) ∧ H.length = G.length + sm (cX x) (G.take k) ∧ ∀ (j : Nat) (hj : j < G.length), j < k → G[j].1 = x → slB x G[j] = false → G[j].2.length < 10)
        (fun v w' => gk_Sh rr w' ∧ Fr [6] [(5, 1)] w1 w' ∧ ∃ o, uwO x z G o ∧ v = .inl (some (.int (bI o.isSome))) ∧ ∀ K, o = some K → RS w' 5 K ∧ srt K)
        (fun k H w2 hk hI => by
          obtain ⟨s2, f2, R2, t2, m2, l2, n2⟩ := hI
          have B2 : RS w2 12 G := RS_Fr B1 f2 (by decide) (by decide)
          have ef := RS_f23 B2 hk
          have hok := RS_ok B2 hk
          have h16 := hok.1
          have hle : ¬ f_13 w2 12 ≤ Int32.ofNat k := fun q => absurd ((RS_le B2 (by omega)).mp q) (by omega)
          have hsm := sm_take (cX x) hk
          have hsl := sm_le (cX x) G (k + 1)
          by_cases hm : G[k].1 = x
          · have hc1 : cX x G[k] = 1 := if_pos hm
            have hq : f_25 (f_23 w2 12 (Int32.ofNat k)) = Int32.ofNat x := by rw [ef, f_25_pk hok, hm]
            cases hb : slB x G[k] with
            | false =>
              obtain ⟨w3, e4, s3, f3, k3⟩ := E118_n (d := d + 1) s2 R2 t2 hok (by rw [hm]; exact hb) hz16
              have fresh : (x, G[k].2 ++ [z]) ∉ H := fun h => cU_new hs hz hk hm (by unfold nwR; rw [if_neg (by rw [hb]; decide)]; simp) ((m2 _).mp h)
              by_cases h10 : G[k].2.length < 10
              · have ea : apO (some G[k]) z = some (x, G[k].2 ++ [z]) := by simp only [apO, h10, if_true, hm]
                rw [ea] at e4 k3
                by_cases hl : H.length < 60
                · have ep := putR_new fresh
                  rw [if_pos hl] at ep
                  obtain ⟨R3, t3⟩ := k3 _ ep
                  rw [ep] at e4
                  left
                  refine ⟨_, w3, ⟨s3, Fr_trans f2 f3, R3, t3, fun r => ?_, by rw [insR_len, hsm, hc1]; omega, fun j hj hjk q1 q2 => ?_⟩, fun v w' h => sg_114_33 (d := d + 3) s2 rs_5 _ _ _ ⟨fun q => absurd q hle, fun _ => ⟨RS_out B2 hk, fun q => absurd hq q, fun _ => ⟨1, w3, by rw [ef]; exact e4, s3, fun _ => by rw [i_s]; exact h, fun q => absurd q (by decide)⟩⟩⟩⟩
                  · rw [insR_mem, cU_n hk hm hb, m2]
                    exact ⟨fun h => h.elim Or.inr Or.inl, fun h => h.elim Or.inr Or.inl⟩
                  · by_cases e : j = k
                    · subst e; exact h10
                    · exact n2 j hj (by omega) q1 q2
                · have ep := putR_new fresh
                  rw [if_neg hl] at ep
                  rw [ep] at e4
                  right
                  exact ⟨_, w3, ⟨s3, Fr_trans f2 f3, none, Or.inr (by omega), rfl, fun K e => by cases e⟩, sg_114_33 (d := d + 3) s2 rs_5 _ _ _ ⟨fun q => absurd q hle, fun _ => ⟨RS_out B2 hk, fun q => absurd hq q, fun _ => ⟨0, w3, by rw [ef]; exact e4, s3, fun q => absurd rfl q, fun _ => ⟨rfl, rfl⟩⟩⟩⟩⟩
              · have ea : apO (some G[k]) z = none := by simp only [apO, h10, if_false]
                rw [ea] at e4
                right
                exact ⟨_, w3, ⟨s3, Fr_trans f2 f3, none, Or.inl ⟨G[k], List.getElem_mem hk, hm, hb, by have := hok.2.1; omega⟩, rfl, fun K e => by cases e⟩, sg_114_33 (d := d + 3) s2 rs_5 _ _ _ ⟨fun q => absurd q hle, fun _ => ⟨RS_out B2 hk, fun q => absurd hq q, fun _ => ⟨0, w3, by rw [ef]; exact e4, s3, fun q => absurd rfl q, fun _ => ⟨rfl, rfl⟩⟩⟩⟩⟩
            | true =>
              have hn : ∀ r, r ∈ nwR x z G[k] ↔ r = (z, G[k].2.drop 1) ∨ r = (z, G[k].2.drop 1 ++ [z]) := fun r => by
                unfold nwR; rw [if_pos hb]; simp only [List.mem_cons, List.not_mem_nil, or_false]
              have hgH : G[k] ∈ H := (m2 _).mpr (Or.inl ⟨List.getElem_mem hk, fun q => by
                obtain ⟨j, hj, hjk, e⟩ := q.2
                have := srt_idx hs hj hk e
                omega⟩)
              have fr1 : (z, G[k].2.drop 1) ∉ H := fun h => cU_new hs hz hk hm ((hn _).mpr (Or.inl rfl)) ((m2 _).mp h)
              have fr2 : (z, G[k].2.drop 1 ++ [z]) ∉ H := fun h => cU_new hs hz hk hm ((hn _).mpr (Or.inr rfl)) ((m2 _).mp h)
              obtain ⟨w3, e4, s3, f3, k3⟩ := E118_s (d := d) s2 R2 t2 hgH (by rw [hm]; exact hb) hz16 fr1 fr2
              by_cases hl : H.length < 60
              · obtain ⟨K, R3, t3, l3, m3⟩ := k3 hl
                rw [decide_eq_true hl] at e4
                left
                refine ⟨K, w3, ⟨s3, Fr_trans f2 f3, R3, t3, fun r => ?_, by rw [l3, hsm, hc1]; omega, fun j hj hjk q1 q2 => ?_⟩, fun v w' h => sg_114_33 (d := d + 3) s2 rs_5 _ _ _ ⟨fun q => absurd q hle, fun _ => ⟨RS_out B2 hk, fun q => absurd hq q, fun _ => ⟨1, w3, by rw [ef]; exact e4, s3, fun _ => by rw [i_s]; exact h, fun q => absurd q (by decide)⟩⟩⟩⟩
                · rw [m3, cU_s hz hk hb, m2, hn]
                · by_cases e : j = k
                  · subst e; rw [hb] at q2; cases q2
                  · exact n2 j hj (by omega) q1 q2
              · rw [decide_eq_false hl] at e4
                right
                exact ⟨_, w3, ⟨s3, Fr_trans f2 f3, none, Or.inr (by omega), rfl, fun K e => by cases e⟩, sg_114_33 (d := d + 3) s2 rs_5 _ _ _ ⟨fun q => absurd q hle, fun _ => ⟨RS_out B2 hk, fun q => absurd hq q, fun _ => ⟨0, w3, by rw [ef]; exact e4, s3, fun q => absurd rfl q, fun _ => ⟨rfl, rfl⟩⟩⟩⟩⟩
          · have hc0 : cX x G[k] = 0 := if_neg hm
            left
            refine ⟨H, w2, ⟨s2, f2, R2, t2, fun r => by rw [m2, cU_miss hk hm], by rw [hsm, hc0]; omega, fun j hj hjk q1 q2 => ?_⟩, fun v w' h => sg_114_33 (d := d + 3) s2 rs_5 _ _ _ ⟨fun q => absurd q hle, fun _ => ⟨RS_out B2 hk, fun _ => by rw [i_s]; exact h, fun q => ?_⟩⟩⟩
            · by_cases e : j = k
              · subst e; exact absurd q1 hm
              · exact n2 j hj (by omega) q1 q2
            · rw [ef, f_25_pk hok, i_eq (by omega) (by omega)] at q
              exact absurd q hm)
        (fun H w2 hI => by
          obtain ⟨s2, f2, R2, t2, m2, l2, n2⟩ := hI
          have B2 : RS w2 12 G := RS_Fr B1 f2 (by decide) (by decide)
          rw [List.take_of_length_le (Nat.le_refl _)] at l2
          refine ⟨_, w2, ⟨s2, f2, some H, ⟨t2, fun r => by rw [m2]; exact cU_all, RS_60 R2, l2, ?_⟩, rfl, fun K e => by cases e; exact ⟨R2, t2⟩⟩, sg_114_33 (d := d + 3) s2 rs_5 _ _ _ ⟨fun _ => ⟨rfl, rfl⟩, fun q => absurd ((RS_le B2 (by omega)).mpr (Nat.le_refl _)) q⟩⟩
          rintro ⟨g, hg, q1, q2, q3⟩
          obtain ⟨j, hj, rfl⟩ := List.mem_iff_getElem.mp hg
          have := n2 j hj hj q1 q2
          omega)
        G.length 0 G w1 (by omega) ⟨s1, Fr_refl, R1, hs, fun r => ⟨fun h => Or.inl ⟨h, fun q => by
          obtain ⟨j, hj, h0, _⟩ := q.2
          omega⟩, fun h => by
          rcases h with h | ⟨j, hj, h0, _⟩
          · exact h.1
          · omega⟩, by simp [sm], fun j hj h0 => by omega⟩
      subst hv
      refine ⟨o, w2, ?_, gk_E_i rfl rfl (sg_114_0 (d := d + 3) hS rs_5 _ ⟨_, e1, fun _ => ⟨_, e2, fun _ => ⟨w1, e3, s1, g2⟩, fun q => absurd q (oI_ne (by omega))⟩, fun q => absurd q (by decide)⟩), s2, Fr_trans (Fr_mono f1 (by simp) (by simp)) (Fr_mono f2 (by simp) (by simp)), hK⟩
      unfold uwR; rw [if_neg ha, hf]; exact ho
end UW

/-! part 54: rules that begin with their own left side: the reference -/
def mU (x z : Nat) (G : List Rl) (i : Nat) (r : Rl) : Prop := (r ∈ G ∧ slB x r = false) ∨ ∃ (j : Nat) (hj : j < G.length), j < i ∧ G[j].1 = x ∧ r ∈ nwR x z G[j]
section MW
variable {d : Nat} {rr : List gk_S} {w : gk_Wd} {G : List Rl}
theorem mU_all {x z : Nat} {r : Rl} : mU x z G G.length r ↔ fU x z G r := by
  unfold mU fU
  refine or_congr Iff.rfl ?_
  constructor
  · rintro ⟨j, hj, _, h1, h2⟩
    exact ⟨_, List.getElem_mem hj, h1, h2⟩
  · rintro ⟨g, hg, h1, h2⟩
    obtain ⟨k, hk, rfl⟩ := List.mem_iff_getElem.mp hg
    exact ⟨k, hk, hk, h1, h2⟩
theorem mU_new {x z : Nat} (hs : srt G) (hz : usB G z = false) {i : Nat} (hi : i < G.length) (hx : G[i].1 = x) {r : Rl} (hr : r ∈ nwR x z G[i]) : ¬ mU x z G i r := by
  rintro (⟨h, _⟩ | ⟨j, hj, hji, h1, h2⟩)
  · exact nwR_G hz hr h
  · have := nwR_inj hz (List.getElem_mem hi) (List.getElem_mem hj) hx h1 hr h2
    have := srt_idx hs hi hj this
    omega
theorem mU_miss {x z : Nat} {i : Nat} (hi : i < G.length) (hx : ¬ G[i].1 = x) {r : Rl} : mU x z G (i + 1) r ↔ mU x z G i r := by
  unfold mU
  refine or_congr Iff.rfl ?_
  constructor
  · rintro ⟨j, hj, hji, e1, e2⟩
    refine ⟨j, hj, ?_, e1, e2⟩
    by_cases h : j = i
    · subst h; exact absurd e1 hx
    · omega
  · rintro ⟨j, hj, hji, e1, e2⟩
    exact ⟨j, hj, by omega, e1, e2⟩
theorem mU_s {x z : Nat} {i : Nat} (hi : i < G.length) (hx : G[i].1 = x) {r : Rl} : mU x z G (i + 1) r ↔ mU x z G i r ∨ r ∈ nwR x z G[i] := by
  unfold mU
  constructor
  · rintro (h | ⟨j, hj, hji, e1, e2⟩)
    · exact Or.inl (Or.inl h)
    · by_cases h : j = i
      · subst h; exact Or.inr e2
      · exact Or.inl (Or.inr ⟨j, hj, by omega, e1, e2⟩)
  · rintro ((h | ⟨j, hj, hji, e1, e2⟩) | h)
    · exact Or.inl h
    · exact Or.inr ⟨j, hj, by omega, e1, e2⟩
    · exact Or.inr ⟨i, hi, by omega, hx, h⟩
theorem filter_sm (x : Nat) : ∀ G : List Rl, (G.filter fun r => !slB x r).length + sm (sX x) G = G.length
  | [] => rfl
  | g :: G => by
    have ih := filter_sm x G
    simp only [List.filter_cons, sm, sX]
    cases hb : slB x g with
    | true => simp only [Bool.not_true, Bool.false_eq_true, if_false, if_true, List.length_cons]; omega
    | false => simp only [Bool.not_false, Bool.false_eq_true, if_false, if_true, List.length_cons]; omega
theorem addA_new {q : Rl} {H : List Rl} (h : q ∉ H) : addA (false, H) (some q) = if H.length < 60 then (false, insR q H) else (true, H) := by
  unfold addA
  rw [if_neg (by simp), putR_new h]
  by_cases hl : H.length < 60
  · rw [if_pos hl, if_pos hl]
  · rw [if_neg hl, if_neg hl]
def badU (x : Nat) (G : List Rl) : Prop := tooL x G ∨ 60 < G.length + sm (cX x) G
/-- where the reference stands behind the first i rules -/
def IM (x z : Nat) (G : List Rl) (i : Nat) (p : Bool × List Rl) : Prop := (p.1 = false → (∀ r, r ∈ p.2 ↔ mU x z G i r) ∧ p.2.length + sm (sX x) G = G.length + sm (wX x) (G.take i) ∧ ∀ (j : Nat) (hj : j < G.length), j < i → G[j].1 = x → slB x G[j] = false → G[j].2.length < 10) ∧ (p.1 = true → badU x G)
theorem IM_miss {x z i : Nat} {p : Bool × List Rl} (h : IM x z G i p) (hi : i < G.length) (hx : ¬ G[i].1 = x) : IM x z G (i + 1) p := by
  refine ⟨fun e => ?_, h.2⟩
  obtain ⟨h1, h2, h3⟩ := h.1 e
  have hsl : slB x G[i] = false := decide_eq_false fun q => hx q.1
  refine ⟨fun r => by rw [h1, mU_miss hi hx], ?_, fun j hj hji q1 q2 => ?_⟩
  · have hw : wX x G[i] = 0 := by
      unfold wX cX sX
      rw [if_neg hx, hsl]; rfl
    rw [sm_take _ hi, hw]; omega
  · by_cases e : j = i
    · subst e; exact absurd q1 hx
    · exact h3 j hj (by omega) q1 q2
theorem IM_n {x z i : Nat} {p : Bool × List Rl} (hs : srt G) (hz : usB G z = false) (h : IM x z G i p) (hi : i < G.length) (hok : okR G[i]) (hx : G[i].1 = x) (hb : slB x G[i] = false) : IM x z G (i + 1) (addA p (mkR x (G[i].2 ++ [z]))) := by
  obtain ⟨ob, H⟩ := p
  cases ob with
  | true => exact ⟨fun e => (by cases e), fun _ => h.2 rfl⟩
  | false =>
    obtain ⟨h1, h2, h3⟩ := h.1 rfl
    simp only at h1 h2
    have hw : wX x G[i] = 1 := by
      unfold wX cX sX
      rw [if_pos hx, hb]; rfl
    have hst := sm_take (wX x) hi
    have hsl := sm_le (wX x) G (i + 1)
    have hws := wX_sm x G
    by_cases h10 : G[i].2.length < 10
    · have em : mkR x (G[i].2 ++ [z]) = some (x, G[i].2 ++ [z]) := by
        unfold mkR
        rw [if_pos (by simp only [List.length_append, List.length_cons, List.length_nil]; omega)]
      have hn : ∀ r, r ∈ nwR x z G[i] ↔ r = (x, G[i].2 ++ [z]) := fun r => by
        unfold nwR; rw [if_neg (by rw [hb]; decide), List.mem_singleton]
      have fresh : (x, G[i].2 ++ [z]) ∉ H := fun q => mU_new hs hz hi hx ((hn _).mpr rfl) ((h1 _).mp q)
      rw [em, addA_new fresh]
      by_cases hl : H.length < 60
      · rw [if_pos hl]
        refine ⟨fun _ => ⟨fun r => ?_, ?_, fun j hj hji q1 q2 => ?_⟩, fun e => by cases e⟩
        · rw [insR_mem, mU_s hi hx, h1, hn]
          exact ⟨fun h => h.elim Or.inr Or.inl, fun h => h.elim Or.inr Or.inl⟩
        · rw [insR_len, hst, hw]; omega
        · by_cases e : j = i
          · subst e; exact h10
          · exact h3 j hj (by omega) q1 q2
      · rw [if_neg hl]
        refine ⟨fun e => (by cases e), fun _ => Or.inr ?_⟩
        omega
    · have h11 := hok.2.1
      have em : mkR x (G[i].2 ++ [z]) = none := by
        unfold mkR
        rw [if_neg (by simp only [List.length_append, List.length_cons, List.length_nil]; omega)]
      have ea : addA (false, H) none = (true, H) := by simp [addA, putR]
      rw [em, ea]
      exact ⟨fun e => (by cases e), fun _ => Or.inl ⟨G[i], List.getElem_mem hi, hx, hb, by omega⟩⟩
theorem IM_self {x z i : Nat} {p : Bool × List Rl} (hs : srt G) (hz : usB G z = false) (h : IM x z G i p) (hi : i < G.length) (hok : okR G[i]) (hb : slB x G[i] = true) : IM x z G (i + 1) (addA (addA p (mkR z (G[i].2.drop 1))) (mkR z (G[i].2.drop 1 ++ [z]))) := by
  have hx : G[i].1 = x := (of_decide_eq_true hb).1
  have h0 := (of_decide_eq_true hb).2.1
  have h10 := hok.2.1
  have hdl : (G[i].2.drop 1).length = G[i].2.length - 1 := List.length_drop
  have em1 : mkR z (G[i].2.drop 1) = some (z, G[i].2.drop 1) := by unfold mkR; rw [if_pos (by omega)]
  have em2 : mkR z (G[i].2.drop 1 ++ [z]) = some (z, G[i].2.drop 1 ++ [z]) := by
    unfold mkR
    rw [if_pos (by simp only [List.length_append, List.length_cons, List.length_nil]; omega)]
  rw [em1, em2]
  obtain ⟨ob, H⟩ := p
  cases ob with
  | true =>
    have e1 : ∀ o, addA (true, H) o = (true, H) := fun o => by simp [addA]
    rw [e1, e1]
    exact ⟨fun e => (by cases e), fun _ => h.2 rfl⟩
  | false =>
    obtain ⟨h1, h2, h3⟩ := h.1 rfl
    simp only at h1 h2
    have hw : wX x G[i] = 2 := by
      unfold wX cX sX
      rw [if_pos hx, if_pos hb]
    have hst := sm_take (wX x) hi
    have hsl := sm_le (wX x) G (i + 1)
    have hws := wX_sm x G
    have hn : ∀ r, r ∈ nwR x z G[i] ↔ r = (z, G[i].2.drop 1) ∨ r = (z, G[i].2.drop 1 ++ [z]) := fun r => by
      unfold nwR; rw [if_pos hb]; simp only [List.mem_cons, List.not_mem_nil, or_false]
    have fr1 : (z, G[i].2.drop 1) ∉ H := fun q => mU_new hs hz hi hx ((hn _).mpr (Or.inl rfl)) ((h1 _).mp q)
    have fr2 : (z, G[i].2.drop 1 ++ [z]) ∉ H := fun q => mU_new hs hz hi hx ((hn _).mpr (Or.inr rfl)) ((h1 _).mp q)
    rw [addA_new fr1]
    by_cases hl : H.length < 60
    · rw [if_pos hl]
      have fr3 : (z, G[i].2.drop 1 ++ [z]) ∉ insR (z, G[i].2.drop 1) H := fun q => by
        rcases (insR_mem _ _ _).mp q with q | q
        · have := congrArg List.length (Prod.mk.inj q).2
          simp at this
        · exact fr2 q
      rw [addA_new fr3, insR_len]
      by_cases hl2 : H.length + 1 < 60
      · rw [if_pos hl2]
        refine ⟨fun _ => ⟨fun r => ?_, ?_, fun j hj hji q1 q2 => ?_⟩, fun e => by cases e⟩
        · rw [insR_mem, insR_mem, mU_s hi hx, h1, hn]
          constructor
          · rintro (h | h | h)
            · exact Or.inr (Or.inr h)
            · exact Or.inr (Or.inl h)
            · exact Or.inl h
          · rintro (h | h | h)
            · exact Or.inr (Or.inr h)
            · exact Or.inr (Or.inl h)
            · exact Or.inl h
        · rw [insR_len, insR_len, hst, hw]; omega
        · by_cases e : j = i
          · subst e; rw [hb] at q2; cases q2
          · exact h3 j hj (by omega) q1 q2
      · rw [if_neg hl2]
        refine ⟨fun e => (by cases e), fun _ => Or.inr ?_⟩
        omega
    · rw [if_neg hl]
      have e1 : ∀ o, addA (true, H) o = (true, H) := fun o => by simp [addA]
      rw [e1]
      refine ⟨fun e => (by cases e), fun _ => Or.inr ?_⟩
      omega
theorem f_185_M (hR : RM w 4 28 G) {k : Nat} (hk : k < G.length) {x : Nat} (hx : x < 16) (h1 : G[k].1 = x) : f_185 w (Int32.ofNat k) (Int32.ofNat x) = 0 ↔ slB x G[k] = false := by
  have hok := RM_ok hR hk
  unfold f_185 slB
  by_cases h0 : 0 < G[k].2.length
  · have := hd_22 hok h0
    rw [if_neg (by rw [RM_sz0 hR hk]; omega), RM_hd hR hk h0]
    by_cases e : G[k].2.headD 0 = x
    · rw [if_neg (fun q => q (by rw [e])), decide_eq_true ⟨h1, h0, e⟩]
      exact ⟨fun q => absurd q (by decide), fun q => by cases q⟩
    · rw [if_pos (fun q => e ((i_eq (by omega) (by omega)).mp q)), decide_eq_false (fun q => e q.2.2)]
      exact ⟨fun _ => rfl, fun _ => rfl⟩
  · rw [if_pos (by rw [RM_sz0 hR hk]; omega), decide_eq_false (fun q => h0 q.2.1)]
    exact ⟨fun _ => rfl, fun _ => rfl⟩
theorem E184_h (hS : gk_Sh rr w) (hR : RM w 4 28 G) {x : Nat} (hx : x < 16) : Go (d + 2) 184 4 [some (.ref 27), some (.int (Int32.ofNat x)), some (.int 0), some (.int (Int32.ofNat 0)), none, none, none] w 4 [some (.ref 27), some (.int (Int32.ofNat x)), some (.int (bI (G.any (slB x)))), some (.int (Int32.ofNat G.length)), none, none, none] w := by
  have h60 := RM_60 hR
  obtain ⟨b, w1, ⟨rfl, hb⟩, g1⟩ := up_loop (α := Bool) (d := d + 2) (mi := 184) (pc := 4) G.length (fun k b => [some (.ref 27), some (.int (Int32.ofNat x)), some (.int (bI b)), some (.int (Int32.ofNat k)), none, none, none])
    (fun k b w1 => w1 = w ∧ b = (G.take k).any (slB x))
    (fun k b w1 hk hI => by
      obtain ⟨rfl, hb⟩ := hI
      have hok := RM_ok hR hk
      have h16 := hok.1
      have el := RM_left hR hk
      have hle : ¬ w_i w1 26 4 ≤ Int32.ofNat k := fun q => absurd ((RM_le hR (by omega)).mp q) (by omega)
      have et : (G.take (k + 1)).any (slB x) = (b || slB x G[k]) := by
        rw [List.take_succ_eq_append_getElem hk, List.any_append, hb]; simp
      refine ⟨b || slB x G[k], w1, ⟨rfl, et.symm⟩, fun r w' h => ?_⟩
      cases b with
      | true => exact sg_184_4 (d := d) hS _ _ _ ⟨fun q => absurd q hle, fun _ => ⟨fun _ => by rw [i_s]; exact h, fun q => absurd q (by decide)⟩⟩
      | false =>
        refine sg_184_4 (d := d) hS _ _ _ ⟨fun q => absurd q hle, fun _ => ⟨fun q => absurd rfl q, fun _ => ⟨RM_out hR hk, fun q => ?_, fun q => ⟨RM_out hR hk, fun _ => RM_io hR hk (k := 0) (by omega), fun q2 => ?_, fun q2 => ?_⟩⟩⟩⟩
        · rw [el, i_eq (by omega) (by omega)] at q
          have : slB x G[k] = false := decide_eq_false fun h => q h.1
          rw [this] at h
          rw [i_s]; exact h
        · rw [el, i_eq (by omega) (by omega)] at q
          rw [f_185_M hR hk hx q] at q2
          rw [q2] at h
          rw [i_s]; exact h
        · rw [el, i_eq (by omega) (by omega)] at q
          rw [f_185_M hR hk hx q] at q2
          have q3 : slB x G[k] = true := by simpa using q2
          rw [q3] at h
          rw [i_s]; exact h) G.length 0 false w (by omega) ⟨rfl, by simp⟩
  rw [List.take_of_length_le (Nat.le_refl _)] at hb
  subst hb
  exact g1
/-- one symbol behind, then add -/
theorem pushAdd (hS : gk_Sh rr w) {R : List Nat} (hG : RG w R) (hl : R.length < 24) {z y : Nat} (hz : z < 16) (hy : y < 16) {p : Bool × List Rl} (hM : MA w p) : ∃ (w1 : gk_Wd) (v : Int32), gk_E (d + 2) 149 [.ref 27, .int (Int32.ofNat y)] (w_si (w_sa w 34 ((w_a w 34).set (w_i w 26 12).toNatClampNeg (Int32.ofNat z))) 26 12 (w_i (w_sa w 34 ((w_a w 34).set (w_i w 26 12).toNatClampNeg (Int32.ofNat z))) 26 12 + 1)) (.inl (some (.int v))) w1 ∧ gk_Sh rr w1 ∧ Fr [28, 29, 30, 34] [(26, 4), (26, 12), (26, 14)] w w1 ∧ MA w1 (addA p (mkR y (R ++ [z]))) := by
  have e12 := hG.1
  rw [w_i_sa, e12, i_nat (by omega), i_s]
  have G1 := RG_push hS hG hl (s := z) (by omega)
  have s1 := sh_si (sh_as hS ly_34 R.length (Int32.ofNat z)) ly_26 (k := 12) rfl (Int32.ofNat (R.length + 1))
  have f1 : Fr [34] [(26, 12)] w (w_si (w_sa w 34 ((w_a w 34).set R.length (Int32.ofNat z))) 26 12 (Int32.ofNat (R.length + 1))) := Fr_trans (Fr_sa (by decide) _) (Fr_si (by decide) _)
  obtain ⟨w2, v, e2, s2, f2, M2, -⟩ := E149 (d := d) s1 (MA_Fr hM f1 (by decide) (by decide)) G1 hy
  exact ⟨w2, v, e2, s2, Fr_trans (Fr_mono f1 (by simp) (by simp)) (Fr_mono f2 (by simp) (by simp)), M2⟩
/-- the first symbol goes -/
theorem E184_k (hS : gk_Sh rr w) {R : List Nat} (hG : RG w R) (h0 : 0 < R.length) (h10 : R.length ≤ 10) {x1 x3 x4 x5 : Int32} : ∃ w1, gk_Sh rr w1 ∧ Fr [34] [(26, 12)] w w1 ∧ RG (w_si w1 26 12 (w_i w1 26 12 - 1)) (R.drop 1) ∧ w_i w1 26 12 = Int32.ofNat R.length ∧ Go (d + 2) 184 197 [some (.ref 27), some (.int x1), none, some (.int x3), some (.int x4), some (.int x5), some (.int (Int32.ofNat 1))] w 197 [some (.ref 27), some (.int x1), none, some (.int x3), some (.int x4), some (.int x5), some (.int (Int32.ofNat R.length))] w1 := by
  obtain ⟨-, w1, ⟨s1, f1, h1⟩, g1⟩ := up_loop (α := Unit) (d := d + 2) (mi := 184) (pc := 197) R.length (fun k _ => [some (.ref 27), some (.int x1), none, some (.int x3), some (.int x4), some (.int x5), some (.int (Int32.ofNat k))])
    (fun k _ w1 => gk_Sh rr w1 ∧ Fr [34] [] w w1 ∧ 0 < k ∧ ∀ j s, (if j + 1 < k then R[j + 1]? else R[j]?) = some s → (w_a w1 34).getD j 0 = Int32.ofNat s)
    (fun k _ w1 hk hI => by
      obtain ⟨s1, f1, hk0, h1⟩ := hI
      have hl := (w_int s1 ly_34).2
      have e12 : w_i w1 26 12 = Int32.ofNat R.length := by rw [Fr_i f1 (by simp)]; exact hG.1
      have ek : (w_a w1 34).getD k 0 = Int32.ofNat R[k] := h1 k _ (by rw [if_neg (by omega)]; exact List.getElem?_eq_getElem hk)
      have ed : Int32.ofNat k - 1 = Int32.ofNat (k - 1) := by rw [show (1 : Int32) = Int32.ofNat 1 from rfl, i_sub (by omega)]
      refine ⟨(), _, ⟨sh_as s1 ly_34 (k - 1) (Int32.ofNat R[k]), Fr_trans f1 (Fr_sa (by decide) _), by omega, fun j s hj => ?_⟩, fun r w' h => sg_184_197 (d := d) s1 _ _ _ _ _ ⟨fun q => ?_, fun _ => ⟨o_ok (by omega) (by omega), by rw [ed]; exact o_ok (by omega) (by omega), ?_⟩⟩⟩
      · rw [w_a_same s1 ly_34, getD_set32 _ (by omega)]
        by_cases e : j = k - 1
        · rw [if_pos e]
          rw [if_pos (by omega), show j + 1 = k by omega, List.getElem?_eq_getElem hk] at hj
          rw [Option.some.inj hj]
        · rw [if_neg e]
          refine h1 j s ?_
          by_cases e2 : j + 1 < k + 1
          · rw [if_pos e2] at hj
            rw [if_pos (by omega)]; exact hj
          · rw [if_neg e2] at hj
            rw [if_neg (by omega)]; exact hj
      · rw [e12] at q
        exact absurd ((i_le (by omega) (by omega)).mp q) (by omega)
      · rw [ed, i_nat (by omega), i_nat (by omega), ek, i_s]; exact h) (R.length - 1) 1 () w (by omega) ⟨hS, Fr_refl, by omega, fun j s hj => by rw [if_neg (by omega)] at hj; exact hG.2.2.2 j s hj⟩
  obtain ⟨hk0, h2⟩ := h1
  have e12 : w_i w1 26 12 = Int32.ofNat R.length := by rw [Fr_i f1 (by simp)]; exact hG.1
  refine ⟨w1, s1, Fr_mono f1 (by simp) (by simp), ⟨?_, ?_, fun s hs => hG.2.2.1 s (List.mem_of_mem_drop hs), fun j s hj => ?_⟩, e12, g1⟩
  · rw [w_i_same s1 ly_26 rfl, e12, List.length_drop, show (1 : Int32) = Int32.ofNat 1 from rfl, i_sub (by omega)]
  · rw [List.length_drop]; omega
  · rw [w_a_si]
    rw [List.getElem?_drop] at hj
    have hl := (List.getElem?_eq_some_iff.mp hj).1
    exact h2 j s (by rw [if_pos (by omega), show j + 1 = 1 + j by omega]; exact hj)
theorem E184_l {x z : Nat} (hx : x < 16) (hz16 : z < 16) (hs : srt G) (hz : usB G z = false) : ∀ (m k : Nat) (w : gk_Wd) (p : Bool × List Rl), gk_Sh rr w → RM w 8 31 G → MA w p → IM x z G k p → k + m = G.length →
    ∃ (p1 : Bool × List Rl) (w1 : gk_Wd), gk_Sh rr w1 ∧ Fr [28, 29, 30, 34] [(26, 4), (26, 12), (26, 14)] w w1 ∧ MA w1 p1 ∧ IM x z G G.length p1 ∧ gk_W none (d + 3) 184 127 [some (.ref 27), some (.int (Int32.ofNat x)), none, some (.int (Int32.ofNat z)), some (.int (Int32.ofNat k)), none, none] [] w (.inl none) w1
  | 0, k, w, p, hS, hO, hM, hI, hk => by
    have h60 := RM_60 hO
    obtain rfl : k = G.length := by omega
    exact ⟨p, w, hS, Fr_refl, hM, hI, sg_184_127 (d := d + 1) hS _ _ _ ⟨fun _ => ⟨rfl, rfl⟩, fun q => absurd ((RM_le hO (by omega)).mpr (Nat.le_refl _)) q⟩⟩
  | m + 1, k, w, p, hS, hO, hM, hI, hk => by
    have h60 := RM_60 hO
    have hkl : k < G.length := by omega
    have hle : ¬ w_i w 26 8 ≤ Int32.ofNat k := fun q => absurd ((RM_le hO (by omega)).mp q) (by omega)
    have hok := RM_ok hO hkl
    have h16 := hok.1
    have h10 := hok.2.1
    have el : (w_a w 31).getD (Int32.ofNat k).toNatClampNeg 0 = Int32.ofNat G[k].1 := RM_left hO hkl
    obtain ⟨ob, H⟩ := p
    cases ob with
    | true =>
      have h14 : ¬ w_i w 26 14 = 0 := by
        rw [hM.2.2]; exact (by decide : ¬ bI true = 0)
      exact ⟨(true, H), w, hS, Fr_refl, hM, ⟨fun q => (by cases q), hI.2⟩, sg_184_127 (d := d + 1) hS _ _ _ ⟨fun _ => ⟨rfl, rfl⟩, fun _ => ⟨fun _ => ⟨rfl, rfl⟩, fun q => absurd q h14⟩⟩⟩
    | false =>
      have h14 : w_i w 26 14 = 0 := hM.2.2
      by_cases hm : G[k].1 = x
      · obtain ⟨w1, e1, s1, f1, R1⟩ := E171_0 (d := d + 1) hS hO hkl
        have M1 := MA_Fr hM f1 (by decide) (by decide)
        have hq : (w_a w 31).getD (Int32.ofNat k).toNatClampNeg 0 = Int32.ofNat x := by rw [el, hm]
        have o12 : gk_out (w_i w1 26 12) 24 = false := by rw [R1.1]; exact o_ok (by omega) (by omega)
        cases hb : slB x G[k] with
        | false =>
          obtain ⟨w2, v, e2, s2, f2, M2⟩ := pushAdd (d := d) s1 R1 (by omega) hz16 hx M1
          have I2 := IM_n hs hz hI hkl hok hm hb
          have f12 : Fr [28, 29, 30, 34] [(26, 4), (26, 12), (26, 14)] w w2 := Fr_trans (Fr_mono f1 (by simp) (by simp)) f2
          obtain ⟨p3, w3, s3, f3, M3, I3, g3⟩ := E184_l hx hz16 hs hz m (k + 1) w2 _ s2 (RM_Fr hO f12 (by decide) (by decide)) M2 I2 (by omega)
          have g4 : gk_W none (d + 3) 184 127 [some (.ref 27), some (.int (Int32.ofNat x)), none, some (.int (Int32.ofNat z)), some (.int (Int32.ofNat k + 1)), none, none] [] w2 (.inl none) w3 := by rw [i_s]; exact g3
          refine ⟨p3, w3, s3, Fr_trans f12 f3, M3, I3, sg_184_127 (d := d + 1) hS _ _ _ ⟨fun q => absurd q hle, fun _ => ⟨fun q => absurd h14 q, fun _ => ⟨RM_out hO hkl, fun _ => ⟨1, w1, e1, s1, fun q => ⟨o12, v, w2, e2, s2, g4⟩, fun q => ⟨fun q2 => ⟨o12, v, w2, e2, s2, g4⟩, fun q2 => ?_⟩⟩, fun q => absurd hq q⟩⟩⟩⟩
          rw [R1.1] at q2
          have h0 : 0 < G[k].2.length := by
            refine Nat.pos_of_ne_zero fun e => q2 ?_
            rw [e]; decide
          have e34 : (w_a w1 34).getD 0 0 = Int32.ofNat G[k].2[0] := R1.2.2.2 0 _ (List.getElem?_eq_getElem h0)
          have := hok.2.2 _ (List.getElem_mem h0)
          rw [e34, i_eq (by omega) (by omega)] at q
          have : slB x G[k] = true := decide_eq_true ⟨hm, h0, by rw [headD_at h0]; exact q⟩
          rw [hb] at this; cases this
        | true =>
          obtain ⟨-, h0, hhd⟩ := of_decide_eq_true hb
          have e34 : (w_a w1 34).getD 0 0 = Int32.ofNat x := by
            have := R1.2.2.2 0 _ (List.getElem?_eq_getElem h0)
            rw [this, ← headD_at h0, hhd]
          have n12 : ¬ w_i w1 26 12 ≤ 0 := by
            rw [R1.1]; intro q
            exact absurd ((i_le (b := 0) (by omega) (by omega)).mp q) (by omega)
          obtain ⟨w2, s2, f2, R2, e12, g2⟩ := E184_k (d := d + 1) (x1 := Int32.ofNat x) (x3 := Int32.ofNat z) (x4 := Int32.ofNat k) (x5 := 1) s1 R1 h0 h10
          have s2' := sh_si s2 ly_26 (k := 12) rfl (w_i w2 26 12 - 1)
          have f2' : Fr [34] [(26, 12)] w1 (w_si w2 26 12 (w_i w2 26 12 - 1)) := Fr_trans f2 (Fr_si (by decide) _)
          obtain ⟨w3, v3, e3, s3, f3, M3, -⟩ := E149 (d := d) s2' (MA_Fr M1 f2' (by decide) (by decide)) R2 hz16
          have R3 : RG w3 (G[k].2.drop 1) := RG_congr R2 (Fr_i f3 (by decide)) (Fr_a f3 (by decide))
          have hdl : (G[k].2.drop 1).length = G[k].2.length - 1 := List.length_drop
          obtain ⟨w4, v4, e4, s4, f4, M4⟩ := pushAdd (d := d) s3 R3 (by omega) hz16 hz16 M3
          have I4 := IM_self hs hz hI hkl hok hb
          have f14 : Fr [28, 29, 30, 34] [(26, 4), (26, 12), (26, 14)] w w4 := Fr_trans (Fr_mono f1 (by simp) (by simp)) (Fr_trans (Fr_mono f2' (by simp) (by simp)) (Fr_trans (Fr_mono f3 (by simp) (by simp)) f4))
          obtain ⟨p5, w5, s5, f5, M5, I5, g5⟩ := E184_l hx hz16 hs hz m (k + 1) w4 _ s4 (RM_Fr hO f14 (by decide) (by decide)) M4 I4 (by omega)
          refine ⟨p5, w5, s5, Fr_trans f14 f5, M5, I5, sg_184_127 (d := d + 1) hS _ _ _ ⟨fun q => absurd q hle, fun _ => ⟨fun q => absurd h14 q, fun _ => ⟨RM_out hO hkl, fun _ => ⟨1, w1, e1, s1, fun q => absurd e34 q, fun _ => ⟨fun q => absurd q n12, fun _ => g2 _ _ (sg_184_197 (d := d + 1) s2 _ _ _ _ _ ⟨fun _ => ⟨v3, w3, e3, s3, ?_, fun q => absurd q (by decide), fun _ => ⟨v4, w4, e4, s4, ?_⟩⟩, fun q => ?_⟩)⟩⟩, fun q => absurd hq q⟩⟩⟩⟩
          · rw [R3.1]; exact o_ok (by omega) (by omega)
          · rw [i_s]; exact g5
          · rw [e12] at q
            exact absurd ((i_le (by omega) (by omega)).mpr (Nat.le_refl _)) q
      · obtain ⟨p3, w3, s3, f3, M3, I3, g3⟩ := E184_l hx hz16 hs hz m (k + 1) w (false, H) hS hO hM (IM_miss hI hkl hm) (by omega)
        refine ⟨p3, w3, s3, f3, M3, I3, sg_184_127 (d := d + 1) hS _ _ _ ⟨fun q => absurd q hle, fun _ => ⟨fun q => absurd h14 q, fun _ => ⟨RM_out hO hkl, fun q => ?_, fun _ => by rw [i_s]; exact g3⟩⟩⟩⟩
        rw [el, i_eq (by omega) (by omega)] at q
        exact absurd q hm
/-- unwind, when a limit was passed before -/
theorem E184_t (hS : gk_Sh rr w) (hM : MA w (true, G)) {x : Nat} (hx : x < 16) : gk_E (d + 2) 184 [.ref 27, .int (Int32.ofNat x)] w (.inl none) w := by
  have h60 := RM_60 hM.1
  have h14 : ¬ w_i w 26 14 = 0 := by
    rw [hM.2.2]; exact (by decide : ¬ bI true = 0)
  exact gk_E_i rfl rfl (sg_184_0 (d := d) hS _ (E184_h hS hM.1 hx _ _ (sg_184_4 (d := d) hS _ _ _ ⟨fun _ => ⟨fun _ => ⟨rfl, rfl⟩, fun _ => ⟨fun q => absurd q h14, fun _ => ⟨rfl, rfl⟩⟩⟩, fun q => absurd ((RM_le hM.1 (by omega)).mpr (Nat.le_refl _)) q⟩)))
/-- unwind -/
theorem E184 (hS : gk_Sh rr w) (hM : MA w (false, G)) {x : Nat} (hx : x < 16) : ∃ (o : Option (List Rl)) (w' : gk_Wd), uwR x G o ∧ gk_E (d + 3) 184 [.ref 27, .int (Int32.ofNat x)] w (.inl none) w' ∧ gk_Sh rr w' ∧ Fr [28, 29, 30, 31, 32, 33, 34] [(26, 4), (26, 8), (26, 12), (26, 14)] w w' ∧ (∀ K, o = some K → MA w' (false, K)) ∧ (o = none → ∃ K, MA w' (true, K)) := by
  have hR : RM w 4 28 G := hM.1
  have hs : srt G := hM.2.1
  have h14 : w_i w 26 14 = 0 := hM.2.2
  have h60 := RM_60 hR
  have hle : w_i w 26 4 ≤ Int32.ofNat G.length := (RM_le hR (by omega)).mpr (Nat.le_refl _)
  have gh := E184_h (d := d + 1) hS hR hx
  by_cases ha : G.any (slB x) = false
  · rw [ha] at gh
    refine ⟨some G, w, ?_, gk_E_i rfl rfl (sg_184_0 (d := d + 1) hS _ (gh _ _ (sg_184_4 (d := d + 1) hS _ _ _ ⟨fun _ => ⟨fun _ => ⟨rfl, rfl⟩, fun q => absurd rfl q⟩, fun q => absurd hle q⟩))), hS, Fr_refl, fun K e => (by cases e; exact hM), fun e => by cases e⟩
    unfold uwR; rw [if_pos ha]
  · have ha2 : G.any (slB x) = true := by simpa using ha
    rw [ha2] at gh
    have n1 : ¬ bI true = 0 := by decide
    have e2 := E186 (d := d + 1) hS hR
    cases hf : frV G with
    | none =>
      rw [hf] at e2
      refine ⟨none, w_si w 26 14 1, ?_, gk_E_i rfl rfl (sg_184_0 (d := d + 1) hS _ (gh _ _ (sg_184_4 (d := d + 1) hS _ _ _ ⟨fun _ => ⟨fun q => absurd q n1, fun _ => ⟨fun _ => ⟨_, e2, fun q => absurd q (by decide), fun _ => ⟨rfl, rfl⟩⟩, fun q => absurd h14 q⟩⟩, fun q => absurd hle q⟩))), sh_si hS ly_26 (k := 14) rfl _, Fr_si (by decide) _, fun K e => (by cases e), fun _ => ⟨G, RM_congr hR (w_i_ne (by decide)) w_a_si w_a_si w_a_si, hs, w_i_same hS ly_26 rfl⟩⟩
      unfold uwR; rw [if_neg ha, hf]
    | some z =>
      rw [hf] at e2
      obtain ⟨hz16, hz1⟩ := fsN_some hf
      have hz : usB G z = false := by simpa using hz1
      obtain ⟨w1, e3, s1, f1, O1⟩ := E148 (d := d + 2) hS hR
      have R1 : RM w1 4 28 G := RM_Fr hR f1 (by decide) (by decide)
      obtain ⟨w2, s2, f2, R2, g2⟩ := dn_RM (d := d + 3) (mi := 184) (pc := 86) (rr := rr) (fun r => !slB x r) (fun k => [some (.ref 27), some (.int (Int32.ofNat x)), none, some (.int (Int32.ofNat z)), some (.int k), none, none]) (d + 1) (fun _ => True) (fun _ _ _ _ => trivial) (fun k w H hk hS hR _ r w' h1 h2 => by
        have h60 := RM_60 hR
        have el := RM_left hR hk
        have hok := RM_ok hR hk
        have h16 := hok.1
        refine sg_184_86 (d := d + 1) hS _ _ _ ⟨fun q => absurd q (i_neg (by omega)), fun _ => ⟨RM_out hR hk, fun q => ?_, fun q => ⟨RM_out hR hk, fun _ => RM_io hR hk (k := 0) (by omega), fun q2 => ?_, fun q2 => ?_⟩⟩⟩
        · rw [el, i_eq (by omega) (by omega)] at q
          have : slB x H[k] = false := decide_eq_false fun h => q h.1
          rw [i_m1]; exact h1 (by rw [this]; rfl)
        · rw [el, i_eq (by omega) (by omega)] at q
          rw [f_185_M hR hk hx q] at q2
          rw [i_m1]; exact h1 (by rw [q2]; rfl)
        · rw [el, i_eq (by omega) (by omega)] at q
          rw [f_185_M hR hk hx q] at q2
          have q3 : slB x H[k] = true := by simpa using q2
          rw [i_m1]; exact h2 (by rw [q3]; rfl)) G.length w1 G s1 R1 trivial (Nat.le_refl _)
      rw [dfl_all] at R2
      have M2 : MA w2 (false, G.filter fun r => !slB x r) := ⟨R2, srt_filter hs _, by rw [Fr_i f2 (by decide), Fr_i f1 (by decide), h14]; rfl⟩
      have I2 : IM x z G 0 (false, G.filter fun r => !slB x r) := ⟨fun _ => ⟨fun r => by
        simp only [List.mem_filter]
        constructor
        · rintro ⟨q1, q2⟩; exact Or.inl ⟨q1, by simpa using q2⟩
        · rintro (⟨q1, q2⟩ | ⟨j, hj, h0, _⟩)
          · exact ⟨q1, by rw [q2]; rfl⟩
          · omega, by
        have := filter_sm x G
        simp only [List.take_zero, sm]; omega, fun j hj h0 => by omega⟩, fun e => by cases e⟩
      obtain ⟨p3, w3, s3, f3, M3, I3, g3⟩ := E184_l (d := d) hx hz16 hs hz G.length 0 w2 _ s2 (RM_Fr O1 f2 (by decide) (by decide)) M2 I2 (by omega)
      have hE : gk_E (d + 3) 184 [.ref 27, .int (Int32.ofNat x)] w (.inl none) w3 := by
        refine gk_E_i rfl rfl (sg_184_0 (d := d + 1) hS _ (gh _ _ (sg_184_4 (d := d + 1) hS _ _ _ ⟨fun _ => ⟨fun q => absurd q n1, fun _ => ⟨fun _ => ⟨_, e2, fun _ => ⟨w1, e3, s1, ?_⟩, fun q => absurd (i_nlt.mpr (i_neg (by omega))) q⟩, fun q => absurd h14 q⟩⟩, fun q => absurd hle q⟩)))
        rw [R1.1]
        exact g2 _ _ (sg_184_86 (d := d + 1) s2 _ _ _ ⟨fun _ => g3, fun q => absurd i_z1 q⟩)
      have hF : Fr [28, 29, 30, 31, 32, 33, 34] [(26, 4), (26, 8), (26, 12), (26, 14)] w w3 := Fr_trans (Fr_mono f1 (by simp) (by simp)) (Fr_trans (Fr_mono f2 (by simp) (by simp)) (Fr_mono f3 (by simp) (by simp)))
      obtain ⟨ob, H⟩ := p3
      cases ob with
      | true =>
        refine ⟨none, w3, ?_, hE, s3, hF, fun K e => (by cases e), fun _ => ⟨_, M3⟩⟩
        unfold uwR; rw [if_neg ha, hf]; exact I3.2 rfl
      | false =>
        obtain ⟨q1, q2, q3⟩ := I3.1 rfl
        refine ⟨some H, w3, ?_, hE, s3, hF, fun K e => (by cases e; exact M3), fun e => by cases e⟩
        unfold uwR; rw [if_neg ha, hf]
        refine ⟨M3.2.1, fun r => by rw [q1]; exact mU_all, RM_60 M3.1, ?_, ?_⟩
        · rw [List.take_of_length_le (Nat.le_refl _), wX_sm] at q2
          simp only at q2
          omega
        · rintro ⟨g, hg, p1, p2, p3⟩
          obtain ⟨j, hj, rfl⟩ := List.mem_iff_getElem.mp hg
          have := q3 j hj hj p1 p2
          omega
end MW

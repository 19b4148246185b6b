/-! part 41: the order of rules; the reference compares and adds -/
theorem en_lex : ∀ (k : Nat) (s t : List Nat) (j : Nat) (hs : k < s.length) (ht : k < t.length), s.length = t.length → j + s.length ≤ 10 → (∀ x ∈ s, x < 32) → s.take k = t.take k → s[k] < t[k] → en s j < en t j
  | 0, x :: s, y :: t, j, hs, ht, hl, hj, hx, _, h => by
    simp only [List.length_cons] at hl hj
    have h1 := en_lt s (j + 1) (by omega) (fun z hz => hx z (List.mem_cons_of_mem _ hz))
    rw [show 50 - 5 * (j + 1) = 45 - 5 * j by omega] at h1
    have h2 : x < y := h
    simp only [en]
    have h3 : (x + 1) * 2 ^ (45 - 5 * j) ≤ y * 2 ^ (45 - 5 * j) := Nat.mul_le_mul_right _ h2
    rw [Nat.add_mul, Nat.one_mul] at h3
    omega
  | k + 1, x :: s, y :: t, j, hs, ht, hl, hj, hx, he, h => by
    simp only [List.length_cons] at hl hj hs ht
    rw [List.take_succ_cons, List.take_succ_cons] at he
    obtain ⟨e1, he'⟩ := List.cons.inj he
    subst e1
    have := en_lex k s t (j + 1) (by omega) (by omega) (by omega) (by omega) (fun z hz => hx z (List.mem_cons_of_mem _ hz)) he' h
    simp only [en]
    omega
theorem pkN_50 {r : Rl} (h : okR r) : pkN r / 2 ^ 50 = r.1 * 16 + r.2.length := by
  have h1 := en_lt r.2 0 (by have := h.2.1; omega) (fun x hx => by have := h.2.2 x hx; omega)
  unfold pkN
  simp only [Nat.mul_zero, Nat.sub_zero] at h1
  omega
theorem pkN_l {r q : Rl} (hr : okR r) (hq : okR q) (h : r.1 < q.1) : pkN r < pkN q := by
  have h1 := pkN_50 hr
  have h2 := pkN_50 hq
  have h3 := hr.2.1
  have h4 := hq.2.1
  have h5 : pkN r / 2 ^ 50 < pkN q / 2 ^ 50 := by omega
  omega
theorem pkN_n {r q : Rl} (hr : okR r) (hq : okR q) (he : r.1 = q.1) (h : r.2.length < q.2.length) : pkN r < pkN q := by
  have h1 := pkN_50 hr
  have h2 := pkN_50 hq
  have h5 : pkN r / 2 ^ 50 < pkN q / 2 ^ 50 := by omega
  omega
theorem pkN_s {r q : Rl} (hr : okR r) (he : r.1 = q.1) (hl : r.2.length = q.2.length) {k : Nat} (hk : k < r.2.length) (hk' : k < q.2.length) (ht : r.2.take k = q.2.take k) (h : r.2[k] < q.2[k]) : pkN r < pkN q := by
  have := en_lex k r.2 q.2 0 hk hk' hl (by have := hr.2.1; omega) (fun x hx => by have := hr.2.2 x hx; omega) ht h
  unfold pkN
  rw [he, hl]
  omega
/-- the row 'right' holds R -/
def RG (w : gk_Wd) (R : List Nat) : Prop := w_i w 26 12 = Int32.ofNat R.length ∧ R.length ≤ 24 ∧ (∀ s ∈ R, s < 22) ∧ ∀ (k s : Nat), R[k]? = some s → (w_a w 34).getD k 0 = Int32.ofNat s
def cmpR (g q : Rl) : Int32 := if pkN g < pkN q then -1 else if g = q then 0 else 1
section AD
variable {d : Nat} {rr : List gk_S} {w : gk_Wd} {G : List Rl} {R : List Nat}
theorem RG_at (h : RG w R) {k : Nat} (hk : k < R.length) : (w_a w 34).getD (Int32.ofNat k).toNatClampNeg 0 = Int32.ofNat R[k] := by
  have := h.2.1
  rw [i_nat (by omega)]; exact h.2.2.2 k _ (List.getElem?_eq_getElem hk)
theorem cmpR_gt {g q : Rl} (h : pkN q < pkN g) : cmpR g q = 1 := by
  unfold cmpR
  rw [if_neg (by omega), if_neg (fun e => by subst e; omega)]
theorem cmpR_lt {g q : Rl} (h : pkN g < pkN q) : cmpR g q = -1 := by unfold cmpR; rw [if_pos h]
theorem cmpR_eq (g : Rl) : cmpR g g = 0 := by unfold cmpR; rw [if_neg (Nat.lt_irrefl _), if_pos rfl]
theorem E150_l (hS : gk_Sh rr w) (hR : RM w 4 28 G) (hG : RG w R) {x : Nat} (hq : okR (x, R)) {i : Nat} (hi : i < G.length) (hx : G[i].1 = x) (hl : G[i].2.length = R.length) : ∀ (m k : Nat), k + m = R.length → G[i].2.take k = R.take k → gk_W none (d + 1) 150 60 [some (.ref 27), some (.int (Int32.ofNat i)), none, some (.int (Int32.ofNat k))] [] w (.inl (some (.int (cmpR G[i] (x, R))))) w
  | 0, k, hk, he => by
    have h10 := hq.2.1
    have h10' : R.length ≤ 10 := h10
    rw [List.take_of_length_le (by omega), List.take_of_length_le (by omega)] at he
    have e : G[i] = (x, R) := Prod.ext hx he
    rw [e, cmpR_eq]
    refine sg_150_60 hS _ _ ⟨fun _ => ⟨rfl, rfl⟩, fun q => ?_⟩
    rw [hG.1] at q
    exact absurd ((i_le (by omega) (by omega)).mpr (by omega)) q
  | m + 1, k, hk, he => by
    have h10 : R.length ≤ 10 := hq.2.1
    have hok := RM_ok hR hi
    have hkl : k < G[i].2.length := by omega
    have hkr : k < R.length := by omega
    have hs := hok.2.2 _ (List.getElem_mem hkl)
    have ht := hG.2.2.1 _ (List.getElem_mem hkr)
    have ea := RM_at hR hi hkl
    have er := RG_at hG hkr
    have o24 : gk_out (Int32.ofNat k) 24 = false := o_ok (by omega) (by omega)
    refine sg_150_60 hS _ _ ⟨fun q => ?_, fun _ => ⟨RM_io hR hi (by omega), o24, fun q => ?_, fun q => ⟨RM_io hR hi (by omega), o24, fun q2 => ?_, fun q2 => ?_⟩⟩⟩
    · rw [hG.1] at q
      exact absurd ((i_le (by omega) (by omega)).mp q) (by omega)
    · rw [ea, er, i_eq (by omega) (by omega)] at q
      rw [i_s]
      exact E150_l hS hR hG hq hi hx hl m (k + 1) (by omega) (by rw [List.take_succ_eq_append_getElem hkl, List.take_succ_eq_append_getElem hkr, he, q])
    · rw [ea, er, i_eq (by omega) (by omega)] at q
      rw [ea, er, i_le (by omega) (by omega)] at q2
      rw [cmpR_gt (pkN_s hq hx.symm hl.symm hkr hkl he.symm (by show R[k] < G[i].2[k]; omega))]
      exact ⟨rfl, rfl⟩
    · rw [ea, er, i_le (by omega) (by omega)] at q2
      rw [cmpR_lt (pkN_s hok hx hl hkl hkr he (by show G[i].2[k] < R[k]; omega))]
      exact ⟨rfl, rfl⟩
/-- compare -/
theorem E150 (hS : gk_Sh rr w) (hR : RM w 4 28 G) (hG : RG w R) {x : Nat} (hq : okR (x, R)) {i : Nat} (hi : i < G.length) : gk_E (d + 1) 150 [.ref 27, .int (Int32.ofNat i), .int (Int32.ofNat x)] w (.inl (some (.int (cmpR G[i] (x, R))))) w := by
  have hok := RM_ok hR hi
  have h1 := hok.1
  have h2 := hok.2.1
  have h3 : x < 16 := hq.1
  have h4 : R.length ≤ 10 := hq.2.1
  have el := RM_left hR hi
  have es := RM_size hR hi
  refine gk_E_i rfl rfl (sg_150_0 hS _ _ ⟨RM_out hR hi, fun q => ⟨RM_out hR hi, fun q2 => ?_, fun q2 => ⟨RM_out hR hi, fun q3 => ?_, fun q3 => ?_⟩⟩, fun q => ⟨RM_out hR hi, fun q2 => ?_, fun q2 => ?_⟩⟩)
  · rw [el, i_eq (by omega) (by omega)] at q
    rw [es, hG.1, i_eq (by omega) (by omega)] at q2
    exact E150_l hS hR hG hq hi q q2 R.length 0 (by omega) rfl
  · rw [el, i_eq (by omega) (by omega)] at q
    rw [es, hG.1, i_eq (by omega) (by omega)] at q2
    rw [es, hG.1, i_le (by omega) (by omega)] at q3
    rw [cmpR_gt (pkN_n hq hok q.symm (by show R.length < G[i].2.length; omega))]
    exact ⟨rfl, rfl⟩
  · rw [el, i_eq (by omega) (by omega)] at q
    rw [es, hG.1, i_le (by omega) (by omega)] at q3
    rw [cmpR_lt (pkN_n hok hq q (by show G[i].2.length < R.length; omega))]
    exact ⟨rfl, rfl⟩
  · rw [el, i_eq (by omega) (by omega)] at q
    rw [el, i_le (by omega) (by omega)] at q2
    rw [cmpR_gt (pkN_l hq hok (by show x < G[i].1; omega))]
    exact ⟨rfl, rfl⟩
  · rw [el, i_le (by omega) (by omega)] at q2
    rw [cmpR_lt (pkN_l hok hq (by show G[i].1 < x; omega))]
    exact ⟨rfl, rfl⟩
theorem RG_congr {w' : gk_Wd} (h : RG w R) (h1 : w_i w' 26 12 = w_i w 26 12) (h2 : w_a w' 34 = w_a w 34) : RG w' R := ⟨by rw [h1]; exact h.1, h.2.1, h.2.2.1, by rw [h2]; exact h.2.2.2⟩
theorem E149_s {x p : Nat} (hp : p ≤ G.length) (hlen : G.length < 60) (hok : ∀ r ∈ G, okR r) : ∀ (m : Nat) (w : gk_Wd), gk_Sh rr w → p + m ≤ G.length → (∀ (n : Nat) (r : Rl), n < p + m → G[n]? = some r → rowM w 28 n r) → (∀ (n : Nat) (r : Rl), p + m ≤ n → G[n]? = some r → rowM w 28 (n + 1) r) → ∃ w1, gk_Sh rr w1 ∧ Fr [28, 29, 30] [] w w1 ∧ (∀ (n : Nat) (r : Rl), n < p → G[n]? = some r → rowM w1 28 n r) ∧ (∀ (n : Nat) (r : Rl), p ≤ n → G[n]? = some r → rowM w1 28 (n + 1) r) ∧ ∀ (r : gk_Res) (w' : gk_Wd), gk_W none (d + 1) 149 88 [some (.ref 27), some (.int (Int32.ofNat x)), some (.int (Int32.ofNat p)), some (.int (Int32.ofNat p))] [] w1 r w' → gk_W none (d + 1) 149 88 [some (.ref 27), some (.int (Int32.ofNat x)), some (.int (Int32.ofNat p)), some (.int (Int32.ofNat (p + m)))] [] w r w'
  | 0, w, hS, hm, h1, h2 => ⟨w, hS, Fr_refl, h1, h2, fun _ _ h => h⟩
  | m + 1, w, hS, hm, h1, h2 => by
    obtain ⟨w1, e1, s1, f1, r1, r2⟩ := E152 (d := d) hS (i := p + (m + 1)) (j := p + m) (by omega) (by omega) (by omega)
    obtain ⟨w2, s2, f2, a2, b2, g2⟩ := E149_s (x := x) hp hlen hok m w1 s1 (by omega) (fun n r hn hr => r2 n r (by omega) (hok r (List.mem_of_getElem? hr)) (h1 n r (by omega) hr)) (fun n r hn hr => by
      have hr' := hok r (List.mem_of_getElem? hr)
      by_cases hnp : n = p + m
      · subst hnp
        exact r1 r hr' (h1 _ r (by omega) hr)
      · exact r2 (n + 1) r (by omega) hr' (h2 n r (by omega) hr))
    refine ⟨w2, s2, Fr_trans f1 f2, a2, b2, fun r w' h => sg_149_88 hS _ _ _ ⟨fun q => absurd ((i_le (by omega) (by omega)).mp q) (by omega), fun _ => ⟨w1, ?_, s1, ?_⟩⟩⟩
    · rw [show p + (m + 1) = (p + m) + 1 by omega, i_down]; exact e1
    · rw [i_m1, show p + (m + 1) = (p + m) + 1 by omega, i_down]; exact g2 r w' h
theorem E149_r {p : Nat} (hp : p < 60) (hR10 : R.length ≤ 10) : ∀ (m k : Nat) (w : gk_Wd), gk_Sh rr w → RG w R → k + m = R.length → (∀ (j s : Nat), j < k → R[j]? = some s → (w_a w 30).getD (10 * p + j) 0 = Int32.ofNat s) → ∃ w1, gk_Sh rr w1 ∧ Fr [30] [] w w1 ∧ (∀ (j s : Nat), R[j]? = some s → (w_a w1 30).getD (10 * p + j) 0 = Int32.ofNat s) ∧ (∀ n, ¬ (10 * p ≤ n ∧ n < 10 * p + 10) → (w_a w1 30).getD n 0 = (w_a w 30).getD n 0) ∧ gk_W none (d + 1) 149 126 [some (.ref 27), none, some (.int (Int32.ofNat p)), some (.int (Int32.ofNat k))] [] w (.inl (some (.int (Int32.ofNat p)))) (w_si w1 26 4 (w_i w 26 4 + 1))
  | 0, k, w, hS, hG, hk, hd => by
    obtain rfl : k = R.length := by omega
    refine ⟨w, hS, Fr_refl, fun j s hj => hd j s (List.getElem?_eq_some_iff.mp hj).1 hj, fun _ _ => rfl, sg_149_126 hS _ _ ⟨fun _ => ⟨rfl, rfl⟩, fun q => ?_⟩⟩
    rw [hG.1] at q
    exact absurd ((i_le (by omega) (by omega)).mpr (Nat.le_refl _)) q
  | m + 1, k, w, hS, hG, hk, hd => by
    have hkr : k < R.length := by omega
    have hl := (w_int hS ly_30).2
    have er := RG_at hG hkr
    have hS1 := sh_as hS ly_30 (10 * p + k) (Int32.ofNat R[k])
    obtain ⟨w1, s1, f1, a1, b1, g1⟩ := E149_r hp hR10 m (k + 1) _ hS1 (RG_congr hG w_i_sa (w_a_ne (by decide))) (by omega) (fun j s hj hs => by
      rw [w_a_same hS ly_30, getD_set32 _ (by omega)]
      by_cases hjk : j = k
      · subst hjk
        rw [if_pos rfl]
        rw [List.getElem?_eq_getElem hkr] at hs
        rw [Option.some.inj hs]
      · rw [if_neg (by omega)]; exact hd j s (by omega) hs)
    refine ⟨w1, s1, Fr_trans (Fr_sa (by decide) _) f1, a1, fun n hn => ?_, sg_149_126 hS _ _ ⟨fun q => ?_, fun _ => ⟨o_ok (by omega) (by omega), ix_o (by omega), ?_⟩⟩⟩
    · rw [b1 n hn, w_a_same hS ly_30, getD_set32 _ (by omega), if_neg (by omega)]
    · rw [hG.1] at q
      exact absurd ((i_le (by omega) (by omega)).mp q) (by omega)
    · rw [er, ix_n (by omega), i_s]
      rw [w_i_sa] at g1
      exact g1
/-- add: a new rule, with room for it, at its place -/
theorem E149_new (hS : gk_Sh rr w) (hR : RM w 4 28 G) (hG : RG w R) {x : Nat} (hq : okR (x, R)) (hlen : G.length < 60) : ∃ w', gk_Sh rr w' ∧ Fr [28, 29, 30] [(26, 4)] w w' ∧ RM w' 4 28 (insR (x, R) G) ∧ gk_W none (d + 1) 149 88 [some (.ref 27), some (.int (Int32.ofNat x)), some (.int (Int32.ofNat (posR (x, R) G))), some (.int (Int32.ofNat G.length))] [] w (.inl (some (.int (Int32.ofNat (posR (x, R) G))))) w' := by
  have hp := posR_le (x, R) G
  have h10 : R.length ≤ 10 := hq.2.1
  generalize hpe : posR (x, R) G = p at *
  obtain ⟨w1, s1, f1, a1, b1, g1⟩ := E149_s (d := d) (x := x) (p := p) hp hlen hR.2.2.1 (G.length - p) w hS (by omega) (fun n r _ hr => hR.2.2.2 n r hr) (fun n r hn hr => by
    have := (List.getElem?_eq_some_iff.mp hr).1
    omega)
  have l28 := (w_int s1 ly_28).2
  have s2 := sh_as s1 ly_28 p (Int32.ofNat x)
  have l29 := (w_int s1 ly_29).2
  have s3 := sh_as s2 ly_29 p (w_i w1 26 12)
  have G3 : RG (w_sa (w_sa w1 28 ((w_a w1 28).set p (Int32.ofNat x))) 29 ((w_a (w_sa w1 28 ((w_a w1 28).set p (Int32.ofNat x))) 29).set p (w_i w1 26 12))) R := RG_congr hG (by rw [w_i_sa, w_i_sa, Fr_i f1 (by simp)]) (by rw [w_a_ne (by decide), w_a_ne (by decide), Fr_a f1 (by decide)])
  obtain ⟨w4, s4, f4, a4, b4, g4⟩ := E149_r (d := d) (p := p) (by omega) h10 R.length 0 _ s3 G3 (by omega) (fun j s hj => by omega)
  have e28 : w_a w4 28 = (w_a w1 28).set p (Int32.ofNat x) := by rw [Fr_a f4 (by decide), w_a_ne (by decide), w_a_same s1 ly_28]
  have e29 : w_a w4 29 = (w_a w1 29).set p (Int32.ofNat R.length) := by
    rw [Fr_a f4 (by decide), w_a_same s2 ly_29, w_a_ne (by decide), Fr_i f1 (by simp), hG.1]
  have e30 : ∀ n, ¬ (10 * p ≤ n ∧ n < 10 * p + 10) → (w_a w4 30).getD n 0 = (w_a w1 30).getD n 0 := fun n hn => by
    rw [b4 n hn, w_a_ne (by decide), w_a_ne (by decide)]
  have ec : w_i (w_sa (w_sa w1 28 ((w_a w1 28).set p (Int32.ofNat x))) 29 ((w_a (w_sa w1 28 ((w_a w1 28).set p (Int32.ofNat x))) 29).set p (w_i w1 26 12))) 26 4 = Int32.ofNat G.length := by rw [w_i_sa, w_i_sa, Fr_i f1 (by simp)]; exact hR.1
  have keep : ∀ (n : Nat) (r : Rl), n ≠ p → okR r → rowM w1 28 n r → rowM w4 28 n r := fun n r hn hr h => by
    have := hr.2.1
    refine ⟨by rw [e28, getD_set32 _ (by omega), if_neg hn]; exact h.1, by rw [e29, getD_set32 _ (by omega), if_neg hn]; exact h.2.1, fun k s hk => ?_⟩
    have := (List.getElem?_eq_some_iff.mp hk).1
    rw [e30 _ (by omega)]; exact h.2.2 k s hk
  rw [ec] at g4
  refine ⟨w_si w4 26 4 (Int32.ofNat G.length + 1), sh_si s4 ly_26 (k := 4) rfl _, Fr_trans (Fr_mono f1 (by simp) (by simp)) (Fr_trans (Fr_sa (by decide) _) (Fr_trans (Fr_sa (by decide) _) (Fr_trans (Fr_mono f4 (by simp) (by simp)) (Fr_si (by decide) _)))), ⟨?_, by rw [insR_len]; omega, fun r hr => ?_, fun n r hn => ?_⟩, ?_⟩
  · rw [w_i_same s4 ly_26 rfl, insR_len, i_s]
  · rcases (insR_mem _ _ _).mp hr with rfl | hr
    · exact hq
    · exact hR.2.2.1 r hr
  · unfold rowM
    rw [w_a_si, w_a_si, w_a_si]
    show rowM w4 28 n r
    unfold insR at hn
    rw [hpe] at hn
    have et : (G.take p).length = p := by simp; omega
    by_cases h1 : n < p
    · rw [List.getElem?_append_left (by omega), List.getElem?_take_of_lt h1] at hn
      exact keep n r (by omega) (hR.2.2.1 r (List.mem_of_getElem? hn)) (a1 n r h1 hn)
    · rw [List.getElem?_append_right (by omega), et] at hn
      by_cases h2 : n = p
      · subst h2
        rw [Nat.sub_self, List.getElem?_cons_zero] at hn
        obtain rfl := (Option.some.inj hn).symm
        exact ⟨by rw [e28, getD_set32 _ (by omega), if_pos rfl], by rw [e29, getD_set32 _ (by omega), if_pos rfl], fun k s hk => a4 k s hk⟩
      · rw [show n - p = (n - p - 1) + 1 by omega, List.getElem?_cons_succ, List.getElem?_drop, show p + (n - p - 1) = n - 1 by omega] at hn
        have := b1 (n - 1) r (by omega) hn
        rw [show n - 1 + 1 = n by omega] at this
        exact keep n r h2 (hR.2.2.1 r (List.mem_of_getElem? hn)) this
  · have h1 : p + (G.length - p) = G.length := by omega
    rw [h1] at g1
    refine g1 _ _ (sg_149_88 s1 _ _ _ ⟨fun _ => ⟨o_ok (by omega) (by omega), o_ok (by omega) (by omega), ?_⟩, fun q => ?_⟩)
    · rw [i_nat (by omega), w_i_sa]
      exact g4
    · exact absurd ((i_le (by omega) (by omega)).mpr (Nat.le_refl _)) q
end AD

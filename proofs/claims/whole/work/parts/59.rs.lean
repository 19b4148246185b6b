/-! part 33: a RuleSet holds a row of rules -/
def RS (w : gk_Wd) (a : Nat) (G : List Rl) : Prop := w_i w a 1 = Int32.ofNat G.length ∧ G.length ≤ 60 ∧ (∀ r ∈ G, okR r) ∧ ∀ (i : Nat) (r : Rl), G[i]? = some r → (w_l w (a + 1)).getD i 0 = pk r
def srt (G : List Rl) : Prop := G.Pairwise (fun a b => pkN a < pkN b)
def posR (r : Rl) (G : List Rl) : Nat := (G.takeWhile (fun g => decide (pkN g < pkN r))).length
def insR (r : Rl) (G : List Rl) : List Rl := G.take (posR r G) ++ r :: G.drop (posR r G)
theorem posR_le (r : Rl) (G : List Rl) : posR r G ≤ G.length := (List.takeWhile_prefix _).length_le
theorem posR_cons (r g : Rl) (G : List Rl) : posR r (g :: G) = if pkN g < pkN r then posR r G + 1 else 0 := by
  unfold posR
  rw [List.takeWhile_cons]
  by_cases h : pkN g < pkN r
  · simp [h]
  · simp [h]
/-- in a row that is in order: where the rule stands, or would -/
theorem posR_mem : ∀ {G : List Rl} {r : Rl}, srt G → (∀ g ∈ G, okR g) → okR r → (r ∈ G ↔ G[posR r G]? = some r)
  | [], r, _, _, _ => by simp
  | g :: G, r, hs, ho, hr => by
    have hs' := List.pairwise_cons.mp hs
    rw [posR_cons]
    by_cases h : pkN g < pkN r
    · rw [if_pos h, List.getElem?_cons_succ, ← posR_mem hs'.2 (fun x hx => ho x (List.mem_cons_of_mem _ hx)) hr, List.mem_cons]
      constructor
      · rintro (rfl | h1)
        · omega
        · exact h1
      · exact Or.inr
    · rw [if_neg h, List.getElem?_cons_zero, List.mem_cons]
      constructor
      · rintro (rfl | h1)
        · rfl
        · have := hs'.1 r h1
          omega
      · intro e; exact Or.inl (Option.some.inj e).symm
theorem insR_mem (r : Rl) (G : List Rl) (x : Rl) : x ∈ insR r G ↔ x = r ∨ x ∈ G := by
  unfold insR
  rw [List.mem_append, List.mem_cons]
  constructor
  · rintro (h | h | h)
    · exact Or.inr (List.mem_of_mem_take h)
    · exact Or.inl h
    · exact Or.inr (List.mem_of_mem_drop h)
  · rintro (h | h)
    · exact Or.inr (Or.inl h)
    · have := List.take_append_drop (posR r G) G
      rw [← this] at h
      rcases List.mem_append.mp h with h | h
      · exact Or.inl h
      · exact Or.inr (Or.inr h)
theorem insR_len (r : Rl) (G : List Rl) : (insR r G).length = G.length + 1 := by
  have := posR_le r G
  simp [insR]; omega
theorem insR_srt : ∀ {G : List Rl} {r : Rl}, srt G → (∀ g ∈ G, okR g) → okR r → r ∉ G → srt (insR r G)
  | [], r, _, _, _, _ => by simp [insR, srt, posR]
  | g :: G, r, hs, ho, hr, hn => by
    have hs' := List.pairwise_cons.mp hs
    unfold insR
    rw [posR_cons]
    by_cases h : pkN g < pkN r
    · rw [if_pos h, List.take_succ_cons, List.drop_succ_cons, List.cons_append]
      have ih := insR_srt hs'.2 (fun x hx => ho x (List.mem_cons_of_mem _ hx)) hr (fun q => hn (List.mem_cons_of_mem _ q))
      refine List.pairwise_cons.mpr ⟨fun x hx => ?_, ih⟩
      rcases (insR_mem r G x).mp hx with rfl | hx
      · exact h
      · exact hs'.1 x hx
    · rw [if_neg h, List.take_zero, List.drop_zero, List.nil_append]
      have hne : pkN g ≠ pkN r := fun e => hn (by rw [← pkN_inj (ho g List.mem_cons_self) hr e]; exact List.mem_cons_self)
      refine List.pairwise_cons.mpr ⟨fun x hx => ?_, hs⟩
      rcases List.mem_cons.mp hx with rfl | hx
      · omega
      · have := hs'.1 x hx
        omega
theorem srt_erase {G : List Rl} (h : srt G) (i : Nat) : srt (G.eraseIdx i) := h.sublist (List.eraseIdx_sublist _ _)
theorem srt_nodup {G : List Rl} (h : srt G) : G.Nodup := h.imp (fun {a b} (q : pkN a < pkN b) e => by subst e; exact Nat.lt_irrefl _ q)
theorem srt_ext : ∀ {G H : List Rl}, srt G → srt H → (∀ x, x ∈ G ↔ x ∈ H) → G = H
  | [], [], _, _, _ => rfl
  | [], b :: H, _, _, h => absurd ((h b).mpr List.mem_cons_self) List.not_mem_nil
  | a :: G, [], _, _, h => absurd ((h a).mp List.mem_cons_self) List.not_mem_nil
  | a :: G, b :: H, hg, hh, h => by
    have hg' := List.pairwise_cons.mp hg
    have hh' := List.pairwise_cons.mp hh
    have e : a = b := by
      rcases List.mem_cons.mp ((h a).mp List.mem_cons_self) with e | h1
      · exact e
      · rcases List.mem_cons.mp ((h b).mpr List.mem_cons_self) with e | h2
        · exact e.symm
        · have := hh'.1 a h1
          have := hg'.1 b h2
          omega
    subst e
    congr 1
    refine srt_ext hg'.2 hh'.2 fun x => ?_
    have hx := h x
    rw [List.mem_cons, List.mem_cons] at hx
    constructor
    · intro q
      rcases hx.mp (Or.inr q) with e | q2
      · subst e; have := hg'.1 x q; omega
      · exact q2
    · intro q
      rcases hx.mpr (Or.inr q) with e | q2
      · subst e; have := hh'.1 x q; omega
      · exact q2
section RSS
variable {d : Nat} {rr : List gk_S} {w : gk_Wd} {a : Nat} {G : List Rl}
theorem RS_n (h : RS w a G) : w_i w a 1 = Int32.ofNat G.length := h.1
theorem RS_60 (h : RS w a G) : G.length ≤ 60 := h.2.1
theorem RS_ok (h : RS w a G) {i : Nat} (hi : i < G.length) : okR G[i] := h.2.2.1 _ (List.getElem_mem hi)
theorem RS_at (h : RS w a G) {i : Nat} (hi : i < G.length) : (w_l w (a + 1)).getD (Int32.ofNat i).toNatClampNeg 0 = pk G[i] := by
  have := RS_60 h
  rw [i_nat (by omega)]
  exact h.2.2.2 i _ (List.getElem?_eq_getElem hi)
theorem RS_f13 (h : RS w a G) : f_13 w a = Int32.ofNat G.length := h.1
theorem RS_f23 (h : RS w a G) {i : Nat} (hi : i < G.length) : f_23 w a (Int32.ofNat i) = pk G[i] := RS_at h hi
theorem RS_le (h : RS w a G) {i : Nat} (hi : i < 2147483648) : w_i w a 1 ≤ Int32.ofNat i ↔ G.length ≤ i := by
  have := RS_60 h
  rw [h.1]; exact i_le (by omega) hi
theorem RS_out (h : RS w a G) {i : Nat} (hi : i < G.length) : gk_out (Int32.ofNat i) 60 = false := o_ok (by have := RS_60 h; omega) (by omega)
theorem lg_ge {r q : Rl} (hr : okR r) (hq : okR q) : 0 ≤ lg_cmp (pk r) (pk q) ↔ ¬ pkN r < pkN q := by
  rw [lg_cmp_ge]
  unfold pk
  rw [Int64.ofNat_le_iff_le (by have := pkN_lt hq; omega) (by have := pkN_lt hr; omega)]
  omega
theorem E93_l (hS : gk_Sh rr w) (ha : gk_rs a) (hR : RS w a G) {r : Rl} (hr : okR r) : ∀ (m k : Nat), k + m = G.length → gk_W none d 93 2 [some (.ref (a + 1)), some (.long (pk r)), none, some (.int (Int32.ofNat k))] [] w (.inl (some (.int (Int32.ofNat (k + posR r (G.drop k)))))) w
  | 0, k, hk => by
    have := RS_60 hR
    refine sg_93_2 hS ha _ _ ⟨fun _ => ⟨?_, rfl⟩, fun q => absurd ((RS_le hR (by omega)).mpr (by omega)) q⟩
    rw [List.drop_eq_nil_of_le (by omega)]; rfl
  | m + 1, k, hk => by
    have := RS_60 hR
    have hkl : k < G.length := by omega
    refine sg_93_2 hS ha _ _ ⟨fun q => absurd ((RS_le hR (by omega)).mp q) (by omega), fun _ => ⟨RS_out hR hkl, fun q2 => ⟨?_, rfl⟩, fun q2 => ?_⟩⟩
    · rw [RS_at hR hkl, lg_ge (RS_ok hR hkl) hr] at q2
      rw [List.drop_eq_getElem_cons hkl, posR_cons, if_neg q2]; rfl
    · rw [RS_at hR hkl, lg_ge (RS_ok hR hkl) hr] at q2
      rw [i_s, List.drop_eq_getElem_cons hkl, posR_cons, if_pos (Decidable.not_not.mp q2)]
      have := E93_l hS ha hR hr m (k + 1) (by omega)
      rw [show k + (posR r (G.drop (k + 1)) + 1) = k + 1 + posR r (G.drop (k + 1)) by omega]
      exact this
/-- placeOf -/
theorem E93 (hS : gk_Sh rr w) (ha : gk_rs a) (hR : RS w a G) {r : Rl} (hr : okR r) : gk_E d 93 [.ref (a + 1), .long (pk r)] w (.inl (some (.int (Int32.ofNat (posR r G))))) w := gk_E_i rfl rfl (sg_93_0 hS ha _ (by
  have := E93_l (d := d) hS ha hR hr G.length 0 (by omega)
  rw [Nat.zero_add, List.drop_zero] at this
  exact this))
theorem RS_has (hR : RS w a G) (hs : srt G) {r : Rl} (hr : okR r) (hp : posR r G < G.length) : (w_l w (a + 1)).getD (Int32.ofNat (posR r G)).toNatClampNeg 0 = pk r ↔ r ∈ G := by
  rw [RS_at hR hp, posR_mem hs hR.2.2.1 hr, List.getElem?_eq_getElem hp]
  constructor
  · intro e; rw [pk_inj (RS_ok hR hp) hr e]
  · intro e; rw [Option.some.inj e]
/-- has -/
theorem E92 (hS : gk_Sh rr w) (ha : gk_rs a) (hR : RS w a G) (hs : srt G) {r : Rl} (hr : okR r) : gk_E (d + 1) 92 [.ref (a + 1), .long (pk r)] w (.inl (some (.int (if r ∈ G then 1 else 0)))) w := by
  have h60 := RS_60 hR
  have hp := posR_le r G
  refine gk_E_i rfl rfl (sg_92_0 hS ha _ ⟨_, E93 hS ha hR hr, fun q => ⟨?_, rfl⟩, fun q => ⟨?_, fun q2 => ⟨?_, rfl⟩, fun q2 => ⟨?_, rfl⟩⟩⟩)
  · have := (RS_le hR (by omega)).mp q
    rw [if_neg]
    rw [posR_mem hs hR.2.2.1 hr, List.getElem?_eq_none (by omega)]
    simp
  all_goals have hlt : posR r G < G.length := by
              have : ¬ G.length ≤ posR r G := fun q3 => q ((RS_le hR (by omega)).mpr q3)
              omega
  · exact RS_out hR hlt
  · rw [lg_cmp_eq0, RS_has hR hs hr hlt] at q2
    rw [if_neg q2]
  · rw [lg_cmp_eq0, RS_has hR hs hr hlt] at q2
    rw [if_pos q2]
end RSS
theorem cpy_get (f g : List Int64) {sp dp n : Nat} (h1 : sp + n ≤ f.length) (h2 : dp + n ≤ g.length) (i : Nat) : (gk_cpy f g sp dp n).getD i 0 = if dp ≤ i ∧ i < dp + n then f.getD (sp + (i - dp)) 0 else g.getD i 0 := (congrFun (gk_cpy_fun f g sp dp n h1 h2) i).symm
theorem getD_set64 (xs : List Int64) {i : Nat} (h : i < xs.length) (y : Int64) (j : Nat) : (xs.set i y).getD j 0 = if j = i then y else xs.getD j 0 := by
  simp only [List.getD_eq_getElem?_getD, List.getElem?_set]
  by_cases hj : j = i
  · subst hj; simp [h]
  · simp [hj, Ne.symm hj]
theorem getD_set32 (xs : List Int32) {i : Nat} (h : i < xs.length) (y : Int32) (j : Nat) : (xs.set i y).getD j 0 = if j = i then y else xs.getD j 0 := by
  simp only [List.getD_eq_getElem?_getD, List.getElem?_set]
  by_cases hj : j = i
  · subst hj; simp [h]
  · simp [hj, Ne.symm hj]
theorem i_neg {k : Nat} (h : k < 2147483648) : ¬ Int32.ofNat k < 0 := by
  rw [show (0 : Int32) = Int32.ofNat 0 from rfl, i_lt h (by omega)]; omega
theorem rs_ne {a : Nat} : a + 1 ≠ a := by omega
section RS2
variable {d : Nat} {rr : List gk_S} {w : gk_Wd} {a : Nat} {G : List Rl}
theorem RS_len (hS : gk_Sh rr w) (ha : gk_rs a) : (w_l w (a + 1)).length = 60 := (w_lng hS ha.2).2
/-- removeAt -/
theorem E14 (hS : gk_Sh rr w) (ha : gk_rs a) (hR : RS w a G) {i : Nat} (hi : i < G.length) : ∃ w', gk_E d 14 [.ref (a + 1), .int (Int32.ofNat i)] w (.inl none) w' ∧ gk_Sh rr w' ∧ Fr [a + 1] [(a, 1)] w w' ∧ RS w' a (G.eraseIdx i) := by
  have h60 := RS_60 hR
  have hl := RS_len hS ha
  have e1 : Int32.ofNat i + 1 = Int32.ofNat (i + 1) := i_s i
  have e2 : (w_i w a 1 - Int32.ofNat i) - 1 = Int32.ofNat (G.length - i - 1) := by
    rw [hR.1, i_sub (by omega), show (1 : Int32) = Int32.ofNat 1 from rfl, i_sub (by omega)]
  refine ⟨_, gk_E_i rfl rfl (sg_14_0 hS ha _ ⟨⟨?_, ?_, ?_, ?_, ?_⟩, rfl, rfl⟩), ?_, ?_, ?_⟩
  · rw [e1]; exact i_neg (by omega)
  · exact i_neg (by omega)
  · rw [e2]; exact i_neg (by omega)
  · rw [e1, e2, i_nat (by omega), i_nat (by omega)]; omega
  · rw [e2, i_nat (by omega), i_nat (by omega)]; omega
  all_goals rw [e1, e2, i_nat (by omega), i_nat (by omega), i_nat (by omega)]
  · exact sh_si (sh_cpy hS ha.2 ha.2 ⟨by omega, by omega⟩) ha.1 rfl _
  · exact Fr_trans (Fr_sl List.mem_cons_self _) (Fr_si List.mem_cons_self _)
  · have hS1 := sh_cpy hS ha.2 ha.2 (sp := i + 1) (dp := i) (m := G.length - i - 1) ⟨by omega, by omega⟩
    refine ⟨?_, ?_, ?_, ?_⟩
    · rw [w_i_same hS1 ha.1 rfl, w_i_sl, hR.1, show (1 : Int32) = Int32.ofNat 1 from rfl, i_sub (by omega), List.length_eraseIdx_of_lt hi]
    · rw [List.length_eraseIdx_of_lt hi]; omega
    · exact fun r hr => hR.2.2.1 r (List.mem_of_mem_eraseIdx hr)
    · intro j r hj
      rw [w_l_si, w_l_same hS ha.2, cpy_get _ _ (by omega) (by omega)]
      rw [List.getElem?_eraseIdx] at hj
      have hjl : (if j < i then G[j]? else G[j + 1]?) = some r := hj
      by_cases hji : j < i
      · rw [if_pos hji] at hjl
        rw [if_neg (by omega)]
        exact hR.2.2.2 j r hjl
      · rw [if_neg hji] at hjl
        have := (List.getElem?_eq_some_iff.mp hjl).1
        rw [if_pos (by omega), show i + 1 + (j - i) = j + 1 by omega]
        exact hR.2.2.2 (j + 1) r hjl
/-- put: the rule is taken in -/
theorem RS_put (hS : gk_Sh rr w) (ha : gk_rs a) (hR : RS w a G) {r : Rl} (hr : okR r) (hl : G.length < 60) {w' : gk_Wd} (hw : w' = w_si (w_sl (w_sl w (a + 1) (gk_cpy (w_l w (a + 1)) (w_l w (a + 1)) (posR r G) (posR r G + 1) (G.length - posR r G))) (a + 1) ((w_l (w_sl w (a + 1) (gk_cpy (w_l w (a + 1)) (w_l w (a + 1)) (posR r G) (posR r G + 1) (G.length - posR r G))) (a + 1)).set (posR r G) (pk r))) a 1 (Int32.ofNat (G.length + 1))) : gk_Sh rr w' ∧ Fr [a + 1] [(a, 1)] w w' ∧ RS w' a (insR r G) := by
  have hp := posR_le r G
  have hlen := RS_len hS ha
  have hS1 := sh_cpy hS ha.2 ha.2 (sp := posR r G) (dp := posR r G + 1) (m := G.length - posR r G) ⟨by omega, by omega⟩
  have hS2 := sh_ls hS1 ha.2 (posR r G) (pk r)
  have hl1 := RS_len hS1 ha
  subst hw
  refine ⟨sh_si hS2 ha.1 rfl _, Fr_trans (Fr_trans (Fr_sl List.mem_cons_self _) (Fr_sl List.mem_cons_self _)) (Fr_si List.mem_cons_self _), ?_, ?_, ?_, ?_⟩
  · rw [w_i_same hS2 ha.1 rfl, insR_len]
  · rw [insR_len]; omega
  · intro q hq
    rcases (insR_mem r G q).mp hq with rfl | hq
    · exact hr
    · exact hR.2.2.1 q hq
  · intro j q hj
    rw [w_l_si, w_l_same hS1 ha.2, getD_set64 _ (by omega), w_l_same hS ha.2, cpy_get _ _ (by omega) (by omega)]
    unfold insR at hj
    by_cases h1 : j < posR r G
    · rw [List.getElem?_append_left (by simp; omega), List.getElem?_take_of_lt h1] at hj
      rw [if_neg (by omega), if_neg (by omega)]
      exact hR.2.2.2 j q hj
    · rw [List.getElem?_append_right (by simp; omega)] at hj
      have e : (G.take (posR r G)).length = posR r G := by simp; omega
      rw [e] at hj
      by_cases h2 : j = posR r G
      · subst h2
        rw [Nat.sub_self, List.getElem?_cons_zero] at hj
        rw [if_pos rfl, Option.some.inj hj]
      · rw [show j - posR r G = (j - posR r G - 1) + 1 by omega, List.getElem?_cons_succ, List.getElem?_drop] at hj
        have h3 := (List.getElem?_eq_some_iff.mp hj).1
        rw [if_neg h2, if_pos (by omega)]
        have := hR.2.2.2 _ q hj
        rw [show posR r G + (j - (posR r G + 1)) = posR r G + (j - posR r G - 1) by omega]
        exact this
/-- put(TOO_LONG) -/
theorem E94_n (hS : gk_Sh rr w) (ha : gk_rs a) : gk_E (d + 1) 94 [.ref (a + 1), .long (-1)] w (.inl (some (.int 0))) w := gk_E_i rfl rfl (sg_94_0 hS ha _ ⟨fun q => absurd (lg_cmp_eq0.mpr rfl) q, fun _ => ⟨rfl, rfl⟩⟩)
theorem E94_c (hS : gk_Sh rr w) (ha : gk_rs a) (hR : RS w a G) (hs : srt G) {r : Rl} (hr : okR r) {v : Int32} {w' : gk_Wd} (h1 : r ∈ G → v = 1 ∧ w' = w) (h2 : r ∉ G → G.length = 60 → v = 0 ∧ w' = w)
    (h3 : r ∉ G → G.length < 60 → v = 1 ∧ w' = w_si (w_sl (w_sl w (a + 1) (gk_cpy (w_l w (a + 1)) (w_l w (a + 1)) (posR r G) (posR r G + 1) (G.length - posR r G))) (a + 1) ((w_l (w_sl w (a + 1) (gk_cpy (w_l w (a + 1)) (w_l w (a + 1)) (posR r G) (posR r G + 1) (G.length - posR r G))) (a + 1)).set (posR r G) (pk r))) a 1 (Int32.ofNat (G.length + 1))) : gk_E (d + 1) 94 [.ref (a + 1), .long (pk r)] w (.inl (some (.int v))) w' := by
  have h60 := RS_60 hR
  have hp := posR_le r G
  have hlen := RS_len hS ha
  have e1 : Int32.ofNat (posR r G) + 1 = Int32.ofNat (posR r G + 1) := i_s _
  have e2 : w_i w a 1 - Int32.ofNat (posR r G) = Int32.ofNat (G.length - posR r G) := by rw [hR.1, i_sub hp]
  have hin : ¬ (Int32.ofNat (posR r G) < 0) := i_neg (by omega)
  have e3 : ∀ W : gk_Wd, w_i W a 1 = Int32.ofNat G.length → w_i W a 1 + 1 = Int32.ofNat (G.length + 1) := fun W h => by rw [h, i_s]
  have h60' : (w_i w a 1 < 60) ↔ G.length < 60 := by rw [hR.1]; exact i_lt (b := 60) (by omega) (by omega)
  refine gk_E_i rfl rfl (sg_94_0 hS ha _ ⟨fun _ => ⟨_, E93 hS ha hR hr, fun q => ?_, fun q => ?_⟩, fun q => absurd (lg_cmp_eq0.mp q) (pk_ne1 hr)⟩)
  · have hpl := (RS_le hR (by omega)).mp q
    have hn : r ∉ G := by
      rw [posR_mem hs hR.2.2.1 hr, List.getElem?_eq_none (by omega)]
      simp
    refine ⟨fun q1 => ⟨⟨hin, ?_, ?_, ?_, ?_⟩, ?_, ?_, ?_⟩, fun q1 => ?_⟩
    · rw [e1]; exact i_neg (by omega)
    · rw [e2]; exact i_neg (by omega)
    · rw [e2, i_nat (by omega), i_nat (by omega)]; omega
    · have := h60'.mp q1
      rw [e1, e2, i_nat (by omega), i_nat (by omega)]; omega
    · have := h60'.mp q1
      exact o_ok (by omega) (by omega)
    · rw [(h3 hn (h60'.mp q1)).1]
    · rw [(h3 hn (h60'.mp q1)).2, e1, e2, i_nat (by omega), i_nat (by omega), i_nat (by omega), w_i_sl, w_i_sl, e3 w hR.1]
    · have hfull : G.length = 60 := by
        have : ¬ G.length < 60 := fun q2 => q1 (h60'.mpr q2)
        omega
      rw [(h2 hn hfull).1]
      exact ⟨rfl, (h2 hn hfull).2⟩
  · have hlt : posR r G < G.length := by
      have : ¬ G.length ≤ posR r G := fun q3 => q ((RS_le hR (by omega)).mpr q3)
      omega
    refine ⟨RS_out hR hlt, fun q1 => ?_, fun q1 => ?_⟩
    · rw [lg_cmp_eq0, RS_has hR hs hr hlt] at q1
      refine ⟨fun q2 => ⟨⟨hin, ?_, ?_, ?_, ?_⟩, RS_out hR hlt, ?_, ?_⟩, fun q2 => ?_⟩
      · rw [e1]; exact i_neg (by omega)
      · rw [e2]; exact i_neg (by omega)
      · rw [e2, i_nat (by omega), i_nat (by omega)]; omega
      · have := h60'.mp q2
        rw [e1, e2, i_nat (by omega), i_nat (by omega)]; omega
      · rw [(h3 q1 (h60'.mp q2)).1]
      · rw [(h3 q1 (h60'.mp q2)).2, e1, e2, i_nat (by omega), i_nat (by omega), i_nat (by omega), w_i_sl, w_i_sl, e3 w hR.1]
      · have hfull : G.length = 60 := by
          have : ¬ G.length < 60 := fun q3 => q2 (h60'.mpr q3)
          omega
        rw [(h2 q1 hfull).1]
        exact ⟨rfl, (h2 q1 hfull).2⟩
    · rw [lg_cmp_eq0, RS_has hR hs hr hlt] at q1
      rw [(h1 q1).1]
      exact ⟨rfl, (h1 q1).2⟩
/-- what put does with a row of rules; none: it is refused -/
def putR (o : Option Rl) (G : List Rl) : Option (List Rl) := match o with
  | none => none
  | some r => if r ∈ G then some G else if G.length < 60 then some (insR r G) else none
/-- put -/
theorem E94 (hS : gk_Sh rr w) (ha : gk_rs a) (hR : RS w a G) (hs : srt G) {o : Option Rl} (ho : okO o) : ∃ w', gk_E (d + 1) 94 [.ref (a + 1), .long (pko o)] w (.inl (some (.int (if (putR o G).isSome then 1 else 0)))) w' ∧ gk_Sh rr w' ∧ Fr [a + 1] [(a, 1)] w w' ∧ (∀ G', putR o G = some G' → RS w' a G' ∧ srt G') := by
  have h60 := RS_60 hR
  cases o with
  | none => exact ⟨w, E94_n hS ha, hS, Fr_refl, fun _ h => by cases h⟩
  | some r =>
    have hr := ho r rfl
    by_cases h1 : r ∈ G
    · refine ⟨w, E94_c hS ha hR hs hr (fun _ => ⟨by simp [putR, h1], rfl⟩) (fun q => absurd h1 q) (fun q => absurd h1 q), hS, Fr_refl, fun G' h => ?_⟩
      simp only [putR, h1, if_true] at h
      cases h
      exact ⟨hR, hs⟩
    · by_cases h2 : G.length < 60
      · obtain ⟨s1, s2, s3⟩ := RS_put hS ha hR hr h2 rfl
        refine ⟨_, E94_c hS ha hR hs hr (fun q => absurd q h1) (fun _ q => by omega) (fun _ _ => ⟨by simp [putR, h1, h2], rfl⟩), s1, s2, fun G' h => ?_⟩
        simp only [putR, h1, h2, if_true, if_false] at h
        cases h
        exact ⟨s3, insR_srt hs hR.2.2.1 hr h1⟩
      · refine ⟨w, E94_c hS ha hR hs hr (fun q => absurd q h1) (fun _ _ => ⟨by simp [putR, h1, h2], rfl⟩) (fun _ q => absurd q h2), hS, Fr_refl, fun G' h => ?_⟩
        simp only [putR, h1, h2, if_false] at h
        cases h
/-- remove -/
theorem E119 (hS : gk_Sh rr w) (ha : gk_rs a) (hR : RS w a G) (hs : srt G) {r : Rl} (hr : okR r) : ∃ w', gk_E (d + 1) 119 [.ref (a + 1), .long (pk r)] w (.inl none) w' ∧ gk_Sh rr w' ∧ Fr [a + 1] [(a, 1)] w w' ∧ RS w' a (if r ∈ G then G.eraseIdx (posR r G) else G) := by
  have h60 := RS_60 hR
  have hp := posR_le r G
  by_cases h1 : r ∈ G
  · have hlt : posR r G < G.length := by
      have := (posR_mem hs hR.2.2.1 hr).mp h1
      exact (List.getElem?_eq_some_iff.mp this).1
    obtain ⟨w', e1, e2, e3, e4⟩ := E14 (d := d) hS ha hR hlt
    rw [if_pos h1]
    refine ⟨w', gk_E_i rfl rfl (sg_119_0 hS ha _ ⟨_, E93 hS ha hR hr, fun q => ?_, fun q => ⟨RS_out hR hlt, fun q1 => ?_, fun _ => ⟨w', e1, e2, rfl, rfl⟩⟩⟩), e2, e3, e4⟩
    · exact absurd ((RS_le hR (by omega)).mp q) (by omega)
    · exact absurd (lg_cmp_eq0.mpr ((RS_has hR hs hr hlt).mpr h1)) q1
  · rw [if_neg h1]
    refine ⟨w, gk_E_i rfl rfl (sg_119_0 hS ha _ ⟨_, E93 hS ha hR hr, fun _ => ⟨rfl, rfl⟩, fun q => ?_⟩), hS, Fr_refl, hR⟩
    have hlt : posR r G < G.length := by
      have : ¬ G.length ≤ posR r G := fun q3 => q ((RS_le hR (by omega)).mpr q3)
      omega
    exact ⟨RS_out hR hlt, fun _ => ⟨rfl, rfl⟩, fun q1 => absurd ((RS_has hR hs hr hlt).mp (lg_cmp_eq0.mp q1)) h1⟩
/-- copyFrom -/
theorem E20 {b : Nat} (hS : gk_Sh rr w) (ha : gk_rs a) (hb : gk_rs b) (hab : a ≠ b) (hR : RS w b G) : ∃ w', gk_E d 20 [.ref (a + 1), .ref (b + 1)] w (.inl none) w' ∧ gk_Sh rr w' ∧ Fr [a + 1] [(a, 1)] w w' ∧ RS w' a G := by
  have h60 := RS_60 hR
  have hl := RS_len hS ha
  have hl' := RS_len hS hb
  have e1 : (w_i w b 1).toNatClampNeg = G.length := by rw [hR.1, i_nat (by omega)]
  refine ⟨_, gk_E_i rfl rfl (sg_20_0 hS ha hb ⟨⟨by decide, by decide, ?_, ?_, ?_⟩, rfl, rfl⟩), ?_, ?_, ?_⟩
  · rw [hR.1]; exact i_neg (by omega)
  · rw [e1]; omega
  · rw [e1]; omega
  all_goals rw [e1]
  · exact sh_si (sh_cpy hS hb.2 ha.2 ⟨by omega, by omega⟩) ha.1 rfl _
  · exact Fr_trans (Fr_sl List.mem_cons_self _) (Fr_si List.mem_cons_self _)
  · have hS1 := sh_cpy hS hb.2 ha.2 (sp := 0) (dp := 0) (m := G.length) ⟨by omega, by omega⟩
    refine ⟨?_, h60, hR.2.2.1, ?_⟩
    · rw [w_i_same hS1 ha.1 rfl, w_i_sl, hR.1]
    · intro j r hj
      have := (List.getElem?_eq_some_iff.mp hj).1
      rw [w_l_si, w_l_same hS ha.2, cpy_get _ _ (by omega) (by omega), if_pos (by omega)]
      rw [show 0 + (j - 0) = j by omega]
      exact hR.2.2.2 j r hj
/-- empty -/
theorem E17 (hS : gk_Sh rr w) (ha : gk_rs a) : ∃ w', gk_E d 17 [.ref (a + 1)] w (.inl none) w' ∧ gk_Sh rr w' ∧ Fr [a + 1] [(a, 1)] w w' ∧ RS w' a [] := ⟨_, gk_E_i rfl rfl (sg_17_0 hS ha ⟨rfl, rfl⟩), sh_si hS ha.1 rfl _, Fr_si List.mem_cons_self _, by
  refine ⟨w_i_same hS ha.1 rfl, by simp, by simp, by simp⟩⟩
theorem E19_l {b : Nat} (hS : gk_Sh rr w) (ha : gk_rs a) (hb : gk_rs b) {H : List Rl} (hR : RS w a G) (hH : RS w b H) (he : G.length = H.length) : ∀ (m k : Nat), k + m = G.length → gk_W none d 19 15 [some (.ref (a + 1)), some (.ref (b + 1)), some (.int (Int32.ofNat k))] [] w (.inl (some (.int (if G.drop k = H.drop k then 1 else 0)))) w
  | 0, k, hk => by
    have := RS_60 hR
    refine sg_19_15 hS ha hb _ ⟨fun _ => ⟨?_, rfl⟩, fun q => absurd ((RS_le hR (by omega)).mpr (by omega)) q⟩
    rw [List.drop_eq_nil_of_le (by omega), List.drop_eq_nil_of_le (by omega), if_pos rfl]
  | m + 1, k, hk => by
    have := RS_60 hR
    have hkl : k < G.length := by omega
    have hkh : k < H.length := by omega
    refine sg_19_15 hS ha hb _ ⟨fun q => absurd ((RS_le hR (by omega)).mp q) (by omega), fun _ => ⟨RS_out hR hkl, RS_out hR hkl, fun q2 => ?_, fun q2 => ⟨?_, rfl⟩⟩⟩
    · rw [RS_at hR hkl, RS_at hH hkh, lg_cmp_eq0] at q2
      have e := pk_inj (RS_ok hR hkl) (RS_ok hH hkh) q2
      have e2 : G.drop k = H.drop k ↔ G.drop (k + 1) = H.drop (k + 1) := by
        rw [List.drop_eq_getElem_cons hkl, List.drop_eq_getElem_cons hkh, e]
        exact ⟨fun h => (List.cons.inj h).2, fun h => by rw [h]⟩
      rw [i_s]
      simp only [e2]
      exact E19_l hS ha hb hR hH he m (k + 1) (by omega)
    · rw [RS_at hR hkl, RS_at hH hkh, lg_cmp_eq0] at q2
      rw [List.drop_eq_getElem_cons hkl, List.drop_eq_getElem_cons hkh, if_neg]
      intro e
      exact q2 (by rw [(List.cons.inj e).1])
/-- sameAs -/
theorem E19 {b : Nat} (hS : gk_Sh rr w) (ha : gk_rs a) (hb : gk_rs b) {H : List Rl} (hR : RS w a G) (hH : RS w b H) : gk_E d 19 [.ref (a + 1), .ref (b + 1)] w (.inl (some (.int (if G = H then 1 else 0)))) w := gk_E_i rfl rfl (sg_19_0 hS ha hb ⟨fun q => by
  have h1 := RS_60 hR
  have h2 := RS_60 hH
  rw [hR.1, hH.1, i_eq (by omega) (by omega)] at q
  exact E19_l hS ha hb hR hH q G.length 0 (by omega), fun q => ⟨by
  rw [hR.1, hH.1] at q
  rw [if_neg (fun e => q (by rw [e]))], rfl⟩⟩)
/-- the bits of the left sides -/
def lsb (G : List Rl) (x : Int32) : Int32 := G.foldl (fun x r => x ||| ((1 : Int32) <<< (Int32.ofNat r.1 &&& 31))) x
theorem lsb_bt : ∀ {G : List Rl}, (∀ r ∈ G, okR r) → ∀ (x : Int32) (v : Nat), bt (lsb G x) v = true ↔ bt x v = true ∨ ∃ r ∈ G, r.1 = v
  | [], _, x, v => by simp [lsb]
  | g :: G, h, x, v => by
    have h1 := (h g List.mem_cons_self).1
    show bt (lsb G _) v = true ↔ _
    rw [lsb_bt (fun r hr => h r (List.mem_cons_of_mem _ hr)), bt_or, bt_pow (by omega)]
    simp only [Bool.or_eq_true, decide_eq_true_eq]
    constructor
    · rintro ((h | h) | ⟨q, hq, e⟩)
      · exact Or.inl h
      · exact Or.inr ⟨g, List.mem_cons_self, h.symm⟩
      · exact Or.inr ⟨q, List.mem_cons_of_mem _ hq, e⟩
    · rintro (h | ⟨q, hq, e⟩)
      · exact Or.inl (Or.inl h)
      · rcases List.mem_cons.mp hq with rfl | hq
        · exact Or.inl (Or.inr e.symm)
        · exact Or.inr ⟨q, hq, e⟩
theorem E109_l (hS : gk_Sh rr w) (ha : gk_rs a) (hR : RS w a G) : ∀ (m k : Nat) (x : Int32), k + m = G.length → gk_W none (d + 1) 109 4 [some (.ref (a + 1)), some (.int x), some (.int (Int32.ofNat k))] [] w (.inl (some (.int (lsb (G.drop k) x)))) w
  | 0, k, x, hk => by
    have := RS_60 hR
    refine sg_109_4 hS ha _ _ ⟨fun _ => ⟨?_, rfl⟩, fun q => absurd ((RS_le hR (by omega)).mpr (by omega)) q⟩
    rw [List.drop_eq_nil_of_le (by omega)]; rfl
  | m + 1, k, x, hk => by
    have := RS_60 hR
    have hkl : k < G.length := by omega
    refine sg_109_4 hS ha _ _ ⟨fun q => absurd ((RS_le hR (by omega)).mp q) (by omega), fun _ => ⟨RS_out hR hkl, ?_⟩⟩
    rw [RS_at hR hkl, f_25_pk (RS_ok hR hkl), i_s, List.drop_eq_getElem_cons hkl]
    exact E109_l hS ha hR m (k + 1) _ (by omega)
/-- leftSides -/
theorem E109 (hS : gk_Sh rr w) (ha : gk_rs a) (hR : RS w a G) : gk_E (d + 1) 109 [.ref (a + 1)] w (.inl (some (.int (lsb G 0)))) w := gk_E_i rfl rfl (sg_109_0 hS ha (E109_l hS ha hR G.length 0 0 (by omega)))
end RS2

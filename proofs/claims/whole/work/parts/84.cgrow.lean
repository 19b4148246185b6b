/-! part 58: whether there are finitely many words: the class -/
def ltS (S : Nat → Bool) (s : Nat) : Bool := !decide (s < 16) || S s
theorem ltS_iff {S : Nat → Bool} {s : Nat} : ltS S s = true ↔ 16 ≤ s ∨ S s = true := by
  unfold ltS
  rw [Bool.or_eq_true]
  simp
/-- variables that produce a letter -/
def clW (G : List Rl) (S : Nat → Bool) : Prop := ∀ r ∈ G, (∃ s ∈ r.2, ltS S s = true) → S r.1 = true
def isW (G : List Rl) (S : Nat → Bool) : Prop := clW G S ∧ ∀ T : Nat → Bool, clW G T → ∀ v, S v = true → T v = true
theorem isW_uniq {G : List Rl} {S T : Nat → Bool} (h : isW G S) (h' : isW G T) : S = T := sle_anti _ _ (h.2 T h'.1) (h'.2 S h.1)
theorem ltS_mono {S T : Nat → Bool} (h : sle S T) {s : Nat} (hs : ltS S s = true) : ltS T s = true := by
  rw [ltS_iff] at hs ⊢
  exact hs.imp id (h s)
def pmP (T : Nat → Nat → Bool) (S : Nat → Bool) (r : Rl) : Prop := ∃ (k : Nat) (hk : k < r.2.length), r.2[k] < 16 ∧ T r.2[k] r.1 = true ∧ ∃ (i : Nat) (hi : i < r.2.length), i ≠ k ∧ ltS S r.2[i] = true
def finR (G : List Rl) (b : Bool) : Prop := ∃ (T : Nat → Nat → Bool) (S : Nat → Bool), isT (eM (fun _ => true) G) T ∧ isW G S ∧ (b = true ↔ ¬ ∃ r ∈ G, pmP T S r)
theorem finR_uniq {G : List Rl} {b b' : Bool} (h : finR G b) (h' : finR G b') : b = b' := by
  obtain ⟨T, S, h1, h2, h3⟩ := h
  obtain ⟨T', S', h1', h2', h3'⟩ := h'
  obtain rfl := isW_uniq h2 h2'
  have e : (∃ r ∈ G, pmP T S r) ↔ ∃ r ∈ G, pmP T' S r := by
    refine exists_congr fun r => and_congr Iff.rfl ?_
    unfold pmP
    refine exists_congr fun k => exists_congr fun hk => and_congr_right fun h16 => ?_
    rw [isT_uniq h1 h1' h16]
  rw [Bool.eq_iff_iff, h3, h3', e]
def gwS (x : Int32) (r : Rl) : Int32 := if ¬ hl r.2 = 0 ∨ ¬ (vs r.2 0 &&& x) = 0 then x ||| ((1 : Int32) <<< (Int32.ofNat r.1 &&& 31)) else x
theorem gwS_t {x : Int32} {r : Rl} (h : ¬ hl r.2 = 0 ∨ ¬ (vs r.2 0 &&& x) = 0) : gwS x r = x ||| ((1 : Int32) <<< (Int32.ofNat r.1 &&& 31)) := if_pos h
theorem gwS_f {x : Int32} {r : Rl} (h1 : hl r.2 = 0) (h2 : (vs r.2 0 &&& x) = 0) : gwS x r = x := if_neg (by
  rintro (q | q)
  · exact q h1
  · exact q h2)
theorem gwS_cond {x : Int32} {r : Rl} : (¬ hl r.2 = 0 ∨ ¬ (vs r.2 0 &&& x) = 0) ↔ ∃ s ∈ r.2, ltS (bt x) s = true := by
  rw [hl_0, bt_eq0]
  constructor
  · rintro (h | h)
    · refine Classical.byContradiction fun hc => h fun v hv => ?_
      refine Nat.lt_of_not_le fun h16 => hc ⟨v, hv, ltS_iff.mpr (Or.inl h16)⟩
    · refine Classical.byContradiction fun hc => h fun i hi => ?_
      rw [bt_and, vs_bt, bt_zero]
      by_cases hm : i < 16 ∧ i ∈ r.2
      · rcases hb : bt x i with _ | _
        · simp
        · exact absurd ⟨i, hm.2, ltS_iff.mpr (Or.inr hb)⟩ hc
      · simp [hm]
  · rintro ⟨s, hs, hl⟩
    by_cases h16 : s < 16
    · right
      intro h
      have := h s (by omega)
      rw [bt_and, vs_bt, bt_zero] at this
      rcases ltS_iff.mp hl with q | q
      · omega
      · simp [h16, hs, q] at this
    · left
      intro h
      exact h16 (h s hs)
theorem gwS_le (x : Int32) (r : Rl) : ble x (gwS x r) := by
  unfold gwS
  split
  · exact ble_or _ _
  · exact ble_refl _
def gwR (G : List Rl) (x : Int32) : Int32 := G.foldl gwS x
theorem gwR_le (G : List Rl) (x : Int32) : ble x (gwR G x) := fold_le ble ble_refl ble_trans _ gwS_le G x
theorem gwR_fix {G : List Rl} (hG : ∀ r ∈ G, okR r) {x : Int32} (h : gwR G x = x) : clW G (bt x) := fun r hr hs => by
  have h1 := fold_fix ble ble_refl ble_trans ble_anti _ gwS_le G x h r hr
  have h2 := (hG r hr).1
  unfold gwS at h1
  rw [if_pos (gwS_cond.mpr hs)] at h1
  rw [← h1, bt_or, bt_pow (by omega)]
  simp
theorem gwR_inv {G : List Rl} (hG : ∀ r ∈ G, okR r) {T : Nat → Bool} (hT : clW G T) {x : Int32} (h : sle (bt x) T) : sle (bt (gwR G x)) T := fold_inv (fun x => sle (bt x) T) _ G (fun x r hr hx v hv => by
  have h2 := (hG r hr).1
  unfold gwS at hv
  split at hv
  · rename_i hc
    rw [bt_or, bt_pow (by omega)] at hv
    simp only [Bool.or_eq_true, decide_eq_true_eq] at hv
    rcases hv with hv | rfl
    · exact hx v hv
    · obtain ⟨s, hs, hl⟩ := gwS_cond.mp hc
      exact hT r hr ⟨s, hs, ltS_mono hx hl⟩
  · exact hx v hv) x h
theorem gwR_16 {G : List Rl} (hG : ∀ r ∈ G, okR r) {x : Int32} (h : ∀ v, bt x v = true → v < 16) : ∀ v, bt (gwR G x) v = true → v < 16 := by
  have := gwR_inv hG (T := fun v => decide (v < 16)) (fun r hr _ => decide_eq_true (hG r hr).1) (x := x) (fun v hv => decide_eq_true (h v hv))
  exact fun v hv => of_decide_eq_true (this v hv)
section CG
variable {d : Nat} {rr : List gk_S} {w : gk_Wd} {G : List Rl}
theorem E47_l (hS : gk_Sh rr w) (hR : RS w 5 G) : ∀ (m k : Nat) (X : Int32), k + m = 16 → (∀ T : Nat → Bool, clW G T → sle (bt X) T) → (∀ v, bt X v = true → v < 16) → k ≤ cnt 16 (bt X) → ∃ Y : Int32, isW G (bt Y) ∧ gk_W none (d + 2) 47 4 [some (.ref 6), some (.int X), some (.int (Int32.ofNat k)), none, none, none, none] [] w (.inl (some (.int Y))) w
  | 0, k, X, hk, h1, h2, h3 => by
    obtain rfl : k = 16 := by omega
    exact ⟨X, ⟨fun r hr _ => cnt_full 16 h3 _ (hR.2.2.1 r hr).1, h1⟩, sg_47_4 (d := d + 1) hS rs_5 _ _ ⟨fun _ => ⟨rfl, rfl⟩, fun q => absurd y16 q⟩⟩
  | m + 1, k, X, hk, h1, h2, h3 => by
    have h60 := RS_60 hR
    have h4 : ∀ T : Nat → Bool, clW G T → sle (bt (gwR G X)) T := fun T hT => gwR_inv hR.2.2.1 hT (h1 T hT)
    have h5 := gwR_16 hR.2.2.1 h2
    obtain ⟨-, w1, hw, g1⟩ := up_loop (α := Unit) (d := d + 2) (mi := 47) (pc := 15) G.length (fun j _ => [some (.ref (5 + 1)), some (.int ((G.take j).foldl gwS X)), some (.int (Int32.ofNat k)), some (.int X), some (.int (Int32.ofNat j)), none, none])
      (fun j _ w1 => w1 = w)
      (fun j _ w1 hj hI => by
        obtain rfl := hI
        have ef := RS_f23 hR hj
        have hok := RS_ok hR hj
        have hle : ¬ f_13 w1 5 ≤ Int32.ofNat j := fun q => absurd ((RS_le hR (by omega)).mp q) (by omega)
        have et : (G.take (j + 1)).foldl gwS X = gwS ((G.take j).foldl gwS X) G[j] := by rw [List.take_succ_eq_append_getElem hj, List.foldl_append]; rfl
        refine ⟨(), w1, rfl, fun r w' h => ?_⟩
        rw [et] at h
        have el : f_25 (f_23 w1 5 (Int32.ofNat j)) = Int32.ofNat G[j].1 := by rw [ef, f_25_pk hok]
        refine sg_47_15 (d := d + 1) hS rs_5 _ _ _ _ ⟨fun q => absurd q hle, fun _ => ⟨RS_out hR hj, hl G[j].2, by rw [ef]; exact E34 hS hok, fun q => ?_, fun q => ⟨vs G[j].2 0, by rw [ef]; exact E33 hS hok, fun q2 => ?_, fun q2 => ?_⟩⟩⟩
        · rw [gwS_t (Or.inl q)] at h
          rw [el, i_s]; exact h
        · rw [gwS_f q q2] at h
          rw [i_s]; exact h
        · rw [gwS_t (Or.inr q2)] at h
          rw [el, i_s]; exact h) G.length 0 () w (by omega) rfl
    have et : (G.take G.length).foldl gwS X = gwR G X := by rw [List.take_of_length_le (Nat.le_refl _)]; rfl
    rw [et, hw] at g1
    have hend : f_13 w 5 ≤ Int32.ofNat G.length := (RS_le hR (by omega)).mpr (Nat.le_refl _)
    by_cases hx : gwR G X = X
    · refine ⟨X, ⟨gwR_fix hR.2.2.1 hx, h1⟩, sg_47_4 (d := d + 1) hS rs_5 _ _ ⟨fun q => absurd q (n16 (by omega)), fun _ => g1 _ _ ?_⟩⟩
      rw [hx]
      exact sg_47_15 (d := d + 1) hS rs_5 _ _ _ _ ⟨fun _ => ⟨fun q => absurd rfl q, fun _ => ⟨rfl, rfl⟩⟩, fun q => absurd hend q⟩
    · obtain ⟨Y, hY, hW⟩ := E47_l hS hR m (k + 1) (gwR G X) (by omega) h4 h5 (by
        have := cnt_lt 16 (S := bt X) (T := bt (gwR G X)) (fun i _ => gwR_le G X i) (bne_ex (gwR_le G X) (fun e => hx e.symm) h5)
        omega)
      refine ⟨Y, hY, sg_47_4 (d := d + 1) hS rs_5 _ _ ⟨fun q => absurd q (n16 (by omega)), fun _ => g1 _ _ ?_⟩⟩
      refine sg_47_15 (d := d + 1) hS rs_5 _ _ _ _ ⟨fun _ => ⟨fun _ => ?_, fun q => absurd q hx⟩, fun q => absurd hend q⟩
      rw [i_s]; exact hW
/-- lettered -/
theorem E47 (hS : gk_Sh rr w) (hR : RS w 5 G) : ∃ Y : Int32, isW G (bt Y) ∧ gk_E (d + 2) 47 [.ref 6] w (.inl (some (.int Y))) w := by
  obtain ⟨Y, h1, h2⟩ := E47_l (d := d) hS hR 16 0 0 (by omega) (fun T _ v hv => by rw [bt_zero] at hv; cases hv) (fun v hv => by rw [bt_zero] at hv; cases hv) (Nat.zero_le _)
  exact ⟨Y, h1, gk_E_i rfl rfl (sg_47_0 (d := d + 1) hS rs_5 h2)⟩
/-- findDescendants -/
theorem E45 (hS : gk_Sh rr w) (hR : RS w 5 G) : ∃ (T : Nat → Nat → Bool) (w' : gk_Wd), isT (eM (fun _ => true) G) T ∧ gk_E (d + 2) 45 [.ref 18, .ref 6] w (.inl none) w' ∧ gk_Sh rr w' ∧ Fr [18] [] w w' ∧ RW w' 18 T := by
  have h60 := RS_60 hR
  obtain ⟨-, w1, ⟨s1, f1, h1⟩, g1⟩ := up_loop (α := Unit) (d := d + 2) (mi := 45) (pc := 2) 16 (fun k _ => [some (.ref 18), some (.ref (5 + 1)), some (.int (Int32.ofNat k))])
    (fun k _ w1 => gk_Sh rr w1 ∧ Fr [18] [] w w1 ∧ ∀ v, v < k → (w_a w1 18).getD v 0 = 0)
    (fun k _ w1 hk hI => by
      obtain ⟨s1, f1, h1⟩ := hI
      have hl := (w_int s1 ly_18).2
      refine ⟨(), _, ⟨sh_as s1 ly_18 k 0, Fr_trans f1 (Fr_sa (by simp) _), fun v hv => ?_⟩, fun r w' g => sg_45_2 (d := d + 1) s1 rs_5 _ ⟨fun q => absurd q (n16 hk), fun _ => ⟨o16 hk, by rw [i_nat (by omega), i_s]; exact g⟩⟩⟩
      rw [w_a_same s1 ly_18, getD_set32 _ (by omega)]
      by_cases e : v = k
      · rw [if_pos e]
      · rw [if_neg e]; exact h1 v (by omega)) 16 0 () w (by omega) ⟨hS, Fr_refl, fun v hv => by omega⟩
  obtain ⟨-, w2, ⟨s2, f2, h2⟩, g2⟩ := up_loop (α := Unit) (d := d + 2) (mi := 45) (pc := 26) G.length (fun k _ => [some (.ref 18), some (.ref (5 + 1)), some (.int (Int32.ofNat k))])
    (fun k _ w2 => gk_Sh rr w2 ∧ Fr [18] [] w w2 ∧ RW w2 18 (eM (fun _ => true) (G.take k)))
    (fun k _ w2 hk hI => by
      obtain ⟨s2, f2, h2⟩ := hI
      have R2 : RS w2 5 G := RS_Fr hR f2 (by decide) (by simp)
      have ef := RS_f23 R2 hk
      have hok := RS_ok R2 hk
      have hle : ¬ f_13 w2 5 ≤ Int32.ofNat k := fun q => absurd ((RS_le R2 (by omega)).mp q) (by omega)
      have el : f_25 (f_23 w2 5 (Int32.ofNat k)) = Int32.ofNat G[k].1 := by rw [ef, f_25_pk hok]
      refine ⟨(), _, ⟨sh_as s2 ly_18 G[k].1 _, Fr_trans f2 (Fr_sa (by simp) _), RW_ext (RW_or s2 ly_18 h2 hok) fun i hi j => by rw [eM_snoc _ hk]; simp⟩, fun r w' g => sg_45_26 (d := d + 1) s2 rs_5 _ ⟨fun q => absurd q hle, fun _ => ⟨RS_out R2 hk, by rw [el]; exact o16 hok.1, RS_out R2 hk, vs G[k].2 0, by rw [ef]; exact E33 s2 hok, by rw [el]; exact o16 hok.1, ?_⟩⟩⟩
      rw [el, i_nat (by have := hok.1; omega), i_s]; exact g) G.length 0 () w1 (by omega) ⟨s1, f1, fun i hi j => by rw [h1 i hi, bt_zero]; simp [eM]⟩
  rw [List.take_of_length_le (Nat.le_refl _)] at h2
  obtain ⟨T, w3, hT, e3, s3, f3, h3⟩ := E46 (d := d) ly_18 s2 h2
  have R2 : RS w2 5 G := RS_Fr hR f2 (by decide) (by simp)
  exact ⟨T, w3, hT, gk_E_i rfl rfl (sg_45_0 (d := d + 1) hS rs_5 (g1 _ _ (sg_45_2 (d := d + 1) s1 rs_5 _ ⟨fun _ => g2 _ _ (sg_45_26 (d := d + 1) s2 rs_5 _ ⟨fun _ => ⟨w3, e3, s3, rfl, rfl⟩, fun q => absurd ((RS_le R2 (by omega)).mpr (Nat.le_refl _)) q⟩), fun q => absurd y16 q⟩))), s3, Fr_trans f2 f3, h3⟩
theorem f_49_S {X : Int32} {s : Nat} (hs : s < 22) : f_49 (Int32.ofNat s) X = 0 ↔ ltS (bt X) s = false := by
  unfold f_49 ltS
  by_cases h16 : s < 16
  · rw [if_neg (by rw [f_28_0 (by omega)]; omega), f_36_eq X (by omega), decide_eq_true h16]
    cases bt X s <;> decide
  · rw [if_pos (by rw [f_28_0 (by omega)]; omega), decide_eq_false h16]
    exact ⟨fun q => absurd q (by decide), fun q => by cases q⟩
theorem others {p : Nat → Bool} {s : List Nat} {k : Nat} (hk : k < s.length) : (s.filter p).length = (if p s[k] = true then 1 else 0) + ((s.eraseIdx k).filter p).length := by
  have e : s.eraseIdx k = s.take k ++ s.drop (k + 1) := List.eraseIdx_eq_take_drop_succ _ _
  have e2 : s = s.take k ++ s[k] :: s.drop (k + 1) := by rw [← List.drop_eq_getElem_cons hk, List.take_append_drop]
  rw [e, List.filter_append, List.length_append]
  have e3 : (s.filter p).length = ((s.take k).filter p).length + ((s[k] :: s.drop (k + 1)).filter p).length := by
    rw [← List.length_append, ← List.filter_append, ← e2]
  rw [e3, List.filter_cons]
  by_cases hp : p s[k] = true
  · rw [if_pos hp, if_pos hp, List.length_cons]; omega
  · rw [if_neg hp, if_neg hp]; omega
theorem others_pos {p : Nat → Bool} {s : List Nat} {k : Nat} : 0 < ((s.eraseIdx k).filter p).length ↔ ∃ (i : Nat) (hi : i < s.length), i ≠ k ∧ p s[i] = true := by
  rw [List.length_pos_iff_exists_mem]
  simp only [List.mem_filter]
  constructor
  · rintro ⟨x, hx, hp⟩
    obtain ⟨i, hi, hne, rfl⟩ := List.mem_eraseIdx_iff_getElem.mp hx
    exact ⟨i, hi, hne, hp⟩
  · rintro ⟨i, hi, hne, hp⟩
    exact ⟨s[i], List.mem_eraseIdx_iff_getElem.mpr ⟨i, hi, hne, rfl⟩, hp⟩
/-- pumps -/
theorem E48 (hS : gk_Sh rr w) {T : Nat → Nat → Bool} (hT : RW w 18 T) (X : Int32) {r : Rl} (hr : okR r) : ∃ b : Bool, (b = true ↔ pmP T (bt X) r) ∧ gk_E (d + 2) 48 [.ref 18, .long (pk r), .int X] w (.inl (some (.int (bI b)))) w := by
  have h10 := hr.2.1
  have h16l := hr.1
  obtain ⟨-, w1, rfl, g1⟩ := up_loop (α := Unit) (d := d + 2) (mi := 48) (pc := 6) r.2.length (fun k _ => [some (.ref 18), some (.long (pk r)), none, some (.int X), some (.int (Int32.ofNat ((r.2.take k).filter (ltS (bt X))).length)), some (.int (Int32.ofNat (k + 1))), none, none])
    (fun k _ w1 => w1 = w)
    (fun k _ w1 hk hI => by
      obtain rfl := hI
      have hsy := hr.2.2 _ (List.getElem_mem hk)
      refine ⟨(), w1, rfl, fun v w' h => ?_⟩
      rw [List.take_succ_eq_append_getElem hk, List.filter_append, List.length_append] at h
      refine sg_48_6 (d := d) hS _ _ _ _ ⟨fun q => absurd q (len_f hr (by omega)), fun _ => ⟨fun q => ?_, fun q => ?_⟩⟩
      · rw [f_26_pk hr hk, f_49_S hsy] at q
        rw [List.filter_cons_of_neg (by rw [q]; decide), List.filter_nil, List.length_nil, Nat.add_zero] at h
        rw [i_s, show (0 : Int32) = Int32.ofNat 0 from rfl, i_add, Nat.add_zero]; exact h
      · rw [f_26_pk hr hk, f_49_S hsy] at q
        have q1 : ltS (bt X) r.2[k] = true := by simpa using q
        rw [List.filter_cons_of_pos q1, List.filter_nil, List.length_cons, List.length_nil, Nat.zero_add] at h
        rw [i_s, i_s]; exact h) r.2.length 0 () w (by omega) rfl
  rw [List.take_of_length_le (Nat.le_refl _)] at g1
  have hcl : (r.2.filter (ltS (bt X))).length ≤ r.2.length := List.length_filter_le _ _
  obtain ⟨v, w2, ⟨rfl, b, hb, rfl⟩, g2⟩ := up_exit (α := Unit) (d := d + 2) (mi := 48) (pc := 47) r.2.length (fun k _ => [some (.ref 18), some (.long (pk r)), none, some (.int X), some (.int (Int32.ofNat (r.2.filter (ltS (bt X))).length)), some (.int (Int32.ofNat (k + 1))), none, none])
    (fun k _ w2 => w2 = w1 ∧ ∀ (j : Nat) (hj : j < r.2.length), j < k → ¬ (r.2[j] < 16 ∧ T r.2[j] r.1 = true ∧ ∃ (i : Nat) (hi : i < r.2.length), i ≠ j ∧ ltS (bt X) r.2[i] = true))
    (fun v w' => w' = w1 ∧ ∃ b : Bool, (b = true ↔ pmP T (bt X) r) ∧ v = .inl (some (.int (bI b))))
    (fun k _ w2 hk hI => by
      obtain ⟨rfl, hn⟩ := hI
      have hsy := hr.2.2 _ (List.getElem_mem hk)
      have e26 := f_26_pk hr hk
      have hoth := others (p := ltS (bt X)) hk
      have hop := others_pos (p := ltS (bt X)) (s := r.2) (k := k)
      have hTk : r.2[k] < 16 → (f_36 ((w_a w2 18).getD (f_26 (pk r) (Int32.ofNat (k + 1))).toNatClampNeg 0) (f_25 (pk r)) = 0 ↔ T r.2[k] r.1 = false) := fun h16 => by
        rw [e26, f_25_pk hr, i_nat (by omega), f_36_0 _ (by omega), hT _ h16]
      by_cases hc : r.2[k] < 16 ∧ T r.2[k] r.1 = true ∧ ∃ (i : Nat) (hi : i < r.2.length), i ≠ k ∧ ltS (bt X) r.2[i] = true
      · right
        obtain ⟨c1, c2, c3⟩ := hc
        rw [← hop] at c3
        have n28 : ¬ f_28 (f_26 (pk r) (Int32.ofNat (k + 1))) = 0 := by rw [e26, f_28_0 (by omega)]; omega
        have nT : ¬ f_36 ((w_a w2 18).getD (f_26 (pk r) (Int32.ofNat (k + 1))).toNatClampNeg 0) (f_25 (pk r)) = 0 := by rw [hTk c1, c2]; decide
        refine ⟨.inl (some (.int (bI true))), w2, ⟨rfl, true, ⟨fun _ => ⟨k, hk, c1, c2, hop.mp c3⟩, fun _ => rfl⟩, rfl⟩, sg_48_47 (d := d) hS _ _ _ _ ⟨fun q => absurd q (len_f hr (by omega)), fun _ => ⟨fun q => ⟨fun q2 => absurd q2 n28, fun _ => ⟨fun q3 => ?_, fun _ => ⟨by rw [e26]; exact o16 c1, fun q4 => absurd q4 nT, fun _ => ⟨rfl, rfl⟩⟩⟩⟩, fun q => ⟨fun q2 => absurd q2 n28, fun _ => ⟨fun q3 => ?_, fun _ => ⟨by rw [e26]; exact o16 c1, fun q4 => absurd q4 nT, fun _ => ⟨rfl, rfl⟩⟩⟩⟩⟩⟩⟩
        · rw [e26, f_49_S hsy] at q
          rw [if_neg (by rw [q]; decide)] at hoth
          rw [show (0 : Int32) = Int32.ofNat 0 from rfl, i_sub (by omega)] at q3
          have := (i_le (by omega) (by omega)).mp q3
          omega
        · rw [e26, f_49_S hsy] at q
          rw [if_pos (by simpa using q)] at hoth
          rw [show (1 : Int32) = Int32.ofNat 1 from rfl, i_sub (by omega)] at q3
          have := (i_le (b := 0) (by omega) (by omega)).mp q3
          omega
      · left
        have hcont : ∀ (v : gk_Res) (w' : gk_Wd), gk_W none (d + 2) 48 47 [some (.ref 18), some (.long (pk r)), none, some (.int X), some (.int (Int32.ofNat (r.2.filter (ltS (bt X))).length)), some (.int (Int32.ofNat (k + 1 + 1))), none, none] [] w2 v w' → gk_W none (d + 2) 48 47 [some (.ref 18), some (.long (pk r)), none, some (.int X), some (.int (Int32.ofNat (r.2.filter (ltS (bt X))).length)), some (.int (Int32.ofNat (k + 1) + 1)), none, none] [] w2 v w' := fun v w' h => by rw [i_s]; exact h
        refine ⟨(), w2, ⟨rfl, fun j hj hjk => ?_⟩, fun v w' h => sg_48_47 (d := d) hS _ _ _ _ ⟨fun q => absurd q (len_f hr (by omega)), fun _ => ⟨fun q => ⟨fun _ => hcont v w' h, fun q2 => ⟨fun _ => hcont v w' h, fun q3 => ⟨?_, fun _ => hcont v w' h, fun q4 => ?_⟩⟩⟩, fun q => ⟨fun _ => hcont v w' h, fun q2 => ⟨fun _ => hcont v w' h, fun q3 => ⟨?_, fun _ => hcont v w' h, fun q4 => ?_⟩⟩⟩⟩⟩⟩
        · by_cases e : j = k
          · subst e; exact hc
          · exact hn j hj (by omega)
        · rw [e26, f_28_0 (by omega)] at q2
          rw [e26]; exact o16 (by omega)
        · rw [e26, f_28_0 (by omega)] at q2
          have c1 : r.2[k] < 16 := by omega
          rw [hTk c1] at q4
          rw [e26, f_49_S hsy] at q
          rw [if_neg (by rw [q]; decide)] at hoth
          refine absurd ⟨c1, by simpa using q4, hop.mp ?_⟩ hc
          refine Nat.pos_of_ne_zero fun e => q3 ?_
          rw [show (0 : Int32) = Int32.ofNat 0 from rfl, i_sub (by omega)]
          exact (i_le (by omega) (by omega)).mpr (by omega)
        · rw [e26, f_28_0 (by omega)] at q2
          rw [e26]; exact o16 (by omega)
        · rw [e26, f_28_0 (by omega)] at q2
          have c1 : r.2[k] < 16 := by omega
          rw [hTk c1] at q4
          rw [e26, f_49_S hsy] at q
          rw [if_pos (by simpa using q)] at hoth
          refine absurd ⟨c1, by simpa using q4, hop.mp ?_⟩ hc
          refine Nat.pos_of_ne_zero fun e => q3 ?_
          rw [show (1 : Int32) = Int32.ofNat 1 from rfl, i_sub (by omega)]
          exact (i_le (b := 0) (by omega) (by omega)).mpr (by omega))
    (fun _ w2 hI => by
      obtain ⟨rfl, hn⟩ := hI
      exact ⟨.inl (some (.int (bI false))), w2, ⟨rfl, false, ⟨fun q => (by cases q), fun ⟨k, hk, h⟩ => absurd h (hn k hk hk)⟩, rfl⟩, sg_48_47 (d := d) hS _ _ _ _ ⟨fun _ => ⟨rfl, rfl⟩, fun q => absurd (len_t hr (by omega) (by omega)) q⟩⟩)
    r.2.length 0 () w1 (by omega) ⟨rfl, fun j hj h => by omega⟩
  exact ⟨b, hb, gk_E_i rfl rfl (sg_48_0 (d := d) hS _ _ (g1 _ _ (sg_48_6 (d := d) hS _ _ _ _ ⟨fun _ => g2, fun q => absurd (len_t hr (by omega) (by omega)) q⟩)))⟩
/-- isFinite -/
theorem E44 (hS : gk_Sh rr w) (hR : RS w 5 G) : ∃ (b : Bool) (w' : gk_Wd), finR G b ∧ gk_E (d + 3) 44 [.ref 18, .ref 6] w (.inl (some (.int (bI b)))) w' ∧ gk_Sh rr w' ∧ Fr [18] [] w w' := by
  have h60 := RS_60 hR
  obtain ⟨T, w1, hT, e1, s1, f1, T1⟩ := E45 (d := d) hS hR
  have R1 : RS w1 5 G := RS_Fr hR f1 (by decide) (by simp)
  obtain ⟨X, hX, e2⟩ := E47 (d := d) s1 R1
  obtain ⟨v, w2, ⟨rfl, b, hb, rfl⟩, g2⟩ := up_exit (α := Unit) (d := d + 3) (mi := 44) (pc := 12) G.length (fun k _ => [some (.ref 18), some (.ref (5 + 1)), some (.int X), some (.int (Int32.ofNat k))])
    (fun k _ w2 => w2 = w1 ∧ ∀ (j : Nat) (hj : j < G.length), j < k → ¬ pmP T (bt X) G[j])
    (fun v w' => w' = w1 ∧ ∃ b : Bool, (b = true ↔ ¬ ∃ r ∈ G, pmP T (bt X) r) ∧ v = .inl (some (.int (bI b))))
    (fun k _ w2 hk hI => by
      obtain ⟨rfl, hn⟩ := hI
      have ef := RS_f23 R1 hk
      have hok := RS_ok R1 hk
      have hle : ¬ f_13 w2 5 ≤ Int32.ofNat k := fun q => absurd ((RS_le R1 (by omega)).mp q) (by omega)
      obtain ⟨b, hb, e3⟩ := E48 (d := d) s1 T1 X hok
      cases b with
      | true =>
        right
        exact ⟨.inl (some (.int (bI false))), w2, ⟨rfl, false, ⟨fun q => (by cases q), fun h => absurd ⟨G[k], List.getElem_mem hk, hb.mp rfl⟩ h⟩, rfl⟩, sg_44_12 (d := d + 2) s1 rs_5 _ _ ⟨fun q => absurd q hle, fun _ => ⟨RS_out R1 hk, _, by rw [ef]; exact e3, fun q => absurd q (by decide), fun _ => ⟨rfl, rfl⟩⟩⟩⟩
      | false =>
        left
        refine ⟨(), w2, ⟨rfl, fun j hj hjk h => ?_⟩, fun r w' h => sg_44_12 (d := d + 2) s1 rs_5 _ _ ⟨fun q => absurd q hle, fun _ => ⟨RS_out R1 hk, _, by rw [ef]; exact e3, fun _ => by rw [i_s]; exact h, fun q => absurd rfl q⟩⟩⟩
        by_cases e : j = k
        · subst e; exact absurd (hb.mpr h) (by decide)
        · exact hn j hj (by omega) h)
    (fun _ w2 hI => by
      obtain ⟨rfl, hn⟩ := hI
      refine ⟨.inl (some (.int (bI true))), w2, ⟨rfl, true, ⟨fun _ ⟨r, hr, h⟩ => ?_, fun _ => rfl⟩, rfl⟩, sg_44_12 (d := d + 2) s1 rs_5 _ _ ⟨fun _ => ⟨rfl, rfl⟩, fun q => absurd ((RS_le R1 (by omega)).mpr (Nat.le_refl _)) q⟩⟩
      obtain ⟨j, hj, rfl⟩ := List.mem_iff_getElem.mp hr
      exact hn j hj hj h)
    G.length 0 () w1 (by omega) ⟨rfl, fun j hj h => by omega⟩
  exact ⟨b, w2, ⟨T, bt X, hT, hX, hb⟩, gk_E_i rfl rfl (sg_44_0 (d := d + 2) hS rs_5 ⟨w2, e1, s1, X, e2, g2⟩), s1, f1⟩
end CG

/-! part 35: Facts, and the rules that are of no use -/
def bI (b : Bool) : Int32 := if b = true then 1 else 0
theorem bI_0 {b : Bool} : bI b = 0 ↔ b = false := by cases b <;> decide
theorem i_down {k : Nat} : Int32.ofNat (k + 1) - 1 = Int32.ofNat k := i_sub (a := k + 1) (b := 1) (by omega)
theorem i_m1 (x : Int32) : x + (-1) = x - 1 := by
  apply Int32.toInt_inj.mp
  rw [Int32.toInt_add, Int32.toInt_sub]
  rfl
theorem i_z1 : Int32.ofNat 0 - 1 < (0 : Int32) := by decide
section FA
variable {d : Nat} {rr : List gk_S} {w : gk_Wd} {a : Nat} {G : List Rl}
theorem E32_in (hS : gk_Sh rr w) (ha : gk_rs a) (hR : RS w a G) (lt : Bool) {x3 x4 : Int32} {r : gk_Res} {w' : gk_Wd} : ∀ (m k : Nat) (X : Int32), k + m = G.length → gk_W none (d + 2) 32 16 [some (.ref (a + 1)), some (.int (bI lt)), some (.int ((G.drop k).foldl (prS lt) X)), some (.int x3), some (.int x4), some (.int (Int32.ofNat G.length)), none, none] [] w r w' → gk_W none (d + 2) 32 16 [some (.ref (a + 1)), some (.int (bI lt)), some (.int X), some (.int x3), some (.int x4), some (.int (Int32.ofNat k)), none, none] [] w r w'
  | 0, k, X, hk, hex => by
    obtain rfl : k = G.length := by omega
    rw [List.drop_eq_nil_of_le (Nat.le_refl _)] at hex
    exact hex
  | m + 1, k, X, hk, hex => by
    have h60 := RS_60 hR
    have hkl : k < G.length := by omega
    have ef := RS_f23 hR hkl
    have hok := RS_ok hR hkl
    have hd : (G.drop k).foldl (prS lt) X = (G.drop (k + 1)).foldl (prS lt) (prS lt X G[k]) := by rw [List.drop_eq_getElem_cons hkl]; rfl
    rw [hd] at hex
    have ih := E32_in hS ha hR lt m (k + 1) (prS lt X G[k]) (by omega) hex
    have hle : f_13 w a ≤ Int32.ofNat k ↔ G.length ≤ k := RS_le hR (by omega)
    refine sg_32_16 (d := d + 1) hS ha _ _ _ _ _ ⟨fun q => absurd (hle.mp q) (by omega), fun _ => ⟨RS_out hR hkl, vs G[k].2 0, ?_, fun q1 => ?_, fun q1 => ⟨fun q2 => ?_, fun q2 => ⟨hl G[k].2, ?_, fun q3 => ?_, fun q3 => ?_⟩⟩⟩⟩
    · rw [ef]; exact E33 hS hok
    · have e : prS lt X G[k] = X := by unfold prS; rw [if_neg (fun q => q1 q.1)]
      rw [e] at ih
      rw [i_s]; exact ih
    · have hlt : lt = true := by
        cases lt with
        | true => rfl
        | false => exact absurd rfl q2
      have e : prS lt X G[k] = X ||| ((1 : Int32) <<< (Int32.ofNat G[k].1 &&& 31)) := by unfold prS; rw [if_pos ⟨q1, Or.inl hlt⟩]
      rw [e] at ih
      rw [i_s, ef, f_25_pk hok]; exact ih
    · rw [ef]; exact E34 hS hok
    · have hlt : lt = false := bI_0.mp q2
      have e : prS lt X G[k] = X := by
        unfold prS
        rw [if_neg]
        rintro ⟨-, q | q⟩
        · rw [hlt] at q; cases q
        · exact q3 q
      rw [e] at ih
      rw [i_s]; exact ih
    · have e : prS lt X G[k] = X ||| ((1 : Int32) <<< (Int32.ofNat G[k].1 &&& 31)) := by unfold prS; rw [if_pos ⟨q1, Or.inr q3⟩]
      rw [e] at ih
      rw [i_s, ef, f_25_pk hok]; exact ih
theorem E32_out (hS : gk_Sh rr w) (ha : gk_rs a) (hR : RS w a G) (lt : Bool) : ∀ (m k : Nat) (X : Int32), k + m = 16 → (∀ T : Nat → Bool, clP lt G T → ∀ v, bt X v = true → T v = true) → (∀ v, bt X v = true → v < 16) → k ≤ cnt 16 (bt X) → ∃ Y : Int32, isP lt G (bt Y) ∧ gk_W none (d + 2) 32 4 [some (.ref (a + 1)), some (.int (bI lt)), some (.int X), some (.int (Int32.ofNat k)), none, none, none, none] [] w (.inl (some (.int Y))) w
  | 0, k, X, hk, h1, h2, h3 => by
    obtain rfl : k = 16 := by omega
    refine ⟨X, ⟨fun r hr _ => cnt_full 16 h3 _ (hR.2.2.1 r hr).1, h1⟩, sg_32_4 (d := d + 1) hS ha _ _ _ ⟨fun _ => ⟨rfl, rfl⟩, fun q => absurd (show (16 : Int32) ≤ Int32.ofNat 16 by decide) q⟩⟩
  | m + 1, k, X, hk, h1, h2, h3 => by
    have h60 := RS_60 hR
    have h4 : ∀ T : Nat → Bool, clP lt G T → ∀ v, bt (prR lt G X) v = true → T v = true := fun T hT => prR_inv hR.2.2.1 hT (h1 T hT)
    have h5 := prR_16 (lt := lt) hR.2.2.1 h2
    have hin := fun (r : gk_Res) (w' : gk_Wd) => E32_in (d := d) hS ha hR lt (x3 := Int32.ofNat k) (x4 := X) (r := r) (w' := w') G.length 0 X (by omega)
    have hend : f_13 w a ≤ Int32.ofNat G.length := (RS_le hR (by omega)).mpr (Nat.le_refl _)
    have hk16 : ¬ (16 : Int32) ≤ Int32.ofNat k := fun q => absurd ((i_le (a := 16) (by omega) (by omega)).mp q) (by omega)
    by_cases hx : prR lt G X = X
    · refine ⟨X, ⟨prR_fix hR.2.2.1 hx, h1⟩, sg_32_4 (d := d + 1) hS ha _ _ _ ⟨fun q => absurd q hk16, fun _ => hin _ _ ?_⟩⟩
      have hx' : (G.drop 0).foldl (prS lt) X = X := hx
      rw [hx']
      exact sg_32_16 (d := d + 1) hS ha _ _ _ _ _ ⟨fun _ => ⟨fun q => absurd rfl q, fun _ => ⟨rfl, rfl⟩⟩, fun q => absurd hend q⟩
    · obtain ⟨Y, hY, hW⟩ := E32_out hS ha hR lt m (k + 1) (prR lt G X) (by omega) h4 h5 (by
        have := cnt_lt 16 (S := bt X) (T := bt (prR lt G X)) (fun i _ => prR_le lt G X i) (bne_ex (prR_le lt G X) (fun e => hx e.symm) h5)
        omega)
      refine ⟨Y, hY, sg_32_4 (d := d + 1) hS ha _ _ _ ⟨fun q => absurd q hk16, fun _ => hin _ _ ?_⟩⟩
      refine sg_32_16 (d := d + 1) hS ha _ _ _ _ _ ⟨fun _ => ⟨fun _ => ?_, fun q => absurd q hx⟩, fun q => absurd hend q⟩
      rw [i_s]; exact hW
/-- producing -/
theorem E32 (hS : gk_Sh rr w) (ha : gk_rs a) (hR : RS w a G) (lt : Bool) : ∃ Y : Int32, isP lt G (bt Y) ∧ gk_E (d + 2) 32 [.ref (a + 1), .int (bI lt)] w (.inl (some (.int Y))) w := by
  obtain ⟨Y, h1, h2⟩ := E32_out (d := d) hS ha hR lt 16 0 0 (by omega) (fun T _ v hv => by rw [bt_zero] at hv; cases hv) (fun v hv => by rw [bt_zero] at hv; cases hv) (Nat.zero_le _)
  exact ⟨Y, h1, gk_E_i rfl rfl (sg_32_0 (d := d + 1) hS ha _ h2)⟩
/-- fruitful -/
theorem E31 (hS : gk_Sh rr w) (ha : gk_rs a) (hR : RS w a G) : ∃ Y : Int32, isP true G (bt Y) ∧ gk_E (d + 3) 31 [.ref (a + 1)] w (.inl (some (.int Y))) w := by
  obtain ⟨Y, h1, h2⟩ := E32 (d := d) hS ha hR true
  exact ⟨Y, h1, gk_E_i rfl rfl (sg_31_0 (d := d + 2) hS ha ⟨Y, h2, rfl, rfl⟩)⟩
/-- nullable -/
theorem E50 (hS : gk_Sh rr w) (ha : gk_rs a) (hR : RS w a G) : ∃ Y : Int32, isP false G (bt Y) ∧ gk_E (d + 3) 50 [.ref (a + 1)] w (.inl (some (.int Y))) w := by
  obtain ⟨Y, h1, h2⟩ := E32 (d := d) hS ha hR false
  exact ⟨Y, h1, gk_E_i rfl rfl (sg_50_0 (d := d + 2) hS ha ⟨Y, h2, rfl, rfl⟩)⟩
end FA
/-- what is reached from the first variable -/
def clR (G : List Rl) (S : Nat → Bool) : Prop := S 0 = true ∧ ∀ r ∈ G, S r.1 = true → ∀ v ∈ r.2, v < 16 → S v = true
def isR (G : List Rl) (S : Nat → Bool) : Prop := clR G S ∧ ∀ T : Nat → Bool, clR G T → ∀ v, S v = true → T v = true
theorem isR_uniq {G : List Rl} {S T : Nat → Bool} (h : isR G S) (h' : isR G T) : S = T := by
  funext v
  rcases hx : S v with _ | _ <;> rcases hy : T v with _ | _ <;> first | rfl | exact absurd (h.2 T h'.1 v hx) (by rw [hy]; decide) | exact absurd (h'.2 S h.1 v hy) (by rw [hx]; decide)
def rcS (x : Int32) (r : Rl) : Int32 := if bt x r.1 = true then x ||| vs r.2 0 else x
theorem rcS_le (x : Int32) (r : Rl) : ble x (rcS x r) := by
  unfold rcS
  split
  · exact ble_or _ _
  · exact ble_refl _
def rcR (G : List Rl) (x : Int32) : Int32 := G.foldl rcS x
theorem rcR_le (G : List Rl) (x : Int32) : ble x (rcR G x) := fold_le ble ble_refl ble_trans _ rcS_le G x
theorem rcR_fix {G : List Rl} {x : Int32} (h0 : bt x 0 = true) (h : rcR G x = x) : clR G (bt x) := ⟨h0, fun r hr hs v hv h16 => by
  have h1 := fold_fix ble ble_refl ble_trans ble_anti _ rcS_le G x h r hr
  unfold rcS at h1
  rw [if_pos hs] at h1
  rw [← h1, bt_or, vs_bt]
  simp [hv, h16]⟩
theorem rcR_inv {G : List Rl} {T : Nat → Bool} (hT : clR G T) {x : Int32} (h : ∀ v, bt x v = true → T v = true) : ∀ v, bt (rcR G x) v = true → T v = true := fold_inv (fun x => ∀ v, bt x v = true → T v = true) _ G (fun x r hr hx v hv => by
  unfold rcS at hv
  split at hv
  · rename_i hc
    rw [bt_or, vs_bt] at hv
    simp only [Bool.or_eq_true, decide_eq_true_eq, bt_zero, Bool.false_eq_true, false_or] at hv
    rcases hv with hv | hv
    · exact hx v hv
    · exact hT.2 r hr (hx _ hc) v hv.2 hv.1
  · exact hx v hv) x h
theorem rcR_16 {G : List Rl} {x : Int32} (h : ∀ v, bt x v = true → v < 16) : ∀ v, bt (rcR G x) v = true → v < 16 := fold_inv (fun x => ∀ v, bt x v = true → v < 16) _ G (fun x r hr hx v hv => by
  unfold rcS at hv
  split at hv
  · rw [bt_or, vs_bt] at hv
    simp only [Bool.or_eq_true, decide_eq_true_eq, bt_zero, Bool.false_eq_true, false_or] at hv
    rcases hv with hv | hv
    · exact hx v hv
    · exact hv.1
  · exact hx v hv) x h
section FB
variable {d : Nat} {rr : List gk_S} {w : gk_Wd} {a : Nat} {G : List Rl}
theorem E35_in (hS : gk_Sh rr w) (ha : gk_rs a) (hR : RS w a G) {x2 x3 : Int32} {r : gk_Res} {w' : gk_Wd} : ∀ (m k : Nat) (X : Int32), k + m = G.length → gk_W none (d + 2) 35 15 [some (.ref (a + 1)), some (.int ((G.drop k).foldl rcS X)), some (.int x2), some (.int x3), some (.int (Int32.ofNat G.length))] [] w r w' → gk_W none (d + 2) 35 15 [some (.ref (a + 1)), some (.int X), some (.int x2), some (.int x3), some (.int (Int32.ofNat k))] [] w r w'
  | 0, k, X, hk, hex => by
    obtain rfl : k = G.length := by omega
    rw [List.drop_eq_nil_of_le (Nat.le_refl _)] at hex
    exact hex
  | m + 1, k, X, hk, hex => by
    have h60 := RS_60 hR
    have hkl : k < G.length := by omega
    have ef := RS_f23 hR hkl
    have hok := RS_ok hR hkl
    have h16 := hok.1
    have hd : (G.drop k).foldl rcS X = (G.drop (k + 1)).foldl rcS (rcS X G[k]) := by rw [List.drop_eq_getElem_cons hkl]; rfl
    rw [hd] at hex
    have ih := E35_in hS ha hR m (k + 1) (rcS X G[k]) (by omega) hex
    have hle : f_13 w a ≤ Int32.ofNat k ↔ G.length ≤ k := RS_le hR (by omega)
    refine sg_35_15 (d := d + 1) hS ha _ _ _ _ ⟨fun q => absurd (hle.mp q) (by omega), fun _ => ⟨RS_out hR hkl, fun q1 => ?_, fun q1 => ⟨RS_out hR hkl, vs G[k].2 0, ?_, ?_⟩⟩⟩
    · rw [ef, f_25_pk hok, f_36_0 X (by omega)] at q1
      have e : rcS X G[k] = X := by unfold rcS; rw [if_neg (by rw [q1]; decide)]
      rw [e] at ih
      rw [i_s]; exact ih
    · rw [ef]; exact E33 hS hok
    · rw [ef, f_25_pk hok, f_36_0 X (by omega)] at q1
      have e : rcS X G[k] = X ||| vs G[k].2 0 := by unfold rcS; rw [if_pos (by simpa using q1)]
      rw [e] at ih
      rw [i_s]; exact ih
theorem E35_out (hS : gk_Sh rr w) (ha : gk_rs a) (hR : RS w a G) : ∀ (m k : Nat) (X : Int32), k + m = 16 → bt X 0 = true → (∀ T : Nat → Bool, clR G T → ∀ v, bt X v = true → T v = true) → (∀ v, bt X v = true → v < 16) → k ≤ cnt 16 (bt X) → ∃ Y : Int32, isR G (bt Y) ∧ gk_W none (d + 2) 35 4 [some (.ref (a + 1)), some (.int X), some (.int (Int32.ofNat k)), none, none] [] w (.inl (some (.int Y))) w
  | 0, k, X, hk, h0, h1, h2, h3 => by
    obtain rfl : k = 16 := by omega
    refine ⟨X, ⟨⟨h0, fun r hr _ v _ hv => cnt_full 16 h3 _ hv⟩, h1⟩, sg_35_4 (d := d + 1) hS ha _ _ ⟨fun _ => ⟨rfl, rfl⟩, fun q => absurd (show (16 : Int32) ≤ Int32.ofNat 16 by decide) q⟩⟩
  | m + 1, k, X, hk, h0, h1, h2, h3 => by
    have h60 := RS_60 hR
    have h4 : ∀ T : Nat → Bool, clR G T → ∀ v, bt (rcR G X) v = true → T v = true := fun T hT => rcR_inv hT (h1 T hT)
    have h5 := rcR_16 (G := G) h2
    have hin := fun (r : gk_Res) (w' : gk_Wd) => E35_in (d := d) hS ha hR (x2 := Int32.ofNat k) (x3 := X) (r := r) (w' := w') G.length 0 X (by omega)
    have hend : f_13 w a ≤ Int32.ofNat G.length := (RS_le hR (by omega)).mpr (Nat.le_refl _)
    have hk16 : ¬ (16 : Int32) ≤ Int32.ofNat k := fun q => absurd ((i_le (a := 16) (by omega) (by omega)).mp q) (by omega)
    by_cases hx : rcR G X = X
    · refine ⟨X, ⟨rcR_fix h0 hx, h1⟩, sg_35_4 (d := d + 1) hS ha _ _ ⟨fun q => absurd q hk16, fun _ => hin _ _ ?_⟩⟩
      have hx' : (G.drop 0).foldl rcS X = X := hx
      rw [hx']
      exact sg_35_15 (d := d + 1) hS ha _ _ _ _ ⟨fun _ => ⟨fun q => absurd rfl q, fun _ => ⟨rfl, rfl⟩⟩, fun q => absurd hend q⟩
    · obtain ⟨Y, hY, hW⟩ := E35_out hS ha hR m (k + 1) (rcR G X) (by omega) (rcR_le G X 0 h0) h4 h5 (by
        have := cnt_lt 16 (S := bt X) (T := bt (rcR G X)) (fun i _ => rcR_le G X i) (bne_ex (rcR_le G X) (fun e => hx e.symm) h5)
        omega)
      refine ⟨Y, hY, sg_35_4 (d := d + 1) hS ha _ _ ⟨fun q => absurd q hk16, fun _ => hin _ _ ?_⟩⟩
      refine sg_35_15 (d := d + 1) hS ha _ _ _ _ ⟨fun _ => ⟨fun _ => ?_, fun q => absurd q hx⟩, fun q => absurd hend q⟩
      rw [i_s]; exact hW
/-- reached -/
theorem E35 (hS : gk_Sh rr w) (ha : gk_rs a) (hR : RS w a G) : ∃ Y : Int32, isR G (bt Y) ∧ gk_E (d + 2) 35 [.ref (a + 1)] w (.inl (some (.int Y))) w := by
  obtain ⟨Y, h1, h2⟩ := E35_out (d := d) hS ha hR 16 0 1 (by omega) rfl (fun T hT v hv => by
    rw [bt_one] at hv
    rw [of_decide_eq_true hv]; exact hT.1) (fun v hv => by
    rw [bt_one] at hv
    rw [of_decide_eq_true hv]; omega) (Nat.zero_le _)
  exact ⟨Y, h1, gk_E_i rfl rfl (sg_35_0 (d := d + 1) hS ha h2)⟩
end FB
/-- going down a row and taking out what fails p -/
def dfl (p : Rl → Bool) (k : Nat) (H : List Rl) : List Rl := (H.take k).filter p ++ H.drop k
theorem dfl_0 (p : Rl → Bool) (H : List Rl) : dfl p 0 H = H := by simp [dfl]
theorem dfl_all (p : Rl → Bool) (H : List Rl) : dfl p H.length H = H.filter p := by simp [dfl]
theorem dfl_keep {p : Rl → Bool} {k : Nat} {H : List Rl} (hk : k < H.length) (h : p H[k] = true) : dfl p (k + 1) H = dfl p k H := by
  unfold dfl
  rw [List.take_succ_eq_append_getElem hk, List.filter_append, List.append_assoc]
  congr 1
  rw [List.drop_eq_getElem_cons hk]
  simp [h]
theorem dfl_drop {p : Rl → Bool} {k : Nat} {H : List Rl} (hk : k < H.length) (h : p H[k] = false) : dfl p (k + 1) H = dfl p k (H.eraseIdx k) := by
  unfold dfl
  have e : (H.take k).length = k := by simp; omega
  rw [List.take_succ_eq_append_getElem hk, List.filter_append, List.eraseIdx_eq_take_drop_succ, List.take_left' e, List.drop_left' e]
  simp [h]
section FC
variable {d : Nat} {rr : List gk_S} {w : gk_Wd} {a : Nat} {G : List Rl}
theorem srt_filter {G : List Rl} (h : srt G) (p : Rl → Bool) : srt (G.filter p) := h.sublist List.filter_sublist
/-- is of fruitful variables alone -/
def frB (x : Int32) (r : Rl) : Bool := decide (((vs r.2 0 ||| ((1 : Int32) <<< (Int32.ofNat r.1 &&& 31))) &&& (x ^^^ (-1))) = 0)
theorem frB_iff {x : Int32} {r : Rl} (hr : okR r) : frB x r = true ↔ bt x r.1 = true ∧ ∀ v ∈ r.2, v < 16 → bt x v = true := by
  have h1 := hr.1
  unfold frB
  rw [decide_eq_true_eq, bt_eq0]
  constructor
  · intro h
    refine ⟨?_, fun v hv h16 => ?_⟩
    · have := h r.1 (by omega)
      rw [bt_and, bt_or, bt_pow (by omega), bt_not x (by omega)] at this
      simpa using this
    · have := h v (by omega)
      rw [bt_and, bt_or, vs_bt, bt_not x (by omega)] at this
      simpa [hv, h16] using this
  · rintro ⟨h2, h3⟩ i hi
    rw [bt_and, bt_or, vs_bt, bt_pow (by omega), bt_not x hi, bt_zero]
    by_cases hv : i < 16 ∧ i ∈ r.2
    · simp [h3 i hv.2 hv.1]
    · by_cases hl : i = r.1
      · subst hl; simp [h2]
      · simp [hv, hl]
theorem E30_a (ha : gk_rs a) (X : Int32) (x2 : Int32) : ∀ (k : Nat) (w : gk_Wd) (H : List Rl), gk_Sh rr w → RS w a H → k ≤ H.length →
    ∃ w1, gk_Sh rr w1 ∧ Fr [a + 1] [(a, 1)] w w1 ∧ RS w1 a (dfl (frB X) k H) ∧ ∀ (r : gk_Res) (w' : gk_Wd), gk_W none (d + 2) 30 18 [none, some (.ref (a + 1)), some (.int x2), some (.int X), some (.int (Int32.ofNat 0 - 1)), none] [] w1 r w' →
    gk_W none (d + 2) 30 18 [none, some (.ref (a + 1)), some (.int x2), some (.int X), some (.int (Int32.ofNat k - 1)), none] [] w r w'
  | 0, w, H, hS, hR, hk => ⟨w, hS, Fr_refl, by rw [dfl_0]; exact hR, fun _ _ h => h⟩
  | k + 1, w, H, hS, hR, hk => by
    have h60 := RS_60 hR
    have hkl : k < H.length := by omega
    have ef := RS_f23 hR hkl
    have hok := RS_ok hR hkl
    have hstep := fun (r : gk_Res) (w' : gk_Wd) => sg_30_18 (d := d + 1) (w' := w') (r := r) hS ha x2 X (Int32.ofNat k)
    rw [i_down]
    cases hb : frB X H[k] with
    | true =>
      obtain ⟨w1, s1, f1, R1, g1⟩ := E30_a ha X x2 k w H hS hR (by omega)
      rw [dfl_keep hkl hb]
      refine ⟨w1, s1, f1, R1, fun r w' h => hstep r w' ⟨fun q => absurd q (i_neg (by omega)), fun _ => ⟨RS_out hR hkl, vs H[k].2 0, by rw [ef]; exact E33 hS hok, RS_out hR hkl, fun q => ?_, fun q => ?_⟩⟩⟩
      · rw [i_m1]; exact g1 r w' h
      · rw [ef, f_25_pk hok] at q
        exact absurd (of_decide_eq_true hb) q
    | false =>
      obtain ⟨w1, e1, s1, f1, R1⟩ := E14 (d := d + 1) hS ha hR hkl
      obtain ⟨w2, s2, f2, R2, g2⟩ := E30_a ha X x2 k w1 _ s1 R1 (by rw [List.length_eraseIdx_of_lt hkl]; omega)
      rw [dfl_drop hkl hb]
      refine ⟨w2, s2, Fr_trans f1 f2, R2, fun r w' h => hstep r w' ⟨fun q => absurd q (i_neg (by omega)), fun _ => ⟨RS_out hR hkl, vs H[k].2 0, by rw [ef]; exact E33 hS hok, RS_out hR hkl, fun q => ?_, fun q => ?_⟩⟩⟩
      · rw [ef, f_25_pk hok] at q
        exact absurd q (of_decide_eq_false hb)
      · rw [i_m1]; exact ⟨w1, e1, s1, g2 r w' h⟩
def rcB (x : Int32) (r : Rl) : Bool := bt x r.1
theorem E30_b (ha : gk_rs a) (X : Int32) (x2 : Int32) : ∀ (k : Nat) (w : gk_Wd) (H : List Rl), gk_Sh rr w → RS w a H → k ≤ H.length →
    ∃ w1, gk_Sh rr w1 ∧ Fr [a + 1] [(a, 1)] w w1 ∧ RS w1 a (dfl (rcB X) k H) ∧ ∀ (r : gk_Res) (w' : gk_Wd), gk_W none (d + 2) 30 81 [none, some (.ref (a + 1)), some (.int x2), none, some (.int X), some (.int (Int32.ofNat 0 - 1))] [] w1 r w' →
    gk_W none (d + 2) 30 81 [none, some (.ref (a + 1)), some (.int x2), none, some (.int X), some (.int (Int32.ofNat k - 1))] [] w r w'
  | 0, w, H, hS, hR, hk => ⟨w, hS, Fr_refl, by rw [dfl_0]; exact hR, fun _ _ h => h⟩
  | k + 1, w, H, hS, hR, hk => by
    have h60 := RS_60 hR
    have hkl : k < H.length := by omega
    have ef := RS_f23 hR hkl
    have hok := RS_ok hR hkl
    have h16 := hok.1
    have hstep := fun (r : gk_Res) (w' : gk_Wd) => sg_30_81 (d := d + 1) (w' := w') (r := r) hS ha x2 X (Int32.ofNat k)
    have eb : f_36 X (f_25 (f_23 w a (Int32.ofNat k))) = 0 ↔ bt X H[k].1 = false := by rw [ef, f_25_pk hok, f_36_0 X (by omega)]
    rw [i_down]
    cases hb : rcB X H[k] with
    | true =>
      obtain ⟨w1, s1, f1, R1, g1⟩ := E30_b ha X x2 k w H hS hR (by omega)
      rw [dfl_keep hkl hb]
      refine ⟨w1, s1, f1, R1, fun r w' h => hstep r w' ⟨fun q => absurd q (i_neg (by omega)), fun _ => ⟨RS_out hR hkl, fun q => ?_, fun q => ?_⟩⟩⟩
      · rw [i_m1]; exact g1 r w' h
      · have := eb.mp q
        unfold rcB at hb
        rw [hb] at this; cases this
    | false =>
      obtain ⟨w1, e1, s1, f1, R1⟩ := E14 (d := d + 1) hS ha hR hkl
      obtain ⟨w2, s2, f2, R2, g2⟩ := E30_b ha X x2 k w1 _ s1 R1 (by rw [List.length_eraseIdx_of_lt hkl]; omega)
      rw [dfl_drop hkl hb]
      refine ⟨w2, s2, Fr_trans f1 f2, R2, fun r w' h => hstep r w' ⟨fun q => absurd q (i_neg (by omega)), fun _ => ⟨RS_out hR hkl, fun q => ?_, fun q => ?_⟩⟩⟩
      · exact absurd (eb.mpr hb) q
      · rw [i_m1]; exact ⟨w1, e1, s1, g2 r w' h⟩
/-- the rules left when the useless ones go -/
def isU (G H : List Rl) : Prop := ∃ S T : Nat → Bool, isP true G S ∧ isR (G.filter fun r => S r.1 && r.2.all fun v => !decide (v < 16) || S v) T ∧ H = (G.filter fun r => S r.1 && r.2.all fun v => !decide (v < 16) || S v).filter fun r => T r.1
theorem isU_uniq {G H H' : List Rl} (h : isU G H) (h' : isU G H') : H = H' := by
  obtain ⟨S, T, h1, h2, rfl⟩ := h
  obtain ⟨S', T', h1', h2', rfl⟩ := h'
  obtain rfl := isP_uniq h1 h1'
  obtain rfl := isR_uniq h2 h2'
  rfl
theorem frB_eq {x : Int32} {r : Rl} (hr : okR r) : frB x r = (bt x r.1 && r.2.all fun v => !decide (v < 16) || bt x v) := by
  rw [Bool.eq_iff_iff, frB_iff hr, Bool.and_eq_true, List.all_eq_true]
  refine and_congr_right fun _ => forall_congr' fun v => forall_congr' fun hv => ?_
  by_cases h16 : v < 16
  · simp [h16]
  · simp [h16]
theorem isU_sub {G H : List Rl} (h : isU G H) : H.Sublist G := by
  obtain ⟨S, T, -, -, rfl⟩ := h
  exact List.filter_sublist.trans List.filter_sublist
/-- removeUseless -/
theorem E30 (hS : gk_Sh rr w) (ha : gk_rs a) (hR : RS w a G) : ∃ (H : List Rl) (w' : gk_Wd), isU G H ∧ gk_E (d + 4) 30 [.ref 8, .ref (a + 1)] w (.inl (some (.int (Int32.ofNat (G.length - H.length))))) w' ∧ gk_Sh rr w' ∧ Fr [a + 1] [(a, 1)] w w' ∧ RS w' a H := by
  obtain ⟨X, hX, eX⟩ := E31 (d := d) hS ha hR
  have h60 := RS_60 hR
  have hlen : f_13 w a = Int32.ofNat G.length := hR.1
  have hf : G.filter (frB X) = G.filter fun r => bt X r.1 && r.2.all fun v => !decide (v < 16) || bt X v := List.filter_congr fun r hr => frB_eq (hR.2.2.1 r hr)
  obtain ⟨w1, s1, f1, R1, g1⟩ := E30_a (d := d + 2) ha X (Int32.ofNat G.length) G.length w G hS hR (Nat.le_refl _)
  rw [dfl_all] at R1
  obtain ⟨Y, hY, eY⟩ := E35 (d := d + 1) s1 ha R1
  obtain ⟨w2, s2, f2, R2, g2⟩ := E30_b (d := d + 2) ha Y (Int32.ofNat G.length) _ w1 _ s1 R1 (Nat.le_refl _)
  rw [dfl_all] at R2
  have hl1 : ((G.filter (frB X)).filter (rcB Y)).length ≤ G.length := (List.filter_sublist.trans List.filter_sublist).length_le
  have hl2 : f_13 w1 a = Int32.ofNat (G.filter (frB X)).length := R1.1
  have hl3 : f_13 w2 a = Int32.ofNat ((G.filter (frB X)).filter (rcB Y)).length := R2.1
  refine ⟨_, w2, ⟨bt X, bt Y, hX, by rw [← hf]; exact hY, by rw [← hf]; rfl⟩, gk_E_i rfl rfl (sg_30_0 (d := d + 3) hS ha ⟨X, eX, ?_⟩), s2, Fr_trans f1 f2, R2⟩
  rw [hlen]
  refine g1 _ _ (sg_30_18 (d := d + 3) s1 ha _ _ _ ⟨fun _ => ⟨Y, eY, ?_⟩, fun q => absurd i_z1 q⟩)
  rw [hl2]
  refine g2 _ _ (sg_30_81 (d := d + 3) s2 ha _ _ _ ⟨fun _ => ⟨?_, rfl⟩, fun q => absurd i_z1 q⟩)
  rw [hl3, i_sub hl1]
end FC

/-! part 64: where what a variable produces may end -/
def el (wd : List Nat) (E : Nat → Nat → Int32) (s p : Nat) : Int32 := if s < 16 then E s p else if wd[p]? = some s then (1 : Int32) <<< (Int32.ofNat (p + 1) &&& 31) else 0
def rcK (wd : List Nat) (E : Nat → Nat → Int32) (s : Nat) (X : Int32) : Nat → Int32
  | 0 => 0
  | k + 1 => if bt X k = true then rcK wd E s X k ||| el wd E s k else rcK wd E s X k
def rc (wd : List Nat) (E : Nat → Nat → Int32) (s : Nat) (X : Int32) : Int32 := rcK wd E s X (wd.length + 1)
def row (wd : List Nat) (E : Nat → Nat → Int32) (s : List Nat) (X : Int32) : Int32 := s.foldl (fun X x => rc wd E x X) X
def bp (p : Nat) : Int32 := (1 : Int32) <<< (Int32.ofNat p &&& 31)
theorem rcK_bt (wd : List Nat) (E : Nat → Nat → Int32) (s : Nat) (X : Int32) (c : Nat) : ∀ k, bt (rcK wd E s X k) c = true ↔ ∃ p, p < k ∧ bt X p = true ∧ bt (el wd E s p) c = true
  | 0 => by simp [rcK, bt_zero]
  | k + 1 => by
    simp only [rcK]
    have ih := rcK_bt wd E s X c k
    by_cases h : bt X k = true
    · rw [if_pos h, bt_or, Bool.or_eq_true, ih]
      constructor
      · rintro (⟨p, h1, h2⟩ | h2)
        · exact ⟨p, by omega, h2⟩
        · exact ⟨k, by omega, h, h2⟩
      · rintro ⟨p, h1, h2, h3⟩
        by_cases e : p = k
        · subst e; exact Or.inr h3
        · exact Or.inl ⟨p, by omega, h2, h3⟩
    · rw [if_neg h, ih]
      constructor
      · rintro ⟨p, h1, h2⟩; exact ⟨p, by omega, h2⟩
      · rintro ⟨p, h1, h2, h3⟩
        refine ⟨p, ?_, h2, h3⟩
        by_cases e : p = k
        · subst e; exact absurd h2 h
        · omega
theorem rc_bt {wd : List Nat} {E : Nat → Nat → Int32} {s : Nat} {X : Int32} {c : Nat} : bt (rc wd E s X) c = true ↔ ∃ p, p ≤ wd.length ∧ bt X p = true ∧ bt (el wd E s p) c = true := by
  unfold rc
  rw [rcK_bt]
  exact exists_congr fun p => and_congr (by omega) Iff.rfl
theorem rc_0 (wd : List Nat) (E : Nat → Nat → Int32) (s : Nat) : rc wd E s 0 = 0 := bt_eq0.mpr fun c _ => by
  rcases h : bt (rc wd E s 0) c with _ | _
  · rfl
  · obtain ⟨p, _, h2, _⟩ := rc_bt.mp h
    rw [bt_zero] at h2; cases h2
theorem row_0 (wd : List Nat) (E : Nat → Nat → Int32) : ∀ s : List Nat, row wd E s 0 = 0
  | [] => rfl
  | x :: s => by
    show row wd E s (rc wd E x 0) = 0
    rw [rc_0]; exact row_0 wd E s
def tle (E E' : Nat → Nat → Int32) : Prop := ∀ v p, ble (E v p) (E' v p)
theorem tle_refl (E : Nat → Nat → Int32) : tle E E := fun _ _ => ble_refl _
theorem tle_trans {E E' E'' : Nat → Nat → Int32} (h : tle E E') (h' : tle E' E'') : tle E E'' := fun v p => ble_trans _ _ _ (h v p) (h' v p)
theorem rc_mono {wd : List Nat} {E E' : Nat → Nat → Int32} (h : tle E E') {X X' : Int32} (hX : ble X X') (s : Nat) : ble (rc wd E s X) (rc wd E' s X') := fun c hc => by
  obtain ⟨p, h1, h2, h3⟩ := rc_bt.mp hc
  refine rc_bt.mpr ⟨p, h1, hX p h2, ?_⟩
  unfold el at h3 ⊢
  by_cases h16 : s < 16
  · rw [if_pos h16] at h3 ⊢; exact h s p c h3
  · rw [if_neg h16] at h3 ⊢; exact h3
theorem row_mono {wd : List Nat} {E E' : Nat → Nat → Int32} (h : tle E E') : ∀ (s : List Nat) {X X' : Int32}, ble X X' → ble (row wd E s X) (row wd E' s X')
  | [], _, _, hX => hX
  | x :: s, _, _, hX => row_mono h s (rc_mono h hX x)
def clE (wd : List Nat) (G : List Rl) (E : Nat → Nat → Int32) : Prop := ∀ r ∈ G, ∀ p, p ≤ wd.length → ble (row wd E r.2 (bp p)) (E r.1 p)
def isE (wd : List Nat) (G : List Rl) (E : Nat → Nat → Int32) : Prop := clE wd G E ∧ ∀ T, clE wd G T → tle E T
theorem isE_uniq {wd : List Nat} {G : List Rl} {E E' : Nat → Nat → Int32} (h : isE wd G E) (h' : isE wd G E') : E = E' := by
  funext v p
  exact ble_anti _ _ (h.2 E' h'.1 v p) (h'.2 E h.1 v p)
/-- bits stand where they may -/
def bnd (wd : List Nat) (E : Nat → Nat → Int32) : Prop := ∀ v p c, bt (E v p) c = true → v < 16 ∧ p ≤ wd.length ∧ p ≤ c ∧ c ≤ wd.length
def upE (E : Nat → Nat → Int32) (v p : Nat) (x : Int32) : Nat → Nat → Int32 := fun v' p' => if v' = v ∧ p' = p then x else E v' p'
theorem upE_id {E : Nat → Nat → Int32} {v p : Nat} {x : Int32} (h : x = E v p) : upE E v p x = E := by
  funext v' p'
  unfold upE
  by_cases e : v' = v ∧ p' = p
  · rw [if_pos e, h, e.1, e.2]
  · rw [if_neg e]
theorem rc_bnd {wd : List Nat} {E : Nat → Nat → Int32} (hE : bnd wd E) (hL : wd.length ≤ 10) {q : Nat} {X : Int32} (hX : ∀ c, bt X c = true → q ≤ c ∧ c ≤ wd.length) (s : Nat) : ∀ c, bt (rc wd E s X) c = true → q ≤ c ∧ c ≤ wd.length := fun c hc => by
  obtain ⟨p, h1, h2, h3⟩ := rc_bt.mp hc
  have h4 := hX p h2
  unfold el at h3
  by_cases h16 : s < 16
  · rw [if_pos h16] at h3
    have := hE s p c h3
    omega
  · rw [if_neg h16] at h3
    by_cases hw : wd[p]? = some s
    · rw [if_pos hw] at h3
      have hp := (List.getElem?_eq_some_iff.mp hw).1
      rw [bt_pow (by omega)] at h3
      have := of_decide_eq_true h3
      omega
    · rw [if_neg hw, bt_zero] at h3; cases h3
theorem row_bnd {wd : List Nat} {E : Nat → Nat → Int32} (hE : bnd wd E) (hL : wd.length ≤ 10) {q : Nat} : ∀ (s : List Nat) {X : Int32}, (∀ c, bt X c = true → q ≤ c ∧ c ≤ wd.length) → ∀ c, bt (row wd E s X) c = true → q ≤ c ∧ c ≤ wd.length
  | [], _, hX => hX
  | x :: s, _, hX => row_bnd hE hL s (rc_bnd hE hL hX x)
theorem bp_bt {p : Nat} (h : p < 32) (c : Nat) : bt (bp p) c = decide (c = p) := bt_pow h c
theorem bp_bnd {wd : List Nat} (hL : wd.length ≤ 10) {p : Nat} (hp : p ≤ wd.length) : ∀ c, bt (bp p) c = true → p ≤ c ∧ c ≤ wd.length := fun c hc => by
  rw [bp_bt (by omega)] at hc
  have := of_decide_eq_true hc
  omega
theorem row_congr {wd : List Nat} {E E' : Nat → Nat → Int32} {q : Nat} (he : ∀ v p, q ≤ p → E v p = E' v p) (hE : bnd wd E) (hL : wd.length ≤ 10) : ∀ (s : List Nat) {X : Int32}, (∀ c, bt X c = true → q ≤ c ∧ c ≤ wd.length) → row wd E s X = row wd E' s X
  | [], _, _ => rfl
  | x :: s, X, hX => by
    have e : rc wd E x X = rc wd E' x X := by
      refine bt_ext fun c _ => ?_
      rw [Bool.eq_iff_iff, rc_bt, rc_bt]
      refine exists_congr fun p => and_congr_right fun h1 => and_congr_right fun h2 => ?_
      unfold el
      rw [he x p (hX p h2).1]
    show row wd E s (rc wd E x X) = row wd E' s (rc wd E' x X)
    rw [← e]
    exact row_congr he hE hL s (rc_bnd hE hL hX x)
theorem upE_bnd {wd : List Nat} {E : Nat → Nat → Int32} (hE : bnd wd E) {v p : Nat} {x : Int32} (hv : v < 16) (hp : p ≤ wd.length) (hx : ∀ c, bt x c = true → p ≤ c ∧ c ≤ wd.length) : bnd wd (upE E v p x) := fun v' p' c hc => by
  unfold upE at hc
  by_cases e : v' = v ∧ p' = p
  · rw [if_pos e] at hc
    have := hx c hc
    exact ⟨by omega, by omega, by omega, this.2⟩
  · rw [if_neg e] at hc; exact hE v' p' c hc
theorem upE_tle {E : Nat → Nat → Int32} {v p : Nat} {x : Int32} (h : ble (E v p) x) : tle E (upE E v p x) := fun v' p' c hc => by
  unfold upE
  by_cases e : v' = v ∧ p' = p
  · rw [if_pos e]
    rw [e.1, e.2] at hc
    exact h c hc
  · rw [if_neg e]; exact hc
theorem upE_le {E T : Nat → Nat → Int32} (h : tle E T) {v p : Nat} {x : Int32} (hx : ble x (T v p)) : tle (upE E v p x) T := fun v' p' c hc => by
  unfold upE at hc
  by_cases e : v' = v ∧ p' = p
  · rw [if_pos e] at hc
    rw [e.1, e.2]; exact hx c hc
  · rw [if_neg e] at hc; exact h v' p' c hc
def TE (w : gk_Wd) (q : Nat) (E : Nat → Nat → Int32) : Prop := ∀ v p, v < 16 → p < 11 → (w_a w q).getD (11 * v + p) 0 = E v p
theorem TE_congr {w w' : gk_Wd} {q : Nat} {E : Nat → Nat → Int32} (h : TE w q E) (e : w_a w' q = w_a w q) : TE w' q E := fun v p hv hp => by rw [e]; exact h v p hv hp
theorem TE_set {rr : List gk_S} {w : gk_Wd} {q : Nat} {E : Nat → Nat → Int32} (hS : gk_Sh rr w) (hq : gp_lay[q]? = some (.inr (.inl (0, 176)))) (h : TE w q E) {v p : Nat} (hv : v < 16) (hp : p < 11) (x : Int32) : TE (w_sa w q ((w_a w q).set (11 * v + p) x)) q (upE E v p x) := by
  have hl := (w_int hS hq).2
  intro v' p' hv' hp'
  show _ = if v' = v ∧ p' = p then x else E v' p'
  rw [w_a_same hS hq, getD_set32 _ (by omega)]
  by_cases e : v' = v ∧ p' = p
  · rw [if_pos e, if_pos (by omega)]
  · rw [if_neg e, if_neg (by omega)]; exact h v' p' hv' hp'
theorem ix11 (v p : Nat) : 11 * Int32.ofNat v + Int32.ofNat p = Int32.ofNat (11 * v + p) := by
  rw [show (11 : Int32) = Int32.ofNat 11 from rfl, i_mul, i_add]
theorem ix11c (v p : Nat) : Int32.ofNat v * 11 + Int32.ofNat p = Int32.ofNat (11 * v + p) := by
  rw [show (11 : Int32) = Int32.ofNat 11 from rfl, i_mul, i_add, Nat.mul_comm]
/-- the word of the class, of the reference -/
def WC (w : gk_Wd) (wd : List Nat) : Prop := w_i w 19 1 = Int32.ofNat wd.length ∧ wd.length ≤ 10 ∧ (∀ s ∈ wd, 16 ≤ s ∧ s < 22) ∧ ∀ k s, wd[k]? = some s → (w_a w 20).getD k 0 = Int32.ofNat s
def WM (w : gk_Wd) (wd : List Nat) : Prop := w_i w 26 24 = Int32.ofNat wd.length ∧ wd.length ≤ 10 ∧ (∀ s ∈ wd, 16 ≤ s ∧ s < 22) ∧ ∀ k s, wd[k]? = some s → (w_a w 43).getD k 0 = Int32.ofNat s
theorem i_or0 (x : Int32) : x ||| 0 = x := by
  refine bt_ext fun c _ => ?_
  rw [bt_or, bt_zero, Bool.or_false]
theorem word_el {wd : List Nat} {a : List Int32} (hl : wd.length ≤ 10) (h22 : ∀ s ∈ wd, 16 ≤ s ∧ s < 22) (ha : ∀ k s, wd[k]? = some s → a.getD k 0 = Int32.ofNat s) {k s : Nat} (hk : k < wd.length) (hs : s < 22) : a.getD (Int32.ofNat k).toNatClampNeg 0 = Int32.ofNat s ↔ wd[k]? = some s := by
  have h1 := h22 _ (List.getElem_mem hk)
  rw [i_nat (by omega), ha k _ (List.getElem?_eq_getElem hk), i_eq (by omega) (by omega), List.getElem?_eq_getElem hk, Option.some.injEq]
section EN
variable {d : Nat} {rr : List gk_S} {w : gk_Wd} {wd : List Nat} {E : Nat → Nat → Int32}
/-- endsOfVariable -/
theorem E77 (hS : gk_Sh rr w) (hW : WC w wd) (hE : TE w 21 E) {s : Nat} (hs : s < 16) (X : Int32) : gk_E d 77 [.ref 20, .int (Int32.ofNat s), .int X] w (.inl (some (.int (rc wd E s X)))) w := by
  have hL := hW.2.1
  obtain ⟨-, w1, rfl, g1⟩ := up_loop (α := Unit) (d := d) (mi := 77) (pc := 5) (wd.length + 1) (fun k _ => [some (.ref 20), some (.int (Int32.ofNat s)), some (.int X), some (.int (rcK wd E s X k)), some (.int (Int32.ofNat k))])
    (fun k _ w1 => w1 = w)
    (fun k _ w1 hk hI => by
      obtain rfl := hI
      have hle : ¬ w_i w1 19 1 < Int32.ofNat k := by
        rw [hW.1]; intro q
        exact absurd ((i_lt (by omega) (by omega)).mp q) (by omega)
      have e0 := bt_is0 X (v := k) (by omega)
      refine ⟨(), w1, rfl, fun r w' h => sg_77_5 hS _ _ _ _ ⟨fun q => absurd q hle, fun _ => ⟨fun q => ?_, fun q => ⟨?_, ?_⟩⟩⟩⟩
      · simp only [rcK] at h
        rw [if_neg (by rw [e0.mp q]; decide)] at h
        rw [i_s]; exact h
      · rw [ix11c]; exact o_ok (by omega) (by omega)
      · rw [e0] at q
        simp only [rcK] at h
        rw [if_pos (by simpa using q)] at h
        have e1 : el wd E s k = E s k := if_pos hs
        rw [e1] at h
        rw [ix11c, i_nat (by omega), hE s k hs (by omega), i_s]; exact h) (wd.length + 1) 0 () w (by omega) rfl
  refine gk_E_i rfl rfl (sg_77_0 hS _ _ (g1 _ _ (sg_77_5 hS _ _ _ _ ⟨fun _ => ⟨rfl, rfl⟩, fun q => absurd ?_ q⟩)))
  rw [hW.1]; exact (i_lt (by omega) (by omega)).mpr (by omega)
/-- endsOfLetter -/
theorem E78 (hS : gk_Sh rr w) (hW : WC w wd) {s : Nat} (hs : 16 ≤ s) (hs2 : s < 22) (X : Int32) : gk_E d 78 [.ref 20, .int (Int32.ofNat s), .int X] w (.inl (some (.int (rc wd E s X)))) w := by
  have hL := hW.2.1
  obtain ⟨-, w1, rfl, g1⟩ := up_loop (α := Unit) (d := d) (mi := 78) (pc := 5) wd.length (fun k _ => [some (.ref 20), some (.int (Int32.ofNat s)), some (.int X), some (.int (rcK wd E s X k)), some (.int (Int32.ofNat k))])
    (fun k _ w1 => w1 = w)
    (fun k _ w1 hk hI => by
      obtain rfl := hI
      have hle : ¬ w_i w1 19 1 ≤ Int32.ofNat k := by
        rw [hW.1]; intro q
        exact absurd ((i_le (by omega) (by omega)).mp q) (by omega)
      have e0 := bt_is0 X (v := k) (by omega)
      have ew := word_el hL hW.2.2.1 hW.2.2.2 hk hs2
      refine ⟨(), w1, rfl, fun r w' h => sg_78_5 hS _ _ _ _ ⟨fun q => absurd q hle, fun _ => ⟨fun q => ?_, fun q => ⟨o_ok (by omega) (by omega), fun q2 => ?_, fun q2 => ?_⟩⟩⟩⟩
      · simp only [rcK] at h
        rw [if_neg (by rw [e0.mp q]; decide)] at h
        rw [i_s]; exact h
      · rw [e0] at q
        rw [ew] at q2
        simp only [rcK] at h
        have e1 : el wd E s k = 0 := by unfold el; rw [if_neg (by omega), if_neg q2]
        rw [if_pos (by simpa using q), e1, i_or0] at h
        rw [i_s]; exact h
      · rw [e0] at q
        rw [ew] at q2
        simp only [rcK] at h
        have e1 : el wd E s k = (1 : Int32) <<< (Int32.ofNat (k + 1) &&& 31) := by unfold el; rw [if_neg (by omega), if_pos q2]
        rw [if_pos (by simpa using q), e1] at h
        rw [i_s]; exact h) wd.length 0 () w (by omega) rfl
  have e : rcK wd E s X wd.length = rc wd E s X := by
    unfold rc
    simp only [rcK]
    have e1 : el wd E s wd.length = 0 := by unfold el; rw [if_neg (by omega), if_neg (by simp)]
    rw [e1, i_or0]
    split <;> rfl
  refine gk_E_i rfl rfl (sg_78_0 hS _ _ (g1 _ _ (sg_78_5 hS _ _ _ _ ⟨fun _ => ⟨by rw [e], rfl⟩, fun q => absurd ?_ q⟩)))
  rw [hW.1]; exact (i_le (by omega) (by omega)).mpr (Nat.le_refl _)
/-- endsOfSymbol -/
theorem E76 (hS : gk_Sh rr w) (hW : WC w wd) (hE : TE w 21 E) {s : Nat} (hs : s < 22) (X : Int32) : gk_E (d + 1) 76 [.ref 20, .int (Int32.ofNat s), .int X] w (.inl (some (.int (rc wd E s X)))) w := by
  refine gk_E_i rfl rfl (sg_76_0 hS _ _ ⟨fun q => ?_, fun q => ?_⟩)
  · rw [f_28_0 (by omega)] at q
    exact ⟨_, E78 hS hW q hs X, rfl, rfl⟩
  · rw [f_28_0 (by omega)] at q
    exact ⟨_, E77 hS hW hE (by omega) X, rfl, rfl⟩
/-- endsOfRow -/
theorem E75 (hS : gk_Sh rr w) (hW : WC w wd) (hE : TE w 21 E) {r : Rl} (hr : okR r) (X : Int32) : gk_E (d + 2) 75 [.ref 20, .long (pk r), .int X] w (.inl (some (.int (row wd E r.2 X)))) w := by
  have h10 := hr.2.1
  obtain ⟨v, w1, ⟨rfl, rfl⟩, g1⟩ := up_exit (α := Int32) (d := d + 2) (mi := 75) (pc := 6) r.2.length (fun k Y => [some (.ref 20), some (.long (pk r)), none, none, some (.int Y), some (.int (Int32.ofNat (k + 1)))])
    (fun k Y w1 => w1 = w ∧ row wd E (r.2.drop k) Y = row wd E r.2 X) (fun v w' => v = .inl (some (.int (row wd E r.2 X))) ∧ w' = w)
    (fun k Y w1 hk hI => by
      obtain ⟨rfl, hY⟩ := hI
      have hs := hr.2.2 _ (List.getElem_mem hk)
      rw [List.drop_eq_getElem_cons hk] at hY
      by_cases h0 : Y = 0
      · right
        rw [h0] at hY
        rw [row_0] at hY
        refine ⟨_, w1, ⟨rfl, rfl⟩, sg_75_6 (d := d + 1) hS _ _ _ ⟨fun q => absurd q (len_f hr (by omega)), fun _ => ⟨fun _ => ⟨by rw [h0, hY], rfl⟩, fun q => absurd h0 q⟩⟩⟩
      · left
        refine ⟨rc wd E r.2[k] Y, w1, ⟨rfl, hY⟩, fun v w' h => sg_75_6 (d := d + 1) hS _ _ _ ⟨fun q => absurd q (len_f hr (by omega)), fun _ => ⟨fun q => absurd q h0, fun _ => ⟨_, by rw [f_26_pk hr hk]; exact E76 hS hW hE hs Y, by rw [i_s]; exact h⟩⟩⟩⟩)
    (fun Y w1 hI => by
      obtain ⟨rfl, hY⟩ := hI
      rw [List.drop_eq_nil_of_le (Nat.le_refl _)] at hY
      have hY2 : Y = row wd E r.2 X := hY
      exact ⟨_, w1, ⟨rfl, rfl⟩, sg_75_6 (d := d + 1) hS _ _ _ ⟨fun _ => ⟨by rw [hY2], rfl⟩, fun q => absurd (len_t hr (by omega) (by omega)) q⟩⟩)
    r.2.length 0 X w (by omega) ⟨rfl, rfl⟩
  exact gk_E_i rfl rfl (sg_75_0 (d := d + 1) hS _ _ g1)
/-- reachOf -/
theorem E207 (hS : gk_Sh rr w) (hW : WM w wd) (hE : TE w 44 E) {s : Nat} (hs : s < 22) (X : Int32) : gk_E (d + 1) 207 [.ref 27, .int (Int32.ofNat s), .int X] w (.inl (some (.int (rc wd E s X)))) w := by
  have hL := hW.2.1
  obtain ⟨-, w1, rfl, g1⟩ := up_loop (α := Unit) (d := d + 1) (mi := 207) (pc := 5) (wd.length + 1) (fun k _ => [some (.ref 27), some (.int (Int32.ofNat s)), some (.int X), some (.int (rcK wd E s X k)), some (.int (Int32.ofNat k))])
    (fun k _ w1 => w1 = w)
    (fun k _ w1 hk hI => by
      obtain rfl := hI
      have hle : ¬ w_i w1 26 24 < Int32.ofNat k := by
        rw [hW.1]; intro q
        exact absurd ((i_lt (by omega) (by omega)).mp q) (by omega)
      have e0 := bt_is0 X (v := k) (by omega)
      refine ⟨(), w1, rfl, fun r w' h => sg_207_5 hS _ _ _ _ ⟨fun q => absurd q hle, fun _ => ⟨fun q => ⟨fun q2 => ⟨fun q3 => ?_, fun q3 => ?_⟩, fun q2 => ⟨?_, ?_⟩⟩, fun q => ?_⟩⟩⟩
      · rw [e0] at q
        rw [f_163_n (by omega)] at q2
        rw [hW.1, i_le (by omega) (by omega)] at q3
        simp only [rcK] at h
        have e1 : el wd E s k = 0 := by
          unfold el; rw [if_neg (by omega), if_neg (by rw [List.getElem?_eq_none (by omega)]; simp)]
        rw [if_pos (by simpa using q), e1, i_or0] at h
        rw [i_s]; exact h
      · rw [e0] at q
        rw [f_163_n (by omega)] at q2
        rw [hW.1, i_le (by omega) (by omega)] at q3
        have hkl : k < wd.length := by omega
        have ew := word_el hL hW.2.2.1 hW.2.2.2 hkl hs
        refine ⟨o_ok (by omega) (by omega), fun q4 => ?_, fun q4 => ?_⟩
        · rw [ew] at q4
          simp only [rcK] at h
          have e1 : el wd E s k = 0 := by unfold el; rw [if_neg (by omega), if_neg q4]
          rw [if_pos (by simpa using q), e1, i_or0] at h
          rw [i_s]; exact h
        · rw [ew] at q4
          simp only [rcK] at h
          have e1 : el wd E s k = (1 : Int32) <<< (Int32.ofNat (k + 1) &&& 31) := by unfold el; rw [if_neg (by omega), if_pos q4]
          rw [if_pos (by simpa using q), e1] at h
          rw [i_s]; exact h
      · rw [f_163_n (by omega)] at q2
        rw [ix11]; exact o_ok (by omega) (by omega)
      · rw [e0] at q
        rw [f_163_n (by omega)] at q2
        simp only [rcK] at h
        have e1 : el wd E s k = E s k := if_pos (by omega)
        rw [if_pos (by simpa using q), e1] at h
        rw [ix11, i_nat (by omega), hE s k (by omega) (by omega), i_s]; exact h
      · simp only [rcK] at h
        rw [if_neg (by rw [e0.mp q]; decide)] at h
        rw [i_s]; exact h) (wd.length + 1) 0 () w (by omega) rfl
  refine gk_E_i rfl rfl (sg_207_0 hS _ _ (g1 _ _ (sg_207_5 hS _ _ _ _ ⟨fun _ => ⟨rfl, rfl⟩, fun q => absurd ?_ q⟩)))
  rw [hW.1]; exact (i_lt (by omega) (by omega)).mpr (by omega)
end EN

/-! part 50: looking for the first; free variables -/
def fsN (p : Nat → Bool) : Nat → Option Nat
  | 0 => none
  | k + 1 => match fsN p k with
    | some i => some i
    | none => if p k = true then some k else none
theorem fsN_miss {p : Nat → Bool} {k : Nat} (h : p k = false) : fsN p (k + 1) = fsN p k := by
  simp only [fsN, h]
  cases fsN p k <;> rfl
theorem fsN_hit {p : Nat → Bool} {k : Nat} (h0 : fsN p k = none) (h : p k = true) : ∀ {n : Nat}, k < n → fsN p n = some k
  | 0, hn => by omega
  | n + 1, hn => by
    by_cases e : k = n
    · subst e
      simp only [fsN, h0, h, if_true]
    · simp only [fsN, fsN_hit h0 h (show k < n by omega)]
theorem fsN_some {p : Nat → Bool} : ∀ {n k : Nat}, fsN p n = some k → k < n ∧ p k = true
  | 0, k, h => by simp [fsN] at h
  | n + 1, k, h => by
    simp only [fsN] at h
    cases hn : fsN p n with
    | some i =>
      rw [hn] at h
      obtain rfl := Option.some.inj h
      have := fsN_some hn
      exact ⟨by omega, this.2⟩
    | none =>
      rw [hn] at h
      by_cases hp : p n = true
      · rw [if_pos hp] at h
        obtain rfl := Option.some.inj h
        exact ⟨by omega, hp⟩
      · rw [if_neg hp] at h; cases h
theorem fsN_none {p : Nat → Bool} : ∀ {n : Nat}, fsN p n = none → ∀ k, k < n → p k = false
  | 0, _, k, hk => by omega
  | n + 1, h, k, hk => by
    simp only [fsN] at h
    cases hn : fsN p n with
    | some i => rw [hn] at h; cases h
    | none =>
      rw [hn] at h
      by_cases e : k = n
      · subst e
        cases hp : p k with
        | false => rfl
        | true => rw [hp, if_pos rfl] at h; cases h
      · exact fsN_none hn k (by omega)
theorem fsN_congr {p q : Nat → Bool} : ∀ {n : Nat}, (∀ k, k < n → p k = q k) → fsN p n = fsN q n
  | 0, _ => rfl
  | n + 1, h => by
    simp only [fsN]
    rw [fsN_congr (fun k hk => h k (by omega)), h n (by omega)]
def oI : Option Nat → Int32
  | none => -1
  | some k => Int32.ofNat k
def fstI (p : Rl → Bool) (G : List Rl) : Option Nat := fsN (fun k => (G[k]?).any p) G.length
theorem anyAt {p : Rl → Bool} {G : List Rl} {k : Nat} (hk : k < G.length) : (G[k]?).any p = p G[k] := by
  rw [List.getElem?_eq_getElem hk]; rfl
theorem fstI_some {p : Rl → Bool} {G : List Rl} {k : Nat} (h : fstI p G = some k) : ∃ hk : k < G.length, p G[k] = true := by
  obtain ⟨h1, h2⟩ := fsN_some h
  rw [anyAt h1] at h2
  exact ⟨h1, h2⟩
theorem fstI_any {p : Rl → Bool} {G : List Rl} : (fstI p G).isSome = G.any p := by
  cases h : fstI p G with
  | some k =>
    obtain ⟨hk, h1⟩ := fstI_some h
    exact (List.any_eq_true.mpr ⟨_, List.getElem_mem hk, h1⟩).symm
  | none =>
    refine (List.any_eq_false.mpr fun r hr => ?_).symm
    obtain ⟨k, hk, rfl⟩ := List.mem_iff_getElem.mp hr
    have := fsN_none h k hk
    rw [anyAt hk] at this
    rw [this]; decide
def hitV (hit : Nat → Int32) (ve : Int32) : Option Nat → Int32
  | none => ve
  | some k => hit k
theorem scan {d mi pc : Nat} {w : gk_Wd} (p : Rl → Bool) (G : List Rl) (L : Int32 → gk_Lc) (hit : Nat → Int32) (ve : Int32)
    (step : ∀ (k : Nat) (hk : k < G.length) (r : gk_Res) (w' : gk_Wd), (p G[k] = false → gk_W none d mi pc (L (Int32.ofNat (k + 1))) [] w r w') → (p G[k] = true → r = .inl (some (.int (hit k))) ∧ w' = w) → gk_W none d mi pc (L (Int32.ofNat k)) [] w r w')
    (fin : gk_W none d mi pc (L (Int32.ofNat G.length)) [] w (.inl (some (.int ve))) w) :
    ∀ (m k : Nat), k + m = G.length → fsN (fun k => (G[k]?).any p) k = none → gk_W none d mi pc (L (Int32.ofNat k)) [] w (.inl (some (.int (hitV hit ve (fstI p G))))) w
  | 0, k, hk, h0 => by
    obtain rfl : k = G.length := by omega
    have : fstI p G = none := h0
    rw [this]; exact fin
  | m + 1, k, hk, h0 => by
    have hkl : k < G.length := by omega
    refine step k hkl _ _ (fun q => scan p G L hit ve step fin m (k + 1) (by omega) ?_) (fun q => ⟨?_, rfl⟩)
    · rw [fsN_miss (by rw [anyAt hkl]; exact q)]; exact h0
    · have : fstI p G = some k := fsN_hit h0 (by rw [anyAt hkl]; exact q) hkl
      rw [this]; rfl
/-- begins with a variable before x, its own left side -/
def elB (x : Nat) (r : Rl) : Bool := decide (r.1 = x ∧ 0 < r.2.length ∧ r.2.headD 0 < x)
/-- is used -/
def usB (G : List Rl) (v : Nat) : Bool := G.any fun r => decide (r.1 = v) || decide (v ∈ r.2)
def frV (G : List Rl) : Option Nat := fsN (fun v => !usB G v) 16
section SE
variable {d : Nat} {rr : List gk_S} {w : gk_Wd} {G : List Rl}
theorem f_26_hd {r : Rl} (hr : okR r) (h0 : 0 < r.2.length) : f_26 (pk r) 1 = Int32.ofNat (r.2.headD 0) := by
  rw [headD_at h0]; exact f_26_pk hr h0
theorem hd_22 {r : Rl} (hr : okR r) (h0 : 0 < r.2.length) : r.2.headD 0 < 22 := by
  rw [headD_at h0]; exact hr.2.2 _ (List.getElem_mem h0)
theorem f_24_le0 {r : Rl} (hr : okR r) : f_24 (pk r) ≤ 0 ↔ ¬ 0 < r.2.length := by
  have := hr.2.1
  rw [f_24_pk hr]
  have := i_le (a := r.2.length) (b := 0) (by omega) (by omega)
  rw [show (0 : Int32) = Int32.ofNat 0 from rfl, this]; omega
theorem RM_hd (hR : RM w 4 28 G) {i : Nat} (hi : i < G.length) (h0 : 0 < G[i].2.length) : f_151 w (Int32.ofNat i) 0 = Int32.ofNat (G[i].2.headD 0) := by
  rw [headD_at h0]; exact RM_at hR hi h0
theorem RM_sz0 (hR : RM w 4 28 G) {i : Nat} (hi : i < G.length) : (w_a w 29).getD (Int32.ofNat i).toNatClampNeg 0 ≤ 0 ↔ ¬ 0 < G[i].2.length := by
  have : (w_a w 29).getD (Int32.ofNat i).toNatClampNeg 0 ≤ 0 ↔ G[i].2.length ≤ 0 := RM_sz hR hi (k := 0) (by omega)
  rw [this]; omega
/-- withEarlierLead -/
theorem E111 (hS : gk_Sh rr w) (hR : RS w 5 G) {x : Nat} (hx : x < 16) : gk_E (d + 1) 111 [.ref 6, .int (Int32.ofNat x)] w (.inl (some (.int (oI (fstI (elB x) G))))) w := by
  have h60 := RS_60 hR
  have := scan (d := d + 1) (mi := 111) (pc := 2) (w := w) (elB x) G (fun k => [some (.ref (5 + 1)), some (.int (Int32.ofNat x)), some (.int k), none, none]) (fun k => Int32.ofNat k) (-1) (fun k hk r w' h1 h2 => by
    have ef := RS_f23 hR hk
    have hok := RS_ok hR hk
    have h16 := hok.1
    have hle : ¬ f_13 w 5 ≤ Int32.ofNat k := fun q => absurd ((RS_le hR (by omega)).mp q) (by omega)
    refine sg_111_2 hS rs_5 _ _ ⟨fun q => absurd q hle, fun _ => ⟨RS_out hR hk, fun q => ?_, fun q => ⟨fun q2 => ?_, fun q2 => ⟨fun q3 => ?_, fun q3 => h2 ?_⟩⟩⟩⟩
    · rw [ef, f_25_pk hok, i_eq (by omega) (by omega)] at q
      rw [i_s]; exact h1 (decide_eq_false fun h => q h.1)
    · rw [ef, f_24_le0 hok] at q2
      rw [i_s]; exact h1 (decide_eq_false fun h => q2 h.2.1)
    · rw [ef, f_24_le0 hok] at q2
      have h0 : 0 < G[k].2.length := by omega
      have := hd_22 hok h0
      rw [ef, f_26_hd hok h0, i_le (by omega) (by omega)] at q3
      rw [i_s]; exact h1 (decide_eq_false fun h => by have := h.2.2; omega)
    · rw [ef, f_25_pk hok, i_eq (by omega) (by omega)] at q
      rw [ef, f_24_le0 hok] at q2
      have h0 : 0 < G[k].2.length := by omega
      have := hd_22 hok h0
      rw [ef, f_26_hd hok h0, i_le (by omega) (by omega)] at q3
      exact decide_eq_true ⟨q, h0, by omega⟩) (sg_111_2 hS rs_5 _ _ ⟨fun _ => ⟨rfl, rfl⟩, fun q => absurd ((RS_le hR (by omega)).mpr (Nat.le_refl _)) q⟩) G.length 0 (by omega) rfl
  have e : hitV (fun k => Int32.ofNat k) (-1) (fstI (elB x) G) = oI (fstI (elB x) G) := by cases fstI (elB x) G <;> rfl
  rw [e] at this
  exact gk_E_i rfl rfl (sg_111_0 hS rs_5 _ this)
/-- findBefore -/
theorem E182 (hS : gk_Sh rr w) (hR : RM w 4 28 G) {x : Nat} (hx : x < 16) : gk_E (d + 1) 182 [.ref 27, .int (Int32.ofNat x)] w (.inl (some (.int (oI (fstI (elB x) G))))) w := by
  have h60 := RM_60 hR
  have := scan (d := d + 1) (mi := 182) (pc := 2) (w := w) (elB x) G (fun k => [some (.ref 27), some (.int (Int32.ofNat x)), some (.int k)]) (fun k => Int32.ofNat k) (-1) (fun k hk r w' h1 h2 => by
    have el := RM_left hR hk
    have hok := RM_ok hR hk
    have h16 := hok.1
    have hle : ¬ w_i w 26 4 ≤ Int32.ofNat k := fun q => absurd ((RM_le hR (by omega)).mp q) (by omega)
    refine sg_182_2 hS _ _ ⟨fun q => absurd q hle, fun _ => ⟨RM_out hR hk, fun q => ?_, fun q => ⟨RM_out hR hk, fun q2 => ?_, fun q2 => ⟨RM_io hR hk (k := 0) (by omega), fun q3 => ?_, fun q3 => h2 ?_⟩⟩⟩⟩
    · rw [el, i_eq (by omega) (by omega)] at q
      rw [i_s]; exact h1 (decide_eq_false fun h => q h.1)
    · rw [RM_sz0 hR hk] at q2
      rw [i_s]; exact h1 (decide_eq_false fun h => q2 h.2.1)
    · rw [RM_sz0 hR hk] at q2
      have h0 : 0 < G[k].2.length := by omega
      have := hd_22 hok h0
      rw [RM_hd hR hk h0, i_le (by omega) (by omega)] at q3
      rw [i_s]; exact h1 (decide_eq_false fun h => by have := h.2.2; omega)
    · rw [el, i_eq (by omega) (by omega)] at q
      rw [RM_sz0 hR hk] at q2
      have h0 : 0 < G[k].2.length := by omega
      have := hd_22 hok h0
      rw [RM_hd hR hk h0, i_le (by omega) (by omega)] at q3
      exact decide_eq_true ⟨q, h0, by omega⟩) (sg_182_2 hS _ _ ⟨fun _ => ⟨rfl, rfl⟩, fun q => absurd ((RM_le hR (by omega)).mpr (Nat.le_refl _)) q⟩) G.length 0 (by omega) rfl
  have e : hitV (fun k => Int32.ofNat k) (-1) (fstI (elB x) G) = oI (fstI (elB x) G) := by cases fstI (elB x) G <;> rfl
  rw [e] at this
  exact gk_E_i rfl rfl (sg_182_0 hS _ this)
theorem usB_take {k : Nat} (hk : k < G.length) (v : Nat) : usB (G.take (k + 1)) v = (usB (G.take k) v || (decide (G[k].1 = v) || decide (v ∈ G[k].2))) := by
  unfold usB
  rw [List.take_succ_eq_append_getElem hk, List.any_append]
  simp
/-- freeVariable of the class -/
theorem E117 (hS : gk_Sh rr w) (hR : RS w 5 G) : gk_E (d + 2) 117 [.ref 6] w (.inl (some (.int (oI (frV G))))) w := by
  have h60 := RS_60 hR
  obtain ⟨X, w1, ⟨rfl, hX⟩, g1⟩ := up_loop (α := Int32) (d := d + 2) (mi := 117) (pc := 7) G.length (fun k X => [some (.ref (5 + 1)), some (.int X), some (.int (Int32.ofNat k))])
    (fun k X w1 => w1 = w ∧ ∀ v, v < 16 → (bt X v = true ↔ (∃ r ∈ G, r.1 = v) ∨ usB (G.take k) v = true))
    (fun k X w1 hk hI => by
      obtain ⟨rfl, hX⟩ := hI
      have ef := RS_at hR hk
      have hok := RS_ok hR hk
      have hle : ¬ w_i w1 5 1 ≤ Int32.ofNat k := fun q => absurd ((RS_le hR (by omega)).mp q) (by omega)
      refine ⟨X ||| vs G[k].2 0, w1, ⟨rfl, fun v hv => ?_⟩, fun r w' h => sg_117_7 (d := d + 1) hS rs_5 _ _ ⟨fun q => absurd q hle, fun _ => ⟨RS_out hR hk, vs G[k].2 0, by rw [ef]; exact E33 hS hok, by rw [i_s]; exact h⟩⟩⟩
      rw [bt_or, Bool.or_eq_true, hX v hv, usB_take hk, vs_bt, bt_zero]
      simp only [Bool.or_eq_true, decide_eq_true_eq, Bool.false_eq_true, false_or]
      constructor
      · rintro ((h | h) | h)
        · exact Or.inl h
        · exact Or.inr (Or.inl h)
        · exact Or.inr (Or.inr (Or.inr h.2))
      · rintro (h | h | h | h)
        · exact Or.inl (Or.inl h)
        · exact Or.inl (Or.inr h)
        · exact Or.inl (Or.inl ⟨_, List.getElem_mem hk, h⟩)
        · exact Or.inr ⟨hv, h⟩) G.length 0 (lsb G 0) w (by omega) ⟨rfl, fun v hv => by
      rw [lsb_bt hR.2.2.1]; simp [bt_zero, usB]⟩
  have hX2 : ∀ v, v < 16 → bt X v = usB G v := fun v hv => by
    rw [Bool.eq_iff_iff, hX v hv, List.take_of_length_le (Nat.le_refl _)]
    constructor
    · rintro (⟨r, hr, h⟩ | h)
      · exact List.any_eq_true.mpr ⟨r, hr, by simp [h]⟩
      · exact h
    · exact Or.inr
  obtain ⟨r, w2, ⟨rfl, rfl⟩, h2⟩ := up_exit (α := Unit) (d := d + 2) (mi := 117) (pc := 35) 16 (fun k _ => [none, some (.int X), some (.int (Int32.ofNat k))])
    (fun k _ w2 => w2 = w1 ∧ fsN (fun v => !usB G v) k = none) (fun r w' => r = .inl (some (.int (oI (frV G)))) ∧ w' = w1)
    (fun k _ w2 hk hI => by
      obtain ⟨rfl, h0⟩ := hI
      cases hb : usB G k with
      | true =>
        left
        refine ⟨(), w2, ⟨rfl, ?_⟩, fun r w' h => sg_117_35 (d := d + 1) hS rs_5 _ _ ⟨fun q => absurd q (n16 hk), fun _ => ⟨fun _ => by rw [i_s]; exact h, fun q => ?_⟩⟩⟩
        · rw [fsN_miss (by rw [hb]; rfl)]; exact h0
        · rw [f_36_0 _ (by omega), hX2 k hk, hb] at q; cases q
      | false =>
        right
        refine ⟨_, w2, ⟨rfl, rfl⟩, sg_117_35 (d := d + 1) hS rs_5 _ _ ⟨fun q => absurd q (n16 hk), fun _ => ⟨fun q => ?_, fun _ => ⟨?_, rfl⟩⟩⟩⟩
        · rw [f_36_0 _ (by omega), hX2 k hk] at q; exact absurd hb q
        · have : frV G = some k := fsN_hit h0 (by rw [hb]; rfl) hk
          rw [this]; rfl)
    (fun _ w2 hI => by
      obtain ⟨rfl, h0⟩ := hI
      refine ⟨_, w2, ⟨rfl, rfl⟩, sg_117_35 (d := d + 1) hS rs_5 _ _ ⟨fun _ => ⟨?_, rfl⟩, fun q => absurd y16 q⟩⟩
      have : frV G = none := h0
      rw [this]; rfl) 16 0 () w1 (by omega) ⟨rfl, rfl⟩
  exact gk_E_i rfl rfl (sg_117_0 (d := d + 1) hS rs_5 ⟨lsb G 0, E109 hS rs_5 hR, g1 _ _ (sg_117_7 (d := d + 1) hS rs_5 _ _ ⟨fun _ => h2, fun q => absurd ((RS_le hR (by omega)).mpr (Nat.le_refl _)) q⟩)⟩)
/-- freeVariable of the reference -/
theorem E186 (hS : gk_Sh rr w) (hR : RM w 4 28 G) : gk_E (d + 1) 186 [.ref 27] w (.inl (some (.int (oI (frV G))))) w := by
  have h60 := RM_60 hR
  have hin : ∀ (v : Nat), v < 16 → Go (d + 1) 186 12 [some (.ref 27), some (.int (Int32.ofNat v)), some (.int 0), some (.int (Int32.ofNat 0)), none] w 12 [some (.ref 27), some (.int (Int32.ofNat v)), some (.int (bI (usB G v))), some (.int (Int32.ofNat G.length)), none] w := by
    intro v hv
    obtain ⟨b, w1, ⟨rfl, hb⟩, g1⟩ := up_loop (α := Bool) (d := d + 1) (mi := 186) (pc := 12) G.length (fun k b => [some (.ref 27), some (.int (Int32.ofNat v)), some (.int (bI b)), some (.int (Int32.ofNat k)), none])
      (fun k b w1 => w1 = w ∧ b = usB (G.take k) v)
      (fun k b w1 hk hI => by
        obtain ⟨rfl, hb⟩ := hI
        have el := RM_left hR hk
        have hok := RM_ok hR hk
        have h16 := hok.1
        have h10 := hok.2.1
        have hle : ¬ w_i w1 26 4 ≤ Int32.ofNat k := fun q => absurd ((RM_le hR (by omega)).mp q) (by omega)
        have hrow : ∀ c : Bool, Go (d + 1) 186 43 [some (.ref 27), some (.int (Int32.ofNat v)), some (.int (bI c)), some (.int (Int32.ofNat k)), some (.int (Int32.ofNat 0))] w1 12 [some (.ref 27), some (.int (Int32.ofNat v)), some (.int (bI (c || decide (v ∈ G[k].2)))), some (.int (Int32.ofNat (k + 1))), none] w1 := by
          intro c
          obtain ⟨c1, w2, ⟨rfl, hc⟩, g2⟩ := up_loop (α := Bool) (d := d + 1) (mi := 186) (pc := 43) G[k].2.length (fun j c => [some (.ref 27), some (.int (Int32.ofNat v)), some (.int (bI c)), some (.int (Int32.ofNat k)), some (.int (Int32.ofNat j))])
            (fun j c1 w2 => w2 = w1 ∧ c1 = (c || decide (v ∈ G[k].2.take j)))
            (fun j c1 w2 hj hI => by
              obtain ⟨rfl, hc⟩ := hI
              have ea := RM_at hR hk hj
              have hs := hok.2.2 _ (List.getElem_mem hj)
              have hsz : ¬ (w_a w2 29).getD (Int32.ofNat k).toNatClampNeg 0 ≤ Int32.ofNat j := fun q => absurd ((RM_sz hR hk (by omega)).mp q) (by omega)
              have et : decide (v ∈ G[k].2.take (j + 1)) = (decide (v ∈ G[k].2.take j) || decide (G[k].2[j] = v)) := by
                rw [List.take_succ_eq_append_getElem hj]
                simp only [List.mem_append, List.mem_singleton, Bool.decide_or]
                congr 1
                exact decide_eq_decide.mpr ⟨fun h => h.symm, fun h => h.symm⟩
              refine ⟨c1 || decide (G[k].2[j] = v), w2, ⟨rfl, by rw [hc, et, Bool.or_assoc]⟩, fun r w' h => ?_⟩
              cases c1 with
              | true =>
                exact sg_186_43 hS _ _ _ _ ⟨RM_out hR hk, fun q => absurd q hsz, fun _ => ⟨fun _ => by rw [i_s]; exact h, fun q => absurd q (by decide)⟩⟩
              | false =>
                refine sg_186_43 hS _ _ _ _ ⟨RM_out hR hk, fun q => absurd q hsz, fun _ => ⟨fun q => absurd rfl q, fun _ => ⟨RM_io hR hk (by omega), fun q => ?_, fun q => ?_⟩⟩⟩
                · rw [ea, i_eq (by omega) (by omega)] at q
                  rw [decide_eq_false q] at h
                  rw [i_s]; exact h
                · rw [ea, i_eq (by omega) (by omega)] at q
                  rw [decide_eq_true q] at h
                  rw [i_s]; exact h) G[k].2.length 0 c w1 (by omega) ⟨rfl, by simp⟩
          rw [List.take_of_length_le (Nat.le_refl _)] at hc
          subst hc
          refine Go_trans g2 fun r w' h => sg_186_43 hS _ _ _ _ ⟨RM_out hR hk, fun _ => by rw [i_s]; exact h, fun q => absurd ((RM_sz hR hk (by omega)).mpr (Nat.le_refl _)) q⟩
        refine ⟨b || (decide (G[k].1 = v) || decide (v ∈ G[k].2)), w1, ⟨rfl, by rw [hb, usB_take hk]⟩, fun r w' h => ?_⟩
        cases b with
        | true =>
          refine sg_186_12 hS _ _ _ ⟨fun q => absurd q hle, fun _ => ⟨fun _ => hrow true r w' ?_, fun q => absurd q (by decide)⟩⟩
          exact h
        | false =>
          refine sg_186_12 hS _ _ _ ⟨fun q => absurd q hle, fun _ => ⟨fun q => absurd rfl q, fun _ => ⟨RM_out hR hk, fun q => hrow false r w' ?_, fun q => hrow true r w' ?_⟩⟩⟩
          · rw [el, i_eq (by omega) (by omega)] at q
            rw [decide_eq_false q] at h
            exact h
          · rw [el, i_eq (by omega) (by omega)] at q
            rw [decide_eq_true q] at h
            exact h) G.length 0 false w (by omega) ⟨rfl, by simp [usB]⟩
    rw [List.take_of_length_le (Nat.le_refl _)] at hb
    subst hb
    exact g1
  obtain ⟨r, w2, ⟨rfl, rfl⟩, h2⟩ := up_exit (α := Unit) (d := d + 1) (mi := 186) (pc := 2) 16 (fun k _ => [some (.ref 27), some (.int (Int32.ofNat k)), none, none, none])
    (fun k _ w2 => w2 = w ∧ fsN (fun v => !usB G v) k = none) (fun r w' => r = .inl (some (.int (oI (frV G)))) ∧ w' = w)
    (fun k _ w2 hk hI => by
      obtain ⟨rfl, h0⟩ := hI
      have hle : w_i w2 26 4 ≤ Int32.ofNat G.length := (RM_le hR (by omega)).mpr (Nat.le_refl _)
      cases hb : usB G k with
      | true =>
        left
        refine ⟨(), w2, ⟨rfl, ?_⟩, fun r w' h => sg_186_2 hS _ ⟨fun q => absurd q (n16 hk), fun _ => hin k hk r w' (sg_186_12 hS _ _ _ ⟨fun _ => ⟨fun _ => by rw [i_s]; exact h, fun q => ?_⟩, fun q => absurd hle q⟩)⟩⟩
        · rw [fsN_miss (by rw [hb]; rfl)]; exact h0
        · rw [hb] at q; exact absurd q (by decide)
      | false =>
        right
        refine ⟨_, w2, ⟨rfl, rfl⟩, sg_186_2 hS _ ⟨fun q => absurd q (n16 hk), fun _ => hin k hk _ _ (sg_186_12 hS _ _ _ ⟨fun _ => ⟨fun q => ?_, fun _ => ⟨?_, rfl⟩⟩, fun q => absurd hle q⟩)⟩⟩
        · rw [hb] at q; exact absurd rfl q
        · have : frV G = some k := fsN_hit h0 (by rw [hb]; rfl) hk
          rw [this]; rfl)
    (fun _ w2 hI => by
      obtain ⟨rfl, h0⟩ := hI
      refine ⟨_, w2, ⟨rfl, rfl⟩, sg_186_2 hS _ ⟨fun _ => ⟨?_, rfl⟩, fun q => absurd y16 q⟩⟩
      have : frV G = none := h0
      rw [this]; rfl) 16 0 () w (by omega) ⟨rfl, rfl⟩
  exact gk_E_i rfl rfl (sg_186_0 hS h2)
end SE

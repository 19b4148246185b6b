/-! part 52: which first symbol is replaced next; replacing until there is none -/
theorem oI_ne {k : Nat} (h : k < 2147483648) : ¬ oI (some k) = -1 := by
  intro q
  have h1 : Int32.ofNat k = -1 := q
  have h2 := congrArg Int32.toInt h1
  rw [Int32.toInt_ofNat_of_lt h] at h2
  have : (-1 : Int32).toInt = -1 := rfl
  omega
theorem oI_m1 {o : Option Nat} (h : ∀ k, o = some k → k < 2147483648) : oI o = -1 ↔ o = none := by
  cases o with
  | none => exact ⟨fun _ => rfl, fun _ => rfl⟩
  | some k => exact ⟨fun q => absurd q (oI_ne (h k rfl)), fun q => by cases q⟩
theorem oI_neg {o : Option Nat} (h : ∀ k, o = some k → k < 2147483648) : oI o < 0 ↔ o = none := by
  cases o with
  | none => exact ⟨fun _ => rfl, fun _ => by decide⟩
  | some k => exact ⟨fun q => absurd q (i_neg (h k rfl)), fun q => by cases q⟩
theorem i_nlt {x : Int32} : 0 ≤ x ↔ ¬ x < 0 := by
  rw [Int32.le_iff_toInt_le, Int32.lt_iff_toInt_lt]; omega
def lsN (p : Nat → Bool) : Nat → Option Nat
  | 0 => none
  | k + 1 => if p k = true then some k else lsN p k
theorem lsN_some {p : Nat → Bool} : ∀ {n k : Nat}, lsN p n = some k → k < n ∧ p k = true
  | 0, k, h => by simp [lsN] at h
  | n + 1, k, h => by
    simp only [lsN] at h
    by_cases hp : p n = true
    · rw [if_pos hp] at h
      obtain rfl := Option.some.inj h
      exact ⟨by omega, hp⟩
    · rw [if_neg hp] at h
      have := lsN_some h
      exact ⟨by omega, this.2⟩
theorem lsN_none {p : Nat → Bool} : ∀ {n : Nat}, lsN p n = none → ∀ k, k < n → p k = false
  | 0, _, k, hk => by omega
  | n + 1, h, k, hk => by
    simp only [lsN] at h
    by_cases hp : p n = true
    · rw [if_pos hp] at h; cases h
    · rw [if_neg hp] at h
      by_cases e : k = n
      · subst e; simpa using hp
      · exact lsN_none h k (by omega)
def lvB (r : Rl) : Bool := decide (0 < r.2.length ∧ r.2.headD 0 < 16)
def loB (od : Nat → Bool) (r : Rl) : Bool := lvB r && od r.1
def lnB (od : Nat → Bool) (r : Rl) : Bool := lvB r && !od r.1
def nxI (od : Nat → Bool) (G : List Rl) : Option Nat := match lsN (fun k => (G[k]?).any (loB od)) G.length with
  | some i => some i
  | none => fstI lvB G
theorem nxI_some {od : Nat → Bool} {G : List Rl} {i : Nat} (h : nxI od G = some i) : ∃ hi : i < G.length, 0 < G[i].2.length := by
  unfold nxI at h
  split at h
  · rename_i j hj
    obtain rfl := Option.some.inj h
    obtain ⟨h1, h2⟩ := lsN_some hj
    rw [anyAt h1] at h2
    unfold loB at h2
    rw [Bool.and_eq_true] at h2
    exact ⟨h1, (of_decide_eq_true h2.1).1⟩
  · obtain ⟨h1, h2⟩ := fstI_some h
    exact ⟨h1, (of_decide_eq_true h2).1⟩
theorem nxI_none {od : Nat → Bool} {G : List Rl} (h : lsN (fun k => (G[k]?).any (loB od)) G.length = none) : nxI od G = fsN (fun k => (G[k]?).any (lnB od)) G.length := by
  unfold nxI
  rw [h]
  refine fsN_congr fun k hk => ?_
  have := lsN_none h k hk
  rw [anyAt hk] at this ⊢
  rw [anyAt hk]
  unfold loB at this
  unfold lnB
  cases hb : lvB G[k] with
  | false => rfl
  | true =>
    rw [hb] at this
    have h2 : od G[k].1 = false := by simpa using this
    rw [h2]; rfl
def itO (fd : List Rl → Option Nat) : Nat → List Rl → Nat → Option (List Rl × Nat)
  | 0, _, _ => none
  | n + 1, G, c => match fd G with
    | none => some (G, c)
    | some i => match rpF G c i with
      | none => none
      | some H => itO fd n H (c + 1)
section IT
variable {d : Nat} {rr : List gk_S}
theorem f_42_pk {r : Rl} (h : okR r) : f_42 (pk r) = 0 ↔ lvB r = false := by
  unfold f_42 lvB
  by_cases h0 : 0 < r.2.length
  · have := hd_22 h h0
    rw [if_neg (by rw [f_24_le0 h]; omega), f_26_hd h h0]
    by_cases h16 : r.2.headD 0 < 16
    · rw [if_neg (by rw [f_28_0 (by omega)]; omega), decide_eq_true ⟨h0, h16⟩]
      exact ⟨fun q => absurd q (by decide), fun q => by cases q⟩
    · rw [if_pos (by rw [f_28_0 (by omega)]; omega), decide_eq_false (fun q => h16 q.2)]
      exact ⟨fun _ => rfl, fun _ => rfl⟩
  · rw [if_pos (by rw [f_24_le0 h]; omega), decide_eq_false (fun q => h0 q.1)]
    exact ⟨fun _ => rfl, fun _ => rfl⟩
/-- nextLead -/
theorem E121 {w : gk_Wd} {G : List Rl} (hS : gk_Sh rr w) (hR : RS w 5 G) {X : Int32} {od : Nat → Bool} (hX : ∀ v, v < 16 → bt X v = od v) : gk_E (d + 2) 121 [.ref 6, .int X] w (.inl (some (.int (oI (nxI od G))))) w := by
  have h60 := RS_60 hR
  obtain ⟨-, w1, rfl, g1⟩ := up_loop (α := Unit) (d := d + 2) (mi := 121) (pc := 7) G.length (fun k _ => [some (.ref (5 + 1)), some (.int X), some (.int (oI (lsN (fun k => (G[k]?).any (loB od)) k))), some (.int (oI (fsN (fun k => (G[k]?).any (lnB od)) k))), some (.int (Int32.ofNat k))])
    (fun k _ w1 => w1 = w)
    (fun k _ w1 hk hI => by
      obtain rfl := hI
      have ef := RS_f23 hR hk
      have hok := RS_ok hR hk
      have h16 := hok.1
      have hle : ¬ f_13 w1 5 ≤ Int32.ofNat k := fun q => absurd ((RS_le hR (by omega)).mp q) (by omega)
      have eo : f_36 X (f_25 (f_23 w1 5 (Int32.ofNat k))) = 0 ↔ od G[k].1 = false := by rw [ef, f_25_pk hok, f_36_0 X (by omega), hX _ h16]
      have el : f_42 (f_23 w1 5 (Int32.ofNat k)) = 0 ↔ lvB G[k] = false := by rw [ef]; exact f_42_pk hok
      refine ⟨(), w1, rfl, fun r w' h => sg_121_7 (d := d) hS rs_5 _ _ _ _ ⟨fun q => absurd q hle, fun _ => ⟨RS_out hR hk, fun q => ?_, fun q => ⟨RS_out hR hk, fun q2 => ⟨fun q3 => ?_, fun q3 => ?_⟩, fun q2 => ?_⟩⟩⟩⟩
      · rw [el] at q
        rw [fsN_miss (by rw [anyAt hk]; simp [lnB, q])] at h
        simp only [lsN] at h
        rw [if_neg (by rw [anyAt hk]; simp [loB, q])] at h
        rw [i_s]; exact h
      · rw [eo] at q2
        simp only [lsN] at h
        rw [if_neg (by rw [anyAt hk]; simp [loB, q2])] at h
        rw [oI_m1 (fun j hj => by have := (fsN_some hj).1; omega)] at q3
        cases hf : fsN (fun k => (G[k]?).any (lnB od)) k with
        | none => exact absurd hf q3
        | some j =>
          have e2 : fsN (fun k => (G[k]?).any (lnB od)) (k + 1) = some j := by simp only [fsN, hf]
          rw [e2] at h
          rw [i_s]; exact h
      · rw [el] at q
        rw [eo] at q2
        rw [oI_m1 (fun j hj => by have := (fsN_some hj).1; omega)] at q3
        have q1 : lvB G[k] = true := by simpa using q
        have e2 : fsN (fun k => (G[k]?).any (lnB od)) (k + 1) = some k := fsN_hit q3 (by rw [anyAt hk]; simp [lnB, q1, q2]) (by omega)
        rw [e2] at h
        simp only [lsN] at h
        rw [if_neg (by rw [anyAt hk]; simp [loB, q2])] at h
        rw [i_s]; exact h
      · rw [el] at q
        rw [eo] at q2
        have q1 : lvB G[k] = true := by simpa using q
        have q3 : od G[k].1 = true := by simpa using q2
        rw [fsN_miss (by rw [anyAt hk]; simp [lnB, q3])] at h
        simp only [lsN] at h
        rw [if_pos (by rw [anyAt hk]; simp [loB, q1, q3])] at h
        rw [i_s]; exact h) G.length 0 () w (by omega) rfl
  refine gk_E_i rfl rfl (sg_121_0 (d := d) hS rs_5 _ (g1 _ _ (sg_121_7 (d := d) hS rs_5 _ _ _ _ ⟨fun _ => ⟨fun q => ⟨?_, rfl⟩, fun q => ⟨?_, rfl⟩⟩, fun q => absurd ((RS_le hR (by omega)).mpr (Nat.le_refl _)) q⟩)))
  · rw [oI_m1 (fun j hj => by have := (lsN_some hj).1; omega)] at q
    rw [nxI_none q]
  · rw [oI_m1 (fun j hj => by have := (lsN_some hj).1; omega)] at q
    cases hf : lsN (fun k => (G[k]?).any (loB od)) G.length with
    | none => exact absurd hf q
    | some j =>
      have : nxI od G = some j := by unfold nxI; rw [hf]
      rw [this]
/-- nextToReplace -/
theorem E187 {w : gk_Wd} {G : List Rl} (hS : gk_Sh rr w) (hR : RM w 4 28 G) {od : Nat → Bool} (hB : BA w 35 od) : gk_E (d + 1) 187 [.ref 27] w (.inl (some (.int (oI (nxI od G))))) w := by
  have h60 := RM_60 hR
  obtain ⟨-, w1, rfl, g1⟩ := up_loop (α := Unit) (d := d + 1) (mi := 187) (pc := 6) G.length (fun k _ => [some (.ref 27), some (.int (oI (lsN (fun k => (G[k]?).any (loB od)) k))), some (.int (oI (fsN (fun k => (G[k]?).any lvB) k))), some (.int (Int32.ofNat k))])
    (fun k _ w1 => w1 = w)
    (fun k _ w1 hk hI => by
      obtain rfl := hI
      have hok := RM_ok hR hk
      have h16 := hok.1
      have h10 := hok.2.1
      have hle : ¬ w_i w1 26 4 ≤ Int32.ofNat k := fun q => absurd ((RM_le hR (by omega)).mp q) (by omega)
      have el := RM_left hR hk
      have e0 : (w_a w1 29).getD (Int32.ofNat k).toNatClampNeg 0 = 0 ↔ G[k].2.length = 0 := by
        have es : (w_a w1 29).getD (Int32.ofNat k).toNatClampNeg 0 = Int32.ofNat G[k].2.length := RM_size hR hk
        rw [es]; exact i_eq (b := 0) (by omega) (by omega)
      have eo : (w_a w1 35).getD ((w_a w1 28).getD (Int32.ofNat k).toNatClampNeg 0).toNatClampNeg 0 = 0 ↔ od G[k].1 = false := BA_at hB el h16
      have oo : gk_out ((w_a w1 28).getD (Int32.ofNat k).toNatClampNeg 0) 16 = false := by rw [el]; exact o16 h16
      have lv0 : G[k].2.length = 0 → lvB G[k] = false := fun q => decide_eq_false fun h => by have := h.1; omega
      have fm : lvB G[k] = false → fsN (fun k => (G[k]?).any lvB) (k + 1) = fsN (fun k => (G[k]?).any lvB) k := fun q => fsN_miss (by rw [anyAt hk]; exact q)
      have lm : loB od G[k] = false → lsN (fun k => (G[k]?).any (loB od)) (k + 1) = lsN (fun k => (G[k]?).any (loB od)) k := fun q => by
        simp only [lsN]; rw [if_neg (by rw [anyAt hk, q]; decide)]
      have lh : loB od G[k] = true → lsN (fun k => (G[k]?).any (loB od)) (k + 1) = some k := fun q => by
        simp only [lsN]; rw [if_pos (by rw [anyAt hk]; exact q)]
      have fo : ∀ j, fsN (fun k => (G[k]?).any lvB) k = some j → j < 2147483648 := fun j hj => by have := (fsN_some hj).1; omega
      have fs : 0 ≤ oI (fsN (fun k => (G[k]?).any lvB) k) → fsN (fun k => (G[k]?).any lvB) (k + 1) = fsN (fun k => (G[k]?).any lvB) k := fun q => by
        rw [i_nlt, oI_neg fo] at q
        cases hf : fsN (fun k => (G[k]?).any lvB) k with
        | none => exact absurd hf q
        | some j => simp only [fsN, hf]
      have ft : lvB G[k] = true → ¬ 0 ≤ oI (fsN (fun k => (G[k]?).any lvB) k) → fsN (fun k => (G[k]?).any lvB) (k + 1) = some k := fun q1 q => by
        rw [i_nlt, Classical.not_not, oI_neg fo] at q
        exact fsN_hit q (by rw [anyAt hk]; exact q1) (by omega)
      have ev : ¬ G[k].2.length = 0 → (f_163 (f_151 w1 (Int32.ofNat k) 0) = 0 ↔ lvB G[k] = false) := fun q => by
        have h0 : 0 < G[k].2.length := by omega
        have := hd_22 hok h0
        rw [RM_hd hR hk h0, f_163_n (by omega)]
        unfold lvB
        rw [decide_eq_false_iff_not]
        exact ⟨fun h1 h2 => by have := h2.2; omega, fun h1 => by
          refine Nat.le_of_not_lt fun h2 => h1 ⟨h0, h2⟩⟩
      refine ⟨(), w1, rfl, fun r w' h => sg_187_6 hS _ _ _ ⟨fun q => absurd q hle, fun _ => ⟨RM_out hR hk, fun q => ?_, fun q => ⟨RM_io hR hk (k := 0) (by omega), fun q2 => ⟨RM_out hR hk, oo, fun q3 => ⟨fun q4 => ?_, fun q4 => ?_⟩, fun q3 => ⟨fun q4 => ?_, fun q4 => ?_⟩⟩, fun q2 => ?_⟩⟩⟩⟩
      · rw [e0] at q
        have := lv0 q
        rw [fm this, lm (by simp [loB, this])] at h
        rw [i_s]; exact h
      · rw [eo] at q3
        rw [fs q4, lm (by simp [loB, q3])] at h
        rw [i_s]; exact h
      · rw [e0] at q
        rw [ev q] at q2
        rw [eo] at q3
        rw [ft (by simpa using q2) q4, lm (by simp [loB, q3])] at h
        rw [i_s]; exact h
      · rw [e0] at q
        rw [ev q] at q2
        rw [eo] at q3
        have p2 : lvB G[k] = true := by simpa using q2
        have p3 : od G[k].1 = true := by simpa using q3
        rw [fs q4, lh (by simp [loB, p2, p3])] at h
        rw [i_s]; exact h
      · rw [e0] at q
        rw [ev q] at q2
        rw [eo] at q3
        have p2 : lvB G[k] = true := by simpa using q2
        have p3 : od G[k].1 = true := by simpa using q3
        rw [ft p2 q4, lh (by simp [loB, p2, p3])] at h
        rw [i_s]; exact h
      · rw [e0] at q
        rw [ev q] at q2
        rw [fm q2, lm (by simp [loB, q2])] at h
        rw [i_s]; exact h) G.length 0 () w (by omega) rfl
  refine gk_E_i rfl rfl (sg_187_0 hS (g1 _ _ (sg_187_6 hS _ _ _ ⟨fun _ => ⟨fun q => ⟨?_, rfl⟩, fun q => ⟨?_, rfl⟩⟩, fun q => absurd ((RM_le hR (by omega)).mpr (Nat.le_refl _)) q⟩)))
  · rw [oI_neg (fun j hj => by have := (lsN_some hj).1; omega)] at q
    have : nxI od G = fstI lvB G := by unfold nxI; rw [q]
    rw [this]; rfl
  · rw [oI_neg (fun j hj => by have := (lsN_some hj).1; omega)] at q
    cases hf : lsN (fun k => (G[k]?).any (loB od)) G.length with
    | none => exact absurd hf q
    | some j =>
      have : nxI od G = some j := by unfold nxI; rw [hf]
      rw [this]
/-- replaceEarlierLeads: its loop -/
theorem E110_l {x : Nat} (hx : x < 16) : ∀ (n k : Nat) (w : gk_Wd) (G : List Rl) (c : Nat), gk_Sh rr w → RS w 5 G → srt G → w_i w 11 2 = Int32.ofNat c → n + c = 301 → 0 < n → k ≤ c →
    ∃ w', gk_W none (d + 4) 110 2 [some (.ref 12), some (.ref 6), some (.int (Int32.ofNat x)), some (.int (Int32.ofNat k)), none] [] w (.inl (some (.int (bI (itO (fstI (elB x)) n G c).isSome)))) w' ∧ gk_Sh rr w' ∧ Fr [6, 13] [(5, 1), (12, 1), (11, 2)] w w' ∧ ∀ K c', itO (fstI (elB x)) n G c = some (K, c') → RS w' 5 K ∧ srt K ∧ w_i w' 11 2 = Int32.ofNat c' ∧ c' ≤ 300
  | 0, k, w, G, c, hS, hR, hs, hc, hn, h0, hk => by omega
  | n + 1, k, w, G, c, hS, hR, hs, hc, hn, _, hk => by
    have n3 : ¬ (300 : Int32) < Int32.ofNat k := fun q => absurd ((i_lt (a := 300) (by omega) (by omega)).mp q) (by omega)
    have e1 := E111 (d := d + 2) hS hR hx
    cases hf : (fstI (elB x)) G with
    | none =>
      rw [hf] at e1
      have eI : itO (fstI (elB x)) (n + 1) G c = some (G, c) := by simp only [itO, hf]
      rw [eI]
      refine ⟨w, sg_110_2 (d := d + 3) hS rs_5 _ _ ⟨fun q => absurd q n3, fun _ => ⟨_, e1, fun q => absurd rfl q, fun _ => ⟨rfl, rfl⟩⟩⟩, hS, Fr_refl, fun K c' e => ?_⟩
      cases e
      exact ⟨hR, hs, hc, by omega⟩
    | some i =>
      rw [hf] at e1
      obtain ⟨hi, hp⟩ := show ∃ hi : i < G.length, 0 < G[i].2.length from by
        obtain ⟨hi, h1⟩ := fstI_some hf
        exact ⟨hi, (of_decide_eq_true h1).2.1⟩
      have h60 := RS_60 hR
      have hne : ¬ oI (some i) = -1 := oI_ne (by omega)
      obtain ⟨w1, e2, s1, f1, c1, K1⟩ := E112 (d := d) hS hR hs hc (by omega) hi hp
      cases hr : rpF G c i with
      | none =>
        rw [hr] at e2
        have eI : itO (fstI (elB x)) (n + 1) G c = none := by simp only [itO, hf, hr]
        rw [eI]
        exact ⟨w1, sg_110_2 (d := d + 3) hS rs_5 _ _ ⟨fun q => absurd q n3, fun _ => ⟨_, e1, fun _ => ⟨0, w1, e2, s1, fun q => absurd rfl q, fun _ => ⟨rfl, rfl⟩⟩, fun q => absurd q hne⟩⟩, s1, f1, fun K c' e => by cases e⟩
      | some H =>
        rw [hr] at e2
        obtain ⟨R1, t1⟩ := K1 H hr
        have eI : itO (fstI (elB x)) (n + 1) G c = itO (fstI (elB x)) n H (c + 1) := by simp only [itO, hf, hr]
        have hc3 : c < 300 := by
          refine Classical.byContradiction fun q => ?_
          unfold rpF at hr
          rw [if_neg q] at hr; cases hr
        obtain ⟨w2, g2, s2, f2, K2⟩ := E110_l hx n (k + 1) w1 H (c + 1) s1 R1 t1 c1 (by omega) (by omega) (by omega)
        rw [eI]
        exact ⟨w2, sg_110_2 (d := d + 3) hS rs_5 _ _ ⟨fun q => absurd q n3, fun _ => ⟨_, e1, fun _ => ⟨1, w1, e2, s1, fun _ => by rw [i_s]; exact g2, fun q => absurd q (by decide)⟩, fun q => absurd q hne⟩⟩, s2, Fr_trans f1 f2, K2⟩
/-- replaceAllLeads: its loop -/
theorem E120_l {X : Int32} {od : Nat → Bool} (hX : ∀ v, v < 16 → bt X v = od v) : ∀ (n k : Nat) (w : gk_Wd) (G : List Rl) (c : Nat), gk_Sh rr w → RS w 5 G → srt G → w_i w 11 2 = Int32.ofNat c → n + c = 301 → 0 < n → k ≤ c →
    ∃ w', gk_W none (d + 4) 120 2 [some (.ref 12), some (.ref 6), some (.int X), some (.int (Int32.ofNat k)), none] [] w (.inl (some (.int (bI (itO (nxI od) n G c).isSome)))) w' ∧ gk_Sh rr w' ∧ Fr [6, 13] [(5, 1), (12, 1), (11, 2)] w w' ∧ ∀ K c', itO (nxI od) n G c = some (K, c') → RS w' 5 K ∧ srt K ∧ w_i w' 11 2 = Int32.ofNat c' ∧ c' ≤ 300
  | 0, k, w, G, c, hS, hR, hs, hc, hn, h0, hk => by omega
  | n + 1, k, w, G, c, hS, hR, hs, hc, hn, _, hk => by
    have n3 : ¬ (300 : Int32) < Int32.ofNat k := fun q => absurd ((i_lt (a := 300) (by omega) (by omega)).mp q) (by omega)
    have e1 := E121 (d := d + 1) hS hR hX
    cases hf : (nxI od) G with
    | none =>
      rw [hf] at e1
      have eI : itO (nxI od) (n + 1) G c = some (G, c) := by simp only [itO, hf]
      rw [eI]
      refine ⟨w, sg_120_2 (d := d + 3) hS rs_5 _ _ ⟨fun q => absurd q n3, fun _ => ⟨_, e1, fun q => absurd rfl q, fun _ => ⟨rfl, rfl⟩⟩⟩, hS, Fr_refl, fun K c' e => ?_⟩
      cases e
      exact ⟨hR, hs, hc, by omega⟩
    | some i =>
      rw [hf] at e1
      obtain ⟨hi, hp⟩ := nxI_some hf
      have h60 := RS_60 hR
      have hne : ¬ oI (some i) = -1 := oI_ne (by omega)
      obtain ⟨w1, e2, s1, f1, c1, K1⟩ := E112 (d := d) hS hR hs hc (by omega) hi hp
      cases hr : rpF G c i with
      | none =>
        rw [hr] at e2
        have eI : itO (nxI od) (n + 1) G c = none := by simp only [itO, hf, hr]
        rw [eI]
        exact ⟨w1, sg_120_2 (d := d + 3) hS rs_5 _ _ ⟨fun q => absurd q n3, fun _ => ⟨_, e1, fun _ => ⟨0, w1, e2, s1, fun q => absurd rfl q, fun _ => ⟨rfl, rfl⟩⟩, fun q => absurd q hne⟩⟩, s1, f1, fun K c' e => by cases e⟩
      | some H =>
        rw [hr] at e2
        obtain ⟨R1, t1⟩ := K1 H hr
        have eI : itO (nxI od) (n + 1) G c = itO (nxI od) n H (c + 1) := by simp only [itO, hf, hr]
        have hc3 : c < 300 := by
          refine Classical.byContradiction fun q => ?_
          unfold rpF at hr
          rw [if_neg q] at hr; cases hr
        obtain ⟨w2, g2, s2, f2, K2⟩ := E120_l hX n (k + 1) w1 H (c + 1) s1 R1 t1 c1 (by omega) (by omega) (by omega)
        rw [eI]
        exact ⟨w2, sg_120_2 (d := d + 3) hS rs_5 _ _ ⟨fun q => absurd q n3, fun _ => ⟨_, e1, fun _ => ⟨1, w1, e2, s1, fun _ => by rw [i_s]; exact g2, fun q => absurd q (by decide)⟩, fun q => absurd q hne⟩⟩, s2, Fr_trans f1 f2, K2⟩
/-- replaceEarlierLeads -/
theorem E110 {w : gk_Wd} {G : List Rl} {c x : Nat} (hx : x < 16) (hS : gk_Sh rr w) (hR : RS w 5 G) (hs : srt G) (hc : w_i w 11 2 = Int32.ofNat c) (h3 : c ≤ 300) : ∃ w', gk_E (d + 4) 110 [.ref 12, .ref 6, .int (Int32.ofNat x)] w (.inl (some (.int (bI (itO (fstI (elB x)) (301 - c) G c).isSome)))) w' ∧ gk_Sh rr w' ∧ Fr [6, 13] [(5, 1), (12, 1), (11, 2)] w w' ∧ ∀ K c', itO (fstI (elB x)) (301 - c) G c = some (K, c') → RS w' 5 K ∧ srt K ∧ w_i w' 11 2 = Int32.ofNat c' ∧ c' ≤ 300 := by
  obtain ⟨w1, g1, h⟩ := E110_l (d := d) hx (301 - c) 0 w G c hS hR hs hc (by omega) (by omega) (by omega)
  exact ⟨w1, gk_E_i rfl rfl (sg_110_0 (d := d + 3) hS rs_5 _ g1), h⟩
/-- replaceAllLeads -/
theorem E120 {w : gk_Wd} {G : List Rl} {c : Nat} {X : Int32} {od : Nat → Bool} (hX : ∀ v, v < 16 → bt X v = od v) (hS : gk_Sh rr w) (hR : RS w 5 G) (hs : srt G) (hc : w_i w 11 2 = Int32.ofNat c) (h3 : c ≤ 300) : ∃ w', gk_E (d + 4) 120 [.ref 12, .ref 6, .int X] w (.inl (some (.int (bI (itO (nxI od) (301 - c) G c).isSome)))) w' ∧ gk_Sh rr w' ∧ Fr [6, 13] [(5, 1), (12, 1), (11, 2)] w w' ∧ ∀ K c', itO (nxI od) (301 - c) G c = some (K, c') → RS w' 5 K ∧ srt K ∧ w_i w' 11 2 = Int32.ofNat c' ∧ c' ≤ 300 := by
  obtain ⟨w1, g1, h⟩ := E120_l (d := d) hX (301 - c) 0 w G c hS hR hs hc (by omega) (by omega) (by omega)
  exact ⟨w1, gk_E_i rfl rfl (sg_120_0 (d := d + 3) hS rs_5 _ g1), h⟩
end IT

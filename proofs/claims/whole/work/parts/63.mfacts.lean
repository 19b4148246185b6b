/-! part 37: the reference's sets: fruitful, reached, nullable; useless rules -/
/-- a row of booleans is the set S -/
def BA (w : gk_Wd) (a : Nat) (S : Nat → Bool) : Prop := ∀ v, v < 16 → (w_a w a).getD v 0 = bI (S v)
def usb (S : Nat → Bool) (v : Nat) : Nat → Bool := fun u => S u || decide (u = v)
theorem usb_le (S : Nat → Bool) (v u : Nat) (h : S u = true) : usb S v u = true := by simp [usb, h]
def fireB (lt : Bool) (S : Nat → Bool) (r : Rl) : Bool := r.2.all fun s => if s < 16 then S s else lt
theorem fireB_iff {lt : Bool} {S : Nat → Bool} {r : Rl} : fireB lt S r = true ↔ fire lt S r := by
  unfold fireB fire
  rw [List.all_eq_true]
  refine forall_congr' fun s => forall_congr' fun hs => ?_
  by_cases h : s < 16
  · rw [if_pos h]
    exact ⟨fun q => ⟨fun _ => q, fun q2 => by omega⟩, fun q => q.1 h⟩
  · rw [if_neg h]
    exact ⟨fun q => ⟨fun q2 => absurd q2 h, fun _ => q⟩, fun q => q.2 (by omega)⟩
/-- a step of the reference's passes: the set, and whether it grew -/
def mS (lt : Bool) (p : (Nat → Bool) × Bool) (r : Rl) : (Nat → Bool) × Bool := if p.1 r.1 = true then p else if fireB lt p.1 r = true then (usb p.1 r.1, true) else p
theorem mS_pass {lt : Bool} : ∀ (G : List Rl) (S : Nat → Bool) (m : Bool), (∀ r ∈ G, okR r) →
    (∀ u, S u = true → (G.foldl (mS lt) (S, m)).1 u = true) ∧
    ((G.foldl (mS lt) (S, m)).2 = false → m = false ∧ (G.foldl (mS lt) (S, m)).1 = S ∧ clP lt G S) ∧
    ((G.foldl (mS lt) (S, m)).2 = true → m = true ∨ ∃ v, v < 16 ∧ S v = false ∧ (G.foldl (mS lt) (S, m)).1 v = true)
  | [], S, m, _ => ⟨fun _ h => h, fun h => ⟨h, rfl, fun r hr => absurd hr List.not_mem_nil⟩, fun h => Or.inl h⟩
  | r :: G, S, m, hG => by
    have hr := hG r List.mem_cons_self
    have hG' : ∀ q ∈ G, okR q := fun q hq => hG q (List.mem_cons_of_mem _ hq)
    rw [List.foldl_cons]
    by_cases h1 : S r.1 = true
    · have e : mS lt (S, m) r = (S, m) := by unfold mS; rw [if_pos h1]
      rw [e]
      obtain ⟨a1, a2, a3⟩ := mS_pass G S m hG'
      refine ⟨a1, fun h => ?_, a3⟩
      obtain ⟨b1, b2, b3⟩ := a2 h
      refine ⟨b1, b2, fun q hq hf => ?_⟩
      rcases List.mem_cons.mp hq with rfl | hq
      · exact h1
      · exact b3 q hq hf
    · by_cases h2 : fireB lt S r = true
      · have e : mS lt (S, m) r = (usb S r.1, true) := by unfold mS; rw [if_neg h1, if_pos h2]
        rw [e]
        obtain ⟨a1, a2, a3⟩ := mS_pass (lt := lt) G (usb S r.1) true hG'
        refine ⟨fun u hu => a1 u (usb_le S r.1 u hu), fun h => absurd (a2 h).1 (by decide), fun _ => Or.inr ⟨r.1, hr.1, by simpa using h1, a1 r.1 (by simp [usb])⟩⟩
      · have e : mS lt (S, m) r = (S, m) := by unfold mS; rw [if_neg h1, if_neg h2]
        rw [e]
        obtain ⟨a1, a2, a3⟩ := mS_pass G S m hG'
        refine ⟨a1, fun h => ?_, a3⟩
        obtain ⟨b1, b2, b3⟩ := a2 h
        refine ⟨b1, b2, fun q hq hf => ?_⟩
        rcases List.mem_cons.mp hq with rfl | hq
        · exact absurd (fireB_iff.mpr hf) h2
        · exact b3 q hq hf
theorem mS_inv {lt : Bool} {H : List Rl} {T : Nat → Bool} (hT : clP lt H T) : ∀ (G : List Rl) (S : Nat → Bool) (m : Bool), (∀ r ∈ G, r ∈ H) → (∀ v, S v = true → T v = true) → ∀ v, (G.foldl (mS lt) (S, m)).1 v = true → T v = true
  | [], S, m, _, h => h
  | r :: G, S, m, hG, h => by
    have hG' : ∀ q ∈ G, q ∈ H := fun q hq => hG q (List.mem_cons_of_mem _ hq)
    rw [List.foldl_cons]
    unfold mS
    split
    · exact mS_inv hT G S m hG' h
    · split
      · rename_i h2
        refine mS_inv hT G _ true hG' fun v hv => ?_
        simp only [usb, Bool.or_eq_true, decide_eq_true_eq] at hv
        rcases hv with hv | rfl
        · exact h v hv
        · exact hT r (hG r List.mem_cons_self) (fire_mono h (fireB_iff.mp h2))
      · exact mS_inv hT G S m hG' h
theorem bI_b (b : Bool) : fits .boolean (.int (bI b)) = true := by cases b <;> rfl
theorem BA_set {w : gk_Wd} {rr : List gk_S} {a : Nat} (hS : gk_Sh rr w) (ha : gp_lay[a]? = some (.inr (.inl (2, 16)))) {S : Nat → Bool} (h : BA w a S) {v : Nat} (hv : v < 16) : BA (w_sa w a ((w_a w a).set v 1)) a (usb S v) := by
  intro u hu
  have hl := (w_int hS ha).2
  rw [w_a_same hS ha, getD_set32 _ (by omega)]
  by_cases e : u = v
  · rw [if_pos e]; simp [usb, e, bI]
  · rw [if_neg e, h u hu]; simp [usb, e]
section MF
variable {d : Nat} {rr : List gk_S} {w : gk_Wd} {G : List Rl}
/-- fruitful: the inner loop over a rule's symbols -/
theorem E162_k (hS : gk_Sh rr w) (hR : RM w 4 28 G) {S : Nat → Bool} (hB : BA w 36 S) {x1 : Int32} {i : Nat} (hi : i < G.length) {r : gk_Res} {w' : gk_Wd} : ∀ (m k : Nat) (b : Bool), k + m = G[i].2.length → gk_W none (d + 1) 162 61 [some (.ref 27), some (.int x1), some (.int (Int32.ofNat i)), some (.int (bI (b && (G[i].2.drop k).all fun s => if s < 16 then S s else true))), some (.int (Int32.ofNat G[i].2.length))] [] w r w' → gk_W none (d + 1) 162 61 [some (.ref 27), some (.int x1), some (.int (Int32.ofNat i)), some (.int (bI b)), some (.int (Int32.ofNat k))] [] w r w'
  | 0, k, b, hk, hex => by
    obtain rfl : k = G[i].2.length := by omega
    rw [List.drop_eq_nil_of_le (Nat.le_refl _), List.all_nil, Bool.and_true] at hex
    exact hex
  | m + 1, k, b, hk, hex => by
    have h60 := RM_60 hR
    have hok := RM_ok hR hi
    have h10 := hok.2.1
    have hkl : k < G[i].2.length := by omega
    have hs := hok.2.2 _ (List.getElem_mem hkl)
    have ea := RM_at hR hi hkl
    rw [List.drop_eq_getElem_cons hkl, List.all_cons] at hex
    have ih := fun (b' : Bool) (e : b' = (b && (if G[i].2[k] < 16 then S G[i].2[k] else true))) => E162_k hS hR hB (x1 := x1) (r := r) (w' := w') hi m (k + 1) b' (by omega) (by rw [e, Bool.and_assoc]; exact hex)
    refine sg_162_61 hS _ _ _ _ ⟨RM_out hR hi, fun q => absurd ((RM_sz hR hi (by omega)).mp q) (by omega), fun _ => ⟨fun q1 => ?_, fun q1 => ⟨RM_io hR hi (by omega), fun q2 => ?_, fun q2 => ?_⟩⟩⟩
    · rw [i_s]; exact ih false (by rw [bI_0.mp q1]; rfl)
    · rw [ea, f_163_n (by omega)] at q2
      rw [i_s]; exact ih true (by
        rw [if_neg (by omega), Bool.and_true]
        cases b
        · exact absurd rfl q1
        · rfl)
    · rw [ea, f_163_n (by omega)] at q2
      have hb : b = true := by
        cases b
        · exact absurd rfl q1
        · rfl
      have h16 : G[i].2[k] < 16 := by omega
      have eS : (w_a w 36).getD (f_151 w (Int32.ofNat i) (Int32.ofNat k)).toNatClampNeg 0 = bI (S G[i].2[k]) := by
        rw [ea, i_nat (by omega)]; exact hB _ h16
      refine ⟨RM_io hR hi (by omega), by rw [ea]; exact o_ok h16 (by omega), fun q3 => ?_, fun q3 => ?_⟩
      · rw [eS, bI_0] at q3
        rw [i_s]; exact ih false (by rw [hb, if_pos h16, q3]; rfl)
      · rw [eS, bI_0] at q3
        rw [i_s]; exact ih true (by rw [hb, if_pos h16]; simpa using q3)
/-- one pass over the rules -/
theorem E162_p : ∀ (n i : Nat) (w : gk_Wd) (S : Nat → Bool) (m : Bool), gk_Sh rr w → RM w 4 28 G → BA w 36 S → i + n = G.length → ∃ w1, gk_Sh rr w1 ∧ Fr [36] [] w w1 ∧ BA w1 36 ((G.drop i).foldl (mS true) (S, m)).1 ∧ ∀ (r : gk_Res) (w' : gk_Wd), gk_W none (d + 1) 162 23 [some (.ref 27), some (.int (bI ((G.drop i).foldl (mS true) (S, m)).2)), none, none, none] [] w1 r w' → gk_W none (d + 1) 162 31 [some (.ref 27), some (.int (bI m)), some (.int (Int32.ofNat i)), none, none] [] w r w'
  | 0, i, w, S, m, hS, hR, hB, hi => by
    have h60 := RM_60 hR
    obtain rfl : i = G.length := by omega
    rw [List.drop_eq_nil_of_le (Nat.le_refl _)]
    exact ⟨w, hS, Fr_refl, hB, fun r w' h => sg_162_31 hS _ _ ⟨fun _ => h, fun q => absurd ((RM_le hR (by omega)).mpr (Nat.le_refl _)) q⟩⟩
  | n + 1, i, w, S, m, hS, hR, hB, hi => by
    have h60 := RM_60 hR
    have hil : i < G.length := by omega
    have hok := RM_ok hR hil
    have h10 := hok.2.1
    have hl16 := hok.1
    have el := RM_left hR hil
    have eS : (w_a w 36).getD ((w_a w 28).getD (Int32.ofNat i).toNatClampNeg 0).toNatClampNeg 0 = bI (S G[i].1) := by
      rw [el, i_nat (by omega)]; exact hB _ hl16
    have hlo : gk_out ((w_a w 28).getD (Int32.ofNat i).toNatClampNeg 0) 16 = false := by rw [el]; exact o_ok hl16 (by omega)
    have hnle : ¬ w_i w 26 4 ≤ Int32.ofNat i := fun q => absurd ((RM_le hR (by omega)).mp q) (by omega)
    rw [List.drop_eq_getElem_cons hil, List.foldl_cons]
    by_cases h1 : S G[i].1 = true
    · have e : mS true (S, m) G[i] = (S, m) := by unfold mS; rw [if_pos h1]
      rw [e]
      obtain ⟨w1, s1, f1, B1, g1⟩ := E162_p n (i + 1) w S m hS hR hB (by omega)
      refine ⟨w1, s1, f1, B1, fun r w' h => sg_162_31 hS _ _ ⟨fun q => absurd q hnle, fun _ => ⟨RM_out hR hil, hlo, fun q => ?_, fun _ => by rw [i_s]; exact g1 r w' h⟩⟩⟩
      rw [eS, h1] at q; exact absurd q (by decide)
    · have hl36 := (w_int hS ly_36).2
      have hx3 : ∀ b : Bool, BA (w_sa w 36 ((w_a w 36).set G[i].1 (bI b))) 36 (if b = true then usb S G[i].1 else S) := by
        intro b
        cases b
        · intro u hu
          rw [w_a_same hS ly_36, getD_set32 _ (by omega)]
          by_cases e : u = G[i].1
          · rw [if_pos e, e]
            have : S G[i].1 = false := by simpa using h1
            simp [this]
          · rw [if_neg e]; exact hB u hu
        · exact BA_set hS ly_36 hB hl16
      have hS1 : ∀ b : Bool, gk_Sh rr (w_sa w 36 ((w_a w 36).set G[i].1 (bI b))) := fun b => sh_as hS ly_36 _ _
      have hR1 : ∀ b : Bool, RM (w_sa w 36 ((w_a w 36).set G[i].1 (bI b))) 4 28 G := fun b => RM_congr hR w_i_sa (w_a_ne (by decide)) (w_a_ne (by decide)) (w_a_ne (by decide))
      have e : mS true (S, m) G[i] = (if fireB true S G[i] = true then usb S G[i].1 else S, m || fireB true S G[i]) := by
        unfold mS
        rw [if_neg h1]
        cases fireB true S G[i] <;> simp
      rw [e]
      obtain ⟨w1, s1, f1, B1, g1⟩ := E162_p n (i + 1) _ _ (m || fireB true S G[i]) (hS1 (fireB true S G[i])) (hR1 _) (hx3 _) (by omega)
      refine ⟨w1, s1, Fr_trans (Fr_sa (by decide) _) f1, B1, fun r w' h => sg_162_31 hS _ _ ⟨fun q => absurd q hnle, fun _ => ⟨RM_out hR hil, hlo, fun _ => ?_, fun q => absurd (by rw [eS]; exact bI_0.mpr (by simpa using h1)) q⟩⟩⟩
      have g2 := g1 r w' h
      refine E162_k hS hR hB hil G[i].2.length 0 true (by omega) ?_
      rw [List.drop_zero, Bool.true_and]
      show gk_W none (d + 1) 162 61 [_, _, _, some (.int (bI (fireB true S G[i]))), _] [] w r w'
      refine sg_162_61 hS _ _ _ _ ⟨RM_out hR hil, fun _ => ⟨RM_out hR hil, hlo, bI_b _, fun q1 => ?_, fun q1 => ⟨fun q2 => ?_, fun q2 => ?_⟩⟩, fun q => absurd ((RM_sz hR hil (by omega)).mpr (Nat.le_refl _)) q⟩
      all_goals rw [el, i_nat (by omega), i_s]
      · have hm : m = true := by
          cases m
          · exact absurd rfl q1
          · rfl
        rw [hm, Bool.true_or] at g2
        exact g2
      · have hm : m = false := bI_0.mp q1
        have hf : fireB true S G[i] = false := bI_0.mp q2
        rw [hm, hf] at g2
        rw [hf]
        exact g2
      · have hf : fireB true S G[i] = true := by
          cases hq : fireB true S G[i]
          · rw [hq] at q2; exact absurd rfl q2
          · rfl
        rw [hf, Bool.or_true] at g2
        rw [hf]
        exact g2
theorem E162_z : ∀ (m k : Nat) (w : gk_Wd), gk_Sh rr w → k + m = 16 → (∀ v, v < k → (w_a w 36).getD v 0 = 0) → ∃ w1, gk_Sh rr w1 ∧ Fr [36] [] w w1 ∧ BA w1 36 (fun _ => false) ∧ ∀ (r : gk_Res) (w' : gk_Wd), gk_W none (d + 1) 162 23 [some (.ref 27), some (.int 1), none, none, none] [] w1 r w' → gk_W none (d + 1) 162 2 [some (.ref 27), some (.int (Int32.ofNat k)), none, none, none] [] w r w'
  | 0, k, w, hS, hk, hz => by
    obtain rfl : k = 16 := by omega
    exact ⟨w, hS, Fr_refl, fun v hv => hz v hv, fun r w' h => sg_162_2 hS _ ⟨fun _ => h, fun q => absurd (show (16 : Int32) ≤ Int32.ofNat 16 by decide) q⟩⟩
  | m + 1, k, w, hS, hk, hz => by
    have hl := (w_int hS ly_36).2
    obtain ⟨w1, s1, f1, B1, g1⟩ := E162_z m (k + 1) (w_sa w 36 ((w_a w 36).set k 0)) (sh_as hS ly_36 _ _) (by omega) (fun v hv => by
      rw [w_a_same hS ly_36, getD_set32 _ (by omega)]
      by_cases e : v = k
      · rw [if_pos e]
      · rw [if_neg e]; exact hz v (by omega))
    refine ⟨w1, s1, Fr_trans (Fr_sa (by decide) _) f1, B1, fun r w' h => sg_162_2 hS _ ⟨fun q => absurd ((i_le (a := 16) (by omega) (by omega)).mp q) (by omega), fun _ => ⟨o_ok (by omega) (by omega), ?_⟩⟩⟩
    rw [i_nat (by omega), i_s]; exact g1 r w' h
theorem E162_w : ∀ (n : Nat) (w : gk_Wd) (S : Nat → Bool), gk_Sh rr w → RM w 4 28 G → BA w 36 S → 16 - cnt 16 S ≤ n → (∀ T : Nat → Bool, clP true G T → ∀ v, S v = true → T v = true) → ∃ (w1 : gk_Wd) (S1 : Nat → Bool), gk_Sh rr w1 ∧ Fr [36] [] w w1 ∧ BA w1 36 S1 ∧ isP true G S1 ∧ gk_W none (d + 1) 162 23 [some (.ref 27), some (.int 1), none, none, none] [] w (.inl none) w1
  | n, w, S, hS, hR, hB, hn, hT => by
    obtain ⟨w1, s1, f1, B1, g1⟩ := E162_p (d := d) G.length 0 w S false hS hR hB (by omega)
    rw [List.drop_zero] at B1 g1
    obtain ⟨a1, a2, a3⟩ := mS_pass (lt := true) G S false hR.2.2.1
    have hT' : ∀ T : Nat → Bool, clP true G T → ∀ v, (G.foldl (mS true) (S, false)).1 v = true → T v = true := fun T h => mS_inv h G S false (fun _ h => h) (hT T h)
    have hstart : ∀ (r : gk_Res) (w' : gk_Wd), gk_W none (d + 1) 162 31 [some (.ref 27), some (.int (bI false)), some (.int (Int32.ofNat 0)), none, none] [] w r w' → gk_W none (d + 1) 162 23 [some (.ref 27), some (.int 1), none, none, none] [] w r w' := fun r w' h => sg_162_23 hS _ ⟨fun q => absurd q (by decide), fun _ => h⟩
    cases hq : (G.foldl (mS true) (S, false)).2 with
    | false =>
      obtain ⟨-, b2, b3⟩ := a2 hq
      rw [hq] at g1
      rw [b2] at B1
      exact ⟨w1, S, s1, f1, B1, ⟨b3, hT⟩, hstart _ _ (g1 _ _ (sg_162_23 s1 _ ⟨fun _ => ⟨rfl, rfl⟩, fun q => absurd rfl q⟩))⟩
    | true =>
      rcases a3 hq with h | h
      · cases h
      · have hlt := cnt_lt 16 (fun i _ => a1 i) h
        have hle := cnt_le 16 (G.foldl (mS true) (S, false)).1
        match n with
        | 0 => omega
        | n + 1 =>
          obtain ⟨w2, S2, s2, f2, B2, P2, g2⟩ := E162_w n w1 _ s1 (RM_congr hR (Fr_i f1 (by simp)) (Fr_a f1 (by decide)) (Fr_a f1 (by decide)) (Fr_a f1 (by decide))) B1 (by omega) hT'
          rw [hq] at g1
          exact ⟨w2, S2, s2, Fr_trans f1 f2, B2, P2, hstart _ _ (g1 _ _ g2)⟩
/-- findFruitful -/
theorem E162 (hS : gk_Sh rr w) (hR : RM w 4 28 G) : ∃ (w' : gk_Wd) (S : Nat → Bool), gk_E (d + 1) 162 [.ref 27] w (.inl none) w' ∧ gk_Sh rr w' ∧ Fr [36] [] w w' ∧ BA w' 36 S ∧ isP true G S := by
  obtain ⟨w1, s1, f1, B1, g1⟩ := E162_z (d := d) 16 0 w hS (by omega) (fun v hv => by omega)
  obtain ⟨w2, S2, s2, f2, B2, P2, g2⟩ := E162_w (d := d) 16 w1 _ s1 (RM_congr hR (Fr_i f1 (by simp)) (Fr_a f1 (by decide)) (Fr_a f1 (by decide)) (Fr_a f1 (by decide))) B1 (by omega) (fun T _ v hv => by cases hv)
  exact ⟨w2, S2, gk_E_i rfl rfl (sg_162_0 hS (g1 _ _ g2)), s2, Fr_trans f1 f2, B2, P2⟩
end MF

/-! part 48: rounds over edges; findLeads and cleanUnits of the reference -/
def rnd {α : Type} (f : α → α) : Nat → α → α
  | 0, x => x
  | n + 1, x => f (rnd f n x)
def sle (S T : Nat → Bool) : Prop := ∀ v, S v = true → T v = true
theorem sle_refl (S : Nat → Bool) : sle S S := fun _ h => h
theorem sle_trans (S T U : Nat → Bool) (h : sle S T) (h' : sle T U) : sle S U := fun v q => h' v (h v q)
theorem sle_anti (S T : Nat → Bool) (h : sle S T) (h' : sle T S) : S = T := by
  funext v
  rcases hx : S v with _ | _ <;> rcases hy : T v with _ | _ <;> first | rfl | exact absurd (h v hx) (by rw [hy]; decide) | exact absurd (h' v hy) (by rw [hx]; decide)
theorem rnd_16 {f : (Nat → Bool) → Nat → Bool} (h16 : ∀ S, (∀ v, S v = true → v < 16) → ∀ v, f S v = true → v < 16) {S : Nat → Bool} (h0 : ∀ v, S v = true → v < 16) : ∀ n v, rnd f n S v = true → v < 16
  | 0 => h0
  | n + 1 => h16 _ (rnd_16 h16 h0 n)
theorem rnd_up {f : (Nat → Bool) → Nat → Bool} (hle : ∀ S, sle S (f S)) (h16 : ∀ S, (∀ v, S v = true → v < 16) → ∀ v, f S v = true → v < 16) {S : Nat → Bool} (h0 : ∀ v, S v = true → v < 16) : ∀ n, f (rnd f n S) = rnd f n S ∨ n + cnt 16 S ≤ cnt 16 (rnd f n S)
  | 0 => Or.inr (by simp [rnd])
  | n + 1 => by
    have h1 := rnd_16 h16 h0 n
    by_cases e : f (rnd f n S) = rnd f n S
    · left
      simp only [rnd]
      rw [e, e]
    · rcases rnd_up hle h16 h0 n with h | h
      · exact absurd h e
      · right
        have hne : ∃ i, i < 16 ∧ rnd f n S i = false ∧ f (rnd f n S) i = true := by
          refine Classical.byContradiction fun hc => e (sle_anti _ _ (fun v hv => ?_) (hle _))
          rcases hx : rnd f n S v with _ | _
          · exact absurd ⟨v, h16 _ h1 v hv, hx, hv⟩ hc
          · rfl
        have := cnt_lt 16 (fun i _ => hle (rnd f n S) i) hne
        simp only [rnd]
        omega
theorem rnd_fix {f : (Nat → Bool) → Nat → Bool} (hle : ∀ S, sle S (f S)) (h16 : ∀ S, (∀ v, S v = true → v < 16) → ∀ v, f S v = true → v < 16) {S : Nat → Bool} (h0 : ∀ v, S v = true → v < 16) {n : Nat} (hn : 16 < n + cnt 16 S) : f (rnd f n S) = rnd f n S := by
  rcases rnd_up hle h16 h0 n with h | h
  · exact h
  · have := cnt_le 16 (rnd f n S)
    omega
theorem rnd_le {f : (Nat → Bool) → Nat → Bool} (hle : ∀ S, sle S (f S)) (S : Nat → Bool) : ∀ n, sle S (rnd f n S)
  | 0 => sle_refl _
  | n + 1 => sle_trans _ _ _ (rnd_le hle S n) (hle _)
theorem rnd_inv {α : Type} {f : α → α} (P : α → Prop) (hf : ∀ x, P x → P (f x)) {x : α} (h : P x) : ∀ n, P (rnd f n x)
  | 0 => h
  | n + 1 => hf _ (rnd_inv P hf h n)
/-- an edge: who has its first gets its second -/
def eS (S : Nat → Bool) (e : Nat × Nat) : Nat → Bool := if S e.1 = true then usb S e.2 else S
theorem eS_le (S : Nat → Bool) (e : Nat × Nat) : sle S (eS S e) := by
  unfold eS
  split
  · exact fun v h => usb_le S _ v h
  · exact sle_refl _
theorem eS_fold_le (E : List (Nat × Nat)) (S : Nat → Bool) : sle S (E.foldl eS S) := fold_le sle sle_refl sle_trans _ eS_le E S
theorem eS_inv {X : Nat → Bool} {E : List (Nat × Nat)} (hX : ∀ e ∈ E, X e.1 = true → X e.2 = true) {S : Nat → Bool} (h : sle S X) : sle (E.foldl eS S) X := fold_inv (fun S => sle S X) eS E (fun S e he hS v hv => by
  unfold eS at hv
  split at hv
  · rename_i c
    simp only [usb, Bool.or_eq_true, decide_eq_true_eq] at hv
    rcases hv with hv | rfl
    · exact hS v hv
    · exact hX e he (hS _ c)
  · exact hS v hv) S h
theorem eS_fix {E : List (Nat × Nat)} {S : Nat → Bool} (h : E.foldl eS S = S) : ∀ e ∈ E, S e.1 = true → S e.2 = true := fun e he hs => by
  have := fold_fix sle sle_refl sle_trans sle_anti eS eS_le E S h e he
  unfold eS at this
  rw [if_pos hs] at this
  rw [← this]
  simp [usb]
def one (x : Nat) : Nat → Bool := fun v => decide (v = x)
theorem cnt_one : ∀ x : Fin 16, cnt 16 (one x.1) = 1 := by decide
/-- sixteen rounds over the edges: the relation that they make -/
theorem isT_rnd {E : List (Nat × Nat)} (hE : ∀ e ∈ E, e.1 < 16 ∧ e.2 < 16) {M T : Nat → Nat → Bool} (hM : ∀ i j, i < 16 → (M i j = true ↔ (i, j) ∈ E)) (hT : ∀ x, x < 16 → T x = rnd (fun S => E.foldl eS S) 16 (one x)) : isT M T := by
  have hle : ∀ S, sle S (E.foldl eS S) := eS_fold_le E
  have h16 : ∀ S : Nat → Bool, (∀ v, S v = true → v < 16) → ∀ v, E.foldl eS S v = true → v < 16 := fun S hS v hv => of_decide_eq_true (eS_inv (X := fun v => decide (v < 16)) (fun e he _ => decide_eq_true (hE e he).2) (fun u hu => decide_eq_true (hS u hu)) v hv)
  have h1 : ∀ x, x < 16 → ∀ v, one x v = true → v < 16 := fun x hx v hv => by
    rw [of_decide_eq_true hv]; exact hx
  have hfix : ∀ x, x < 16 → ∀ e ∈ E, T x e.1 = true → T x e.2 = true := fun x hx => by
    rw [hT x hx]
    refine eS_fix (rnd_fix (f := fun S => E.foldl eS S) hle h16 (h1 x hx) ?_)
    have := cnt_one ⟨x, hx⟩
    simp only at this
    omega
  have hself : ∀ x, x < 16 → T x x = true := fun x hx => by
    rw [hT x hx]; exact rnd_le hle _ 16 x (by simp [one])
  have hleast : ∀ x, x < 16 → ∀ X : Nat → Bool, X x = true → (∀ e ∈ E, X e.1 = true → X e.2 = true) → sle (T x) X := fun x hx X h0 hc => by
    rw [hT x hx]
    exact rnd_inv (fun S => sle S X) (fun S hS => eS_inv hc hS) (fun v hv => by rw [of_decide_eq_true hv]; exact h0) 16
  refine ⟨⟨hself, fun i j hi h => hfix i hi (i, j) ((hM i j hi).mp h) (hself i hi), fun i j k hi hj q1 q2 => hleast j hj (T i) q1 (hfix i hi) k q2⟩, fun T' hT' i j hi h => hleast i hi (T' i) (hT'.1 i hi) (fun e he q => hT'.2.2 i e.1 e.2 hi (hE e he).1 q (hT'.2.1 e.1 e.2 (hE e he).1 ((hM _ _ (hE e he).1).mpr he))) j h⟩
theorem headD_at {s : List Nat} (h : 0 < s.length) : s.headD 0 = s[0] := by
  match s, h with
  | x :: s, _ => rfl
/-- the square of marks of the reference -/
def LM (w : gk_Wd) (T : Nat → Nat → Bool) : Prop := ∀ i, i < 16 → ∀ j, j < 16 → (w_a w 40).getD (16 * i + j) 0 = bI (T i j)
theorem ix16 (i k : Nat) : 16 * Int32.ofNat i + Int32.ofNat k = Int32.ofNat (16 * i + k) := by
  rw [show (16 : Int32) = Int32.ofNat 16 from rfl, i_mul, i_add]
theorem ix16_n {i k : Nat} (hi : i < 16) (hk : k < 16) : (16 * Int32.ofNat i + Int32.ofNat k).toNatClampNeg = 16 * i + k := by
  rw [ix16, i_nat (by omega)]
theorem ix16_o {i k : Nat} (hi : i < 16) (hk : k < 16) : gk_out (16 * Int32.ofNat i + Int32.ofNat k) 256 = false := by
  rw [ix16]; exact o_ok (by omega) (by omega)
theorem diag : ∀ p : Fin 256, (Int32.ofNat p.1 / 16 = Int32.ofNat p.1 - Int32.ofNat p.1 / 16 * 16) ↔ p.1 / 16 = p.1 % 16 := by decide +kernel
section MU
variable {d : Nat} {rr : List gk_S} {w : gk_Wd} {G : List Rl} {T : Nat → Nat → Bool}
theorem LM_set (hS : gk_Sh rr w) (h : LM w T) {i j : Nat} (hi : i < 16) (hj : j < 16) : LM (w_sa w 40 ((w_a w 40).set (16 * i + j) 1)) (fun x => if x = i then usb (T x) j else T x) := by
  have hl := (w_int hS ly_40).2
  intro x hx y hy
  show _ = bI ((if x = i then usb (T x) j else T x) y)
  rw [w_a_same hS ly_40, getD_set32 _ (by omega)]
  by_cases e : x = i
  · subst e
    rw [if_pos rfl]
    by_cases e2 : y = j
    · subst e2
      rw [if_pos rfl]; simp [usb, bI]
    · rw [if_neg (by omega), h x hx y hy]; simp [usb, e2]
  · rw [if_neg e, if_neg (by omega)]; exact h x hx y hy
theorem LM_congr {w' : gk_Wd} (h : LM w T) (e : w_a w' 40 = w_a w 40) : LM w' T := fun i hi j hj => by rw [e]; exact h i hi j hj
theorem LM_ext {T' : Nat → Nat → Bool} (h : LM w T) (e : ∀ i, i < 16 → T i = T' i) : LM w T' := fun i hi j hj => by rw [h i hi j hj, e i hi]
theorem LM_0 (h : LM w T) {i j : Nat} (hi : i < 16) (hj : j < 16) : (w_a w 40).getD (16 * Int32.ofNat i + Int32.ofNat j).toNatClampNeg 0 = 0 ↔ T i j = false := by
  rw [ix16_n hi hj, h i hi j hj]; exact bI_0
theorem f_179_M (hR : RM w 4 28 G) {k : Nat} (hk : k < G.length) : f_179 w (Int32.ofNat k) = 0 ↔ unB G[k] = false := by
  have hok := RM_ok hR hk
  have h10 := hok.2.1
  have e1 : (w_a w 29).getD (Int32.ofNat k).toNatClampNeg 0 = 1 ↔ G[k].2.length = 1 := by
    rw [RM_size hR hk]; exact i_eq (b := 1) (by omega) (by omega)
  unfold f_179
  by_cases h1 : G[k].2.length = 1
  · have h0 : 0 < G[k].2.length := by omega
    have hs := hok.2.2 _ (List.getElem_mem h0)
    rw [if_neg (fun q => q (e1.mpr h1)), show (0 : Int32) = Int32.ofNat 0 from rfl, RM_at hR hk h0]
    by_cases h16 : G[k].2[0] < 16
    · rw [if_neg (by rw [show Int32.ofNat 0 = 0 from rfl, f_163_n (by omega)]; omega), (unB_at h1).mpr h16]
      exact ⟨fun q => absurd q (by decide), fun q => by cases q⟩
    · rw [if_pos (by rw [show Int32.ofNat 0 = 0 from rfl, f_163_n (by omega)]; omega)]
      refine ⟨fun _ => ?_, fun _ => rfl⟩
      rcases hb : unB G[k] with _ | _
      · rfl
      · exact absurd ((unB_at h1).mp hb) h16
  · rw [if_pos (fun q => h1 (e1.mp q))]
    exact ⟨fun _ => decide_eq_false fun q => h1 q.1, fun _ => rfl⟩
theorem f_179_o (hR : RM w 4 28 G) {k : Nat} (hk : k < G.length) : ¬ (¬ (w_a w 29).getD (Int32.ofNat k).toNatClampNeg 0 = 1) → gk_out (10 * Int32.ofNat k + 0) 640 = false := fun _ => RM_io hR hk (k := 0) (by omega)
def uS (T : Nat → Nat → Bool) (r : Rl) : Nat → Nat → Bool := if unB r = true then fun x => eS (T x) (r.1, r.2.headD 0) else T
def uE (G : List Rl) : List (Nat × Nat) := (G.filter unB).map fun r => (r.1, r.2.headD 0)
theorem uS_fold : ∀ (G : List Rl) (T : Nat → Nat → Bool) (x : Nat), G.foldl uS T x = (uE G).foldl eS (T x)
  | [], _, _ => rfl
  | r :: G, T, x => by
    rw [List.foldl_cons, uS_fold G]
    unfold uE uS
    cases hu : unB r with
    | true => simp [hu]
    | false => simp [hu]
theorem uE_iff {i j : Nat} : eM unB G i j = true ↔ (i, j) ∈ uE G := by
  unfold eM uE
  rw [List.any_eq_true]
  simp only [Bool.and_eq_true, decide_eq_true_eq, List.mem_map, List.mem_filter, Prod.mk.injEq]
  constructor
  · rintro ⟨r, hr, hu, e1, h16, hj⟩
    refine ⟨r, ⟨hr, hu⟩, e1, ?_⟩
    have := (of_decide_eq_true hu).1
    obtain ⟨l, s⟩ := r
    match s, this with
    | [y], _ => exact (List.mem_singleton.mp hj).symm
  · rintro ⟨r, ⟨hr, hu⟩, e1, e2⟩
    have h1 := of_decide_eq_true hu
    obtain ⟨l, s⟩ := r
    match s, h1 with
    | [y], h1 =>
      have e3 : y = j := e2
      subst e3
      exact ⟨_, hr, hu, e1, h1.2 y (by simp), by simp⟩
theorem uE_16 (hG : ∀ r ∈ G, okR r) : ∀ e ∈ uE G, e.1 < 16 ∧ e.2 < 16 := by
  intro e he
  have h1 : (e.1, e.2) ∈ uE G := he
  rw [← uE_iff, eM, List.any_eq_true] at h1
  obtain ⟨r, hr, h2⟩ := h1
  simp only [Bool.and_eq_true, decide_eq_true_eq] at h2
  exact ⟨by rw [← h2.2.1]; exact (hG r hr).1, h2.2.2.1⟩
/-- the diagonal -/
theorem LM_init (hS : gk_Sh rr w) {mi pc : Nat} {L : Int32 → gk_Lc} (step : ∀ (k : Nat) (w : gk_Wd), k < 256 → gk_Sh rr w → ∀ (r : gk_Res) (w' : gk_Wd), gk_W none (d + 2) mi pc (L (Int32.ofNat (k + 1))) [] (w_sa w 40 ((w_a w 40).set k (bI (decide (k / 16 = k % 16))))) r w' → gk_W none (d + 2) mi pc (L (Int32.ofNat k)) [] w r w') : ∃ w1, gk_Sh rr w1 ∧ Fr [40] [] w w1 ∧ LM w1 one ∧ Go (d + 2) mi pc (L (Int32.ofNat 0)) w pc (L (Int32.ofNat 256)) w1 := by
  obtain ⟨-, w1, ⟨s1, f1, h1⟩, g1⟩ := up_loop (α := Unit) (d := d + 2) (mi := mi) (pc := pc) 256 (fun k _ => L (Int32.ofNat k))
    (fun k _ w1 => gk_Sh rr w1 ∧ Fr [40] [] w w1 ∧ ∀ p, p < k → (w_a w1 40).getD p 0 = bI (decide (p / 16 = p % 16)))
    (fun k _ w1 hk hI => by
      obtain ⟨s1, f1, h1⟩ := hI
      have hl := (w_int s1 ly_40).2
      refine ⟨(), _, ⟨sh_as s1 ly_40 k _, Fr_trans f1 (Fr_sa (by simp) _), fun p hp => ?_⟩, fun r w' g => step k w1 hk s1 r w' g⟩
      rw [w_a_same s1 ly_40, getD_set32 _ (by omega)]
      by_cases e : p = k
      · rw [if_pos e, e]
      · rw [if_neg e]; exact h1 p (by omega)) 256 0 () w (by omega) ⟨hS, Fr_refl, fun p hp => by omega⟩
  refine ⟨w1, s1, f1, fun i hi j hj => ?_, g1⟩
  rw [h1 _ (by omega)]
  have : (16 * i + j) / 16 = (16 * i + j) % 16 ↔ j = i := by omega
  simp only [this, one]
/-- one edge, all rows -/
theorem LM_edge (hS : gk_Sh rr w) (hL : LM w T) {e : Nat × Nat} (he : e.1 < 16 ∧ e.2 < 16) {mi pc : Nat} {L : Int32 → gk_Lc} {J : gk_Wd → Prop} (hJ0 : J w) (hJ : ∀ w w', Fr [40] [] w w' → J w → J w') (step : ∀ (k : Nat) (w : gk_Wd) (T : Nat → Nat → Bool), k < 16 → gk_Sh rr w → LM w T → J w → ∀ (r : gk_Res) (w' : gk_Wd), (T k e.1 = false → gk_W none (d + 2) mi pc (L (Int32.ofNat (k + 1))) [] w r w') → (T k e.1 = true → gk_W none (d + 2) mi pc (L (Int32.ofNat (k + 1))) [] (w_sa w 40 ((w_a w 40).set (16 * k + e.2) 1)) r w') → gk_W none (d + 2) mi pc (L (Int32.ofNat k)) [] w r w') : ∃ w1, gk_Sh rr w1 ∧ Fr [40] [] w w1 ∧ LM w1 (fun x => eS (T x) e) ∧ Go (d + 2) mi pc (L (Int32.ofNat 0)) w pc (L (Int32.ofNat 16)) w1 := by
  obtain ⟨-, w1, ⟨s1, f1, h1⟩, g1⟩ := up_loop (α := Unit) (d := d + 2) (mi := mi) (pc := pc) 16 (fun k _ => L (Int32.ofNat k))
    (fun k _ w1 => gk_Sh rr w1 ∧ Fr [40] [] w w1 ∧ LM w1 (fun x => if x < k then eS (T x) e else T x))
    (fun k _ w1 hk hI => by
      obtain ⟨s1, f1, h1⟩ := hI
      have hjw := hJ _ _ f1 hJ0
      have hTk : (if k < k then eS (T k) e else T k) = T k := if_neg (Nat.lt_irrefl k)
      cases hb : T k e.1 with
      | false =>
        refine ⟨(), w1, ⟨s1, f1, LM_ext h1 fun x hx => ?_⟩, fun r w' g => step k w1 _ hk s1 h1 hjw r w' (fun _ => g) (fun q => ?_)⟩
        · by_cases ex : x = k
          · subst ex
            rw [if_neg (Nat.lt_irrefl x), if_pos (Nat.lt_succ_self x)]
            unfold eS
            rw [if_neg (by rw [hb]; decide)]
          · by_cases hxk : x < k
            · rw [if_pos hxk, if_pos (by omega)]
            · rw [if_neg hxk, if_neg (by omega)]
        · rw [hTk, hb] at q; cases q
      | true =>
        refine ⟨(), _, ⟨sh_as s1 ly_40 _ 1, Fr_trans f1 (Fr_sa (by simp) _), LM_ext (LM_set s1 h1 hk he.2) fun x hx => ?_⟩, fun r w' g => step k w1 _ hk s1 h1 hjw r w' (fun q => ?_) (fun _ => g)⟩
        · by_cases ex : x = k
          · subst ex
            rw [if_pos rfl, if_neg (Nat.lt_irrefl x), if_pos (Nat.lt_succ_self x)]
            unfold eS
            rw [if_pos hb]
          · rw [if_neg ex]
            by_cases hxk : x < k
            · rw [if_pos hxk, if_pos (by omega)]
            · rw [if_neg hxk, if_neg (by omega)]
        · rw [hTk, hb] at q; cases q) 16 0 () w (by omega) ⟨hS, Fr_refl, LM_ext hL fun x hx => by rw [if_neg (by omega)]⟩
  exact ⟨w1, s1, f1, LM_ext h1 fun x hx => by rw [if_pos hx], g1⟩
/-- findLeads -/
theorem E178 (hS : gk_Sh rr w) (hR : RM w 4 28 G) : ∃ (T : Nat → Nat → Bool) (w' : gk_Wd), isT (eM unB G) T ∧ gk_E (d + 2) 178 [.ref 27] w (.inl none) w' ∧ gk_Sh rr w' ∧ Fr [40] [] w w' ∧ LM w' T := by
  have h60 := RM_60 hR
  obtain ⟨w1, s1, f1, L1, g1⟩ := LM_init (d := d) (mi := 178) (pc := 2) (L := fun x => [some (.ref 27), some (.int x), none, none]) hS (fun k w hk hS r w' g => by
    have hd := diag ⟨k, hk⟩
    simp only at hd
    refine sg_178_2 (d := d) hS _ ⟨fun q => absurd ((i_le (a := 256) (by omega) (by omega)).mp q) (by omega), fun _ => ⟨fun q => ⟨o_ok hk (by omega), ?_⟩, fun q => ⟨o_ok hk (by omega), ?_⟩⟩⟩
    · rw [hd] at q
      rw [decide_eq_false q] at g
      rw [i_nat (by omega), i_s]; exact g
    · rw [hd] at q
      rw [decide_eq_true q] at g
      rw [i_nat (by omega), i_s]; exact g)
  have R1 : RM w1 4 28 G := RM_Fr hR f1 (by decide) (by simp)
  obtain ⟨-, w2, ⟨s2, f2, L2⟩, g2⟩ := up_loop (α := Unit) (d := d + 2) (mi := 178) (pc := 39) 16 (fun k _ => [some (.ref 27), some (.int (Int32.ofNat k)), none, none])
    (fun k _ w2 => gk_Sh rr w2 ∧ Fr [40] [] w1 w2 ∧ LM w2 (rnd (fun T => G.foldl uS T) k one))
    (fun n _ w2 hn hI => by
      obtain ⟨s2, f2, L2⟩ := hI
      obtain ⟨-, w3, ⟨s3, f3, L3⟩, g3⟩ := up_loop (α := Unit) (d := d + 2) (mi := 178) (pc := 47) G.length (fun k _ => [some (.ref 27), some (.int (Int32.ofNat n)), some (.int (Int32.ofNat k)), none])
        (fun k _ w3 => gk_Sh rr w3 ∧ Fr [40] [] w1 w3 ∧ LM w3 ((G.take k).foldl uS (rnd (fun T => G.foldl uS T) n one)))
        (fun k _ w3 hk hI => by
          obtain ⟨s3, f3, L3⟩ := hI
          have R3 : RM w3 4 28 G := RM_Fr R1 f3 (by decide) (by simp)
          have hle : ¬ w_i w3 26 4 ≤ Int32.ofNat k := fun q => absurd ((RM_le R3 (by omega)).mp q) (by omega)
          have hu := f_179_M R3 hk
          have et : (G.take (k + 1)).foldl uS (rnd (fun T => G.foldl uS T) n one) = uS ((G.take k).foldl uS (rnd (fun T => G.foldl uS T) n one)) G[k] := by
            rw [List.take_succ_eq_append_getElem hk, List.foldl_append]; rfl
          cases hb : unB G[k] with
          | false =>
            refine ⟨(), w3, ⟨s3, f3, ?_⟩, fun r w' g => sg_178_47 (d := d) s3 _ _ ⟨fun q => absurd q hle, fun _ => ⟨RM_out R3 hk, f_179_o R3 hk, fun q => absurd (hu.mpr hb) q, fun _ => by rw [i_s]; exact g⟩⟩⟩
            rw [et]; unfold uS; rw [hb, if_neg (by decide)]; exact L3
          | true =>
            have hok := RM_ok R3 hk
            have hun := of_decide_eq_true hb
            have h0 : 0 < G[k].2.length := by omega
            have hh : G[k].2.headD 0 = G[k].2[0] := headD_at h0
            have hh16 : G[k].2.headD 0 < 16 := by rw [hh]; exact (unB_at hun.1).mp hb
            obtain ⟨w4, s4, f4, L4, g4⟩ := LM_edge (d := d) (mi := 178) (pc := 68) (L := fun x => [some (.ref 27), some (.int (Int32.ofNat n)), some (.int (Int32.ofNat k)), some (.int x)]) (e := (G[k].1, G[k].2.headD 0)) s3 L3 ⟨hok.1, hh16⟩ (J := fun w => RM w 4 28 G) R3 (fun _ _ f h => RM_Fr h f (by decide) (by simp)) (fun x w T hx hS hL hR r w' h1 h2 => by
              have el := RM_left hR hk
              have ea : f_151 w (Int32.ofNat k) 0 = Int32.ofNat (G[k].2.headD 0) := by
                rw [hh]; exact RM_at hR hk h0
              refine sg_178_68 (d := d) hS _ _ _ ⟨fun q => absurd q (n16 hx), fun _ => ⟨RM_out hR hk, ?_, fun q => ?_, fun q => ⟨RM_io hR hk (k := 0) (by omega), ?_, ?_⟩⟩⟩
              · rw [el]; exact ix16_o hx hok.1
              · rw [el, LM_0 hL hx hok.1] at q
                rw [i_s]; exact h1 q
              · rw [ea]; exact ix16_o hx hh16
              · rw [el, LM_0 hL hx hok.1] at q
                rw [ea, ix16_n hx hh16, i_s]; exact h2 (by simpa using q))
            refine ⟨(), w4, ⟨s4, Fr_trans f3 f4, ?_⟩, fun r w' g => sg_178_47 (d := d) s3 _ _ ⟨fun q => absurd q hle, fun _ => ⟨RM_out R3 hk, f_179_o R3 hk, fun _ => g4 r w' (sg_178_68 (d := d) s4 _ _ _ ⟨fun _ => by rw [i_s]; exact g, fun q => absurd y16 q⟩), fun q => ?_⟩⟩⟩
            · rw [et]; unfold uS; rw [hb, if_pos rfl]; exact L4
            · rw [hu, hb] at q; cases q) G.length 0 () w2 (by omega) ⟨s2, f2, L2⟩
      have R3 : RM w3 4 28 G := RM_Fr R1 f3 (by decide) (by simp)
      refine ⟨(), w3, ⟨s3, f3, ?_⟩, fun r w' g => sg_178_39 (d := d) s2 _ ⟨fun q => absurd q (n16 hn), fun _ => g3 r w' (sg_178_47 (d := d) s3 _ _ ⟨fun _ => by rw [i_s]; exact g, fun q => absurd ((RM_le R3 (by omega)).mpr (Nat.le_refl _)) q⟩)⟩⟩
      rw [List.take_of_length_le (Nat.le_refl _)] at L3
      exact L3) 16 0 () w1 (by omega) ⟨s1, Fr_refl, L1⟩
  have hrow : ∀ (n x : Nat), rnd (fun T => G.foldl uS T) n one x = rnd (fun S => (uE G).foldl eS S) n (one x) := fun n x => by
    induction n with
    | zero => rfl
    | succ n ih =>
      simp only [rnd]
      rw [uS_fold, ih]
  refine ⟨_, w2, isT_rnd (uE_16 hR.2.2.1) (fun i j _ => uE_iff) (fun x _ => hrow 16 x), gk_E_i rfl rfl (sg_178_0 (d := d) hS (g1 _ _ (sg_178_2 (d := d) s1 _ ⟨fun _ => g2 _ _ (sg_178_39 (d := d) s2 _ ⟨fun _ => ⟨rfl, rfl⟩, fun q => absurd y16 q⟩), fun q => absurd (by decide) q⟩))), s2, Fr_trans f1 f2, L2⟩
end MU

/-! part 60: what may come first and behind: tables and their ends -/
def tU (F : Nat → Int32) (v : Nat) (x : Int32) : Nat → Int32 := fun u => if u = v then x else F u
theorem tU_id {F : Nat → Int32} {v : Nat} {x : Int32} (h : x = F v) : tU F v x = F := by
  funext u
  unfold tU
  by_cases e : u = v
  · rw [if_pos e, h, e]
  · rw [if_neg e]
def TB (w : gk_Wd) (q : Nat) (F : Nat → Int32) : Prop := ∀ v, v < 16 → (w_a w q).getD v 0 = F v
theorem TB_set {rr : List gk_S} {w : gk_Wd} {q : Nat} {F : Nat → Int32} (hS : gk_Sh rr w) (hq : gp_lay[q]? = some (.inr (.inl (0, 16)))) (h : TB w q F) {v : Nat} (hv : v < 16) (x : Int32) : TB (w_sa w q ((w_a w q).set v x)) q (tU F v x) := by
  have hl := (w_int hS hq).2
  intro u hu
  show _ = if u = v then x else F u
  rw [w_a_same hS hq, getD_set32 _ (by omega)]
  by_cases e : u = v
  · rw [if_pos e, if_pos e]
  · rw [if_neg e, if_neg e]; exact h u hu
theorem TB_congr {w w' : gk_Wd} {q : Nat} {F : Nat → Int32} (h : TB w q F) (e : w_a w' q = w_a w q) : TB w' q F := fun v hv => by rw [e]; exact h v hv
theorem TB_at {w : gk_Wd} {q : Nat} {F : Nat → Int32} (h : TB w q F) {x : Int32} {v : Nat} (hx : x = Int32.ofNat v) (hv : v < 16) : (w_a w q).getD x.toNatClampNeg 0 = F v := by
  rw [hx, i_nat (by omega)]; exact h v hv
/-- the letters that a symbol may begin with -/
def lo (F : Nat → Int32) (s : Nat) : Int32 := if s < 16 then F s &&& 63 else (1 : Int32) <<< ((Int32.ofNat s - 16) &&& 31)
def la (N : Nat → Bool) (F : Nat → Int32) : List Nat → Int32
  | [] => 0
  | x :: s => lo F x ||| (if x < 16 ∧ N x = true then la N F s else 0)
def nlA (N : Nat → Bool) (s : List Nat) : Bool := s.all fun x => decide (x < 16) && N x
def lbB (S : Nat → Bool) (c s : Nat) : Bool := if s < 16 then S s && bt 63 c else bt ((1 : Int32) <<< ((Int32.ofNat s - 16) &&& 31)) c
def laB (N : Nat → Bool) (S : Nat → Bool) (c : Nat) : List Nat → Bool
  | [] => false
  | x :: s => lbB S c x || (decide (x < 16 ∧ N x = true) && laB N S c s)
theorem bt_lo (F : Nat → Int32) (s c : Nat) : bt (lo F s) c = lbB (fun v => bt (F v) c) c s := by
  unfold lo lbB
  by_cases h : s < 16
  · rw [if_pos h, if_pos h, bt_and]
  · rw [if_neg h, if_neg h]
theorem bt_la (N : Nat → Bool) (F : Nat → Int32) (c : Nat) : ∀ s : List Nat, bt (la N F s) c = laB N (fun v => bt (F v) c) c s
  | [] => bt_zero c
  | x :: s => by
    simp only [la, laB]
    rw [bt_or, bt_lo]
    by_cases h : x < 16 ∧ N x = true
    · rw [if_pos h, decide_eq_true h, Bool.true_and, bt_la N F c s]
    · rw [if_neg h, decide_eq_false h, bt_zero]; rfl
def fS (N : Nat → Bool) (F : Nat → Int32) (r : Rl) : Nat → Int32 := tU F r.1 (F r.1 ||| la N F r.2)
def fSB (N : Nat → Bool) (c : Nat) (S : Nat → Bool) (r : Rl) : Nat → Bool := fun v => S v || (decide (v = r.1) && laB N S c r.2)
theorem bt_fS (N : Nat → Bool) (F : Nat → Int32) (r : Rl) (c : Nat) : (fun v => bt (fS N F r v) c) = fSB N c (fun v => bt (F v) c) r := by
  funext v
  unfold fS fSB tU
  by_cases e : v = r.1
  · subst e
    rw [if_pos rfl, bt_or, bt_la]; simp
  · rw [if_neg e]; simp [e]
def R1 (N : Nat → Bool) (G : List Rl) (F : Nat → Int32) : Nat → Int32 := G.foldl (fS N) F
theorem bt_R1 (N : Nat → Bool) (c : Nat) : ∀ (G : List Rl) (F : Nat → Int32), (fun v => bt (R1 N G F v) c) = G.foldl (fSB N c) (fun v => bt (F v) c)
  | [], F => rfl
  | r :: G, F => by
    have := bt_R1 N c G (fS N F r)
    rw [bt_fS] at this
    exact this
theorem fSB_le (N : Nat → Bool) (c : Nat) (S : Nat → Bool) (r : Rl) : sle S (fSB N c S r) := fun v h => by
  unfold fSB; rw [h]; rfl
theorem fSB_16 {N : Nat → Bool} {c : Nat} {G : List Rl} (hG : ∀ r ∈ G, okR r) (S : Nat → Bool) (h : ∀ v, S v = true → v < 16) : ∀ v, G.foldl (fSB N c) S v = true → v < 16 := fold_inv (fun S : Nat → Bool => ∀ v, S v = true → v < 16) (fSB N c) G (fun S r hr hS v hv => by
  unfold fSB at hv
  simp only [Bool.or_eq_true, Bool.and_eq_true, decide_eq_true_eq] at hv
  rcases hv with hv | ⟨rfl, _⟩
  · exact hS v hv
  · exact (hG r hr).1) S h
def fF0 (N : Nat → Bool) : Nat → Int32 := fun v => if v < 16 ∧ N v = true then 64 else 0
def Fst (N : Nat → Bool) (G : List Rl) : Nat → Int32 := rnd (R1 N G) 17 (fF0 N)
theorem bt_rnd {f : (Nat → Int32) → Nat → Int32} {g : (Nat → Bool) → Nat → Bool} {c : Nat} (h : ∀ F, (fun v => bt (f F v) c) = g (fun v => bt (F v) c)) (F : Nat → Int32) : ∀ n, (fun v => bt (rnd f n F v) c) = rnd g n (fun v => bt (F v) c)
  | 0 => rfl
  | n + 1 => by
    simp only [rnd]
    rw [h, bt_rnd h F n]
theorem Fst_fix {N : Nat → Bool} {G : List Rl} (hG : ∀ r ∈ G, okR r) : R1 N G (Fst N G) = Fst N G := by
  funext v
  refine bt_ext fun c _ => ?_
  have h1 := bt_rnd (f := R1 N G) (g := fun S => G.foldl (fSB N c) S) (c := c) (bt_R1 N c G) (fF0 N) 17
  have h2 := bt_R1 N c G (Fst N G)
  have h3 := rnd_fix (f := fun S => G.foldl (fSB N c) S) (fold_le sle sle_refl sle_trans _ (fSB_le N c) G) (fSB_16 hG) (S := fun v => bt (fF0 N v) c) (fun v hv => by
    unfold fF0 at hv
    by_cases h : v < 16 ∧ N v = true
    · exact h.1
    · rw [if_neg h, bt_zero] at hv; cases hv) (n := 17) (by omega)
  unfold Fst at h2 ⊢
  rw [h1, h3, ← h1] at h2
  exact congrFun h2 v
theorem rnd_st {α : Type} {f : α → α} {x : α} {k : Nat} (h : f (rnd f k x) = rnd f k x) : ∀ {m : Nat}, k ≤ m → rnd f m x = rnd f k x
  | 0, hm => by
    obtain rfl : k = 0 := by omega
    rfl
  | m + 1, hm => by
    by_cases e : k = m + 1
    · rw [e]
    · simp only [rnd]
      rw [rnd_st h (show k ≤ m by omega), h]
theorem rnd_end {α : Type} {f : α → α} {x : α} {k n : Nat} (hn : f (rnd f n x) = rnd f n x) (h : f (rnd f k x) = rnd f k x ∨ n ≤ k) : rnd f k x = rnd f n x := by
  rcases h with h | h
  · rcases Nat.le_total k n with q | q
    · exact (rnd_st h q).symm
    · exact rnd_st hn q
  · exact rnd_st hn h
/-- what stands behind a symbol -/
def beh (N : Nat → Bool) (F : Nat → Int32) (b : Int32) (s : List Nat) : Int32 := la N F s ||| (if nlA N s = true then b else 0)
theorem bt_beh (N : Nat → Bool) (F : Nat → Int32) (b : Int32) (s : List Nat) (c : Nat) : bt (beh N F b s) c = (bt (la N F s) c || (nlA N s && bt b c)) := by
  unfold beh
  rw [bt_or]
  cases nlA N s with
  | true => rw [if_pos rfl, Bool.true_and]
  | false => rw [if_neg (by decide), bt_zero]; rfl
def sfx : List Nat → List (Nat × List Nat)
  | [] => []
  | x :: s => (x, s) :: sfx s
def clQ (N : Nat → Bool) (F : Nat → Int32) (G : List Rl) (c : Nat) (S : Nat → Bool) : Prop := (c = 6 → S 0 = true) ∧ ∀ r ∈ G, ∀ e ∈ sfx r.2, e.1 < 16 → (bt (la N F e.2) c || (nlA N e.2 && S r.1)) = true → S e.1 = true
def isQ (N : Nat → Bool) (F : Nat → Int32) (G : List Rl) (c : Nat) (S : Nat → Bool) : Prop := clQ N F G c S ∧ ∀ T : Nat → Bool, clQ N F G c T → sle S T
theorem isQ_uniq {N : Nat → Bool} {F : Nat → Int32} {G : List Rl} {c : Nat} {S T : Nat → Bool} (h : isQ N F G c S) (h' : isQ N F G c T) : S = T := sle_anti _ _ (h.2 T h'.1) (h'.2 S h.1)
/-- an edge of the reference: left side, symbol, what stands behind it -/
def mW (N : Nat → Bool) (F : Nat → Int32) (W : Nat → Int32) (e : Nat × Nat × List Nat) : Nat → Int32 := if e.2.1 < 16 then tU W e.2.1 (W e.2.1 ||| beh N F (W e.1) e.2.2) else W
def mB (N : Nat → Bool) (F : Nat → Int32) (c : Nat) (S : Nat → Bool) (e : Nat × Nat × List Nat) : Nat → Bool := if e.2.1 < 16 then fun v => S v || (decide (v = e.2.1) && (bt (la N F e.2.2) c || (nlA N e.2.2 && S e.1))) else S
def efl (G : List Rl) : List (Nat × Nat × List Nat) := G.flatMap fun r => (sfx r.2).map fun e => (r.1, e)
theorem bt_mW (N : Nat → Bool) (F W : Nat → Int32) (e : Nat × Nat × List Nat) (c : Nat) : (fun v => bt (mW N F W e v) c) = mB N F c (fun v => bt (W v) c) e := by
  unfold mW mB
  by_cases h : e.2.1 < 16
  · rw [if_pos h, if_pos h]
    funext v
    unfold tU
    by_cases e1 : v = e.2.1
    · subst e1
      rw [if_pos rfl, bt_or, bt_beh]; simp
    · rw [if_neg e1]; simp [e1]
  · rw [if_neg h, if_neg h]
theorem bt_mR (N : Nat → Bool) (F : Nat → Int32) (c : Nat) : ∀ (E : List (Nat × Nat × List Nat)) (W : Nat → Int32), (fun v => bt (E.foldl (mW N F) W v) c) = E.foldl (mB N F c) (fun v => bt (W v) c)
  | [], W => rfl
  | e :: E, W => by
    have := bt_mR N F c E (mW N F W e)
    rw [bt_mW] at this
    exact this
theorem mB_le (N : Nat → Bool) (F : Nat → Int32) (c : Nat) (S : Nat → Bool) (e : Nat × Nat × List Nat) : sle S (mB N F c S e) := by
  unfold mB
  split
  · intro v h; simp only; rw [h]; rfl
  · exact sle_refl _
theorem mB_inv {N : Nat → Bool} {F : Nat → Int32} {c : Nat} {X : Nat → Bool} {E : List (Nat × Nat × List Nat)} (hX : ∀ e ∈ E, e.2.1 < 16 → (bt (la N F e.2.2) c || (nlA N e.2.2 && X e.1)) = true → X e.2.1 = true) {S : Nat → Bool} (h : sle S X) : sle (E.foldl (mB N F c) S) X := fold_inv (fun S => sle S X) (mB N F c) E (fun S e he hS v hv => by
  unfold mB at hv
  split at hv
  · rename_i h16
    simp only [Bool.or_eq_true, Bool.and_eq_true, decide_eq_true_eq] at hv
    rcases hv with hv | ⟨rfl, hv⟩
    · exact hS v hv
    · refine hX e he h16 ?_
      simp only [Bool.or_eq_true, Bool.and_eq_true]
      exact hv.imp id (fun q => ⟨q.1, hS _ q.2⟩)
  · exact hS v hv) S h
theorem mB_fix {N : Nat → Bool} {F : Nat → Int32} {c : Nat} {E : List (Nat × Nat × List Nat)} {S : Nat → Bool} (h : E.foldl (mB N F c) S = S) : ∀ e ∈ E, e.2.1 < 16 → (bt (la N F e.2.2) c || (nlA N e.2.2 && S e.1)) = true → S e.2.1 = true := fun e he h16 hs => by
  have h1 := fold_fix sle sle_refl sle_trans sle_anti (mB N F c) (mB_le N F c) E S h e he
  have h2 := congrFun h1 e.2.1
  unfold mB at h2
  rw [if_pos h16] at h2
  simp only [hs] at h2
  rw [← h2]; simp
theorem efl_mem {G : List Rl} {e : Nat × Nat × List Nat} : e ∈ efl G ↔ ∃ r ∈ G, r.1 = e.1 ∧ e.2 ∈ sfx r.2 := by
  unfold efl
  rw [List.mem_flatMap]
  refine exists_congr fun r => and_congr Iff.rfl ?_
  rw [List.mem_map]
  constructor
  · rintro ⟨s, hs, rfl⟩; exact ⟨rfl, hs⟩
  · rintro ⟨h1, h2⟩; exact ⟨e.2, h2, Prod.ext h1 rfl⟩
def W0 : Nat → Int32 := fun v => if v = 0 then 64 else 0
theorem W0_16 (c : Nat) : ∀ v, bt (W0 v) c = true → v < 16 := fun v hv => by
  unfold W0 at hv
  by_cases h : v = 0
  · omega
  · rw [if_neg h, bt_zero] at hv; cases hv
theorem bt64 : ∀ c : Fin 32, bt 64 c.1 = decide (c.1 = 6) := by decide
theorem W0_T {c : Nat} {T : Nat → Bool} (hT : c = 6 → T 0 = true) : sle (fun v => bt (W0 v) c) T := fun v hv => by
  have hv2 : bt (W0 v) c = true := hv
  unfold W0 at hv2
  by_cases h : v = 0
  · subst h
    rw [if_pos rfl] at hv2
    by_cases hc : c < 32
    · rw [bt64 ⟨c, hc⟩] at hv2
      exact hT (of_decide_eq_true hv2)
    · rw [bt_big _ (by omega)] at hv2; cases hv2
  · rw [if_neg h, bt_zero] at hv2; cases hv2
theorem mQ {N : Nat → Bool} {F : Nat → Int32} {G : List Rl} {n : Nat} (hn : 16 < n) (c : Nat) : isQ N F G c (fun v => bt (rnd (fun W => (efl G).foldl (mW N F) W) n W0 v) c) := by
  have h1 := bt_rnd (f := fun W => (efl G).foldl (mW N F) W) (g := fun S => (efl G).foldl (mB N F c) S) (c := c) (bt_mR N F c (efl G)) W0 n
  have h16 : ∀ S : Nat → Bool, (∀ v, S v = true → v < 16) → ∀ v, (efl G).foldl (mB N F c) S v = true → v < 16 := fun S hS v hv => of_decide_eq_true (mB_inv (X := fun v => decide (v < 16)) (fun e _ h _ => decide_eq_true h) (fun u hu => decide_eq_true (hS u hu)) v hv)
  have h3 := rnd_fix (f := fun S => (efl G).foldl (mB N F c) S) (fold_le sle sle_refl sle_trans _ (mB_le N F c) (efl G)) h16 (S := fun v => bt (W0 v) c) (W0_16 c) (n := n) (by omega)
  rw [h1]
  refine ⟨⟨fun hc => ?_, fun r hr e he h hb => mB_fix h3 (r.1, e) (efl_mem.mpr ⟨r, hr, rfl, he⟩) h hb⟩, fun T hT => ?_⟩
  · refine rnd_le (fold_le sle sle_refl sle_trans _ (mB_le N F c) (efl G)) (fun v => bt (W0 v) c) n 0 ?_
    rw [hc]; rfl
  · refine rnd_inv (fun S => sle S T) (fun S hS => mB_inv (fun e he h hb => ?_) hS) (W0_T hT.1) n
    obtain ⟨r, hr, h1, h2⟩ := efl_mem.mp he
    exact hT.2 r hr e.2 h2 h (by rw [h1]; exact hb)
/-- the class goes through a rule from behind -/
def bk (N : Nat → Bool) (F : Nat → Int32) : List Nat → (Nat → Int32) × Int32 → (Nat → Int32) × Int32
  | [], p => p
  | x :: s, p => (if x < 16 then tU (bk N F s p).1 x ((bk N F s p).1 x ||| (bk N F s p).2) else (bk N F s p).1, if x < 16 ∧ N x = true then (bk N F s p).2 ||| lo F x else lo F x)
theorem bk_2 (N : Nat → Bool) (F W : Nat → Int32) (b : Int32) : ∀ s : List Nat, (bk N F s (W, b)).2 = beh N F b s
  | [] => by
    simp only [bk, beh, la, nlA, List.all_nil, if_true]
    refine bt_ext fun c _ => ?_
    rw [bt_or, bt_zero]; rfl
  | x :: s => by
    refine bt_ext fun c _ => ?_
    simp only [bk]
    rw [bt_beh]
    by_cases h : x < 16 ∧ N x = true
    · rw [if_pos h, bt_or, bk_2 N F W b s, bt_beh]
      simp only [la, if_pos h]
      rw [bt_or]
      have : nlA N (x :: s) = nlA N s := by simp [nlA, h.1, h.2]
      rw [this]
      cases bt (lo F x) c <;> cases bt (la N F s) c <;> simp
    · rw [if_neg h]
      simp only [la, if_neg h]
      have : nlA N (x :: s) = false := by
        unfold nlA
        rw [List.all_cons]
        by_cases h1 : x < 16
        · have : N x = false := by
            rcases hb : N x with _ | _
            · rfl
            · exact absurd ⟨h1, hb⟩ h
          simp [this]
        · simp [h1]
      rw [this, bt_or, bt_zero]; simp
def cbB (N : Nat → Bool) (F : Nat → Int32) (c : Nat) (b : Bool) : List Nat → Nat → Bool
  | [], _ => false
  | x :: s, v => (decide (x < 16 ∧ v = x) && (bt (la N F s) c || (nlA N s && b))) || cbB N F c b s v
theorem bt_bk (N : Nat → Bool) (F W : Nat → Int32) (b : Int32) (c : Nat) : ∀ (s : List Nat) (v : Nat), bt ((bk N F s (W, b)).1 v) c = (bt (W v) c || cbB N F c (bt b c) s v)
  | [], v => by simp [bk, cbB]
  | x :: s, v => by
    simp only [bk, cbB]
    by_cases h : x < 16
    · rw [if_pos h]
      unfold tU
      by_cases e : v = x
      · subst e
        rw [if_pos rfl, bt_or, bk_2, bt_beh, bt_bk N F W b c s v, decide_eq_true ⟨h, rfl⟩, Bool.true_and]
        cases bt (W v) c <;> cases cbB N F c (bt b c) s v <;> simp
      · rw [if_neg e, bt_bk N F W b c s v, decide_eq_false (fun q => e q.2)]; simp
    · rw [if_neg h, bt_bk N F W b c s v, decide_eq_false (fun q => h q.1)]; simp
theorem cbB_mem {N : Nat → Bool} {F : Nat → Int32} {c : Nat} {b : Bool} : ∀ {s : List Nat} {v : Nat}, cbB N F c b s v = true ↔ ∃ e ∈ sfx s, e.1 = v ∧ e.1 < 16 ∧ (bt (la N F e.2) c || (nlA N e.2 && b)) = true
  | [], v => by simp [cbB, sfx]
  | x :: s, v => by
    simp only [cbB, sfx, List.mem_cons, Bool.or_eq_true, Bool.and_eq_true, decide_eq_true_eq]
    rw [cbB_mem]
    simp only [Bool.or_eq_true, Bool.and_eq_true]
    constructor
    · rintro (⟨⟨h1, h2⟩, h3⟩ | ⟨e, he, h⟩)
      · exact ⟨(x, s), Or.inl rfl, h2.symm, h1, h3⟩
      · exact ⟨e, Or.inr he, h⟩
    · rintro ⟨e, rfl | he, h1, h2, h3⟩
      · exact Or.inl ⟨⟨h2, h1.symm⟩, h3⟩
      · exact Or.inr ⟨e, he, h1, h2, h3⟩
def cW (N : Nat → Bool) (F W : Nat → Int32) (r : Rl) : Nat → Int32 := (bk N F r.2 (W, W r.1)).1
def cB (N : Nat → Bool) (F : Nat → Int32) (c : Nat) (S : Nat → Bool) (r : Rl) : Nat → Bool := fun v => S v || cbB N F c (S r.1) r.2 v
theorem bt_cW (N : Nat → Bool) (F W : Nat → Int32) (r : Rl) (c : Nat) : (fun v => bt (cW N F W r v) c) = cB N F c (fun v => bt (W v) c) r := by
  funext v
  exact bt_bk N F W (W r.1) c r.2 v
def R2 (N : Nat → Bool) (F : Nat → Int32) (G : List Rl) (W : Nat → Int32) : Nat → Int32 := G.foldl (cW N F) W
theorem bt_R2 (N : Nat → Bool) (F : Nat → Int32) (c : Nat) : ∀ (G : List Rl) (W : Nat → Int32), (fun v => bt (R2 N F G W v) c) = G.foldl (cB N F c) (fun v => bt (W v) c)
  | [], W => rfl
  | r :: G, W => by
    have := bt_R2 N F c G (cW N F W r)
    rw [bt_cW] at this
    exact this
theorem cB_le (N : Nat → Bool) (F : Nat → Int32) (c : Nat) (S : Nat → Bool) (r : Rl) : sle S (cB N F c S r) := fun v h => by unfold cB; rw [h]; rfl
theorem cB_inv {N : Nat → Bool} {F : Nat → Int32} {c : Nat} {X : Nat → Bool} {G : List Rl} (hX : ∀ r ∈ G, ∀ e ∈ sfx r.2, e.1 < 16 → (bt (la N F e.2) c || (nlA N e.2 && X r.1)) = true → X e.1 = true) {S : Nat → Bool} (h : sle S X) : sle (G.foldl (cB N F c) S) X := fold_inv (fun S => sle S X) (cB N F c) G (fun S r hr hS v hv => by
  unfold cB at hv
  rw [Bool.or_eq_true] at hv
  rcases hv with hv | hv
  · exact hS v hv
  · obtain ⟨e, he, rfl, h16, h2⟩ := cbB_mem.mp hv
    refine hX r hr e he h16 ?_
    simp only [Bool.or_eq_true, Bool.and_eq_true] at h2 ⊢
    exact h2.imp id (fun q => ⟨q.1, hS _ q.2⟩)) S h
theorem cQ_fix {N : Nat → Bool} {F : Nat → Int32} {G : List Rl} {c : Nat} {S : Nat → Bool} (h0 : c = 6 → S 0 = true) (h : G.foldl (cB N F c) S = S) : clQ N F G c S := ⟨h0, fun r hr e he h16 hb => by
  have h1 := fold_fix sle sle_refl sle_trans sle_anti (cB N F c) (cB_le N F c) G S h r hr
  have h2 := congrFun h1 e.1
  unfold cB at h2
  rw [cbB_mem.mpr ⟨e, he, rfl, h16, hb⟩] at h2
  rw [← h2]; simp⟩
/-- the class's rounds, until nothing grows or there were enough of them -/
theorem cQ {N : Nat → Bool} {F : Nat → Int32} {G : List Rl} {n : Nat} (hn : R2 N F G (rnd (R2 N F G) n W0) = rnd (R2 N F G) n W0 ∨ 16 < n) (c : Nat) : isQ N F G c (fun v => bt (rnd (R2 N F G) n W0 v) c) := by
  have h1 := bt_rnd (f := R2 N F G) (g := fun S => G.foldl (cB N F c) S) (c := c) (bt_R2 N F c G) W0 n
  have h16 : ∀ S : Nat → Bool, (∀ v, S v = true → v < 16) → ∀ v, G.foldl (cB N F c) S v = true → v < 16 := fun S hS v hv => of_decide_eq_true (cB_inv (X := fun v => decide (v < 16)) (fun r _ e _ h _ => decide_eq_true h) (fun u hu => decide_eq_true (hS u hu)) v hv)
  have hfix : G.foldl (cB N F c) (rnd (fun S => G.foldl (cB N F c) S) n (fun v => bt (W0 v) c)) = rnd (fun S => G.foldl (cB N F c) S) n (fun v => bt (W0 v) c) := by
    rcases hn with hn | hn
    · rw [← h1, ← bt_R2, hn]
    · exact rnd_fix (f := fun S => G.foldl (cB N F c) S) (fold_le sle sle_refl sle_trans _ (cB_le N F c) G) h16 (S := fun v => bt (W0 v) c) (W0_16 c) (n := n) (by omega)
  rw [h1]
  refine ⟨cQ_fix (fun hc => ?_) hfix, fun T hT => ?_⟩
  · refine rnd_le (fold_le sle sle_refl sle_trans _ (cB_le N F c) G) (fun v => bt (W0 v) c) n 0 ?_
    rw [hc]; rfl
  · exact rnd_inv (fun S => sle S T) (fun S hS => cB_inv hT.2 hS) (W0_T hT.1) n
/-- the tables of a grammar -/
def isFo (N : Nat → Bool) (F : Nat → Int32) (G : List Rl) (W : Nat → Int32) : Prop := ∀ c, isQ N F G c (fun v => bt (W v) c)
theorem isFo_uniq {N : Nat → Bool} {F : Nat → Int32} {G : List Rl} {W W' : Nat → Int32} (h : isFo N F G W) (h' : isFo N F G W') : W = W' := by
  funext v
  exact bt_ext fun c _ => congrFun (isQ_uniq (h c) (h' c)) v

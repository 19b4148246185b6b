/-! part 44: removeEmpty of the class -/
theorem f_39_pk {r : Rl} (h : okR r) : f_39 (pk r) = 0 ↔ ¬ r.2.length = 0 := by
  have := h.2.1
  have e : f_24 (pk r) = 0 ↔ r.2.length = 0 := by rw [f_24_pk h]; exact i_eq (b := 0) (by omega) (by omega)
  unfold f_39
  by_cases h0 : r.2.length = 0
  · rw [if_neg (fun q => q (e.mpr h0))]
    exact ⟨fun q => absurd q (by decide), fun q => absurd h0 q⟩
  · rw [if_pos (fun q => h0 (e.mp q))]
    exact ⟨fun _ => h0, fun _ => rfl⟩
def neB (r : Rl) : Bool := !decide (r.2.length = 0)
theorem okO_some {r : Rl} (h : okR r) : okO (some r) := fun _ e => by cases e; exact h
theorem okR_erase {r : Rl} (h : okR r) (k : Nat) : okR (r.1, r.2.eraseIdx k) := ⟨h.1, Nat.le_trans (List.length_eraseIdx_le _ _) h.2.1, fun x hx => h.2.2 x (List.mem_of_mem_eraseIdx hx)⟩
section CE
variable {d : Nat} {rr : List gk_S} {w : gk_Wd} {a : Nat}
/-- addShorter -/
theorem E98 (hS : gk_Sh rr w) (ha : gk_rs a) {A B : List Rl} {r : Rl} (hR : RS w a (A ++ r :: B)) (hs : srt (A ++ r :: B)) (X : Int32) {C : Rl → Prop} (hC : ∀ g ∈ A ++ r :: B, C g) (hk : ∀ (k : Nat) (hk : k < r.2.length), r.2[k] < 16 → bt X r.2[k] = true → C (r.1, r.2.eraseIdx k)) :
    ∃ (v : gk_Res) (w' : gk_Wd), (gk_Sh rr w' ∧ Fr [a + 1] [(a, 1)] w w' ∧ ((v = .inl (some (.int 1)) ∧ ∃ A', RS w' a (A' ++ r :: B) ∧ srt (A' ++ r :: B) ∧ (∀ x ∈ A, x ∈ A') ∧ (∀ x ∈ A' ++ r :: B, C x) ∧ ∀ (k : Nat) (hk : k < r.2.length), r.2[k] < 16 → bt X r.2[k] = true → (r.1, r.2.eraseIdx k) ∈ A' ++ r :: B) ∨ (v = .inl (some (.int 0)) ∧ big C))) ∧ gk_E (d + 3) 98 [.ref (a + 1), .long (pk r), .int X] w v w' := by
  have hr : okR r := hR.2.2.1 r (by simp)
  have h10 := hr.2.1
  obtain ⟨v, w', hQ, hW⟩ := up_exit (d := d + 3) (mi := 98) (pc := 3) r.2.length (fun k (_ : List Rl) => [some (.ref (a + 1)), some (.long (pk r)), none, some (.int X), some (.int (Int32.ofNat (k + 1))), none])
    (fun k A' w1 => gk_Sh rr w1 ∧ Fr [a + 1] [(a, 1)] w w1 ∧ RS w1 a (A' ++ r :: B) ∧ srt (A' ++ r :: B) ∧ (∀ x ∈ A, x ∈ A') ∧ (∀ x ∈ A' ++ r :: B, C x) ∧ ∀ (j : Nat) (hj : j < r.2.length), j < k → r.2[j] < 16 → bt X r.2[j] = true → (r.1, r.2.eraseIdx j) ∈ A' ++ r :: B)
    (fun v w' => gk_Sh rr w' ∧ Fr [a + 1] [(a, 1)] w w' ∧ ((v = .inl (some (.int 1)) ∧ ∃ A', RS w' a (A' ++ r :: B) ∧ srt (A' ++ r :: B) ∧ (∀ x ∈ A, x ∈ A') ∧ (∀ x ∈ A' ++ r :: B, C x) ∧ ∀ (k : Nat) (hk : k < r.2.length), r.2[k] < 16 → bt X r.2[k] = true → (r.1, r.2.eraseIdx k) ∈ A' ++ r :: B) ∨ (v = .inl (some (.int 0)) ∧ big C)))
    (fun k A1 w1 hkl hI => by
      obtain ⟨hS1, hf1, hR1, hs1, hA1, hC1, hj1⟩ := hI
      have hsy := hr.2.2 _ (List.getElem_mem hkl)
      have e26 := f_26_pk hr hkl
      by_cases hv : r.2[k] < 16 ∧ bt X r.2[k] = true
      · have hq := okR_erase hr k
        have c1 : ¬ f_28 (f_26 (pk r) (Int32.ofNat (k + 1))) = 0 := by rw [e26, f_28_0 (by omega)]; omega
        have c2 : ¬ f_36 X (f_26 (pk r) (Int32.ofNat (k + 1))) = 0 := by rw [e26, f_36_0 X (by omega), hv.2]; decide
        obtain ⟨w2, e2, s2, f2, p2⟩ := E94 (d := d + 1) hS1 ha hR1 hs1 (okO_some hq)
        have hqr : pkN (r.1, r.2.eraseIdx k) < pkN r := pkN_n hq hr rfl (by show (r.2.eraseIdx k).length < _; rw [List.length_eraseIdx_of_lt hkl]; omega)
        have hB : ∀ b ∈ r :: B, pkN (r.1, r.2.eraseIdx k) < pkN b := fun b hb => by
          rcases List.mem_cons.mp hb with rfl | hb
          · exact hqr
          · have h2 := (List.pairwise_append.mp hs1).2.1
            have := (List.pairwise_cons.mp h2).1 b hb
            omega
        cases hp : putR (some (r.1, r.2.eraseIdx k)) (A1 ++ r :: B) with
        | none =>
          rw [hp] at e2
          right
          refine ⟨.inl (some (.int 0)), w2, ⟨s2, Fr_trans hf1 f2, Or.inr ⟨rfl, ?_⟩⟩, sg_98_3 (d := d + 2) hS1 ha _ _ _ ⟨fun q => absurd q (len_f hr (by omega)), fun _ => ⟨fun q => absurd q c1, fun _ => ⟨fun q => absurd q c2, fun _ => ⟨_, E99 hS1 hr hkl, 0, w2, e2, s2, fun q => absurd rfl q, fun _ => ⟨rfl, rfl⟩⟩⟩⟩⟩⟩
          by_cases hm : (r.1, r.2.eraseIdx k) ∈ A1 ++ r :: B
          · simp [putR, hm] at hp
          · by_cases hl : (A1 ++ r :: B).length < 60
            · simp only [putR, hm, hl, if_true, if_false] at hp
              cases hp
            · exact big_of hs1 hC1 hl hm (hk k hkl hv.1 hv.2)
        | some G' =>
          obtain ⟨R2, t2⟩ := p2 G' hp
          rw [hp] at e2
          left
          have hG' : ∃ A2, G' = A2 ++ r :: B ∧ (∀ x ∈ A1, x ∈ A2) ∧ (r.1, r.2.eraseIdx k) ∈ A2 ++ r :: B ∧ ∀ x ∈ A2 ++ r :: B, x ∈ A1 ++ r :: B ∨ x = (r.1, r.2.eraseIdx k) := by
            by_cases hm : (r.1, r.2.eraseIdx k) ∈ A1 ++ r :: B
            · simp only [putR, hm, if_true] at hp
              cases hp
              exact ⟨A1, rfl, fun _ h => h, hm, fun x h => Or.inl h⟩
            · by_cases hl : (A1 ++ r :: B).length < 60
              · simp only [putR, hm, hl, if_true, if_false] at hp
                cases hp
                refine ⟨_, insR_app hB, fun x h => (insR_mem _ _ _).mpr (Or.inr h), ?_, fun x h => ?_⟩
                · rw [← insR_app hB]; exact (insR_mem _ _ _).mpr (Or.inl rfl)
                · rw [← insR_app hB] at h
                  rcases (insR_mem _ _ _).mp h with h | h
                  · exact Or.inr h
                  · exact Or.inl h
              · simp only [putR, hm, hl, if_false] at hp
                cases hp
          obtain ⟨A2, rfl, h1, h2, h3⟩ := hG'
          refine ⟨A2, w2, ⟨s2, Fr_trans hf1 f2, R2, t2, fun x hx => h1 x (hA1 x hx), fun x hx => ?_, fun j hj hjk q1 q2 => ?_⟩, fun v w' h => sg_98_3 (d := d + 2) hS1 ha _ _ _ ⟨fun q => absurd q (len_f hr (by omega)), fun _ => ⟨fun q => absurd q c1, fun _ => ⟨fun q => absurd q c2, fun _ => ⟨_, E99 hS1 hr hkl, 1, w2, e2, s2, fun _ => ?_, fun q => absurd q (by decide)⟩⟩⟩⟩⟩
          · rcases h3 x hx with h | rfl
            · exact hC1 x h
            · exact hk k hkl hv.1 hv.2
          · by_cases hjk2 : j = k
            · subst hjk2; exact h2
            · have := hj1 j hj (by omega) q1 q2
              rcases List.mem_append.mp this with h | h
              · exact List.mem_append.mpr (Or.inl (h1 _ h))
              · exact List.mem_append.mpr (Or.inr h)
          · rw [i_s]; exact h
      · left
        refine ⟨A1, w1, ⟨hS1, hf1, hR1, hs1, hA1, hC1, fun j hj hjk q1 q2 => ?_⟩, fun v w' h => sg_98_3 (d := d + 2) hS1 ha _ _ _ ⟨fun q => absurd q (len_f hr (by omega)), fun _ => ⟨fun _ => by rw [i_s]; exact h, fun c1 => ⟨fun _ => by rw [i_s]; exact h, fun c2 => ?_⟩⟩⟩⟩
        · by_cases hjk2 : j = k
          · subst hjk2; exact absurd ⟨q1, q2⟩ hv
          · exact hj1 j hj (by omega) q1 q2
        · rw [e26, f_28_0 (by omega)] at c1
          rw [e26, f_36_0 X (by omega)] at c2
          exact absurd ⟨by omega, by simpa using c2⟩ hv)
    (fun A1 w1 hI => by
      obtain ⟨hS1, hf1, hR1, hs1, hA1, hC1, hj1⟩ := hI
      exact ⟨.inl (some (.int 1)), w1, ⟨hS1, hf1, Or.inl ⟨rfl, A1, hR1, hs1, hA1, hC1, fun k hk q1 q2 => hj1 k hk hk q1 q2⟩⟩, sg_98_3 (d := d + 2) hS1 ha _ _ _ ⟨fun _ => ⟨rfl, rfl⟩, fun q => absurd (len_t hr (by omega) (by omega)) q⟩⟩)
    r.2.length 0 A w (by omega) ⟨hS, Fr_refl, hR, hs, fun _ h => h, hC, fun j hj h => by omega⟩
  exact ⟨v, w', hQ, gk_E_i rfl rfl (sg_98_0 (d := d + 2) hS ha _ _ hW)⟩
theorem E97_f (hS : gk_Sh rr w) (ha : gk_rs a) {H : List Rl} (hR : RS w a H) : ∃ w', gk_Sh rr w' ∧ Fr [a + 1] [(a, 1)] w w' ∧ RS w' a (H.filter neB) ∧ gk_W none (d + 2) 97 54 [none, some (.ref (a + 1)), none, some (.int (f_13 w a - 1))] [] w (.inl (some (.int 1))) w' := by
  obtain ⟨w1, s1, f1, R1, g1⟩ := dn_RS (d := d + 2) (mi := 97) (pc := 54) ha neB (fun x => [none, some (.ref (a + 1)), none, some (.int x)]) (d + 1) (fun k w H hk hS hR r w' h1 h2 => by
    have h60 := RS_60 hR
    have ef := RS_f23 hR hk
    have hok := RS_ok hR hk
    refine sg_97_54 (d := d) hS ha _ ⟨fun q => absurd q (i_neg (by omega)), fun _ => ⟨RS_out hR hk, fun q => ?_, fun q => ?_⟩⟩
    · rw [ef, f_39_pk hok] at q
      rw [i_m1]; exact h1 (by simp [neB]; simpa using q)
    · rw [ef, f_39_pk hok] at q
      rw [i_m1]; exact h2 (by simp only [neB]; rw [decide_eq_true (by omega)]; rfl)) H.length w H hS hR (Nat.le_refl _)
  rw [dfl_all] at R1
  rw [RS_f13 hR]
  exact ⟨w1, s1, f1, R1, g1 _ _ (sg_97_54 (d := d) s1 ha _ ⟨fun _ => ⟨rfl, rfl⟩, fun q => absurd i_z1 q⟩)⟩
theorem E97_l (ha : gk_rs a) (X : Int32) {G : List Rl} (hG : ∀ r ∈ G, okR r) : ∀ (m : Nat) (w : gk_Wd) (A B : List Rl), gk_Sh rr w → B.length + m = 60 → RS w a (A ++ B) → srt (A ++ B) → (∀ g ∈ G, g ∈ A ++ B) → (∀ r ∈ A ++ B, cE (bt X) G r) → (∀ r ∈ B, ∀ (k : Nat) (hk : k < r.2.length), r.2[k] < 16 → bt X r.2[k] = true → (r.1, r.2.eraseIdx k) ∈ A ++ B) →
    ∃ (v : gk_Res) (w' : gk_Wd), (gk_Sh rr w' ∧ Fr [a + 1] [(a, 1)] w w' ∧ ((v = .inl (some (.int 1)) ∧ ∃ H, isClo (cE (bt X) G) H ∧ H.length ≤ 60 ∧ RS w' a (H.filter neB)) ∨ (v = .inl (some (.int 0)) ∧ big (cE (bt X) G)))) ∧ gk_W none (d + 4) 97 7 [none, some (.ref (a + 1)), some (.int X), some (.int (Int32.ofNat (B.length + 1)))] [] w v w' := by
  intro m w A B hS hm hR hs hsub hC hB
  by_cases hA : A = []
  · subst hA
    have h60 := RS_60 hR
    have hl : ([] ++ B : List Rl).length = B.length := rfl
    obtain ⟨w1, s1, f1, R1, g1⟩ := E97_f (d := d + 2) hS ha hR
    refine ⟨_, w1, ⟨s1, f1, Or.inl ⟨rfl, _, ⟨hs, fun r => ⟨hC r, fun h => ?_⟩⟩, h60, R1⟩⟩, sg_97_7 (d := d + 2) hS ha _ _ ⟨fun _ => g1, fun _ => ⟨fun _ => g1, fun q => absurd ?_ q⟩⟩⟩
    · obtain ⟨g, hg, e1, e2⟩ := h
      have := cE_closed (H := [] ++ B) hB _ g r.2 (Nat.le_refl _) (hsub g hg) e2
      rw [e1] at this; exact this
    · rw [RS_f13 hR]; exact (i_lt (by omega) (by omega)).mpr (by omega)
  · obtain ⟨A', r, rfl⟩ : ∃ A' r, A = A' ++ [r] := ⟨A.dropLast, A.getLast hA, (List.dropLast_concat_getLast hA).symm⟩
    have e : A' ++ [r] ++ B = A' ++ r :: B := by simp
    rw [e] at hR hs hsub hC hB
    have h60 := RS_60 hR
    have hl : (A' ++ r :: B).length = A'.length + B.length + 1 := by simp; omega
    cases m with
    | zero => omega
    | succ m =>
      have hok : okR r := hR.2.2.1 r (by simp)
      have hil : A'.length < (A' ++ r :: B).length := by omega
      have hget : (A' ++ r :: B)[A'.length] = r := by simp
      have ei : f_13 w a - Int32.ofNat (B.length + 1) = Int32.ofNat A'.length := by
        rw [RS_f13 hR, i_sub (by omega)]; congr 1; omega
      have ef : f_23 w a (f_13 w a - Int32.ofNat (B.length + 1)) = pk r := by rw [ei, RS_f23 hR hil, hget]
      have n60 : ¬ (60 : Int32) < Int32.ofNat (B.length + 1) := fun q => absurd ((i_lt (a := 60) (by omega) (by omega)).mp q) (by omega)
      have nsz : ¬ f_13 w a < Int32.ofNat (B.length + 1) := fun q => by
        rw [RS_f13 hR] at q
        exact absurd ((i_lt (by omega) (by omega)).mp q) (by omega)
      have ho : gk_out (f_13 w a - Int32.ofNat (B.length + 1)) 60 = false := by rw [ei]; exact RS_out hR hil
      obtain ⟨v, w1, ⟨s1, f1, hv⟩, e1⟩ := E98 (d := d) hS ha hR hs X (C := cE (bt X) G) hC (fun k hk q1 q2 => by
        obtain ⟨g, hg, e1, e2⟩ := hC r (by simp)
        exact ⟨g, hg, e1, dlt_trans e2 (dlt_erase hk q1 q2)⟩)
      rcases hv with ⟨rfl, A1, R1, t1, a1, c1, j1⟩ | ⟨rfl, hb⟩
      · have up : ∀ x ∈ A' ++ r :: B, x ∈ A1 ++ r :: B := fun x hx => by
          rcases List.mem_append.mp hx with h | h
          · exact List.mem_append.mpr (Or.inl (a1 x h))
          · exact List.mem_append.mpr (Or.inr h)
        obtain ⟨v2, w2, ⟨s2, f2, h2⟩, g2⟩ := E97_l ha X hG m w1 A1 (r :: B) s1 (by simp; omega) R1 t1 (fun g hg => up g (hsub g hg)) c1 (fun q hq k hk q1 q2 => by
          rcases List.mem_cons.mp hq with rfl | hq
          · exact j1 k hk q1 q2
          · exact up _ (hB q hq k hk q1 q2))
        refine ⟨v2, w2, ⟨s2, Fr_trans f1 f2, h2⟩, sg_97_7 (d := d + 2) hS ha _ _ ⟨fun q => absurd q n60, fun _ => ⟨fun q => absurd q nsz, fun _ => ⟨ho, 1, w1, by rw [ef]; exact e1, s1, fun _ => ?_, fun q => absurd q (by decide)⟩⟩⟩⟩
        rw [i_s]; exact g2
      · exact ⟨_, w1, ⟨s1, f1, Or.inr ⟨rfl, hb⟩⟩, sg_97_7 (d := d + 2) hS ha _ _ ⟨fun q => absurd q n60, fun _ => ⟨fun q => absurd q nsz, fun _ => ⟨ho, 0, w1, by rw [ef]; exact e1, s1, fun q => absurd rfl q, fun _ => ⟨rfl, rfl⟩⟩⟩⟩⟩
/-- what solid leaves, or that it can't be -/
def solR (G : List Rl) (o : Option (List Rl)) : Prop := ∃ N : Nat → Bool, isP false G N ∧ match o with
  | some K => ∃ H, isClo (cE N G) H ∧ H.length ≤ 60 ∧ K = H.filter neB
  | none => big (cE N G)
theorem solR_uniq {G : List Rl} {o o' : Option (List Rl)} (h : solR G o) (h' : solR G o') : o = o' := by
  obtain ⟨N, h1, h2⟩ := h
  obtain ⟨N', h1', h2'⟩ := h'
  obtain rfl := isP_uniq h1 h1'
  cases o with
  | none =>
    cases o' with
    | none => rfl
    | some K =>
      obtain ⟨H, q1, q2, q3⟩ := h2'
      exact absurd h2 (isClo_big q1 q2)
  | some K =>
    obtain ⟨H, q1, q2, q3⟩ := h2
    cases o' with
    | none => exact absurd h2' (isClo_big q1 q2)
    | some K' =>
      obtain ⟨H', q1', q2', q3'⟩ := h2'
      rw [q3, q3', isClo_uniq q1 q1']
/-- removeEmpty -/
theorem E97 (hS : gk_Sh rr w) (ha : gk_rs a) {G : List Rl} (hR : RS w a G) (hs : srt G) : ∃ (o : Option (List Rl)) (w' : gk_Wd), solR G o ∧ gk_E (d + 4) 97 [.ref 8, .ref (a + 1)] w (.inl (some (.int (bI o.isSome)))) w' ∧ gk_Sh rr w' ∧ Fr [a + 1] [(a, 1)] w w' ∧ ∀ K, o = some K → RS w' a K ∧ srt K := by
  obtain ⟨X, hX, eX⟩ := E50 (d := d) hS ha hR
  obtain ⟨v, w1, ⟨s1, f1, hv⟩, g1⟩ := E97_l (d := d) ha X hR.2.2.1 60 w G [] hS rfl (by rw [List.append_nil]; exact hR) (by rw [List.append_nil]; exact hs) (fun g hg => by rw [List.append_nil]; exact hg) (fun r hr => by rw [List.append_nil] at hr; exact ⟨r, hr, rfl, dlt_refl _ _⟩) (fun r hr => absurd hr List.not_mem_nil)
  rcases hv with ⟨rfl, H, h1, h2, h3⟩ | ⟨rfl, hb⟩
  · exact ⟨some (H.filter neB), w1, ⟨bt X, hX, H, h1, h2, rfl⟩, gk_E_i rfl rfl (sg_97_0 (d := d + 2) hS ha ⟨X, eX, g1⟩), s1, f1, fun K e => by cases e; exact ⟨h3, srt_filter h1.1 _⟩⟩
  · exact ⟨none, w1, ⟨bt X, hX, hb⟩, gk_E_i rfl rfl (sg_97_0 (d := d + 2) hS ha ⟨X, eX, g1⟩), s1, f1, fun K e => by cases e⟩
end CE

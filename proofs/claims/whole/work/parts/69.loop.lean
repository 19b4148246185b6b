/-! part 43: loops in general; sets that are put together rule by rule -/
/-- whatever comes of the second point comes of the first -/
def Go (d mi pc : Nat) (l : gk_Lc) (w : gk_Wd) (pc1 : Nat) (l1 : gk_Lc) (w1 : gk_Wd) : Prop := ∀ (r : gk_Res) (w' : gk_Wd), gk_W none d mi pc1 l1 [] w1 r w' → gk_W none d mi pc l [] w r w'
theorem Go_refl {d mi pc : Nat} {l : gk_Lc} {w : gk_Wd} : Go d mi pc l w pc l w := fun _ _ h => h
theorem Go_trans {d mi pc pc1 pc2 : Nat} {l l1 l2 : gk_Lc} {w w1 w2 : gk_Wd} (h : Go d mi pc l w pc1 l1 w1) (h' : Go d mi pc1 l1 w1 pc2 l2 w2) : Go d mi pc l w pc2 l2 w2 := fun r w' q => h r w' (h' r w' q)
section LP
variable {α : Type} {d mi pc : Nat}
theorem up_loop (n : Nat) (L : Nat → α → gk_Lc) (I : Nat → α → gk_Wd → Prop) (step : ∀ (k : Nat) (a : α) (w : gk_Wd), k < n → I k a w → ∃ (a1 : α) (w1 : gk_Wd), I (k + 1) a1 w1 ∧ Go d mi pc (L k a) w pc (L (k + 1) a1) w1) : ∀ (m k : Nat) (a : α) (w : gk_Wd), k + m = n → I k a w → ∃ (a1 : α) (w1 : gk_Wd), I n a1 w1 ∧ Go d mi pc (L k a) w pc (L n a1) w1
  | 0, k, a, w, hk, h => by
    obtain rfl : k = n := by omega
    exact ⟨a, w, h, Go_refl⟩
  | m + 1, k, a, w, hk, h => by
    obtain ⟨a1, w1, h1, g1⟩ := step k a w (by omega) h
    obtain ⟨a2, w2, h2, g2⟩ := up_loop n L I step m (k + 1) a1 w1 (by omega) h1
    exact ⟨a2, w2, h2, Go_trans g1 g2⟩
theorem up_exit (n : Nat) (L : Nat → α → gk_Lc) (I : Nat → α → gk_Wd → Prop) (Q : gk_Res → gk_Wd → Prop) (step : ∀ (k : Nat) (a : α) (w : gk_Wd), k < n → I k a w → (∃ (a1 : α) (w1 : gk_Wd), I (k + 1) a1 w1 ∧ Go d mi pc (L k a) w pc (L (k + 1) a1) w1) ∨ ∃ (r : gk_Res) (w' : gk_Wd), Q r w' ∧ gk_W none d mi pc (L k a) [] w r w') (fin : ∀ (a : α) (w : gk_Wd), I n a w → ∃ (r : gk_Res) (w' : gk_Wd), Q r w' ∧ gk_W none d mi pc (L n a) [] w r w') : ∀ (m k : Nat) (a : α) (w : gk_Wd), k + m = n → I k a w → ∃ (r : gk_Res) (w' : gk_Wd), Q r w' ∧ gk_W none d mi pc (L k a) [] w r w'
  | 0, k, a, w, hk, h => by
    obtain rfl : k = n := by omega
    exact fin a w h
  | m + 1, k, a, w, hk, h => by
    rcases step k a w (by omega) h with ⟨a1, w1, h1, g1⟩ | h1
    · obtain ⟨r, w', q, h2⟩ := up_exit n L I Q step fin m (k + 1) a1 w1 (by omega) h1
      exact ⟨r, w', q, g1 r w' h2⟩
    · exact h1
/-- going down: L k stands for the place at k - 1 -/
theorem dn_loop (L : Nat → α → gk_Lc) (I : Nat → α → gk_Wd → Prop) (step : ∀ (k : Nat) (a : α) (w : gk_Wd), I (k + 1) a w → ∃ (a1 : α) (w1 : gk_Wd), I k a1 w1 ∧ Go d mi pc (L (k + 1) a) w pc (L k a1) w1) : ∀ (k : Nat) (a : α) (w : gk_Wd), I k a w → ∃ (a1 : α) (w1 : gk_Wd), I 0 a1 w1 ∧ Go d mi pc (L k a) w pc (L 0 a1) w1
  | 0, a, w, h => ⟨a, w, h, Go_refl⟩
  | k + 1, a, w, h => by
    obtain ⟨a1, w1, h1, g1⟩ := step k a w h
    obtain ⟨a2, w2, h2, g2⟩ := dn_loop L I step k a1 w1 h1
    exact ⟨a2, w2, h2, Go_trans g1 g2⟩
end LP
/-- a row of the class, gone down, with what fails p taken out -/
theorem dn_RS {d mi pc : Nat} {rr : List gk_S} {a : Nat} (ha : gk_rs a) (p : Rl → Bool) (L : Int32 → gk_Lc) (d1 : Nat)
    (step : ∀ (k : Nat) (w : gk_Wd) (H : List Rl) (hk : k < H.length), gk_Sh rr w → RS w a H → ∀ (r : gk_Res) (w' : gk_Wd), (p H[k] = true → gk_W none d mi pc (L (Int32.ofNat k - 1)) [] w r w') → (p H[k] = false → ∃ w5, gk_E d1 14 [.ref (a + 1), .int (Int32.ofNat k)] w (.inl none) w5 ∧ gk_Sh rr w5 ∧ gk_W none d mi pc (L (Int32.ofNat k - 1)) [] w5 r w') → gk_W none d mi pc (L (Int32.ofNat k)) [] w r w') :
    ∀ (k : Nat) (w : gk_Wd) (H : List Rl), gk_Sh rr w → RS w a H → k ≤ H.length → ∃ w1, gk_Sh rr w1 ∧ Fr [a + 1] [(a, 1)] w w1 ∧ RS w1 a (dfl p k H) ∧ Go d mi pc (L (Int32.ofNat k - 1)) w pc (L (Int32.ofNat 0 - 1)) w1
  | 0, w, H, hS, hR, hk => ⟨w, hS, Fr_refl, by rw [dfl_0]; exact hR, Go_refl⟩
  | k + 1, w, H, hS, hR, hk => by
    have hkl : k < H.length := by omega
    rw [i_down]
    cases hb : p H[k] with
    | true =>
      obtain ⟨w1, s1, f1, R1, g1⟩ := dn_RS ha p L d1 step k w H hS hR (by omega)
      rw [dfl_keep hkl hb]
      exact ⟨w1, s1, f1, R1, fun r w' h => step k w H hkl hS hR r w' (fun _ => g1 r w' h) (fun q => by rw [hb] at q; cases q)⟩
    | false =>
      obtain ⟨w1, e1, s1, f1, R1⟩ := E14 (d := d1) hS ha hR hkl
      obtain ⟨w2, s2, f2, R2, g2⟩ := dn_RS ha p L d1 step k w1 _ s1 R1 (by rw [List.length_eraseIdx_of_lt hkl]; omega)
      rw [dfl_drop hkl hb]
      exact ⟨w2, s2, Fr_trans f1 f2, R2, fun r w' h => step k w H hkl hS hR r w' (fun q => by rw [hb] at q; cases q) (fun _ => ⟨w1, e1, s1, g2 r w' h⟩)⟩
/-- the same of the reference -/
theorem dn_RM {d mi pc : Nat} {rr : List gk_S} (p : Rl → Bool) (L : Int32 → gk_Lc) (d1 : Nat) (J : gk_Wd → Prop) (hJ : ∀ w w', Fr [28, 29, 30] [(26, 4)] w w' → J w → J w')
    (step : ∀ (k : Nat) (w : gk_Wd) (H : List Rl) (hk : k < H.length), gk_Sh rr w → RM w 4 28 H → J w → ∀ (r : gk_Res) (w' : gk_Wd), (p H[k] = true → gk_W none d mi pc (L (Int32.ofNat k - 1)) [] w r w') → (p H[k] = false → ∃ w5, gk_E (d1 + 1) 155 [.ref 27, .int (Int32.ofNat k)] w (.inl none) w5 ∧ gk_Sh rr w5 ∧ gk_W none d mi pc (L (Int32.ofNat k - 1)) [] w5 r w') → gk_W none d mi pc (L (Int32.ofNat k)) [] w r w') :
    ∀ (k : Nat) (w : gk_Wd) (H : List Rl), gk_Sh rr w → RM w 4 28 H → J w → k ≤ H.length → ∃ w1, gk_Sh rr w1 ∧ Fr [28, 29, 30] [(26, 4)] w w1 ∧ RM w1 4 28 (dfl p k H) ∧ Go d mi pc (L (Int32.ofNat k - 1)) w pc (L (Int32.ofNat 0 - 1)) w1
  | 0, w, H, hS, hR, _, hk => ⟨w, hS, Fr_refl, by rw [dfl_0]; exact hR, Go_refl⟩
  | k + 1, w, H, hS, hR, hj, hk => by
    have hkl : k < H.length := by omega
    rw [i_down]
    cases hb : p H[k] with
    | true =>
      obtain ⟨w1, s1, f1, R1, g1⟩ := dn_RM p L d1 J hJ step k w H hS hR hj (by omega)
      rw [dfl_keep hkl hb]
      exact ⟨w1, s1, f1, R1, fun r w' h => step k w H hkl hS hR hj r w' (fun _ => g1 r w' h) (fun q => by rw [hb] at q; cases q)⟩
    | false =>
      obtain ⟨w1, e1, s1, f1, R1⟩ := E155 (d := d1) hS hR hkl
      obtain ⟨w2, s2, f2, R2, g2⟩ := dn_RM p L d1 J hJ step k w1 _ s1 R1 (hJ _ _ f1 hj) (by rw [List.length_eraseIdx_of_lt hkl]; omega)
      rw [dfl_drop hkl hb]
      exact ⟨w2, s2, Fr_trans f1 f2, R2, fun r w' h => step k w H hkl hS hR hj r w' (fun q => by rw [hb] at q; cases q) (fun _ => ⟨w1, e1, s1, g2 r w' h⟩)⟩
theorem nodup_le : ∀ (l H : List Rl), l.Nodup → (∀ x ∈ l, x ∈ H) → l.length ≤ H.length
  | [], H, _, _ => Nat.zero_le _
  | x :: l, H, hn, hs => by
    have hx := hs x List.mem_cons_self
    obtain ⟨h1, h2⟩ := List.nodup_cons.mp hn
    have := nodup_le l (H.erase x) h2 (fun y hy => (List.mem_erase_of_ne (fun (e : y = x) => h1 (by rw [← e]; exact hy))).mpr (hs y (List.mem_cons_of_mem _ hy)))
    rw [List.length_erase_of_mem hx] at this
    have := List.length_pos_of_mem hx
    simp only [List.length_cons]
    omega
/-- H is the row of all that C allows -/
def isClo (C : Rl → Prop) (H : List Rl) : Prop := srt H ∧ ∀ r, r ∈ H ↔ C r
/-- there are too many of them -/
def big (C : Rl → Prop) : Prop := ∃ l : List Rl, l.Nodup ∧ 60 < l.length ∧ ∀ r ∈ l, C r
theorem isClo_uniq {C : Rl → Prop} {H H' : List Rl} (h : isClo C H) (h' : isClo C H') : H = H' := srt_ext h.1 h'.1 fun x => by rw [h.2, h'.2]
theorem isClo_big {C : Rl → Prop} {H : List Rl} (h : isClo C H) (hl : H.length ≤ 60) (hb : big C) : False := by
  obtain ⟨l, h1, h2, h3⟩ := hb
  have := nodup_le l H h1 (fun x hx => (h.2 x).mpr (h3 x hx))
  omega
theorem big_of {C : Rl → Prop} {H : List Rl} (hs : srt H) (hC : ∀ r ∈ H, C r) (hl : ¬ H.length < 60) {q : Rl} (hq : q ∉ H) (hc : C q) : big C := ⟨q :: H, List.nodup_cons.mpr ⟨hq, srt_nodup hs⟩, by simp; omega, fun r hr => by
  rcases List.mem_cons.mp hr with rfl | hr
  · exact hc
  · exact hC r hr⟩
/-- right sides with symbols left out that may be empty -/
def dlt (N : Nat → Bool) : List Nat → List Nat → Prop
  | [], t => t = []
  | x :: s, t => (∃ u, t = x :: u ∧ dlt N s u) ∨ (x < 16 ∧ N x = true ∧ dlt N s t)
theorem dlt_refl (N : Nat → Bool) : ∀ s : List Nat, dlt N s s
  | [] => rfl
  | x :: s => Or.inl ⟨s, rfl, dlt_refl N s⟩
theorem dlt_trans {N : Nat → Bool} : ∀ {s t u : List Nat}, dlt N s t → dlt N t u → dlt N s u
  | [], t, u, h, h' => by
    have : t = [] := h
    subst this; exact h'
  | x :: s, t, u, h, h' => by
    rcases h with ⟨t', rfl, h⟩ | ⟨h1, h2, h⟩
    · rcases h' with ⟨u', rfl, h'⟩ | ⟨h1, h2, h'⟩
      · exact Or.inl ⟨u', rfl, dlt_trans h h'⟩
      · exact Or.inr ⟨h1, h2, dlt_trans h h'⟩
    · exact Or.inr ⟨h1, h2, dlt_trans h h'⟩
theorem dlt_erase {N : Nat → Bool} : ∀ {s : List Nat} {k : Nat} (hk : k < s.length), s[k] < 16 → N s[k] = true → dlt N s (s.eraseIdx k)
  | x :: s, 0, hk, h1, h2 => Or.inr ⟨h1, h2, dlt_refl N s⟩
  | x :: s, k + 1, hk, h1, h2 => Or.inl ⟨s.eraseIdx k, rfl, dlt_erase (s := s) (by simpa using hk) h1 h2⟩
theorem dlt_first {N : Nat → Bool} : ∀ {s t : List Nat}, dlt N s t → s = t ∨ ∃ (k : Nat) (hk : k < s.length), s[k] < 16 ∧ N s[k] = true ∧ dlt N (s.eraseIdx k) t
  | [], t, h => Or.inl (show [] = t from (show t = [] from h).symm)
  | x :: s, t, h => by
    rcases h with ⟨u, rfl, h⟩ | ⟨h1, h2, h⟩
    · rcases dlt_first h with rfl | ⟨k, hk, h1, h2, h3⟩
      · exact Or.inl rfl
      · exact Or.inr ⟨k + 1, by simpa using hk, h1, h2, Or.inl ⟨u, rfl, h3⟩⟩
    · exact Or.inr ⟨0, by simp, h1, h2, h⟩
theorem dlt_sub {N : Nat → Bool} : ∀ {s t : List Nat}, dlt N s t → t.Sublist s
  | [], t, h => by
    have : t = [] := h
    subst this; exact List.Sublist.refl _
  | x :: s, t, h => by
    rcases h with ⟨u, rfl, h⟩ | ⟨_, _, h⟩
    · exact (dlt_sub h).cons_cons x
    · exact (dlt_sub h).cons x
/-- what comes of the rules G when symbols are left out -/
def cE (N : Nat → Bool) (G : List Rl) (r : Rl) : Prop := ∃ g ∈ G, g.1 = r.1 ∧ dlt N g.2 r.2
theorem cE_ok {N : Nat → Bool} {G : List Rl} (hG : ∀ r ∈ G, okR r) {r : Rl} (h : cE N G r) : okR r := by
  obtain ⟨g, hg, h1, h2⟩ := h
  have := hG g hg
  have hs := dlt_sub h2
  exact ⟨h1 ▸ this.1, Nat.le_trans hs.length_le this.2.1, fun x hx => this.2.2 x (hs.subset hx)⟩
/-- a set that is closed under leaving out one symbol -/
theorem cE_closed {N : Nat → Bool} {H : List Rl} (hc : ∀ r ∈ H, ∀ (k : Nat) (hk : k < r.2.length), r.2[k] < 16 → N r.2[k] = true → (r.1, r.2.eraseIdx k) ∈ H) : ∀ (n : Nat) (r : Rl) (t : List Nat), r.2.length ≤ n → r ∈ H → dlt N r.2 t → (r.1, t) ∈ H
  | n, r, t, hn, hr, h => by
    rcases dlt_first h with e | ⟨k, hk, h1, h2, h3⟩
    · rw [← e]; exact hr
    · cases n with
      | zero => omega
      | succ n =>
        have := hc r hr k hk h1 h2
        exact cE_closed hc n (r.1, r.2.eraseIdx k) t (by rw [List.length_eraseIdx_of_lt hk]; omega) this h3
theorem insR_app {q : Rl} : ∀ {A B : List Rl}, (∀ b ∈ B, pkN q < pkN b) → insR q (A ++ B) = insR q A ++ B := by
  intro A B hB
  have hp : posR q (A ++ B) = posR q A := by
    induction A with
    | nil =>
      cases B with
      | nil => rfl
      | cons b B =>
        have := hB b List.mem_cons_self
        rw [List.nil_append, posR_cons, if_neg (by omega)]; rfl
    | cons x A ih => rw [List.cons_append, posR_cons, posR_cons, ih]
  have hle := posR_le q A
  unfold insR
  rw [hp, List.take_append_of_le_length hle, List.drop_append_of_le_length hle, List.append_assoc, List.cons_append]

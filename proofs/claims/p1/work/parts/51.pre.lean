/-! part 28: the constructors' runs; the law from its start to its loop -/
def gk_veq : Value → Value → Bool
  | .int a, .int b => a == b
  | .long a, .long b => a == b
  | .ref a, .ref b => Nat.beq a b
  | .null, .null => true
  | _, _ => false
theorem gk_veq_ok {a b : Value} (h : gk_veq a b = true) : a = b := by
  cases a <;> cases b <;> first
    | rfl
    | (cases h; done)
    | (simp only [gk_veq, beq_iff_eq] at h; rw [h])
    | (exact congrArg Value.ref (Nat.eq_of_beq_eq_true h))
def gk_leq {α : Type} (f : α → α → Bool) : List α → List α → Bool
  | [], [] => true
  | a :: r, b :: s => f a b && gk_leq f r s
  | _, _ => false
theorem gk_leq_ok {α : Type} {f : α → α → Bool} (hf : ∀ a b, f a b = true → a = b) : ∀ {a b : List α}, gk_leq f a b = true → a = b
  | [], [], _ => rfl
  | x :: r, y :: s, h => by
    simp only [gk_leq, Bool.and_eq_true] at h
    rw [hf _ _ h.1, gk_leq_ok hf h.2]
  | [], _ :: _, h => by cases h
  | _ :: _, [], h => by cases h
def gk_ceq : gk_AC → gk_AC → Bool
  | .inl a, .inl b => Nat.beq a.1 b.1 && gk_leq gk_veq a.2 b.2
  | .inr (.inl a), .inr (.inl b) => Nat.beq a.1 b.1 && gk_leq (fun x y => x == y) a.2 b.2
  | .inr (.inr a), .inr (.inr b) => gk_leq (fun x y => x == y) a b
  | _, _ => false
theorem gk_ceq_ok : ∀ {a b : gk_AC}, gk_ceq a b = true → a = b
  | .inl (a, x), .inl (b, y), h => by
    simp only [gk_ceq, Bool.and_eq_true] at h
    rw [Nat.eq_of_beq_eq_true h.1, gk_leq_ok (fun _ _ => gk_veq_ok) h.2]
  | .inr (.inl (a, x)), .inr (.inl (b, y)), h => by
    simp only [gk_ceq, Bool.and_eq_true] at h
    rw [Nat.eq_of_beq_eq_true h.1, gk_leq_ok (fun _ _ q => eq_of_beq q) h.2]
  | .inr (.inr x), .inr (.inr y), h => by
    simp only [gk_ceq] at h
    rw [gk_leq_ok (fun _ _ q => eq_of_beq q) h]
  | .inl _, .inr (.inl _), h => by cases h
  | .inl _, .inr (.inr _), h => by cases h
  | .inr (.inl _), .inl _, h => by cases h
  | .inr (.inr _), .inl _, h => by cases h
  | .inr (.inl _), .inr (.inr _), h => by cases h
  | .inr (.inr _), .inr (.inl _), h => by cases h
def gk_oeq (o : gk_Out) (w : gk_Wd) : Bool := match o with
  | some (.inl none, w') => gk_leq gk_ceq w' w
  | _ => false
theorem gk_oeq_ok {o : gk_Out} {w : gk_Wd} (h : gk_oeq o w = true) : o = some (.inl none, w) := by
  unfold gk_oeq at h
  split at h
  · rw [gk_leq_ok (fun _ _ => gk_ceq_ok) h]
  · cases h
theorem gp_ini1 : gk_E 7 1 [.ref 1] [.inl (0, gp_dfl 0)] (.inl none) (gp_w0.take 26) := ⟨by decide, 2000, gk_oeq_ok (by decide +kernel)⟩
theorem gp_ini2 : gk_E 7 140 [.ref 27] (gp_w0.take 26 ++ [.inl (1, gp_dfl 1)]) (.inl none) (gp_w0.take 54) := ⟨by decide, 2000, gk_oeq_ok (by decide +kernel)⟩
theorem gp_w0_sh : gk_Sh [] gp_w0 := by unfold gk_Sh; decide +kernel
theorem gp_pre {xs : List Int32} {r : gk_Res} {w' : gk_Wd} (h : gk_W (some xs) 8 0 23 [some (.ref 0), some (.ref 1), some (.ref 27), some (.ref 55), some (.int 0), none, none] [] gp_w0 r w') : gk_W (some xs) 8 0 0 (gk_entry [.ref 0] 7) [] [] r w' := by
  show gk_W (some xs) 8 0 0 [some (.ref 0), none, none, none, none, none, none] [] [] r w'
  refine gk_W_h (i := .new 8) (st1 := [.ref 1]) (w1 := [.inl (0, gp_dfl 0)]) 3 rfl rfl rfl rfl ?_
  refine gk_W_s 1 (pc1 := 4) (l1 := [some (.ref 0), none, none, none, none, none, none]) (st1 := [.ref 1, .ref 1]) rfl ?_
  refine gk_W_c (i := .invokespecial 34) [.ref 1] 7 rfl rfl rfl gp_ini1 rfl rfl ?_
  refine gk_W_s 1 (pc1 := 8) (l1 := [some (.ref 0), some (.ref 1), none, none, none, none, none]) (st1 := []) rfl ?_
  refine gk_W_h (i := .new 35) (st1 := [.ref 27]) (w1 := gp_w0.take 26 ++ [.inl (1, gp_dfl 1)]) 11 rfl rfl rfl rfl ?_
  refine gk_W_s 1 (pc1 := 12) (l1 := [some (.ref 0), some (.ref 1), none, none, none, none, none]) (st1 := [.ref 27, .ref 27]) rfl ?_
  refine gk_W_c (i := .invokespecial 37) [.ref 27] 15 rfl rfl rfl gp_ini2 rfl rfl ?_
  refine gk_W_s 2 (pc1 := 17) (l1 := [some (.ref 0), some (.ref 1), some (.ref 27), none, none, none, none]) (st1 := [.int 1]) rfl ?_
  refine gk_W_h (i := .newarray .long) (st1 := [.ref 55]) (w1 := gp_w0) 19 rfl rfl rfl rfl ?_
  refine gk_W_s 3 (pc1 := 23) (l1 := [some (.ref 0), some (.ref 1), some (.ref 27), some (.ref 55), some (.int 0), none, none]) (st1 := []) rfl ?_
  exact h

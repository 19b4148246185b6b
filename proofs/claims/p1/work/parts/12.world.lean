/-! part 3: the abstract world: a list of cells, the k-th at the address sz + k; the reference 0 is the law's script, at b -/
abbrev gk_AC : Type := (Nat × List Value) ⊕ ((Nat × List Int32) ⊕ List Int64)
abbrev gk_Wd : Type := List gk_AC
def gk_ty (t : Nat) : FieldType := match t with
  | 0 => .int
  | 1 => .char
  | 2 => .boolean
  | _ => .long
def gk_ad (b sz : Nat) : Nat → Nat
  | 0 => b
  | k + 1 => sz + k
def gk_e (ad : Nat → Nat) (cA : Nat → ClassId) (c : gk_AC) : va_E := match c with
  | .inl o => .inr (o.1, o.2.map (gk_v ad))
  | .inr (.inl a) => .inl (cA a.1, a.2.length, .inl (fun j => a.2.getD j 0))
  | .inr (.inr a) => .inl (cA 3, a.length, .inr (.inl (fun j => a.getD j 0)))
def gk_w (b sz : Nat) (cA : Nat → ClassId) (w : gk_Wd) : va_W := w.mapIdx fun k c => (sz + k, gk_e (gk_ad b sz) cA c)
theorem gk_w_get (b sz : Nat) (cA : Nat → ClassId) (w : gk_Wd) (k : Nat) : (gk_w b sz cA w)[k]? = (w[k]?).map fun c => (sz + k, gk_e (gk_ad b sz) cA c) := by
  simp [gk_w]
theorem gk_w_at {b sz : Nat} {cA : Nat → ClassId} {w : gk_Wd} {k : Nat} {c : gk_AC} (h : w[k]? = some c) : (gk_w b sz cA w)[k]? = some (sz + k, gk_e (gk_ad b sz) cA c) := by
  rw [gk_w_get, h]; rfl
theorem gk_w_set (b sz : Nat) (cA : Nat → ClassId) (w : gk_Wd) (k : Nat) (c : gk_AC) : (gk_w b sz cA w).set k (sz + k, gk_e (gk_ad b sz) cA c) = gk_w b sz cA (w.set k c) := by
  apply List.ext_getElem?
  intro j
  rw [gk_w_get, List.getElem?_set, List.getElem?_set, gk_w_get]
  have hl : (gk_w b sz cA w).length = w.length := by simp [gk_w]
  rw [hl]
  by_cases h : k = j
  · subst h
    by_cases h2 : k < w.length
    · simp [h2]
    · simp [h2]
  · simp [h]
theorem gk_w_push (b sz : Nat) (cA : Nat → ClassId) (w : gk_Wd) (c : gk_AC) : gk_w b sz cA w ++ [(sz + w.length, gk_e (gk_ad b sz) cA c)] = gk_w b sz cA (w ++ [c]) := by
  simp [gk_w, List.mapIdx_append]
theorem gk_w_D (b sz : Nat) (cA : Nat → ClassId) (w : gk_Wd) : va_D (fun q => sz ≤ q) (gk_w b sz cA w) := by
  refine ⟨fun i j x y hi hj he => ?_, fun k q hk => ?_⟩
  · rw [gk_w_get] at hi hj
    cases h1 : w[i]? with
    | none => rw [h1] at hi; cases hi
    | some c1 =>
      cases h2 : w[j]? with
      | none => rw [h2] at hj; cases hj
      | some c2 =>
        rw [h1] at hi; rw [h2] at hj
        cases hi; cases hj
        dsimp only at he
        omega
  · rw [gk_w_get] at hk
    cases h1 : w[k]? with
    | none => rw [h1] at hk; cases hk
    | some c1 =>
      rw [h1] at hk
      cases hk
      show sz ≤ sz + k
      omega
def gk_tys (cA : Nat → ClassId) : List (ClassId × FieldType) := [(cA 0, .int), (cA 1, .char), (cA 2, .boolean), (cA 3, .long)]
/-- what holds of the heap H and of what was written, at a point of a method that began at s -/
def gk_I (D : va_G) (cl : List vw_C) (cA : Nat → ClassId) (b sz : Nat) (s : State) (w : gk_Wd) (H : Heap) (locs : List Loc) (cells : Nat) : Prop :=
  va_P D cl (gk_w b sz cA w) H ∧ va_S (fun q => sz ≤ q) s.heap H locs ∧ H.size = sz + w.length ∧ s.heap.size + cells = sz + w.length ∧ sz ≤ s.heap.size
/-- what holds of the tables at s -/
def gk_K (D : va_G) (cl : List vw_C) (cA : Nat → ClassId) (LW : List Cond) (s : State) : Prop :=
  va_K D cl (gk_tys cA) s ∧ ∀ w ∈ LW, ∀ a : Array Value, w.before a s = true
/-- the table of classes: its words, its field types, its names -/
def gk_Cl (cl : List vw_C) (LW : List Cond) (fty : Nat → Nat → FieldType) : Prop := ∀ (ci : Nat) (C : String) (T : u_T) (N : Nat), cl[ci]? = some (C, T, N) →
  (∀ w ∈ u_ws C T N, w ∈ LW) ∧ (∀ k, k < N → parseFieldDescriptor (T k).2.2.1 = some (fty ci k)) ∧ ∀ x, x < N → ∀ y, y < N → x ≠ y → (T x).2.1 ≠ (T y).2.1
section GK3
variable {p : Program} {l : Launch} {e : Env} {R : Room} {s : State} {m : MethodId} {args : Array Value} {below : List Frame} {meth : Method} {c : Code} {H : Heap} {locs : List Loc} {cells slots : Nat} {Q : State → Prop}
variable {cc : ByteArray} {pc : Nat} {ls : Array Slot} {rest : List Value} {D : va_G} {cl : List vw_C} {cA : Nat → ClassId} {b sz : Nat} {w : gk_Wd} {LW : List Cond} {fty : Nat → Nat → FieldType} {own : String}
/-- the heap's size is known from both sides -/
theorem gk_exact {n : Nat} {g : JFrame} (hge : n ≤ H.size) (hle : s.heap.size + cells ≤ n) (k : H.size = n → W p l e R s m args below meth c H locs cells slots Q g) : W p l e R s m args below meth c H locs cells slots Q g := by
  intro T hT X
  refine k ?_ T hT X
  have := X.heapSize
  rw [hT] at this
  omega
theorem gk_getf (hx : p.tables.exec = Jvm.exec) (hb : c.code = cc) (hK : gk_K D cl cA LW s) (hC : gk_Cl cl LW fty) (hown : s.vm.findClass own = some m.cls) (hI : gk_I D cl cA b sz s w H locs cells) {a ci k idx : Nat} {fs : List Value} {C : String} {T : u_T} {N : Nat} {v : Value}
    (ha : w[a]? = some (.inl (ci, fs))) (hc : cl[ci]? = some (C, T, N)) (hk : k < N) (hlink : Cond.fieldLink own idx (T k).1 (T k).2.1 (T k).2.2.1 ∈ LW ∨ ∃ host, Cond.fieldLinkNest own idx (T k).1 (T k).2.1 (T k).2.2.1 host ∈ LW) (hv : fs[k]? = some v) (hd : decode cc pc = .ok (.getfield idx, 3))
    (kk : W p l e R s m args below meth c H locs cells slots Q (F0 m (pc + 3) ls (gk_v (gk_ad b sz) v :: rest))) : W p l e R s m args below meth c H locs cells slots Q (F0 m pc ls (.ref (sz + a) :: rest)) := by
  have hv' : (fs.map (gk_v (gk_ad b sz)))[k]? = some (gk_v (gk_ad b sz) v) := by rw [List.getElem?_map, hv]; rfl
  rcases hlink with h | ⟨host, h⟩
  · exact va_get (Ts := LW) hx hb (fun w hw => hK.2 w hw args) (hC ci C T N hc).1 hown hK.1 hI.1 a (gk_w_at ha) hc k hk (hK.2 _ h args) (fun _ z => z) hv' hd kk
  · exact va_getN (Ts := LW) hx hb (fun w hw => hK.2 w hw args) (hC ci C T N hc).1 hown hK.1 hI.1 a (gk_w_at ha) hc k hk (hK.2 _ h args) (fun _ z => z) hv' hd kk
theorem gk_I_after {H1 : Heap} {locs1 : List Loc} {a : Nat} {c1 : gk_AC} (hI : gk_I D cl cA b sz s w H locs cells) (hP : va_P D cl ((gk_w b sz cA w).set a (sz + a, gk_e (gk_ad b sz) cA c1)) H1) (hS : va_S (fun q => sz ≤ q) s.heap H1 locs1) (hz : H1.size = sz + w.length) : gk_I D cl cA b sz s (w.set a c1) H1 locs1 cells := by
  rw [gk_w_set] at hP
  exact ⟨hP, hS, by rw [List.length_set]; exact hz, by rw [List.length_set]; exact hI.2.2.2.1, hI.2.2.2.2⟩
/-- a cell of the world stands within the heap -/
theorem gk_P_lt {w2 : gk_Wd} {H1 : Heap} (hP : va_P D cl (gk_w b sz cA w2) H1) (hn : 0 < w2.length) : sz + w2.length ≤ H1.size := by
  have h1 : w2[w2.length - 1]? = some (w2[w2.length - 1]'(by omega)) := List.getElem?_eq_getElem (by omega)
  have h2 := (hP (w2.length - 1) _ (gk_w_at h1)).lt
  dsimp only at h2
  omega
theorem gk_putf (hx : p.tables.exec = Jvm.exec) (hb : c.code = cc) (hK : gk_K D cl cA LW s) (hC : gk_Cl cl LW fty) (hown : s.vm.findClass own = some m.cls) (hI : gk_I D cl cA b sz s w H locs cells) {a ci k idx : Nat} {fs : List Value} {C : String} {T : u_T} {N : Nat} {v : Value}
    (ha : w[a]? = some (.inl (ci, fs))) (hc : cl[ci]? = some (C, T, N)) (hk : k < N) (hlink : ((T k).2.2.2 = false ∧ (Cond.fieldLink own idx (T k).1 (T k).2.1 (T k).2.2.1 ∈ LW ∨ ∃ host, Cond.fieldLinkNest own idx (T k).1 (T k).2.1 (T k).2.2.1 host ∈ LW)) ∨ ((T k).2.2.2 = true ∧ meth.name = "<init>" ∧ (T k).1 = own ∧ Cond.fieldLink own idx (T k).1 (T k).2.1 (T k).2.2.1 ∈ LW))
    (hl : k < fs.length) (hfit : fits (fty ci k) (gk_v (gk_ad b sz) v) = true) (hd : decode cc pc = .ok (.putfield idx, 3))
    (kk : ∀ (H1 : Heap) (locs1 : List Loc), gk_I D cl cA b sz s (w.set a (.inl (ci, fs.set k v))) H1 locs1 cells → W p l e R s m args below meth c H1 locs1 cells slots Q (F0 m (pc + 3) ls rest)) : W p l e R s m args below meth c H locs cells slots Q (F0 m pc ls (gk_v (gk_ad b sz) v :: .ref (sz + a) :: rest)) := by
  obtain ⟨hC1, hC2, hC3⟩ := hC ci C T N hc
  have hl' : k < (fs.map (gk_v (gk_ad b sz))).length := by rw [List.length_map]; exact hl
  have hn := narrow_of_fits hfit
  have fin : ∀ (H1 : Heap) (locs1 : List Loc), va_P D cl ((gk_w b sz cA w).set a (sz + a, .inr (ci, (fs.map (gk_v (gk_ad b sz))).set k (gk_v (gk_ad b sz) v)))) H1 → va_D (fun q => sz ≤ q) ((gk_w b sz cA w).set a (sz + a, .inr (ci, (fs.map (gk_v (gk_ad b sz))).set k (gk_v (gk_ad b sz) v)))) → va_S (fun q => sz ≤ q) s.heap H1 locs1 → W p l e R s m args below meth c H1 locs1 cells slots Q (F0 m (pc + 3) ls rest) := by
    intro H1 locs1 hP1 _ hS1
    have hP2 : va_P D cl ((gk_w b sz cA w).set a (sz + a, gk_e (gk_ad b sz) cA (.inl (ci, fs.set k v)))) H1 := by
      have e1 : gk_e (gk_ad b sz) cA (.inl (ci, fs.set k v)) = .inr (ci, (fs.map (gk_v (gk_ad b sz))).set k (gk_v (gk_ad b sz) v)) := by
        show Sum.inr (ci, (fs.set k v).map (gk_v (gk_ad b sz))) = _
        rw [List.map_set]
      rw [e1]; exact hP1
    have hge : sz + w.length ≤ H1.size := by
      have h0 := hP2
      rw [gk_w_set] at h0
      have hlen : 0 < (w.set a (.inl (ci, fs.set k v)) : gk_Wd).length := by
        rw [List.length_set]
        exact Nat.lt_of_le_of_lt (Nat.zero_le _) (List.getElem?_eq_some_iff.mp ha).1
      have h1 := gk_P_lt h0 hlen
      rw [List.length_set] at h1
      exact h1
    exact gk_exact hge (Nat.le_of_eq hI.2.2.2.1) (fun hz => kk H1 locs1 (gk_I_after hI hP2 hS1 hz))
  rcases hlink with ⟨hf, h | ⟨host, h⟩⟩ | ⟨hf, hini, hdecl, h⟩
  · exact va_put (Ts := LW) hx hb (fun w hw => hK.2 w hw args) hC1 (fty ci) hC2 hC3 hown hK.1 hI.1 (gk_w_D b sz cA w) hI.2.1 a (gk_w_at ha) hc k hk (hK.2 _ h args) (fun _ z => z) hf (hC2 k hk) hn hfit hl' hd fin
  · exact va_putN (Ts := LW) hx hb (fun w hw => hK.2 w hw args) hC1 (fty ci) hC2 hC3 hown hK.1 hI.1 (gk_w_D b sz cA w) hI.2.1 a (gk_w_at ha) hc k hk (hK.2 _ h args) (fun _ z => z) hf (hC2 k hk) hn hfit hl' hd fin
  · exact va_putF (Ts := LW) hx hb (fun w hw => hK.2 w hw args) hC1 (fty ci) hC2 hC3 hown hK.1 hI.1 (gk_w_D b sz cA w) hI.2.1 a (gk_w_at ha) hc k hk (hK.2 _ h args) (fun _ z => z) hf hini hdecl (hC2 k hk) hn hfit hl' hd fin
end GK3

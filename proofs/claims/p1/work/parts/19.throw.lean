/-! part 10: throws. A walk may be begun again in its middle: then nothing has been written yet -/
def gk_mid (s : State) (H : Heap) (u : Nat) : State := { s with heap := H, slotsUsed := u }
section GK12
variable {p : Program} {l : Launch} {e : Env} {R : Room} {s : State} {m : MethodId} {args : Array Value} {below : List Frame} {meth : Method} {c : Code} {T : State} {locs : List Loc} {cells slots : Nat}
theorem gk_restart (X : Stand p l e R s m args below meth c T locs cells slots) (hc : cells ≤ R.cells) (hs : slots ≤ R.slots) : Stand p l e { R with cells := R.cells - cells, slots := R.slots - slots } (gk_mid s T.heap T.slotsUsed) m args below meth c T [] 0 0 := by
  have hroom := X.room
  have hsz := X.heapSize
  have hus := X.used
  have hbk := X.book
  refine ⟨X.admits, X.cas, X.clock, X.frames, ?_, X.hears, X.method, X.code, X.here, X.tail, X.warmed, X.limits, X.bytes, ?_⟩
  · simp only [State.hasRoom, Bool.and_eq_true, decide_eq_true_eq] at hroom ⊢
    obtain ⟨⟨⟨⟨h1, h2⟩, h3⟩, h4⟩, h5⟩ := hroom
    refine ⟨⟨⟨⟨h1, h2⟩, ?_⟩, ?_⟩, hbk⟩
    · show T.heap.size + (R.cells - cells) ≤ _
      omega
    · show T.slotsUsed + (R.slots - slots) ≤ _
      omega
  · obtain ⟨e1, -⟩ := X.same
    refine ⟨?_, Nat.le_refl _, Nat.le_refl _, ?_, ?_, fun a c h => ⟨c, h, rfl, rfl, fun _ _ => rfl⟩⟩
    · exact e1
    · show T.slotsUsed = T.slotsUsed + ((T.heap.toList.drop T.heap.size).map (·.slots.size)).sum
      rw [List.drop_eq_nil_of_le (by simp)]; rfl
    · show ((T.heap.toList.drop T.heap.size).map (·.slots.size)).sum ≤ 0
      rw [List.drop_eq_nil_of_le (by simp)]; exact Nat.le_refl _
end GK12
section GK13
variable {p : Program} {l : Launch} {e : Env} {R : Room} {s : State} {m : MethodId} {args : Array Value} {below : List Frame} {meth : Method} {c : Code} {H : Heap} {locs : List Loc} {cells slots : Nat} {Q : State → Prop} {g : JFrame}
theorem gk_W_mid (hc : cells ≤ R.cells) (hs : slots ≤ R.slots) (k : ∀ T : State, T.heap = H → Stand p l e R s m args below meth c T locs cells slots → W p l e { R with cells := R.cells - cells, slots := R.slots - slots } (gk_mid s H T.slotsUsed) m args below meth c H [] 0 0 Q g) : W p l e R s m args below meth c H locs cells slots Q g := by
  intro T hT X
  have X' := gk_restart X hc hs
  rw [hT] at X'
  exact k T hT X T hT X'
end GK13
/-- what was there stays there, where nothing is named as written -/
theorem gk_same_nil {s t : State} {k n : Nat} (h : s.sameButNew t [] k n) : ∀ q, q < s.heap.size → t.heap[q]? = s.heap[q]? := by
  intro q hq
  obtain ⟨-, -, -, -, -, h6⟩ := h
  obtain ⟨c', h1, h2, h3, h4⟩ := h6 q s.heap[q] (Array.getElem?_eq_getElem hq)
  rw [h1, Array.getElem?_eq_getElem hq, h2]
  have : c'.slots = s.heap[q].slots := by
    apply Array.ext_getElem?
    intro i
    exact h4 i (by simp)
  rw [this]
theorem gk_same_mid {s T t : State} {locs : List Loc} {cells slots k n : Nat} (h1 : s.sameButNew (T.setVm s.vm) locs cells slots) (h2 : (gk_mid s T.heap T.slotsUsed).sameButNew ({ t with vm := s.vm } : State) [] k n) : s.sameButNew ({ t with vm := s.vm } : State) (locs ++ []) (cells + k) (slots + n) := by
  refine State.sameButNew.trans h1 ?_
  obtain ⟨a1, a2, a3, a4, a5, a6⟩ := h2
  refine ⟨?_, a2, a3, a4, a5, a6⟩
  refine a1.trans ?_
  have e1 := h1.1
  have e2 : ∀ F : List Frame, (T.setVm s.vm).setFrames F = { s.setFrames F with heap := T.heap, slotsUsed := T.slotsUsed } := by
    intro F
    rw [e1]
    show ({ (s.setFrames (T.setVm s.vm).frames).setFrames F with heap := T.heap, slotsUsed := T.slotsUsed } : State) = _
    rw [State.setFrames_setFrames]
  rw [e2]
  rfl

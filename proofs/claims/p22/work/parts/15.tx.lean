/-! A text that was there. -/
def zqS (base : Nat) (U : State) : Prop := va_Zq "jdk/internal/util/Preconditions" "SIOOBE_FORMATTER" "Ljava/util/function/BiFunction;" (fun q => base ≤ q) U U.heap
def txF (base q n : Nat) (f : Nat → Int32) (U : State) : Prop := ∃ qv : Nat, va_O "java/lang/String" q (fun a => base ≤ a) U U.heap ∧ va_OF "java/lang/String" "coder" "B" (.int 0) q (fun a => base ≤ a) U U.heap ∧ va_OF "java/lang/String" "value" "[B" (.ref qv) q (fun a => base ≤ a) U U.heap ∧ va_T .byte qv n (fun j => .int (f j)) (fun a => base ≤ a) U U.heap
def csF (base : Nat) (U : State) : Prop := va_Z "java/lang/String" "COMPACT_STRINGS" "Z" (.int 1) (fun a => base ≤ a) U U.heap
theorem txF_on {base q n : Nat} {f : Nat → Int32} {s U : State} (h : txF base q n f s) (hvm : s.vm.Alike U.vm) (hq : ∀ a : Nat, a < s.heap.size → ¬ base ≤ a → U.heap[a]? = s.heap[a]?) : txF base q n f U := by
  obtain ⟨qv, h1, h2, h3, h4⟩ := h
  exact ⟨qv, va_O.moved hvm (h1.kept hq), va_OF.moved hvm (h2.kept hq), va_OF.moved hvm (h3.kept hq), (h4.kept hq).moved hvm⟩
theorem zqS_on {base : Nat} {s U : State} (h : zqS base s) (hvm : s.vm.Alike U.vm) (hq : ∀ a : Nat, a < s.heap.size → ¬ base ≤ a → U.heap[a]? = s.heap[a]?) : zqS base U := va_Zq.moved hvm (h.kept hq)
theorem csF_on {base : Nat} {s U : State} (h : csF base s) (hvm : s.vm.Alike U.vm) (hq : ∀ a : Nat, a < s.heap.size → ¬ base ≤ a → U.heap[a]? = s.heap[a]?) : csF base U := (h.kept hq).moved hvm

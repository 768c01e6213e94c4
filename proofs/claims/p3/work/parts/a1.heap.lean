/-! The desk's cells: what changes and what stays; which cells are there from the first. -/
theorem fI_uI (c : SC) (a y : Nat) (z : Int) (b k : Nat) : fI (uI c a y z) b k = if k = y ∧ b = a then z else fI c b k := rfl
theorem fR_uI (c : SC) (a y : Nat) (z : Int) (b k : Nat) : fR (uI c a y z) b k = fR c b k := rfl
theorem aI_uI (c : SC) (a y : Nat) (z : Int) (b : Nat) : aI (uI c a y z) b = aI c b := rfl
theorem aR_uI (c : SC) (a y : Nat) (z : Int) (b : Nat) : aR (uI c a y z) b = aR c b := rfl
theorem kl_uI (c : SC) (a y : Nat) (z : Int) (b : Nat) : kl (uI c a y z) b = kl c b := rfl
theorem le_uI (c : SC) (a y : Nat) (z : Int) (b : Nat) : le (uI c a y z) b = le c b := rfl
theorem nx_uI (c : SC) (a y : Nat) (z : Int) : nxt (uI c a y z) = nxt c := rfl
theorem sl_uI (c : SC) (a y : Nat) (z : Int) : slo (uI c a y z) = slo c := rfl
theorem fI_uR (c : SC) (a y z : Nat) (b k : Nat) : fI (uR c a y z) b k = fI c b k := rfl
theorem fR_uR (c : SC) (a y z : Nat) (b k : Nat) : fR (uR c a y z) b k = if k = y ∧ b = a then z else fR c b k := rfl
theorem aI_uR (c : SC) (a y z : Nat) (b : Nat) : aI (uR c a y z) b = aI c b := rfl
theorem aR_uR (c : SC) (a y z : Nat) (b : Nat) : aR (uR c a y z) b = aR c b := rfl
theorem kl_uR (c : SC) (a y z : Nat) (b : Nat) : kl (uR c a y z) b = kl c b := rfl
theorem le_uR (c : SC) (a y z : Nat) (b : Nat) : le (uR c a y z) b = le c b := rfl
theorem nx_uR (c : SC) (a y z : Nat) : nxt (uR c a y z) = nxt c := rfl
theorem sl_uR (c : SC) (a y z : Nat) : slo (uR c a y z) = slo c := rfl
theorem fI_uA (c : SC) (a : Nat) (i z : Int) (b k : Nat) : fI (uA c a i z) b k = fI c b k := rfl
theorem fR_uA (c : SC) (a : Nat) (i z : Int) (b k : Nat) : fR (uA c a i z) b k = fR c b k := rfl
theorem aI_uA (c : SC) (a : Nat) (i z : Int) (b : Nat) (k : Int) : aI (uA c a i z) b k = if b = a ∧ k = i then z else aI c b k := rfl
theorem aR_uA (c : SC) (a : Nat) (i z : Int) (b : Nat) : aR (uA c a i z) b = aR c b := rfl
theorem kl_uA (c : SC) (a : Nat) (i z : Int) (b : Nat) : kl (uA c a i z) b = kl c b := rfl
theorem le_uA (c : SC) (a : Nat) (i z : Int) (b : Nat) : le (uA c a i z) b = le c b := rfl
theorem nx_uA (c : SC) (a : Nat) (i z : Int) : nxt (uA c a i z) = nxt c := rfl
theorem sl_uA (c : SC) (a : Nat) (i z : Int) : slo (uA c a i z) = slo c := rfl
theorem fI_uB (c : SC) (a : Nat) (i : Int) (z : Nat) (b k : Nat) : fI (uB c a i z) b k = fI c b k := rfl
theorem fR_uB (c : SC) (a : Nat) (i : Int) (z : Nat) (b k : Nat) : fR (uB c a i z) b k = fR c b k := rfl
theorem aI_uB (c : SC) (a : Nat) (i : Int) (z : Nat) (b : Nat) : aI (uB c a i z) b = aI c b := rfl
theorem aR_uB (c : SC) (a : Nat) (i : Int) (z : Nat) (b : Nat) (k : Int) : aR (uB c a i z) b k = if b = a ∧ k = i then z else aR c b k := rfl
theorem kl_uB (c : SC) (a : Nat) (i : Int) (z : Nat) (b : Nat) : kl (uB c a i z) b = kl c b := rfl
theorem le_uB (c : SC) (a : Nat) (i : Int) (z : Nat) (b : Nat) : le (uB c a i z) b = le c b := rfl
theorem nx_uB (c : SC) (a : Nat) (i : Int) (z : Nat) : nxt (uB c a i z) = nxt c := rfl
theorem sl_uB (c : SC) (a : Nat) (i : Int) (z : Nat) : slo (uB c a i z) = slo c := rfl
theorem fI_nO (c : SC) (ci b k : Nat) : fI (nO c ci) b k = if b = nxt c then 0 else fI c b k := rfl
theorem fR_nO (c : SC) (ci b k : Nat) : fR (nO c ci) b k = if b = nxt c then 2 else fR c b k := rfl
theorem aI_nO (c : SC) (ci b : Nat) : aI (nO c ci) b = aI c b := rfl
theorem aR_nO (c : SC) (ci b : Nat) : aR (nO c ci) b = aR c b := rfl
theorem kl_nO (c : SC) (ci b : Nat) : kl (nO c ci) b = if b = nxt c then ci + 1 else kl c b := rfl
theorem le_nO (c : SC) (ci b : Nat) : le (nO c ci) b = le c b := rfl
theorem nx_nO (c : SC) (ci : Nat) : nxt (nO c ci) = nxt c + 1 := rfl
theorem sl_nO (c : SC) (ci : Nat) : slo (nO c ci) = slo c + nfl ci := rfl
theorem fI_nA (c : SC) (t : Nat) (n : Int) (b k : Nat) : fI (nA c t n) b k = fI c b k := rfl
theorem fR_nA (c : SC) (t : Nat) (n : Int) (b k : Nat) : fR (nA c t n) b k = fR c b k := rfl
theorem aI_nA (c : SC) (t : Nat) (n : Int) (b : Nat) (k : Int) : aI (nA c t n) b k = if b = nxt c then 0 else aI c b k := rfl
theorem aR_nA (c : SC) (t : Nat) (n : Int) (b : Nat) (k : Int) : aR (nA c t n) b k = if b = nxt c then 2 else aR c b k := rfl
theorem kl_nA (c : SC) (t : Nat) (n : Int) (b : Nat) : kl (nA c t n) b = if b = nxt c then 100 + t else kl c b := rfl
theorem le_nA (c : SC) (t : Nat) (n : Int) (b : Nat) : le (nA c t n) b = if b = nxt c then n else le c b := rfl
theorem nx_nA (c : SC) (t : Nat) (n : Int) : nxt (nA c t n) = nxt c + 1 := rfl
theorem sl_nA (c : SC) (t : Nat) (n : Int) : slo (nA c t n) = slo c + n.toNat := rfl
/-- the key of a cell: its kind; trials by themselves -/
def ky (a k : Nat) : Nat := if 235 ≤ a ∧ a < 307 then 25 else k
/-- of a row: where it lies, if it is one of the first -/
def rk (a k : Nat) : Nat := if a < 353 then a else k + 1000
/-- the same, but for fields and rows with such keys, and new cells -/
def CX (ys : List (Nat × Nat)) (rs : List Nat) (c e : SC) : Prop := nxt c ≤ nxt e ∧ (∀ a, a < nxt c → kl e a = kl c a ∧ le e a = le c a) ∧ (∀ a y, a < nxt c → (ky a (kl c a), y) ∉ ys → fI e a y = fI c a y ∧ fR e a y = fR c a y) ∧ ∀ a, a < nxt c → rk a (kl c a) ∉ rs → aI e a = aI c a ∧ aR e a = aR c a
section
variable {ys : List (Nat × Nat)} {rs : List Nat} {c e f : SC}
theorem CX.rf : CX ys rs c c := ⟨Nat.le_refl _, fun _ _ => ⟨rfl, rfl⟩, fun _ _ _ _ => ⟨rfl, rfl⟩, fun _ _ _ => ⟨rfl, rfl⟩⟩
theorem CX.k (h : CX ys rs c e) {a : Nat} (ha : a < nxt c) : kl e a = kl c a := (h.2.1 a ha).1
theorem CX.l (h : CX ys rs c e) {a : Nat} (ha : a < nxt c) : le e a = le c a := (h.2.1 a ha).2
theorem CX.i (h : CX ys rs c e) {a y : Nat} (ha : a < nxt c) (hy : (ky a (kl c a), y) ∉ ys) : fI e a y = fI c a y := (h.2.2.1 a y ha hy).1
theorem CX.r (h : CX ys rs c e) {a y : Nat} (ha : a < nxt c) (hy : (ky a (kl c a), y) ∉ ys) : fR e a y = fR c a y := (h.2.2.1 a y ha hy).2
theorem CX.ai (h : CX ys rs c e) {a : Nat} (ha : a < nxt c) (hy : rk a (kl c a) ∉ rs) : aI e a = aI c a := (h.2.2.2 a ha hy).1
theorem CX.ar (h : CX ys rs c e) {a : Nat} (ha : a < nxt c) (hy : rk a (kl c a) ∉ rs) : aR e a = aR c a := (h.2.2.2 a ha hy).2
theorem CX.n (h : CX ys rs c e) : nxt c ≤ nxt e := h.1
theorem CX.tr (h1 : CX ys rs c e) (h2 : CX ys rs e f) : CX ys rs c f := ⟨Nat.le_trans h1.1 h2.1, fun a ha => by
  have hb := Nat.lt_of_lt_of_le ha h1.1
  exact ⟨(h2.k hb).trans (h1.k ha), (h2.l hb).trans (h1.l ha)⟩, fun a y ha hy => by
  have hb := Nat.lt_of_lt_of_le ha h1.1
  have hk : (ky a (kl e a), y) ∉ ys := by rw [h1.k ha]; exact hy
  exact ⟨(h2.i hb hk).trans (h1.i ha hy), (h2.r hb hk).trans (h1.r ha hy)⟩, fun a ha hy => by
  have hb := Nat.lt_of_lt_of_le ha h1.1
  have hk : rk a (kl e a) ∉ rs := by rw [h1.k ha]; exact hy
  exact ⟨(h2.ai hb hk).trans (h1.ai ha hy), (h2.ar hb hk).trans (h1.ar ha hy)⟩⟩
theorem CX.up {ys' : List (Nat × Nat)} {rs' : List Nat} (h : CX ys rs c e) (h1 : ∀ y, y ∈ ys → y ∈ ys') (h2 : ∀ y, y ∈ rs → y ∈ rs') : CX ys' rs' c e := ⟨h.1, h.2.1, fun a y ha hy => h.2.2.1 a y ha (fun q => hy (h1 _ q)), fun a ha hy => h.2.2.2 a ha (fun q => hy (h2 _ q))⟩
theorem CX.uI {a y : Nat} {z : Int} (h : CX ys rs c e) (hk : a < nxt c → (ky a (kl e a), y) ∈ ys) : CX ys rs c (uI e a y z) := ⟨h.1, h.2.1, fun b k hb hy => by
  rw [fI_uI, fR_uI, if_neg (fun q => by obtain ⟨rfl, rfl⟩ := q; exact hy (by have := hk hb; rw [h.k hb] at this; exact this))]
  exact h.2.2.1 b k hb hy, h.2.2.2⟩
theorem CX.uR {a y z : Nat} (h : CX ys rs c e) (hk : a < nxt c → (ky a (kl e a), y) ∈ ys) : CX ys rs c (uR e a y z) := ⟨h.1, h.2.1, fun b k hb hy => by
  rw [fI_uR, fR_uR, if_neg (fun q => by obtain ⟨rfl, rfl⟩ := q; exact hy (by have := hk hb; rw [h.k hb] at this; exact this))]
  exact h.2.2.1 b k hb hy, h.2.2.2⟩
theorem CX.uA {a : Nat} {i z : Int} (h : CX ys rs c e) (hk : a < nxt c → rk a (kl e a) ∈ rs) : CX ys rs c (uA e a i z) := ⟨h.1, h.2.1, h.2.2.1, fun b hb hy => by
  refine ⟨?_, (h.2.2.2 b hb hy).2⟩
  funext k
  rw [aI_uA, if_neg (fun q => by obtain ⟨rfl, rfl⟩ := q; exact hy (by have := hk hb; rw [h.k hb] at this; exact this)), (h.2.2.2 b hb hy).1]⟩
theorem CX.uB {a z : Nat} {i : Int} (h : CX ys rs c e) (hk : a < nxt c → rk a (kl e a) ∈ rs) : CX ys rs c (uB e a i z) := ⟨h.1, h.2.1, h.2.2.1, fun b hb hy => by
  refine ⟨(h.2.2.2 b hb hy).1, ?_⟩
  funext k
  rw [aR_uB, if_neg (fun q => by obtain ⟨rfl, rfl⟩ := q; exact hy (by have := hk hb; rw [h.k hb] at this; exact this)), (h.2.2.2 b hb hy).2]⟩
theorem CX.nO {ci : Nat} (h : CX ys rs c e) : CX ys rs c (nO e ci) := ⟨by rw [nx_nO]; exact Nat.le_succ_of_le h.1, fun a ha => by
  have : a ≠ nxt e := by have := h.1; omega
  rw [kl_nO, le_nO, if_neg this]
  exact h.2.1 a ha, fun a y ha hy => by
  have : a ≠ nxt e := by have := h.1; omega
  rw [fI_nO, fR_nO, if_neg this, if_neg this]
  exact h.2.2.1 a y ha hy, h.2.2.2⟩
theorem CX.nA {t : Nat} {n : Int} (h : CX ys rs c e) : CX ys rs c (nA e t n) := ⟨by rw [nx_nA]; exact Nat.le_succ_of_le h.1, fun a ha => by
  have : a ≠ nxt e := by have := h.1; omega
  rw [kl_nA, le_nA, if_neg this, if_neg this]
  exact h.2.1 a ha, h.2.2.1, fun a ha hy => by
  have : a ≠ nxt e := by have := h.1; omega
  obtain ⟨q1, q2⟩ := h.2.2.2 a ha hy
  refine ⟨?_, ?_⟩
  · funext k
    rw [aI_nA, if_neg this, q1]
  · funext k
    rw [aR_nA, if_neg this, q2]⟩
end
/-- how much room was taken -/
def RMk (k n : Nat) (c e : SC) : Prop := nxt e ≤ nxt c + k ∧ slo e ≤ slo c + n
theorem RMk.rf {k n : Nat} {c : SC} : RMk k n c c := ⟨Nat.le_add_right _ _, Nat.le_add_right _ _⟩
theorem RMk.tr {k n k' n' : Nat} {c e f : SC} (h1 : RMk k n c e) (h2 : RMk k' n' e f) : RMk (k + k') (n + n') c f := ⟨by have := h1.1; have := h2.1; omega, by have := h1.2; have := h2.2; omega⟩
theorem RMk.up {k n k' n' : Nat} {c e : SC} (h1 : RMk k n c e) (hk : k ≤ k') (hn : n ≤ n') : RMk k' n' c e := ⟨by have := h1.1; omega, by have := h1.2; omega⟩

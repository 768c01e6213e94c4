section
/-! The desk's cells: what changes and what stays; which cells are there from the first. -/
theorem fI_uI (c : SC) (a y : Nat) (z : Int) (b k : Nat) : fI (uI c a y z) b k = if k = y ∧ b = a then z else fI c b k := rfl
theorem fR_uI (c : SC) (a y : Nat) (z : Int) (b k : Nat) : fR (uI c a y z) b k = fR c b k := rfl
theorem aI_uI (c : SC) (a y : Nat) (z : Int) (b : Nat) : aI (uI c a y z) b = aI c b := rfl
theorem aR_uI (c : SC) (a y : Nat) (z : Int) (b : Nat) : aR (uI c a y z) b = aR c b := rfl
theorem kl_uI (c : SC) (a y : Nat) (z : Int) (b : Nat) : kl (uI c a y z) b = kl c b := rfl
theorem le_uI (c : SC) (a y : Nat) (z : Int) (b : Nat) : le (uI c a y z) b = le c b := rfl
theorem nx_uI (c : SC) (a y : Nat) (z : Int) : nxt (uI c a y z) = nxt c := rfl
theorem sl_uI (c : SC) (a y : Nat) (z : Int) : slo (uI c a y z) = slo c := rfl
theorem fI_uR (c : SC) (a y z : Nat) (b k : Nat) : fI (uR c a y z) b k = fI c b k := rfl
theorem fR_uR (c : SC) (a y z : Nat) (b k : Nat) : fR (uR c a y z) b k = if k = y ∧ b = a then z else fR c b k := rfl
theorem aI_uR (c : SC) (a y z : Nat) (b : Nat) : aI (uR c a y z) b = aI c b := rfl
theorem aR_uR (c : SC) (a y z : Nat) (b : Nat) : aR (uR c a y z) b = aR c b := rfl
theorem kl_uR (c : SC) (a y z : Nat) (b : Nat) : kl (uR c a y z) b = kl c b := rfl
theorem le_uR (c : SC) (a y z : Nat) (b : Nat) : le (uR c a y z) b = le c b := rfl
theorem nx_uR (c : SC) (a y z : Nat) : nxt (uR c a y z) = nxt c := rfl
theorem sl_uR (c : SC) (a y z : Nat) : slo (uR c a y z) = slo c := rfl
theorem fI_uA (c : SC) (a : Nat) (i z : Int) (b k : Nat) : fI (uA c a i z) b k = fI c b k := rfl
theorem fR_uA (c : SC) (a : Nat) (i z : Int) (b k : Nat) : fR (uA c a i z) b k = fR c b k := rfl
theorem aI_uA (c : SC) (a : Nat) (i z : Int) (b : Nat) (k : Int) : aI (uA c a i z) b k = if b = a ∧ k = i then z else aI c b k := rfl
theorem aR_uA (c : SC) (a : Nat) (i z : Int) (b : Nat) : aR (uA c a i z) b = aR c b := rfl
theorem kl_uA (c : SC) (a : Nat) (i z : Int) (b : Nat) : kl (uA c a i z) b = kl c b := rfl
theorem le_uA (c : SC) (a : Nat) (i z : Int) (b : Nat) : le (uA c a i z) b = le c b := rfl
theorem nx_uA (c : SC) (a : Nat) (i z : Int) : nxt (uA c a i z) = nxt c := rfl
theorem sl_uA (c : SC) (a : Nat) (i z : Int) : slo (uA c a i z) = slo c := rfl
theorem fI_uB (c : SC) (a : Nat) (i : Int) (z : Nat) (b k : Nat) : fI (uB c a i z) b k = fI c b k := rfl
theorem fR_uB (c : SC) (a : Nat) (i : Int) (z : Nat) (b k : Nat) : fR (uB c a i z) b k = fR c b k := rfl
theorem aI_uB (c : SC) (a : Nat) (i : Int) (z : Nat) (b : Nat) : aI (uB c a i z) b = aI c b := rfl
theorem aR_uB (c : SC) (a : Nat) (i : Int) (z : Nat) (b : Nat) (k : Int) : aR (uB c a i z) b k = if b = a ∧ k = i then z else aR c b k := rfl
theorem kl_uB (c : SC) (a : Nat) (i : Int) (z : Nat) (b : Nat) : kl (uB c a i z) b = kl c b := rfl
theorem le_uB (c : SC) (a : Nat) (i : Int) (z : Nat) (b : Nat) : le (uB c a i z) b = le c b := rfl
theorem nx_uB (c : SC) (a : Nat) (i : Int) (z : Nat) : nxt (uB c a i z) = nxt c := rfl
theorem sl_uB (c : SC) (a : Nat) (i : Int) (z : Nat) : slo (uB c a i z) = slo c := rfl
theorem fI_nO (c : SC) (ci b k : Nat) : fI (nO c ci) b k = if b = nxt c then 0 else fI c b k := rfl
theorem fR_nO (c : SC) (ci b k : Nat) : fR (nO c ci) b k = if b = nxt c then 2 else fR c b k := rfl
theorem aI_nO (c : SC) (ci b : Nat) : aI (nO c ci) b = aI c b := rfl
theorem aR_nO (c : SC) (ci b : Nat) : aR (nO c ci) b = aR c b := rfl
theorem kl_nO (c : SC) (ci b : Nat) : kl (nO c ci) b = if b = nxt c then ci + 1 else kl c b := rfl
theorem le_nO (c : SC) (ci b : Nat) : le (nO c ci) b = le c b := rfl
theorem nx_nO (c : SC) (ci : Nat) : nxt (nO c ci) = nxt c + 1 := rfl
theorem sl_nO (c : SC) (ci : Nat) : slo (nO c ci) = slo c + nfl ci := rfl
theorem fI_nA (c : SC) (t : Nat) (n : Int) (b k : Nat) : fI (nA c t n) b k = fI c b k := rfl
theorem fR_nA (c : SC) (t : Nat) (n : Int) (b k : Nat) : fR (nA c t n) b k = fR c b k := rfl
theorem aI_nA (c : SC) (t : Nat) (n : Int) (b : Nat) (k : Int) : aI (nA c t n) b k = if b = nxt c then 0 else aI c b k := rfl
theorem aR_nA (c : SC) (t : Nat) (n : Int) (b : Nat) (k : Int) : aR (nA c t n) b k = if b = nxt c then 2 else aR c b k := rfl
theorem kl_nA (c : SC) (t : Nat) (n : Int) (b : Nat) : kl (nA c t n) b = if b = nxt c then 100 + t else kl c b := rfl
theorem le_nA (c : SC) (t : Nat) (n : Int) (b : Nat) : le (nA c t n) b = if b = nxt c then n else le c b := rfl
theorem nx_nA (c : SC) (t : Nat) (n : Int) : nxt (nA c t n) = nxt c + 1 := rfl
theorem sl_nA (c : SC) (t : Nat) (n : Int) : slo (nA c t n) = slo c + n.toNat := rfl
/-- the key of a cell: its kind; trials by themselves -/
def ky (a k : Nat) : Nat := if 235 ≤ a ∧ a < 307 then 25 else k
/-- of a row: where it lies, if it is one of the first -/
def rk (a k : Nat) : Nat := if a < 353 then a else k + 1000
/-- the same, but for fields and rows with such keys, and new cells -/
def CX (ys : List (Nat × Nat)) (rs : List Nat) (c e : SC) : Prop := nxt c ≤ nxt e ∧ (∀ a, a < nxt c → kl e a = kl c a ∧ le e a = le c a) ∧ (∀ a y, a < nxt c → (ky a (kl c a), y) ∉ ys → fI e a y = fI c a y ∧ fR e a y = fR c a y) ∧ ∀ a, a < nxt c → rk a (kl c a) ∉ rs → aI e a = aI c a ∧ aR e a = aR c a
section
variable {ys : List (Nat × Nat)} {rs : List Nat} {c e f : SC}
theorem CX.rf : CX ys rs c c := ⟨Nat.le_refl _, fun _ _ => ⟨rfl, rfl⟩, fun _ _ _ _ => ⟨rfl, rfl⟩, fun _ _ _ => ⟨rfl, rfl⟩⟩
theorem CX.k (h : CX ys rs c e) {a : Nat} (ha : a < nxt c) : kl e a = kl c a := (h.2.1 a ha).1
theorem CX.l (h : CX ys rs c e) {a : Nat} (ha : a < nxt c) : le e a = le c a := (h.2.1 a ha).2
theorem CX.i (h : CX ys rs c e) {a y : Nat} (ha : a < nxt c) (hy : (ky a (kl c a), y) ∉ ys) : fI e a y = fI c a y := (h.2.2.1 a y ha hy).1
theorem CX.r (h : CX ys rs c e) {a y : Nat} (ha : a < nxt c) (hy : (ky a (kl c a), y) ∉ ys) : fR e a y = fR c a y := (h.2.2.1 a y ha hy).2
theorem CX.ai (h : CX ys rs c e) {a : Nat} (ha : a < nxt c) (hy : rk a (kl c a) ∉ rs) : aI e a = aI c a := (h.2.2.2 a ha hy).1
theorem CX.ar (h : CX ys rs c e) {a : Nat} (ha : a < nxt c) (hy : rk a (kl c a) ∉ rs) : aR e a = aR c a := (h.2.2.2 a ha hy).2
theorem CX.n (h : CX ys rs c e) : nxt c ≤ nxt e := h.1
theorem CX.tr (h1 : CX ys rs c e) (h2 : CX ys rs e f) : CX ys rs c f := ⟨Nat.le_trans h1.1 h2.1, fun a ha => by
  have hb := Nat.lt_of_lt_of_le ha h1.1
  exact ⟨(h2.k hb).trans (h1.k ha), (h2.l hb).trans (h1.l ha)⟩, fun a y ha hy => by
  have hb := Nat.lt_of_lt_of_le ha h1.1
  have hk : (ky a (kl e a), y) ∉ ys := by rw [h1.k ha]; exact hy
  exact ⟨(h2.i hb hk).trans (h1.i ha hy), (h2.r hb hk).trans (h1.r ha hy)⟩, fun a ha hy => by
  have hb := Nat.lt_of_lt_of_le ha h1.1
  have hk : rk a (kl e a) ∉ rs := by rw [h1.k ha]; exact hy
  exact ⟨(h2.ai hb hk).trans (h1.ai ha hy), (h2.ar hb hk).trans (h1.ar ha hy)⟩⟩
theorem CX.up {ys' : List (Nat × Nat)} {rs' : List Nat} (h : CX ys rs c e) (h1 : ∀ y, y ∈ ys → y ∈ ys') (h2 : ∀ y, y ∈ rs → y ∈ rs') : CX ys' rs' c e := ⟨h.1, h.2.1, fun a y ha hy => h.2.2.1 a y ha (fun q => hy (h1 _ q)), fun a ha hy => h.2.2.2 a ha (fun q => hy (h2 _ q))⟩
theorem CX.uI {a y : Nat} {z : Int} (h : CX ys rs c e) (hk : a < nxt c → (ky a (kl e a), y) ∈ ys) : CX ys rs c (uI e a y z) := ⟨h.1, h.2.1, fun b k hb hy => by
  rw [fI_uI, fR_uI, if_neg (fun q => by obtain ⟨rfl, rfl⟩ := q; exact hy (by have := hk hb; rw [h.k hb] at this; exact this))]
  exact h.2.2.1 b k hb hy, h.2.2.2⟩
theorem CX.uR {a y z : Nat} (h : CX ys rs c e) (hk : a < nxt c → (ky a (kl e a), y) ∈ ys) : CX ys rs c (uR e a y z) := ⟨h.1, h.2.1, fun b k hb hy => by
  rw [fI_uR, fR_uR, if_neg (fun q => by obtain ⟨rfl, rfl⟩ := q; exact hy (by have := hk hb; rw [h.k hb] at this; exact this))]
  exact h.2.2.1 b k hb hy, h.2.2.2⟩
theorem CX.uA {a : Nat} {i z : Int} (h : CX ys rs c e) (hk : a < nxt c → rk a (kl e a) ∈ rs) : CX ys rs c (uA e a i z) := ⟨h.1, h.2.1, h.2.2.1, fun b hb hy => by
  refine ⟨?_, (h.2.2.2 b hb hy).2⟩
  funext k
  rw [aI_uA, if_neg (fun q => by obtain ⟨rfl, rfl⟩ := q; exact hy (by have := hk hb; rw [h.k hb] at this; exact this)), (h.2.2.2 b hb hy).1]⟩
theorem CX.uB {a z : Nat} {i : Int} (h : CX ys rs c e) (hk : a < nxt c → rk a (kl e a) ∈ rs) : CX ys rs c (uB e a i z) := ⟨h.1, h.2.1, h.2.2.1, fun b hb hy => by
  refine ⟨(h.2.2.2 b hb hy).1, ?_⟩
  funext k
  rw [aR_uB, if_neg (fun q => by obtain ⟨rfl, rfl⟩ := q; exact hy (by have := hk hb; rw [h.k hb] at this; exact this)), (h.2.2.2 b hb hy).2]⟩
theorem CX.nO {ci : Nat} (h : CX ys rs c e) : CX ys rs c (nO e ci) := ⟨by rw [nx_nO]; exact Nat.le_succ_of_le h.1, fun a ha => by
  have : a ≠ nxt e := by have := h.1; omega
  rw [kl_nO, le_nO, if_neg this]
  exact h.2.1 a ha, fun a y ha hy => by
  have : a ≠ nxt e := by have := h.1; omega
  rw [fI_nO, fR_nO, if_neg this, if_neg this]
  exact h.2.2.1 a y ha hy, h.2.2.2⟩
theorem CX.nA {t : Nat} {n : Int} (h : CX ys rs c e) : CX ys rs c (nA e t n) := ⟨by rw [nx_nA]; exact Nat.le_succ_of_le h.1, fun a ha => by
  have : a ≠ nxt e := by have := h.1; omega
  rw [kl_nA, le_nA, if_neg this, if_neg this]
  exact h.2.1 a ha, h.2.2.1, fun a ha hy => by
  have : a ≠ nxt e := by have := h.1; omega
  obtain ⟨q1, q2⟩ := h.2.2.2 a ha hy
  refine ⟨?_, ?_⟩
  · funext k
    rw [aI_nA, if_neg this, q1]
  · funext k
    rw [aR_nA, if_neg this, q2]⟩
end
/-- how much room was taken -/
def RMk (k n : Nat) (c e : SC) : Prop := nxt e ≤ nxt c + k ∧ slo e ≤ slo c + n
theorem RMk.rf {k n : Nat} {c : SC} : RMk k n c c := ⟨Nat.le_add_right _ _, Nat.le_add_right _ _⟩
theorem RMk.tr {k n k' n' : Nat} {c e f : SC} (h1 : RMk k n c e) (h2 : RMk k' n' e f) : RMk (k + k') (n + n') c f := ⟨by have := h1.1; have := h2.1; omega, by have := h1.2; have := h2.2; omega⟩
theorem RMk.up {k n k' n' : Nat} {c e : SC} (h1 : RMk k n c e) (hk : k ≤ k') (hn : n ≤ n') : RMk k' n' c e := ⟨by have := h1.1; omega, by have := h1.2; omega⟩
end
section
/-! Where the desk's own cells lie. Printed by wip/gen2/fixgen.py. -/
/-- what lies where it was made first -/
abbrev FIXa (c : SC) : Prop := kl c 64 = 1 ∧ kl c 65 = 4 ∧ kl c 66 = 100 ∧ kl c 67 = 100 ∧ kl c 68 = 100 ∧ kl c 69 = 100 ∧ kl c 70 = 8 ∧ kl c 71 = 103 ∧ kl c 72 = 104 ∧ kl c 74 = 103 ∧ kl c 175 = 3 ∧ kl c 176 = 11 ∧ kl c 177 = 6 ∧ kl c 178 = 106 ∧ kl c 179 = 107 ∧ kl c 180 = 6 ∧ kl c 181 = 106 ∧ kl c 182 = 107 ∧ kl c 183 = 12 ∧ kl c 184 = 106 ∧ kl c 185 = 100 ∧ kl c 186 = 106 ∧ kl c 187 = 100 ∧ kl c 188 = 12 ∧ kl c 189 = 106 ∧ kl c 190 = 100 ∧ kl c 191 = 106 ∧ kl c 192 = 100 ∧ kl c 193 = 105 ∧ kl c 194 = 103 ∧ kl c 195 = 100 ∧ kl c 196 = 100 ∧ kl c 197 = 103 ∧ kl c 198 = 100 ∧ le c 66 = 1440 ∧ le c 67 = 1440 ∧ le c 68 = 1440 ∧ le c 69 = 1440 ∧ le c 71 = 60 ∧ le c 72 = 20 ∧ le c 74 = 0 ∧ le c 178 = 620 ∧ le c 179 = 320 ∧ le c 181 = 620 ∧ le c 182 = 320 ∧ le c 184 = 400 ∧ le c 185 = 400 ∧ le c 186 = 2005 ∧ le c 187 = 2005 ∧ le c 189 = 400 ∧ le c 190 = 400 ∧ le c 191 = 2005 ∧ le c 192 = 2005 ∧ le c 193 = 6 ∧ le c 194 = 16 ∧ le c 195 = 42 ∧ le c 196 = 42 ∧ le c 197 = 8 ∧ le c 198 = 6 ∧ fR c 64 0 = 65 ∧ fR c 64 1 = 70 ∧ fR c 64 2 = 175 ∧ fR c 64 3 = 176 ∧ fR c 64 4 = 183 ∧ fR c 64 5 = 188 ∧ fR c 64 6 = 193 ∧ fR c 64 7 = 194 ∧ fR c 64 8 = 195 ∧ fR c 64 9 = 196 ∧ fR c 64 10 = 197 ∧ fR c 64 11 = 198 ∧ fR c 65 0 = 66 ∧ fR c 65 1 = 67 ∧ fR c 65 2 = 68 ∧ fR c 65 3 = 69 ∧ fR c 70 0 = 71 ∧ fR c 70 5 = 72 ∧ fR c 175 0 = 65 ∧ fR c 177 0 = 178 ∧ fR c 177 1 = 179 ∧ fR c 180 0 = 181 ∧ fR c 180 1 = 182 ∧ fR c 183 0 = 184 ∧ fR c 183 2 = 185 ∧ fR c 183 4 = 186 ∧ fR c 183 5 = 187 ∧ fR c 188 0 = 189 ∧ fR c 188 2 = 190 ∧ fR c 188 4 = 191 ∧ fR c 188 5 = 192
abbrev FIXs (c : SC) : Prop := (∀ i : Nat, i < 20 → aR c 72 (i : Int) = 75 + 5 * i ∧ kl c (75 + 5 * i) = 9 ∧ (fR c (75 + 5 * i) 0 = 76 + 5 * i ∧ fR c (75 + 5 * i) 1 = 77 + 5 * i ∧ fR c (75 + 5 * i) 2 = 78 + 5 * i ∧ fR c (75 + 5 * i) 3 = 79 + 5 * i) ∧ (kl c (76 + 5 * i) = 103 ∧ kl c (77 + 5 * i) = 103 ∧ kl c (78 + 5 * i) = 100 ∧ kl c (79 + 5 * i) = 100) ∧ le c (76 + 5 * i) = 60 ∧ le c (77 + 5 * i) = 60 ∧ le c (78 + 5 * i) = 60 ∧ le c (79 + 5 * i) = 60)
abbrev FIXc (c : SC) : Prop := (∀ i : Nat, i < 6 → aR c 193 (i : Int) = 199 + 6 * i ∧ kl c (199 + 6 * i) = 2 ∧ (fR c (199 + 6 * i) 0 = 200 + 6 * i ∧ fR c (199 + 6 * i) 1 = 201 + 6 * i ∧ fR c (199 + 6 * i) 2 = 202 + 6 * i ∧ fR c (199 + 6 * i) 3 = 203 + 6 * i ∧ fR c (199 + 6 * i) 4 = 204 + 6 * i) ∧ (kl c (200 + 6 * i) = 100 ∧ kl c (201 + 6 * i) = 100 ∧ kl c (202 + 6 * i) = 100 ∧ kl c (203 + 6 * i) = 100 ∧ kl c (204 + 6 * i) = 100) ∧ le c (200 + 6 * i) = 60 ∧ le c (201 + 6 * i) = 60 ∧ le c (202 + 6 * i) = 60 ∧ le c (203 + 6 * i) = 60 ∧ le c (204 + 6 * i) = 60)
def FIX (c : SC) : Prop := FIXa c ∧ (FIXs c ∧ FIXc c) ∧ 353 ≤ nxt c ∧ kl c 2 = 0
/-- fields that are never written again -/
def finF : List (Nat × Nat) := [(1, 0), (1, 1), (1, 2), (1, 3), (1, 4), (1, 5), (1, 6), (1, 7), (1, 8), (1, 9), (1, 10), (1, 11), (2, 0), (2, 1), (2, 2), (2, 3), (2, 4), (3, 0), (4, 0), (4, 1), (4, 2), (4, 3), (6, 0), (6, 1), (8, 0), (8, 5), (9, 0), (9, 1), (9, 2), (9, 3), (12, 0), (12, 2), (12, 4), (12, 5)]
theorem FIX.x {ys : List (Nat × Nat)} {rs : List Nat} {c e : SC} (h : FIX c) (hx : CX ys rs c e) (hy : ∀ q, q ∈ finF → q ∉ ys) (hr : 72 ∉ rs ∧ 193 ∉ rs) : FIX e := by
  obtain ⟨h1, ⟨h2, h3⟩, h4, h5⟩ := h
  have hk : ∀ a v, kl c a = v → a < 353 → kl e a = v := fun a v q hl => (hx.k (by omega)).trans q
  have hl : ∀ a v, le c a = v → a < 353 → le e a = v := fun a v q hl => (hx.l (by omega)).trans q
  have hf : ∀ a y v k, fR c a y = v → a < 235 → kl c a = k → (k, y) ∈ finF → fR e a y = v := fun a y v k q hl hk hm => (hx.r (by omega) (by unfold ky; rw [if_neg (by omega), hk]; exact hy _ hm)).trans q
  obtain ⟨q0, q1, q2, q3, q4, q5, q6, q7, q8, q9, q10, q11, q12, q13, q14, q15, q16, q17, q18, q19, q20, q21, q22, q23, q24, q25, q26, q27, q28, q29, q30, q31, q32, q33, q34, q35, q36, q37, q38, q39, q40, q41, q42, q43, q44, q45, q46, q47, q48, q49, q50, q51, q52, q53, q54, q55, q56, q57, q58, q59, q60, q61, q62, q63, q64, q65, q66, q67, q68, q69, q70, q71, q72, q73, q74, q75, q76, q77, q78, q79, q80, q81, q82, q83, q84, q85, q86, q87, q88, q89⟩ := h1
  refine ⟨⟨hk _ _ q0 (by decide), hk _ _ q1 (by decide), hk _ _ q2 (by decide), hk _ _ q3 (by decide), hk _ _ q4 (by decide), hk _ _ q5 (by decide), hk _ _ q6 (by decide), hk _ _ q7 (by decide), hk _ _ q8 (by decide), hk _ _ q9 (by decide), hk _ _ q10 (by decide), hk _ _ q11 (by decide), hk _ _ q12 (by decide), hk _ _ q13 (by decide), hk _ _ q14 (by decide), hk _ _ q15 (by decide), hk _ _ q16 (by decide), hk _ _ q17 (by decide), hk _ _ q18 (by decide), hk _ _ q19 (by decide), hk _ _ q20 (by decide), hk _ _ q21 (by decide), hk _ _ q22 (by decide), hk _ _ q23 (by decide), hk _ _ q24 (by decide), hk _ _ q25 (by decide), hk _ _ q26 (by decide), hk _ _ q27 (by decide), hk _ _ q28 (by decide), hk _ _ q29 (by decide), hk _ _ q30 (by decide), hk _ _ q31 (by decide), hk _ _ q32 (by decide), hk _ _ q33 (by decide), hl _ _ q34 (by decide), hl _ _ q35 (by decide), hl _ _ q36 (by decide), hl _ _ q37 (by decide), hl _ _ q38 (by decide), hl _ _ q39 (by decide), hl _ _ q40 (by decide), hl _ _ q41 (by decide), hl _ _ q42 (by decide), hl _ _ q43 (by decide), hl _ _ q44 (by decide), hl _ _ q45 (by decide), hl _ _ q46 (by decide), hl _ _ q47 (by decide), hl _ _ q48 (by decide), hl _ _ q49 (by decide), hl _ _ q50 (by decide), hl _ _ q51 (by decide), hl _ _ q52 (by decide), hl _ _ q53 (by decide), hl _ _ q54 (by decide), hl _ _ q55 (by decide), hl _ _ q56 (by decide), hl _ _ q57 (by decide), hl _ _ q58 (by decide), hf _ _ _ _ q59 (by decide) q0 (by decide), hf _ _ _ _ q60 (by decide) q0 (by decide), hf _ _ _ _ q61 (by decide) q0 (by decide), hf _ _ _ _ q62 (by decide) q0 (by decide), hf _ _ _ _ q63 (by decide) q0 (by decide), hf _ _ _ _ q64 (by decide) q0 (by decide), hf _ _ _ _ q65 (by decide) q0 (by decide), hf _ _ _ _ q66 (by decide) q0 (by decide), hf _ _ _ _ q67 (by decide) q0 (by decide), hf _ _ _ _ q68 (by decide) q0 (by decide), hf _ _ _ _ q69 (by decide) q0 (by decide), hf _ _ _ _ q70 (by decide) q0 (by decide), hf _ _ _ _ q71 (by decide) q1 (by decide), hf _ _ _ _ q72 (by decide) q1 (by decide), hf _ _ _ _ q73 (by decide) q1 (by decide), hf _ _ _ _ q74 (by decide) q1 (by decide), hf _ _ _ _ q75 (by decide) q6 (by decide), hf _ _ _ _ q76 (by decide) q6 (by decide), hf _ _ _ _ q77 (by decide) q10 (by decide), hf _ _ _ _ q78 (by decide) q12 (by decide), hf _ _ _ _ q79 (by decide) q12 (by decide), hf _ _ _ _ q80 (by decide) q15 (by decide), hf _ _ _ _ q81 (by decide) q15 (by decide), hf _ _ _ _ q82 (by decide) q18 (by decide), hf _ _ _ _ q83 (by decide) q18 (by decide), hf _ _ _ _ q84 (by decide) q18 (by decide), hf _ _ _ _ q85 (by decide) q18 (by decide), hf _ _ _ _ q86 (by decide) q23 (by decide), hf _ _ _ _ q87 (by decide) q23 (by decide), hf _ _ _ _ q88 (by decide) q23 (by decide), hf _ _ _ _ q89 (by decide) q23 (by decide)⟩, ⟨fun i hi => ?_, fun i hi => ?_⟩, Nat.le_trans h4 hx.1, hk _ _ h5 (by decide)⟩
  · obtain ⟨p1, p2, ⟨p3, p4, p5, p6⟩, ⟨p7, p8, p9, p10⟩, p11, p12, p13, p14⟩ := h2 i hi
    refine ⟨?_, hk _ _ p2 (by omega), ⟨hf _ _ _ _ p3 (by omega) p2 (by decide), hf _ _ _ _ p4 (by omega) p2 (by decide), hf _ _ _ _ p5 (by omega) p2 (by decide), hf _ _ _ _ p6 (by omega) p2 (by decide)⟩, ⟨hk _ _ p7 (by omega), hk _ _ p8 (by omega), hk _ _ p9 (by omega), hk _ _ p10 (by omega)⟩, hl _ _ p11 (by omega), hl _ _ p12 (by omega), hl _ _ p13 (by omega), hl _ _ p14 (by omega)⟩
    rw [hx.ar (a := 72) (by omega) (by unfold rk; rw [if_pos (by decide)]; exact hr.1)]
    exact p1
  · obtain ⟨p1, p2, ⟨p3, p4, p5, p6, p15⟩, ⟨p7, p8, p9, p10, p16⟩, p11, p12, p13, p14, p17⟩ := h3 i hi
    refine ⟨?_, hk _ _ p2 (by omega), ⟨hf _ _ _ _ p3 (by omega) p2 (by decide), hf _ _ _ _ p4 (by omega) p2 (by decide), hf _ _ _ _ p5 (by omega) p2 (by decide), hf _ _ _ _ p6 (by omega) p2 (by decide), hf _ _ _ _ p15 (by omega) p2 (by decide)⟩, ⟨hk _ _ p7 (by omega), hk _ _ p8 (by omega), hk _ _ p9 (by omega), hk _ _ p10 (by omega), hk _ _ p16 (by omega)⟩, hl _ _ p11 (by omega), hl _ _ p12 (by omega), hl _ _ p13 (by omega), hl _ _ p14 (by omega), hl _ _ p17 (by omega)⟩
    rw [hx.ar (a := 193) (by omega) (by unfold rk; rw [if_pos (by decide)]; exact hr.2)]
    exact p1
end
section
/-! Nodes as things: where each lies, what it holds, how they hang together; walking from node to node. -/
def NDb (c : SC) (a : Nat) (b so v k : Int) : Prop := kl c a = 5 ∧ kl c (a + 1) = 103 ∧ le c (a + 1) = pO so ∧ fI c a 0 = b ∧ fI c a 1 = so ∧ fI c a 2 = k ∧ fR c a 3 = a + 1 ∧ fI c a 4 = v
/-- the nodes that were born, by their births -/
def ND (A : Int → Nat) (c : SC) (s : SM) : Prop := (∀ b, ¬ (0 ≤ b ∧ b < s.1 8) → A b = 2) ∧ ∀ b, 0 ≤ b → b < s.1 8 → NDb c (A b) b (s.2 9 b) (s.2 10 b) (s.2 11 b) ∧ A b + 1 < nxt c ∧ (A b = 73 ∨ 353 ≤ A b)
/-- the tree as it hangs -/
def HG (A : Int → Nat) (c : SC) (s : SM) (t : Term) : Prop := (∀ x, x ∈ fl t → fR c (A x) 5 = A (s.2 12 x) ∧ (x ≠ hd t → fI c (A x) 6 = s.2 13 x) ∧ ∀ i, 0 ≤ i → i < pO (s.2 9 x) → aR c (A x + 1) i = A (s.2 14 (3 * x + i))) ∧ fR c 70 1 = A (hd t)
/-- .. and as it was listed -/
def LST (A : Int → Nat) (c : SC) (t : Term) : Prop := fI c 70 3 = (fl t).length ∧ ∀ (j : Nat) (x : Int), (fl t)[j]? = some x → aR c 71 j = A x ∧ fI c (A x) 7 = j
section
variable {A : Int → Nat} {c e : SC} {s : SM} {t : Term} {ys : List (Nat × Nat)} {rs : List Nat}
theorem ky5 {a k : Nat} (h : a = 73 ∨ 353 ≤ a) : ky a k = k := by unfold ky; rw [if_neg (by omega)]
theorem ND.ne (h : ND A c s) {b : Int} (hb : 0 ≤ b ∧ b < s.1 8) : A b ≠ 2 ∧ 64 ≤ A b := by
  have := (h.2 b hb.1 hb.2).2.2
  omega
theorem ND.lt (h : ND A c s) (h3 : 353 ≤ nxt c) (b : Int) : A b < nxt c := by
  by_cases hb : 0 ≤ b ∧ b < s.1 8
  · have := (h.2 b hb.1 hb.2).2.1
    omega
  · rw [h.1 b hb]; omega
theorem ND.inj (h : ND A c s) {b b' : Int} (hb : 0 ≤ b ∧ b < s.1 8) (e : A b' = A b) : b' = b := by
  by_cases hb' : 0 ≤ b' ∧ b' < s.1 8
  · have h1 := (h.2 b hb.1 hb.2).1.2.2.2.1
    have h2 := (h.2 b' hb'.1 hb'.2).1.2.2.2.1
    rw [e, h1] at h2
    exact h2.symm
  · have := (h.ne hb).1
    rw [h.1 b' hb'] at e
    omega
theorem ND.iff (h : ND A c s) (b : Int) : A b = 2 ↔ ¬ (0 ≤ b ∧ b < s.1 8) := ⟨fun q hb => (h.ne hb).1 q, h.1 b⟩
theorem ND.x (h : ND A c s) (hx : CX ys rs c e) (h0 : (5, 0) ∉ ys) (h1 : (5, 1) ∉ ys) (h2 : (5, 2) ∉ ys) (h3 : (5, 3) ∉ ys) (h4 : (5, 4) ∉ ys) : ND A e s := by
  refine ⟨h.1, fun b b0 b1 => ?_⟩
  obtain ⟨⟨n1, n2, n3, n4, n5, n6, n7, n8⟩, n9, n10⟩ := h.2 b b0 b1
  have hk : ky (A b) (kl c (A b)) = 5 := by rw [ky5 n10, n1]
  have ha : A b < nxt c := by omega
  refine ⟨⟨(hx.k ha).trans n1, (hx.k n9).trans n2, (hx.l n9).trans n3, (hx.i ha (by rw [hk]; exact h0)).trans n4, (hx.i ha (by rw [hk]; exact h1)).trans n5, (hx.i ha (by rw [hk]; exact h2)).trans n6, (hx.r ha (by rw [hk]; exact h3)).trans n7, (hx.i ha (by rw [hk]; exact h4)).trans n8⟩, Nat.lt_of_lt_of_le n9 hx.1, n10⟩
theorem HG.x (h : HG A c s t) (hN : ND A c s) (hm : ∀ x, x ∈ fl t → 0 ≤ x ∧ x < s.1 8) (hF : FIX c) (hx : CX ys rs c e) (h5 : (5, 5) ∉ ys) (h6 : (5, 6) ∉ ys) (h81 : (8, 1) ∉ ys) (hr : 1103 ∉ rs ∧ 74 ∉ rs) : HG A e s t := by
  refine ⟨fun x hm0 => ?_, ?_⟩
  · obtain ⟨q1, q2, q3⟩ := h.1 x hm0
    obtain ⟨⟨n1, n2, n3, n4, n5, n6, n7, n8⟩, n9, n10⟩ := hN.2 x (hm x hm0).1 (hm x hm0).2
    have hk : ky (A x) (kl c (A x)) = 5 := by rw [ky5 n10, n1]
    have ha : A x < nxt c := by omega
    refine ⟨(hx.r ha (by rw [hk]; exact h5)).trans q1, fun q => (hx.i ha (by rw [hk]; exact h6)).trans (q2 q), fun i i0 i1 => ?_⟩
    rw [hx.ar n9 (by
      rw [n2]
      unfold rk
      split
      · rw [show A x + 1 = 74 by omega]; exact hr.2
      · exact hr.1)]
    exact q3 i i0 i1
  · have h3 := hF.2.2.1
    have hk : kl c 70 = 8 := by simp only [hF.1]
    rw [hx.r (by omega) (by rw [hk]; exact h81)]
    exact h.2
theorem LST.x (h : LST A c t) (hN : ND A c s) (hm : ∀ x, x ∈ fl t → 0 ≤ x ∧ x < s.1 8) (hF : FIX c) (hx : CX ys rs c e) (h7 : (5, 7) ∉ ys) (h83 : (8, 3) ∉ ys) (hr : 71 ∉ rs) : LST A e t := by
  have h3 := hF.2.2.1
  have hk0 : kl c 70 = 8 := by simp only [hF.1]
  refine ⟨(hx.i (by omega) (by rw [hk0]; exact h83)).trans h.1, fun j x hj => ?_⟩
  obtain ⟨q1, q2⟩ := h.2 j x hj
  have hm0 := hm x (List.mem_of_getElem? hj)
  obtain ⟨⟨n1, n2, n3, n4, n5, n6, n7, n8⟩, n9, n10⟩ := hN.2 x hm0.1 hm0.2
  have hk : ky (A x) (kl c (A x)) = 5 := by rw [ky5 n10, n1]
  have ha : A x < nxt c := by omega
  rw [hx.ar (by omega) (by unfold rk; rw [if_pos (by decide)]; exact hr)]
  exact ⟨q1, (hx.i ha (by rw [hk]; exact h7)).trans q2⟩
end
/-- the node behind one and all of its parts -/
def bh (so up pl pa : Int → Int) : Nat → Int → Int
  | 0, _ => -9
  | n + 1, x => if up x = -9 then -9 else if pl x + 1 < pO (so (up x)) then pa (3 * up x + (pl x + 1)) else bh so up pl pa n (up x)
theorem bh_s (so up pl pa : Int → Int) (n : Nat) (x : Int) : bh so up pl pa (n + 1) x = if up x = -9 then -9 else if pl x + 1 < pO (so (up x)) then pa (3 * up x + (pl x + 1)) else bh so up pl pa n (up x) := rfl
theorem bh_f {so up pl pa : Int → Int} : ∀ (n m : Nat) (b : Int), n ≤ m → DP up n b → bh so up pl pa m b = bh so up pl pa n b := by
  intro n
  induction n with
  | zero => intro m b _ h; exact h.elim
  | succ n ih =>
    intro m b hm h
    obtain ⟨m, rfl⟩ : ∃ k, m = k + 1 := ⟨m - 1, by omega⟩
    rw [bh_s, bh_s]
    by_cases e : up b = -9
    · rw [if_pos e, if_pos e]
    · rw [if_neg e, if_neg e]
      obtain ⟨h1, h2⟩ := h.resolve_left e
      rw [ih m _ (by omega) h2]
def fo (so up pl pa : Int → Int) (x : Int) : Int := if 0 < pO (so x) then pa (3 * x) else bh so up pl pa 70 x
/-- one behind another -/
def chn (f : Int → Int) : List Int → Int → Prop
  | [], _ => True
  | x :: r, e => f x = r.headD e ∧ chn f r e
theorem chn_app {f : Int → Int} : ∀ (l : List Int) (m : List Int) (e : Int), chn f l (m.headD e) → chn f m e → chn f (l ++ m) e := by
  intro l
  induction l with
  | nil => intro m e _ h; exact h
  | cons x r ih =>
    intro m e h1 h2
    refine ⟨?_, ih m e h1.2 h2⟩
    rw [h1.1]
    cases r <;> rfl
theorem chn_l {f : Int → Int} : ∀ (l m : List Int) (e : Int), chn f (l ++ m) e → chn f l (m.headD e) ∧ chn f m e := by
  intro l
  induction l with
  | nil => intro m e h; exact ⟨trivial, h⟩
  | cons x r ih =>
    intro m e h
    obtain ⟨h1, h2⟩ := ih m e h.2
    refine ⟨⟨?_, h1⟩, h2⟩
    have := h.1
    rw [this]
    cases r <;> rfl
theorem chn_u {f : Int → Int} : ∀ (l : List Int) (e e' : Int), l ≠ [] → chn f l e → chn f l e' → e = e' := by
  intro l
  induction l with
  | nil => intro e e' h; exact absurd rfl h
  | cons x r ih =>
    intro e e' _ h h'
    cases r with
    | nil => exact h.1.symm.trans h'.1
    | cons y r => exact ih e e' (by simp) h.2 h'.2
/-- where a walk through a tree ends -/
theorem chn_tree {so pa up pl : Int → Int} {B : Int} : ∀ (u : Term), AT so pa up pl B u → (∀ y, y ∈ fl u → DP up 70 y) → (∀ y, y ∈ fl u → y ≠ hd u → 0 ≤ up y) → chn (fo so up pl pa) (fl u) (if na u < pO (so (hd u)) then pa (3 * hd u + na u) else bh so up pl pa 70 (hd u)) := by
  intro u
  induction u with
  | index b =>
    intro h _ _
    show chn _ [(b : Int)] (if (0 : Int) < pO (so b) then pa (3 * (b : Int) + 0) else bh so up pl pa 70 b)
    refine ⟨?_, trivial⟩
    show fo so up pl pa b = _
    unfold fo
    rw [Int.add_zero]
    rfl
  | add t x ih ihx =>
    intro h hD hu
    obtain ⟨h1, h2, h3, h4, h5, h6, h7⟩ := h
    have hx := hd_mem x h2
    have mt : ∀ y, y ∈ fl t → y ∈ fl (Term.add t x) := fun y hy => List.mem_append_left _ hy
    have mx : ∀ y, y ∈ fl x → y ∈ fl (Term.add t x) := fun y hy => List.mem_append_right _ hy
    have i1 := ih h1 (fun y hy => hD y (mt y hy)) (fun y hy hn => hu y (mt y hy) hn)
    rw [if_pos h4, h5] at i1
    have i2 := ihx h2 (fun y hy => hD y (mx y hy)) (fun y hy hn => by
      have := (AT_mem x h2 y hy).2.2.2 hn
      have := (AT_mem x h2 _ this.1).1
      omega)
    rw [if_neg (by unfold full at h3; omega)] at i2
    obtain ⟨r, hr⟩ := fl_hd x h2
    refine chn_app (fl t) (fl x) _ ?_ ?_
    · rw [hr]
      exact i1
    · have e : bh so up pl pa 70 (hd x) = if na t + 1 < pO (so (hd t)) then pa (3 * hd t + (na t + 1)) else bh so up pl pa 70 (hd t) := by
        have h70 : DP up (69 + 1) (hd x) := hD _ (mx _ hx)
        have hn : ¬ up (hd x) = -9 := by
          rw [h6]
          have := (AT_mem t h1 _ (hd_mem t h1)).1
          omega
        rw [show (70 : Nat) = 69 + 1 from rfl, bh_s, if_neg hn, h6, h7]
        have h69 : DP up 69 (hd t) := by
          have := h70.resolve_left hn
          rw [h6] at this
          exact this.2
        rw [bh_f 69 (69 + 1) (hd t) (by decide) h69]
      show chn _ (fl x) (if na t + 1 < pO (so (hd t)) then pa (3 * hd t + (na t + 1)) else bh so up pl pa 70 (hd t))
      rw [← e]
      exact i2
  | _ => intro h; exact h.elim
abbrev bhs (s : SM) (x : Int) : Int := bh (s.2 9) (s.2 12) (s.2 13) (s.2 14) 70 x
abbrev fos (s : SM) (x : Int) : Int := fo (s.2 9) (s.2 12) (s.2 13) (s.2 14) x
theorem SHT.up9 {s : SM} {t : Term} (h : SHT s t) {y : Int} (hy : y ∈ fl t) (hn : y ≠ hd t) : s.2 12 y ∈ fl t := ((AT_mem t h.1 y hy).2.2.2 hn).1
theorem SHT.chn {s : SM} {t : Term} (h : SHT s t) : chn (fos s) (fl t) (-9) := by
  have := chn_tree t h.1 (fun y hy => DP_up 61 70 _ (by decide) (DP_tree h y hy)) (fun y hy hn => (h.lt (h.up9 hy hn)).1)
  rw [if_neg (by have := h.2.1; unfold full at this; omega)] at this
  rw [show bh (s.2 9) (s.2 12) (s.2 13) (s.2 14) 70 (hd t) = -9 by rw [show (70 : Nat) = 69 + 1 from rfl, bh_s, if_pos h.2.2.2.2.2.2.1]] at this
  exact this
theorem bhs_in {s : SM} {t : Term} (h : SHT s t) : ∀ (n : Nat) (x : Int), x ∈ fl t → bh (s.2 9) (s.2 12) (s.2 13) (s.2 14) n x = -9 ∨ bh (s.2 9) (s.2 12) (s.2 13) (s.2 14) n x ∈ fl t := by
  intro n
  induction n with
  | zero => intro x _; exact Or.inl rfl
  | succ n ih =>
    intro x hx
    rw [bh_s]
    by_cases e : s.2 12 x = -9
    · rw [if_pos e]; exact Or.inl rfl
    · rw [if_neg e]
      have hn : x ≠ hd t := fun q => e (by rw [q]; exact h.2.2.2.2.2.2.1)
      have hu := h.up9 hx hn
      split
      · rename_i hl
        have m := (AT_mem t h.1 x hx).2.2.2 hn
        right
        exact ((AT_mem t h.1 _ hu).2.2.1 (s.2 13 x + 1) (by omega) hl (fun q => by have := h.2.1; unfold full at this; rw [q] at hl; omega)).1
      · exact ih _ hu
section
variable {iv : List (Int × Int)} {L : Nat} {h0 : MH} {A : Int → Nat} {c : SC} {s : SM} {t : Term} {d : Nat}
theorem SHT.m (h : SHT s t) : ∀ x, x ∈ fl t → 0 ≤ x ∧ x < s.1 8 := fun x hx => ⟨(h.lt hx).1, (h.lt hx).2.1⟩
theorem A9 (hN : ND A c s) : A (-9) = 2 := hN.1 _ (by omega)
theorem behind_ok {x : Int} {F : Nat → SC → Prop} (hN : ND A c s) (hH : HG A c s t) (h : SHT s t) (hx : x ∈ fl t) (hF : F (A (bhs s x)) c) : ck iv L h0 d 191 [vr (A x)] c (qa F) := by
  have key : ∀ (n : Nat) (x : Int), x ∈ fl t → DP (s.2 12) n x → F (A (bh (s.2 9) (s.2 12) (s.2 13) (s.2 14) n x)) c → wk iv L h0 d 191 2 [ln, lr (A x)] [] c (qa F) := by
    intro n
    induction n with
    | zero => intro x _ hdp _; exact hdp.elim
    | succ n ih =>
      intro x hx hdp hF
      obtain ⟨n1, n2, n3, n4, n5, n6, n7, n8⟩ := (hN.2 x (h.m x hx).1 (h.m x hx).2).1
      obtain ⟨q1, q2, q3⟩ := hH.1 x hx
      rw [bh_s] at hF
      refine C191_2 ⟨n1, ?_⟩
      rw [q1]
      by_cases e : s.2 12 x = -9
      · rw [if_pos e, A9 hN] at hF
        rw [e, A9 hN]
        exact ⟨fun _ => hF, fun q => absurd rfl q⟩
      · rw [if_neg e] at hF
        have hn : x ≠ hd t := fun q => e (by rw [q]; exact h.2.2.2.2.2.2.1)
        have hu := h.up9 hx hn
        have m := (AT_mem t h.1 x hx).2.2.2 hn
        obtain ⟨u1, u2, u3, u4, u5, u6, u7, u8⟩ := (hN.2 _ (h.m _ hu).1 (h.m _ hu).2).1
        have hp := pO_in (s.2 9 (s.2 12 x))
        rw [q2 hn, u7, u3, u2]
        refine ⟨fun q => absurd q (hN.ne (h.m _ hu)).1, fun _ => ⟨by omega, u1, by omega, fun hl => ?_, fun hl => ⟨rfl, by omega, ?_⟩⟩⟩
        · rw [if_neg (by omega)] at hF
          exact ih _ hu ((hdp.resolve_left e).2) hF
        · rw [if_pos hl] at hF
          rw [(hH.1 _ hu).2.2 _ (by omega) hl]
          exact hF
  exact C191 (key 70 x hx (DP_up 61 70 _ (by decide) (DP_tree h x hx)) hF)
theorem following_ok {x : Int} {F : Nat → SC → Prop} (hN : ND A c s) (hH : HG A c s t) (h : SHT s t) (hx : x ∈ fl t) (hF : F (A (fos s x)) c) : ck iv L h0 (d + 1) 192 [vr (A x)] c (qa F) := by
  obtain ⟨n1, n2, n3, n4, n5, n6, n7, n8⟩ := (hN.2 x (h.m x hx).1 (h.m x hx).2).1
  obtain ⟨q1, q2, q3⟩ := hH.1 x hx
  refine C192 ⟨n1, ?_⟩
  rw [n7, n2, n3]
  unfold fos fo at hF
  refine ⟨by omega, fun hl => ?_, fun hl => ⟨rfl, by omega, ?_⟩⟩
  · rw [if_neg (by omega)] at hF
    exact behind_ok hN hH h hx hF
  · rw [if_pos hl] at hF
    rw [q3 0 (by omega) hl, Int.add_zero]
    exact hF
theorem getD_head {l : List Int} {e x : Int} {r : List Int} (h : l = x :: r) : l.headD e = x := by rw [h]; rfl
theorem list_ok {F : SC → Prop} (hX : FIX c) (hN : ND A c s) (hH : HG A c s t) (h : SHT s t) (hF : ∀ e, CX [(5, 7), (8, 3)] [71] c e → RMk 0 0 c e → LST A e t → F e) : ck iv L h0 (d + 2) 206 [vr 70] c (qv F) := by
  have h3 := hX.2.2.1
  have key : ∀ (m p : List Int) (e : SC), fl t = p ++ m → chn (fos s) m (-9) → CX [(5, 7), (8, 3)] [71] c e → RMk 0 0 c e → fI e 70 3 = p.length → (∀ (j : Nat) (x : Int), p[j]? = some x → aR e 71 j = A x ∧ fI e (A x) 7 = j) → wk iv L h0 (d + 2) 206 10 [lr 70, lr (A (m.headD (-9)))] [] e (qv F) := by
    intro m
    induction m with
    | nil =>
      intro p e hp _ hx hr hl hj
      have hA : A (-9) = 2 := A9 hN
      refine C206_10 ⟨fun _ => hF e hx hr ⟨?_, ?_⟩, fun q => absurd hA q⟩
      · rw [hl, hp, List.append_nil]
      · rw [hp, List.append_nil]; exact hj
    | cons x m ih =>
      intro p e hp hc hx hr hl hj
      have hxm : x ∈ fl t := by rw [hp]; simp
      have hXe : FIX e := hX.x hx (by decide) (by decide)
      have hNe : ND A e s := hN.x hx (by decide) (by decide) (by decide) (by decide) (by decide)
      obtain ⟨⟨n1, n2, n3, n4, n5, n6, n7, n8⟩, n9, n10⟩ := hNe.2 x (h.m x hxm).1 (h.m x hxm).2
      have hlen : p.length + 1 ≤ 60 := by
        have := h.2.2.2.1
        rw [hp] at this
        simp at this
        omega
      show wk iv L h0 (d + 2) 206 10 [lr 70, lr (A x)] [] e (qv F)
      refine C206_10 ⟨fun q => absurd q (hN.ne (h.m x hxm)).1, fun _ => ?_⟩
      simp only [hXe.1, hl, true_and]
      refine ⟨fun q => by omega, fun _ => ⟨n1, by omega, by omega, Or.inr n1, ?_⟩⟩
      have hk5 : ky (A x) (kl e (A x)) = 5 := by rw [ky5 n10, n1]
      generalize hE : uB (uI (uI e (A x) 7 (p.length : Int)) 70 3 ((p.length : Int) + 1)) 71 (p.length : Int) (A x) = f
      have hxf : CX [(5, 7), (8, 3)] [71] c f := by
        rw [← hE]
        refine ((hx.uI (fun _ => by rw [hk5]; decide)).uI (fun _ => by rw [kl_uI]; simp only [hXe.1]; decide)).uB (fun _ => by unfold rk; rw [if_pos (by decide)]; decide)
      have hrf : RMk 0 0 c f := by rw [← hE]; exact hr
      have hNf := hN.x hxf (by decide) (by decide) (by decide) (by decide) (by decide)
      have hHf := hH.x hN h.m hX hxf (by decide) (by decide) (by decide) (by decide)
      have hfo : fos s x = m.headD (-9) := hc.1
      refine following_ok hNf hHf h hxm ?_
      rw [hfo]
      refine ih (p ++ [x]) f (by rw [hp]; simp) hc.2 hxf hrf ?_ (fun j y hy => ?_)
      · rw [← hE]
        rw [fI_uB, fI_uI, if_pos ⟨rfl, rfl⟩]
        simp
      · have hne : ∀ y, y ∈ fl t → y ≠ x → A y ≠ A x := fun y hy hn q => hn (hN.inj (h.m x hxm) q)
        have hAne : ∀ y, A y ≠ 70 := fun y q => by
          have h8 : kl e 70 = 8 := by simp only [hXe.1]
          by_cases hb : 0 ≤ y ∧ y < s.1 8
          · have := (hNe.2 y hb.1 hb.2).1.1
            rw [q, h8] at this
            omega
          · rw [hN.1 y hb] at q; omega
        have v71 : ∀ i : Int, aR f 71 i = if i = p.length then A x else aR e 71 i := fun i => by
          rw [← hE, aR_uB]
          by_cases q : i = p.length
          · rw [if_pos ⟨rfl, q⟩, if_pos q]
          · rw [if_neg (fun w => q w.2), if_neg q]; rfl
        have v7 : ∀ y, fI f (A y) 7 = if A y = A x then (p.length : Int) else fI e (A y) 7 := fun y => by
          rw [← hE, fI_uB, fI_uI, if_neg (fun w => absurd w.1 (by decide)), fI_uI]
          by_cases q : A y = A x
          · rw [if_pos ⟨rfl, q⟩, if_pos q]
          · rw [if_neg (fun w => q w.2), if_neg q]
        have hnd := h.2.2.1
        by_cases hjl : j < p.length
        · rw [List.getElem?_append_left hjl] at hy
          have hyx : y ≠ x := fun q => by
            rw [hp] at hnd
            exact (List.nodup_append.mp hnd).2.2 y (List.mem_of_getElem? hy) x (by simp) q
          have hyt : y ∈ fl t := by rw [hp]; exact List.mem_append_left _ (List.mem_of_getElem? hy)
          rw [v71, v7, if_neg (by omega), if_neg (hne y hyt hyx)]
          exact hj j y hy
        · rw [List.getElem?_append_right (by omega)] at hy
          have : j - p.length = 0 := by
            cases hq : j - p.length with
            | zero => rfl
            | succ k => rw [hq] at hy; simp at hy
          rw [this] at hy
          simp at hy
          subst hy
          have hjp : j = p.length := by omega
          subst hjp
          rw [v71, v7, if_pos rfl, if_pos rfl]
          exact ⟨rfl, rfl⟩
  have hk70 : kl c 70 = 8 := by simp only [hX.1]
  refine C206 ⟨hk70, ?_⟩
  rw [hH.2]
  have hh : A (hd t) = A ((fl t).headD (-9)) := by
    obtain ⟨r, hr⟩ := fl_hd t h.1
    rw [hr]; rfl
  rw [hh]
  refine key (fl t) [] _ rfl h.chn (CX.rf.uI (fun _ => by simp only [hX.1]; decide)) ⟨Nat.le_refl _, Nat.le_refl _⟩ ?_ (fun j x hj => by simp at hj)
  rw [fI_uI, if_pos ⟨rfl, rfl⟩]
  rfl
end
end
section
/-! Judging by the desk, seen as a judging over rows: which runs of the desk stand for which of the reference's methods. -/
def ai (as : List VV) (i : Nat) : Int := match as[i]? with
  | some (.inl z) => z
  | _ => 0
/-- the method that stands for the reference's M, with what it is called -/
def tgM (A : Int → Nat) (M : Nat) (as : List VV) (a3 : Int) : Nat × List VV :=
  if M = 88 then (165, [vr 175, vr (A (ai as 1)), vi (ai as 2), vi a3])
  else if M = 89 then (166, [vr 175, vr (A (ai as 1)), vi (ai as 2), vi a3])
  else if M = 90 then (168, [vr 175, vr (A (ai as 1)), vi (ai as 2), vi a3])
  else if M = 91 then (169, [vr 175, vr (A (ai as 1)), vi a3])
  else if M = 92 then (170, [vr 175, vr (A (ai as 1)), vi (ai as 2), vi a3])
  else if M = 93 then (171, [vr 175, vr (A (ai as 1)), vi (ai as 2), vi a3])
  else if M = 94 then (172, [vr 175, vr (A (ai as 1)), vi a3])
  else if M = 87 then (189, [vr (A (ai as 1))])
  else if M = 65 then (181, [vr 65, vi (ai as 1), vi (ai as 2), vi (ai as 3)])
  else if M = 70 then (182, [vr 65, vi (ai as 1), vi (ai as 2)])
  else (184, [vr 65, vi (ai as 1), vi (ai as 2), vi 0])
/-- how the nodes hang, what they are -/
def JS (A : Int → Nat) (T : Int → Prop) (c : SC) (s : SM) : Prop := (A (-9) = 2 ∧ ∀ b b', T b → T b' → A b = A b' → b = b') ∧ ∀ b, T b → (64 ≤ A b ∧ kl c (A b) = 5 ∧ kl c (A b + 1) = 103 ∧ le c (A b + 1) = pO (s.2 9 b)) ∧ (fI c (A b) 1 = s.2 9 b ∧ fI c (A b) 4 = s.2 10 b ∧ fI c (A b) 2 = s.2 11 b ∧ fR c (A b) 3 = A b + 1) ∧ (fR c (A b) 5 = A (s.2 12 b) ∧ (s.2 12 b ≠ -9 → fI c (A b) 6 = s.2 13 b) ∧ (s.2 12 b = -9 ∨ T (s.2 12 b))) ∧ ∀ i, 0 ≤ i → i < pO (s.2 9 b) → aR c (A b + 1) i = A (s.2 14 (3 * b + i)) ∧ T (s.2 14 (3 * b + i))
/-- what was judged; some reasons may be others -/
def JDy (A : Int → Nat) (T : Int → Prop) (ρ : Int → Option Int) (c : SC) (s : SM) : Prop := ∀ b, T b → fI c (A b) 8 = s.2 20 b ∧ fI c (A b) 9 = s.2 19 b ∧ fI c (A b) 10 = (ρ b).getD (s.2 21 b)
def JKi (c : SC) (s : SM) : Prop := (fI c 65 4 = s.1 2 ∧ fI c 65 5 = s.1 3) ∧ aI c 66 = s.2 4 ∧ aI c 67 = s.2 5 ∧ aI c 68 = s.2 6 ∧ aI c 69 = s.2 7
def VJ (A : Int → Nat) (T : Int → Prop) (ρ : Int → Option Int) (c : SC) (s : SM) : Prop := FIX c ∧ JS A T c s ∧ JDy A T ρ c s ∧ JKi c s
/-- what judging may write -/
def jys : List (Nat × Nat) := [(5, 8), (5, 9), (5, 10), (25, 8), (25, 9), (25, 10), (4, 5)]
def jrs : List Nat := [66, 67, 68, 69]
def QJ (A : Int → Nat) (T : Int → Prop) (ρ : Int → Option Int) (c : SC) (Q : Option VV → SM → Prop) (v : Option VV) (e : SC) : Prop := ∃ w, VJ A T ρ e w ∧ (CX jys jrs c e ∧ RMk 0 0 c e) ∧ Q v w
def cj (iv : List (Int × Int)) (L : Nat) (h0 : MH) (A : Int → Nat) (T : Int → Prop) (ρ : Int → Option Int) (k d M : Nat) (as : List VV) (s : SM) (Q : Option VV → SM → Prop) : Prop := ∀ (c : SC) (a3 : Int), VJ A T ρ c s → 0 ≤ a3 → a3 + k ≤ 65 → ck iv L h0 d (tgM A M as a3).1 (tgM A M as a3).2 c (QJ A T ρ c Q)
section
variable {iv : List (Int × Int)} {L : Nat} {h0 : MH} {A : Int → Nat} {T : Int → Prop} {ρ : Int → Option Int} {c e f : SC} {s w : SM} {k d M : Nat}
theorem ky25 (a k : Nat) (y : Nat) (h : k = 5) (hy : y = 8 ∨ y = 9 ∨ y = 10) : (ky a k, y) ∈ jys := by
  subst h
  unfold ky
  split
  · rcases hy with rfl | rfl | rfl <;> decide
  · rcases hy with rfl | rfl | rfl <;> decide
theorem QJ.tr {Q : Option VV → SM → Prop} {v : Option VV} (h1 : CX jys jrs c e ∧ RMk 0 0 c e) (h : QJ A T ρ e Q v f) : QJ A T ρ c Q v f := by
  obtain ⟨w, a, ⟨b1, b2⟩, q⟩ := h
  exact ⟨w, a, ⟨h1.1.tr b1, h1.2.tr b2⟩, q⟩
/-- from a call within to the whole -/
theorem cj_in {M' : Nat} {as : List VV} {a3 : Int} {Q : Option VV → SM → Prop} {Q' : Option VV → SC → Prop} {k' d' : Nat} (h : cj iv L h0 A T ρ k' d' M as s Q) (hv : VJ A T ρ c s) (h3 : 0 ≤ a3) (hk : a3 + k' ≤ 65) (hQ : ∀ v e w, VJ A T ρ e w → CX jys jrs c e → RMk 0 0 c e → Q v w → Q' v e) : ck iv L h0 d' (tgM A M as a3).1 (tgM A M as a3).2 c Q' := by
  refine wc_mono (h c a3 hv h3 hk) (Nat.le_refl _) ?_
  rintro v e ⟨w, a, ⟨b1, b2⟩, q⟩
  exact hQ v e w a b1 b2 q
theorem cji_mono {as : List VV} {k' d' : Nat} {F F' : Int → SM → Prop} (h : cj iv L h0 A T ρ k d M as s (qi F)) (hd : d ≤ d') (hk : k ≤ k') (hq : ∀ z s', F z s' → F' z s') : cj iv L h0 A T ρ k' d' M as s (qi F') := fun c a3 hv h3 hk3 => wc_mono (h c a3 hv h3 (by omega)) hd (fun v e ⟨w, a, b, z, q1, q2⟩ => ⟨w, a, b, z, q1, hq z w q2⟩)
theorem js_uI {b y : Nat} {z : Int} (h : JS A T c s) (hy : y = 8 ∨ y = 9 ∨ y = 10) : JS A T (uI c b y z) s := by
  refine ⟨h.1, fun x hx => ?_⟩
  obtain ⟨p1, ⟨p2, p3, p4, p5⟩, ⟨p6, p7, p8⟩, p9⟩ := h.2 x hx
  have e : ∀ k, k < 8 → fI (uI c b y z) (A x) k = fI c (A x) k := fun k hk => by rw [fI_uI, if_neg (by omega)]
  exact ⟨p1, ⟨(e 1 (by decide)).trans p2, (e 4 (by decide)).trans p3, (e 2 (by decide)).trans p4, p5⟩, ⟨p6, fun q => (e 6 (by decide)).trans (p7 q), p8⟩, p9⟩
end
end
section
/-! The rules of judging, by the desk's methods. -/
section
variable {iv : List (Int × Int)} {L : Nat} {h0 : MH} {A : Int → Nat} {T : Int → Prop} {ρ : Int → Option Int} {c e f : SC} {s w : SM} {k d M : Nat}
theorem vj_8 {b z : Int} (h : VJ A T ρ c s) (hb : T b) : VJ A T ρ (uI c (A b) 8 z) (ua s 20 b z) := by
  obtain ⟨h1, h2, h3, h4⟩ := h
  refine ⟨h1, ?_, fun x hx => ?_, h4.1.imp (fun q => by rw [fI_uI, if_neg (by omega)]; exact q) (fun q => by rw [fI_uI, if_neg (by omega)]; exact q), h4.2⟩
  · exact js_uI h2 (Or.inl rfl)
  · obtain ⟨q1, q2, q3⟩ := h3 x hx
    refine ⟨?_, ?_, ?_⟩
    · rw [fI_uI, ua_2]
      by_cases e : x = b
      · subst e; rw [if_pos ⟨rfl, rfl⟩, if_pos ⟨rfl, rfl⟩]
      · rw [if_neg (fun q => e (h2.1.2 _ _ hx hb q.2)), if_neg (fun q => e q.2)]; exact q1
    · rw [fI_uI, if_neg (by omega), ua_2, if_neg (by omega)]; exact q2
    · rw [fI_uI, if_neg (by omega), ua_2, if_neg (by omega)]; exact q3
theorem vj_9 {b z : Int} (h : VJ A T ρ c s) (hb : T b) : VJ A T ρ (uI c (A b) 9 z) (ua s 19 b z) := by
  obtain ⟨h1, h2, h3, h4⟩ := h
  refine ⟨h1, ?_, fun x hx => ?_, h4.1.imp (fun q => by rw [fI_uI, if_neg (by omega)]; exact q) (fun q => by rw [fI_uI, if_neg (by omega)]; exact q), h4.2⟩
  · exact js_uI h2 (Or.inr (Or.inl rfl))
  · obtain ⟨q1, q2, q3⟩ := h3 x hx
    refine ⟨?_, ?_, ?_⟩
    · rw [fI_uI, if_neg (by omega), ua_2, if_neg (by omega)]; exact q1
    · rw [fI_uI, ua_2]
      by_cases e : x = b
      · subst e; rw [if_pos ⟨rfl, rfl⟩, if_pos ⟨rfl, rfl⟩]
      · rw [if_neg (fun q => e (h2.1.2 _ _ hx hb q.2)), if_neg (fun q => e q.2)]; exact q2
    · rw [fI_uI, if_neg (by omega), ua_2, if_neg (by omega)]; exact q3
theorem vj_10 {b z : Int} (h : VJ A T ρ c s) (hb : T b) (hρ : ρ b = none) : VJ A T ρ (uI c (A b) 10 z) (ua s 21 b z) := by
  obtain ⟨h1, h2, h3, h4⟩ := h
  refine ⟨h1, ?_, fun x hx => ?_, h4.1.imp (fun q => by rw [fI_uI, if_neg (by omega)]; exact q) (fun q => by rw [fI_uI, if_neg (by omega)]; exact q), h4.2⟩
  · exact js_uI h2 (Or.inr (Or.inr rfl))
  · obtain ⟨q1, q2, q3⟩ := h3 x hx
    refine ⟨?_, ?_, ?_⟩
    · rw [fI_uI, if_neg (by omega), ua_2, if_neg (by omega)]; exact q1
    · rw [fI_uI, if_neg (by omega), ua_2, if_neg (by omega)]; exact q2
    · rw [fI_uI, ua_2]
      by_cases e : x = b
      · subst e; rw [if_pos ⟨rfl, rfl⟩, if_pos ⟨rfl, rfl⟩, hρ]; rfl
      · rw [if_neg (fun q => e (h2.1.2 _ _ hx hb q.2)), if_neg (fun q => e q.2)]; exact q3
/-- another reason for now -/
def ro (ρ : Int → Option Int) (b z : Int) : Int → Option Int := fun x => if x = b then some z else ρ x
theorem vj_ro {b z : Int} (h : VJ A T ρ c s) (hb : T b) : VJ A T (ro ρ b z) (uI c (A b) 10 z) s := by
  obtain ⟨h1, h2, h3, h4⟩ := h
  refine ⟨h1, ?_, fun x hx => ?_, h4.1.imp (fun q => by rw [fI_uI, if_neg (by omega)]; exact q) (fun q => by rw [fI_uI, if_neg (by omega)]; exact q), h4.2⟩
  · exact js_uI h2 (Or.inr (Or.inr rfl))
  · obtain ⟨q1, q2, q3⟩ := h3 x hx
    refine ⟨?_, ?_, ?_⟩
    · rw [fI_uI, if_neg (by omega)]; exact q1
    · rw [fI_uI, if_neg (by omega)]; exact q2
    · unfold ro
      rw [fI_uI]
      by_cases e : x = b
      · subst e; rw [if_pos ⟨rfl, rfl⟩, if_pos rfl]; rfl
      · rw [if_neg (fun q => e (h2.1.2 _ _ hx hb q.2)), if_neg e]; exact q3
theorem vj_or {b z : Int} (h : VJ A T (ro ρ b z) c s) (hρ : ρ b = none) : VJ A T ρ c (ua s 21 b z) := by
  obtain ⟨h1, h2, h3, h4⟩ := h
  refine ⟨h1, h2, fun x hx => ?_, h4⟩
  obtain ⟨q1, q2, q3⟩ := h3 x hx
  refine ⟨?_, ?_, ?_⟩
  · rw [ua_2, if_neg (by omega)]; exact q1
  · rw [ua_2, if_neg (by omega)]; exact q2
  · rw [ua_2]
    unfold ro at q3
    by_cases e : x = b
    · subst e
      rw [if_pos rfl] at q3
      rw [if_pos ⟨rfl, rfl⟩, hρ]
      exact q3
    · rw [if_neg e] at q3
      rw [if_neg (fun q => e q.2)]
      exact q3
theorem cxj_w {a q : Nat} {z : Int} (h : kl c a = 5) (hy : q = 8 ∨ q = 9 ∨ q = 10) : CX jys jrs c (uI c a q z) ∧ RMk 0 0 c (uI c a q z) := ⟨CX.rf.uI (fun _ => ky25 a _ q h hy), RMk.rf⟩
theorem VJ.k5 (h : VJ A T ρ c s) {b : Int} (hb : T b) : kl c (A b) = 5 := (h.2.1.2 b hb).1.2.1
theorem VJ.dy (h : VJ A T ρ c s) {b : Int} (hb : T b) : fI c (A b) 8 = s.2 20 b ∧ fI c (A b) 9 = s.2 19 b ∧ fI c (A b) 10 = (ρ b).getD (s.2 21 b) := h.2.2.1 b hb
/-- a row of kinds is written -/
theorem vj_row {r i a b z : Int} (h : VJ A T ρ c s) : VJ A T ρ (uA (uA (uA (uA c 66 r i) 67 r a) 68 r b) 69 r z) (ua (ua (ua (ua s 4 r i) 5 r a) 6 r b) 7 r z) := by
  obtain ⟨h1, h2, h3, h4, e4, e5, e6, e7⟩ := h
  refine ⟨h1, h2, h3, h4, ?_, ?_, ?_, ?_⟩
  · funext j
    simp only [aI_uA, ua_2, e4]
    simp
  · funext j
    simp only [aI_uA, ua_2, e5]
    simp
  · funext j
    simp only [aI_uA, ua_2, e6]
    simp
  · funext j
    simp only [aI_uA, ua_2, e7]
    simp
theorem vj_used {z : Int} (h : VJ A T ρ c s) : VJ A T ρ (uI c 65 5 z) (us s 3 z) := by
  obtain ⟨h1, h2, h3, ⟨g1, g2⟩, h5⟩ := h
  have hk : kl c 65 = 4 := by simp only [h1.1]
  have ne : ∀ b, T b → A b ≠ 65 := fun b hb q => by
    have := (h2.2 b hb).1.2.1
    rw [q, hk] at this
    omega
  have e : ∀ b, T b → ∀ y, fI (uI c 65 5 z) (A b) y = fI c (A b) y := fun b hb y => by rw [fI_uI, if_neg (fun q => ne b hb q.2)]
  refine ⟨h1, ⟨h2.1, fun b hb => ?_⟩, fun b hb => ?_, ⟨?_, ?_⟩, h5⟩
  · obtain ⟨p1, ⟨p2, p3, p4, p5⟩, ⟨p6, p7, p8⟩, p9⟩ := h2.2 b hb
    exact ⟨p1, ⟨(e b hb _).trans p2, (e b hb _).trans p3, (e b hb _).trans p4, p5⟩, ⟨p6, fun q => (e b hb _).trans (p7 q), p8⟩, p9⟩
  · obtain ⟨q1, q2, q3⟩ := h3 b hb
    exact ⟨(e b hb _).trans q1, (e b hb _).trans q2, (e b hb _).trans q3⟩
  · rw [fI_uI, if_neg (by omega), us_1, if_neg (by decide)]; exact g1
  · rw [fI_uI, if_pos ⟨rfl, rfl⟩, us_1, if_pos rfl]

/-- answers that are ints -/
def QF (A : Int → Nat) (T : Int → Prop) (ρ : Int → Option Int) (c : SC) (F : Int → SM → Prop) (z : Int) (e : SC) : Prop := ∃ w, VJ A T ρ e w ∧ (CX jys jrs c e ∧ RMk 0 0 c e) ∧ F z w
theorem toQ {as : List VV} {F : Int → SM → Prop} (h : ck iv L h0 d M as c (qi (QF A T ρ f F))) : ck iv L h0 d M as c (QJ A T ρ f (qi F)) := wc_mono h (Nat.le_refl _) (fun v e ⟨z, q1, w, a, b, q2⟩ => ⟨w, a, b, z, q1, q2⟩)
theorem inQ {as : List VV} {F : Int → SM → Prop} {d' : Nat} {G : Int → SC → Prop} (h : ck iv L h0 d M as c (QJ A T ρ c (qi F))) (hd : d ≤ d') (hG : ∀ z e w, VJ A T ρ e w → CX jys jrs c e ∧ RMk 0 0 c e → F z w → G z e) : ck iv L h0 d' M as c (qi G) := wc_mono h hd (fun v e ⟨w, a, b, z, q1, q2⟩ => ⟨z, q1, hG z e w a b q2⟩)
theorem QF.tr {F : Int → SM → Prop} {z : Int} (h1 : CX jys jrs c e ∧ RMk 0 0 c e) (h : QF A T ρ e F z f) : QF A T ρ c F z f := by
  obtain ⟨w, a, ⟨b1, b2⟩, q⟩ := h
  exact ⟨w, a, ⟨h1.1.tr b1, h1.2.tr b2⟩, q⟩
theorem sizeWith_ok {a b : Int} {F : Int → SC → Prop} (hv : FIX c ∧ JKi c s) (ha : 0 ≤ a ∧ a < 1440) (hb : 0 ≤ b ∧ b < 1440) (hz : 1 ≤ s.2 7 a ∧ s.2 7 a ≤ 40) (hz' : 1 ≤ s.2 7 b ∧ s.2 7 b ≤ 40) (hF : F (1 + s.2 7 a + s.2 7 b) c) : ck iv L h0 d 177 [vr 65, vi a, vi b] c (qi F) := by
  obtain ⟨h1, h4, e4, e5, e6, e7⟩ := hv
  refine C177 ?_
  simp only [h1.1, e7, true_and]
  refine ⟨by omega, by omega, by omega, by omega, hF⟩
theorem makeKind_okd {i a b : Int} (hs : KJs s) (hi : i = 3 ∨ i = 4) (ha : vks s a) (hb : vks s b) (hm : s.1 3 < 1440) : cj iv L h0 A T ρ k 1 65 [vr 307, vi i, vi a, vi b] s (qi fun r t => eqx [3] [4, 5, 6, 7] s t ∧ KJs t ∧ kext s t ∧ t.1 3 ≤ s.1 3 + 1 ∧ vks t r ∧ kts t r = kmk i (kts s a) (kts s b)) := by
  intro c a3 hv h3 hk
  have hm0 := hs.2.1
  have hn := hs.1.1
  have za := (hs.at ha).1
  have zb := (hs.at hb).1
  have la := ha.lt hn.2 hm0
  have lb := hb.lt hn.2 hm0
  have za' : ksz (kts s a) = s.2 7 a := kt_sz hs ha
  have zb' : ksz (kts s b) = s.2 7 b := kt_sz hs hb
  have hX := hv.1
  refine toQ ?_
  show ck iv L h0 (0 + 1) 181 [vr 65, vi i, vi a, vi b] c _
  refine C181 ⟨by simp only [hX.1], sizeWith_ok ⟨hX, hv.2.2.2⟩ (by omega) (by omega) za zb ⟨fun h40 => ?_, fun h40 => ⟨by simp only [hX.1], ?_⟩⟩⟩
  · refine ⟨s, hv, ⟨CX.rf, RMk.rf⟩, eqx.rf, hs, kext.rf, by omega, Or.inl ⟨by omega, by omega⟩, ?_⟩
    unfold kmk
    rw [za', zb', if_pos (by omega)]
    exact (kt_leaf hs).1 (hs.1.2.1 0 (by omega) (by omega)).1
  · obtain ⟨p1, p2, p3⟩ := kj_push hs hi ha hb (by omega)
    have e5 : fI c 65 5 = s.1 3 := hv.2.2.2.1.2
    rw [e5]
    refine ⟨fun _ => C175 ?_, fun q => by omega⟩
    simp only [hX.1, true_and]
    refine ⟨by omega, by omega, by omega, by omega, ?_⟩
    have hv2 := vj_row (r := s.1 3) (i := i) (a := a) (b := b) (z := 1 + s.2 7 a + s.2 7 b) hv
    have h5 : fI (uA (uA (uA (uA c 66 (s.1 3) i) 67 (s.1 3) a) 68 (s.1 3) b) 69 (s.1 3) (1 + s.2 7 a + s.2 7 b)) 65 5 = s.1 3 := hv2.2.2.2.1.2
    rw [h5]
    refine ⟨by simp only [kl_uA, hX.1], by omega, _, vj_used hv2, ⟨?_, ?_⟩, ?_, p1, p2, ?_, Or.inr ⟨hm0, ?_⟩, p3⟩
    · refine CX.uI (CX.uA (CX.uA (CX.uA (CX.uA CX.rf ?_) ?_) ?_) ?_) ?_
      · intro _; unfold rk; rw [if_pos (by decide)]; decide
      · intro _; unfold rk; rw [if_pos (by decide)]; decide
      · intro _; unfold rk; rw [if_pos (by decide)]; decide
      · intro _; unfold rk; rw [if_pos (by decide)]; decide
      · intro _; simp only [kl_uA, hX.1]; decide
    · exact RMk.rf
    · exact eqx_us (eqx_ua (eqx_ua (eqx_ua (eqx_ua eqx.rf (by decide)) (by decide)) (by decide)) (by decide)) (by decide)
    · show s.1 3 + 1 ≤ s.1 3 + 1
      omega
    · show s.1 3 < s.1 3 + 1
      omega
end
end
section
/-! Meeting kinds, kinds together, by the desk. -/
section
variable {iv : List (Int × Int)} {L : Nat} {h0 : MH} {A : Int → Nat} {T : Int → Prop} {ρ : Int → Option Int} {c e f : SC} {s w : SM} {k d M : Nat}
theorem kmt_n (x : Term) : kmt x .null = true := by cases x <;> rfl
theorem kmt_0 (x : Term) : kmt .null x = true := by cases x <;> rfl
/-- what kmt comes to, by the rows -/
theorem kmt_row {a b : Int} (hs : KJs s) (ha : vks s a) (hb : vks s b) (e0 : s.2 4 a ≠ 0) (e1 : s.2 4 b ≠ 0) : (s.2 4 a ≠ s.2 4 b → kmt (kts s a) (kts s b) = false) ∧ (s.2 4 a = s.2 4 b → s.2 4 a < 3 → kmt (kts s a) (kts s b) = true) ∧ (s.2 4 a = s.2 4 b → 3 ≤ s.2 4 a → kmt (kts s a) (kts s b) = (kmt (kts s (s.2 5 a)) (kts s (s.2 5 b)) && kmt (kts s (s.2 6 a)) (kts s (s.2 6 b))) ∧ ktg (kts s a) (kts s b) = kmk (s.2 4 a) (ktg (kts s (s.2 5 a)) (kts s (s.2 5 b))) (ktg (kts s (s.2 6 a)) (kts s (s.2 6 b)))) := by
  have leaf : ∀ k, (s.2 4 k = 0 → kts s k = .null) ∧ (s.2 4 k = 1 → kts s k = .result) ∧ (s.2 4 k = 2 → kts s k = .thrown) := fun k => kt_leaf hs
  have node : ∀ k, vks s k → (s.2 4 k = 3 → kts s k = .add (kts s (s.2 5 k)) (kts s (s.2 6 k))) ∧ (s.2 4 k = 4 → kts s k = .mul (kts s (s.2 5 k)) (kts s (s.2 6 k))) := fun k hk => kt_node hs hk
  have Ha := (hs.at ha).2.1
  have Hb := (hs.at hb).2.1
  refine ⟨fun h => ?_, fun h h3 => ?_, fun h h3 => ?_⟩
  · rcases (show s.2 4 a = 1 ∨ s.2 4 a = 2 ∨ s.2 4 a = 3 ∨ s.2 4 a = 4 by omega) with f | f | f | f <;> rcases (show s.2 4 b = 1 ∨ s.2 4 b = 2 ∨ s.2 4 b = 3 ∨ s.2 4 b = 4 by omega) with f2 | f2 | f2 | f2
    all_goals first
      | (exfalso; omega)
      | (rw [(leaf a).2.1 f, (leaf b).2.2 f2]; rfl)
      | (rw [(leaf a).2.1 f, (node b hb).1 f2]; rfl)
      | (rw [(leaf a).2.1 f, (node b hb).2 f2]; rfl)
      | (rw [(leaf a).2.2 f, (leaf b).2.1 f2]; rfl)
      | (rw [(leaf a).2.2 f, (node b hb).1 f2]; rfl)
      | (rw [(leaf a).2.2 f, (node b hb).2 f2]; rfl)
      | (rw [(node a ha).1 f, (leaf b).2.1 f2]; rfl)
      | (rw [(node a ha).1 f, (leaf b).2.2 f2]; rfl)
      | (rw [(node a ha).1 f, (node b hb).2 f2]; rfl)
      | (rw [(node a ha).2 f, (leaf b).2.1 f2]; rfl)
      | (rw [(node a ha).2 f, (leaf b).2.2 f2]; rfl)
      | (rw [(node a ha).2 f, (node b hb).1 f2]; rfl)
  · rcases (show s.2 4 a = 1 ∨ s.2 4 a = 2 by omega) with e5 | e5
    · rw [(leaf a).2.1 e5, (leaf b).2.1 (by omega)]; rfl
    · rw [(leaf a).2.2 e5, (leaf b).2.2 (by omega)]; rfl
  · rcases (show s.2 4 a = 3 ∨ s.2 4 a = 4 by omega) with e5 | e5
    · rw [(node a ha).1 e5, (node b hb).1 (by omega), e5]; exact ⟨rfl, rfl⟩
    · rw [(node a ha).2 e5, (node b hb).2 (by omega), e5]; exact ⟨rfl, rfl⟩
theorem meeting_okd (hX : FIX c ∧ JKi c s) (hs : KJs s) (hm6 : s.1 3 ≤ 1440) : ∀ (q : Nat) (a b dep : Int) (F : Int → SC → Prop), s.2 7 a ≤ q → 0 ≤ dep → dep + s.2 7 a ≤ 41 → vks s a → vks s b → F (if kmt (kts s a) (kts s b) then 1 else 0) c → ck iv L h0 q 183 [vr 65, vi a, vi b, vi dep] c (qi F) := by
  obtain ⟨hX, h4, e4, e5, e6, e7⟩ := hX
  have hm0 := hs.2.1
  have hn := hs.1.1
  intro q
  induction q with
  | zero => intro a b dep F h1 _ _ ha hb; have := (hs.at ha).1; omega
  | succ q ih =>
    intro a b dep F h1 hd0 hdep ha hb hF
    have Ha := hs.at ha
    have Hb := hs.at hb
    have la := ha.lt hn.2 hm0
    have lb := hb.lt hn.2 hm0
    refine C183 ?_
    simp only [hX.1, e4, e5, e6, true_and]
    refine ⟨by omega, fun e => ?_, fun e0 => ⟨by omega, fun e => ?_, fun e1 => ⟨fun _ => ⟨fun h => ⟨fun h3 => ?_, fun h3 => ?_⟩, fun h => ?_⟩, fun h => by omega⟩⟩⟩
    · rw [show kts s a = .null from (kt_leaf hs).1 e, kmt_0] at hF
      exact hF
    · rw [show kts s b = .null from (kt_leaf hs).1 e, kmt_n] at hF
      exact hF
    · rw [(kmt_row hs ha hb e0 e1).2.1 h h3] at hF
      exact hF
    · obtain ⟨a3, va, wa, ea, sa, ta⟩ := Ha.2.2.2 h3
      obtain ⟨b3, vb, wb, eb, sb, tb⟩ := Hb.2.2.2 (by omega)
      have va' : vks s (s.2 5 a) := va.up (by omega)
      have wa' : vks s (s.2 6 a) := wa.up (by omega)
      have vb' : vks s (s.2 5 b) := vb.up (by omega)
      have wb' : vks s (s.2 6 b) := wb.up (by omega)
      rw [((kmt_row hs ha hb e0 e1).2.2 h h3).1] at hF
      refine ⟨by omega, by omega, by omega, ih _ _ _ _ (by omega) (by omega) (by omega) va' vb' ?_⟩
      cases hc : kmt (kts s (s.2 5 a)) (kts s (s.2 5 b)) with
      | false =>
        rw [hc] at hF
        exact ⟨fun _ => hF, fun q => absurd rfl q⟩
      | true =>
        rw [hc] at hF
        refine ⟨fun q => absurd q (by decide), fun _ => ?_⟩
        simp only [hX.1, e6, true_and]
        refine ⟨by omega, by omega, ih _ _ _ _ (by omega) (by omega) (by omega) wa' wb' ?_⟩
        cases hc2 : kmt (kts s (s.2 6 a)) (kts s (s.2 6 b)) with
        | false =>
          rw [hc2] at hF
          exact ⟨fun _ => hF, fun q => absurd rfl q⟩
        | true =>
          rw [hc2] at hF
          exact ⟨fun q => absurd q (by decide), fun _ => hF⟩
    · rw [(kmt_row hs ha hb e0 e1).1 h] at hF
      exact hF
theorem doMeet_ok {a b : Int} {F : Int → SC → Prop} (hX : FIX c ∧ JKi c s) (hs : KJs s) (hm6 : s.1 3 ≤ 1440) (ha : vks s a) (hb : vks s b) (hd : 41 ≤ d) (hF : F (if kmt (kts s a) (kts s b) then 1 else 0) c) : ck iv L h0 d 182 [vr 65, vi a, vi b] c (qi F) := by
  obtain ⟨d, rfl⟩ : ∃ k, d = k + 1 := ⟨d - 1, by omega⟩
  have := (hs.at ha).1
  refine C182 ⟨by simp only [hX.1.1], meeting_okd hX hs hm6 d a b 0 _ (by omega) (by omega) (by omega) ha hb ⟨?_, hF⟩⟩
  cases kmt (kts s a) (kts s b) with
  | true => exact Or.inr rfl
  | false => exact Or.inl rfl
theorem areMeeting_okd {a b : Int} (hs : KJs s) (hm6 : s.1 3 ≤ 1440) (ha : vks s a) (hb : vks s b) : cj iv L h0 A T ρ k 41 70 [vr 307, vi a, vi b] s (qi fun r t => t = s ∧ r = if kmt (kts s a) (kts s b) then 1 else 0) := by
  intro c a3 hv h3 hk
  refine toQ ?_
  show ck iv L h0 41 182 [vr 65, vi a, vi b] c _
  exact doMeet_ok ⟨hv.1, hv.2.2.2⟩ hs hm6 ha hb (Nat.le_refl _) ⟨s, hv, ⟨CX.rf, RMk.rf⟩, rfl, rfl⟩
theorem together_gen : ∀ (q : Nat) (c : SC) (s : SM) (a b dep : Int), VJ A T ρ c s → KJs s → s.2 7 a ≤ q → 0 ≤ dep → dep + s.2 7 a ≤ 41 → vks s a → vks s b → kmt (kts s a) (kts s b) = true → 2 * s.1 3 + s.2 7 a ≤ 2880 → ck iv L h0 (q + 1) 184 [vr 65, vi a, vi b, vi dep] c (qi (QF A T ρ c (fun r t => eqx [3] [4, 5, 6, 7] s t ∧ KJs t ∧ kext s t ∧ 2 * t.1 3 + 1 ≤ 2 * s.1 3 + s.2 7 a ∧ vks t r ∧ kts t r = ktg (kts s a) (kts s b)))) := by
  intro q
  induction q with
  | zero => intro c s a b dep _ hs h1 _ _ ha; have := (hs.at ha).1; omega
  | succ q ih =>
    intro c s a b dep hv hs h1 hd0 hdep ha hb hmt h6
    have hm0 := hs.2.1
    have hn := hs.1.1
    have leaf : ∀ k, (s.2 4 k = 0 → kts s k = .null) ∧ (s.2 4 k = 1 → kts s k = .result) ∧ (s.2 4 k = 2 → kts s k = .thrown) := fun k => kt_leaf hs
    have Ha := hs.at ha
    have Hb := hs.at hb
    have la := ha.lt hn.2 hm0
    have lb := hb.lt hn.2 hm0
    have same : ∀ (r : Int), vks s r → kts s r = ktg (kts s a) (kts s b) → QF A T ρ c (fun r t => eqx [3] [4, 5, 6, 7] s t ∧ KJs t ∧ kext s t ∧ 2 * t.1 3 + 1 ≤ 2 * s.1 3 + s.2 7 a ∧ vks t r ∧ kts t r = ktg (kts s a) (kts s b)) r c := fun r hr hk => ⟨s, hv, ⟨CX.rf, RMk.rf⟩, eqx.rf, hs, kext.rf, by omega, hr, hk⟩
    obtain ⟨hX, -, -, h4, e4, e5, e6, e7⟩ := id hv
    refine C184 ?_
    simp only [hX.1, e4, e5, e6, true_and]
    refine ⟨by omega, fun e => same b hb ?_, fun e0 => ⟨fun _ => ⟨by omega, fun e => same a ha ?_, fun e1 => ⟨fun h3 => ?_, fun h3 => same a ha ?_⟩⟩, fun h => by omega⟩⟩
    · rw [(leaf a).1 e]; cases kts s b <;> rfl
    · rw [(leaf b).1 e]
      cases kts s a <;> rfl
    · obtain ⟨a3, va, wa, ea, sa, ta⟩ := Ha.2.2.2 h3
      have hsame : s.2 4 a = s.2 4 b := by
        by_cases q : s.2 4 a = s.2 4 b
        · exact q
        · rw [(kmt_row hs ha hb e0 e1).1 q] at hmt
          cases hmt
      obtain ⟨hk, hg⟩ := (kmt_row hs ha hb e0 e1).2.2 hsame h3
      rw [hk] at hmt
      have hk2 := Bool.and_eq_true_iff.mp hmt
      obtain ⟨b3, vb, wb, eb, sb, tb⟩ := Hb.2.2.2 (by omega)
      have va' : vks s (s.2 5 a) := va.up (by omega)
      have wa' : vks s (s.2 6 a) := wa.up (by omega)
      have vb' : vks s (s.2 5 b) := vb.up (by omega)
      have wb' : vks s (s.2 6 b) := wb.up (by omega)
      refine ⟨by omega, by omega, by omega, wci_mono (ih c s _ _ _ hv hs (by omega) (by omega) (by omega) va' vb' hk2.1 (by omega)) (Nat.le_refl _) ?_⟩
      rintro r1 c1 ⟨t, hv1, hx1, q1, q2, q3, q4, q5, q6⟩
      have va2 := kext_vk q3 va'
      have wa2 := kext_vk q3 wa'
      have wb2 := kext_vk q3 wb'
      have ra := q3.2.2 a la.2
      have rb := q3.2.2 b lb.2
      have rwa := q3.2.2 _ (wa'.lt hn.2 hm0).2
      obtain ⟨hX1, -, -, h41, e41, e51, e61, e71⟩ := id hv1
      simp only [hX1.1, e61, e41, true_and]
      rw [ra.2.2.1, rb.2.2.1]
      refine ⟨by omega, by omega, wci_mono (ih c1 t _ _ _ hv1 q2 (by rw [rwa.2.2.2]; omega) (by omega) (by rw [rwa.2.2.2]; omega) wa2 wb2 (by rw [kext_kt q3 hs wa', kext_kt q3 hs wb']; exact hk2.2) (by rw [rwa.2.2.2]; omega)) (Nat.le_refl _) ?_⟩
      rintro r2 c2 ⟨u, hv2, hx2, p1, p2, p3, p4, p5, p6⟩
      rw [rwa.2.2.2] at p4
      obtain ⟨hX2, -, -, h42, e42, e52, e62, e72⟩ := id hv2
      have ra2 := (p3.2.2 a (Int.lt_of_lt_of_le la.2 q3.2.1)).1
      simp only [hX2.1, e42, true_and]
      rw [ra2, ra.1]
      refine ⟨by omega, inQ (makeKind_okd (A := A) (T := T) (ρ := ρ) (k := 0) p2 (by omega) (kext_vk p3 q5) p5 (by omega) c2 0 hv2 (Int.le_refl _) (by decide)) (by omega) ?_⟩
      rintro r3 c3 w hv3 hx3 ⟨o1, o2, o3, o4, o5, o6⟩
      refine QF.tr hx1 (QF.tr hx2 ⟨w, hv3, hx3, (q1.tr p1).tr o1, o2, (q3.tr p3).tr o3, by omega, o5, ?_⟩)
      rw [o6, kext_kt p3 q2 q5, q6, p6, kext_kt q3 hs wa', kext_kt q3 hs wb', hg]
    · rcases (show s.2 4 a = 1 ∨ s.2 4 a = 2 by omega) with f | f
      · rw [(leaf a).2.1 f]; cases kts s b <;> rfl
      · rw [(leaf a).2.2 f]; cases kts s b <;> rfl
theorem together_okd {a b : Int} (hs : KJs s) (ha : vks s a) (hb : vks s b) (hmt : kmt (kts s a) (kts s b) = true) (h6 : s.1 3 + 20 ≤ 1440) : cj iv L h0 A T ρ k 41 71 [vr 307, vi a, vi b] s (qi fun r t => eqx [3] [4, 5, 6, 7] s t ∧ KJs t ∧ kext s t ∧ t.1 3 ≤ s.1 3 + 20 ∧ vks t r ∧ kts t r = ktg (kts s a) (kts s b)) := by
  intro c a3 hv h3 hk
  have h1 := (hs.at ha).1
  refine toQ (wci_mono (together_gen (A := A) (T := T) (ρ := ρ) 40 c s a b 0 hv hs (by omega) (Int.le_refl _) (by omega) ha hb hmt (by omega)) (Nat.le_refl _) ?_)
  rintro r e ⟨t, q0, q1, q2, q3, q4, q5, q6, q7⟩
  exact ⟨t, q0, q1, q2, q3, q4, by omega, q6, q7⟩
end
end
section
/-! What binds a letter, by the desk. -/
section
variable {iv : List (Int × Int)} {L : Nat} {h0 : MH} {A : Int → Nat} {T : Int → Prop} {ρ : Int → Option Int} {c e f : SC} {s w : SM} {k d M : Nat}
theorem bnd_T {so nu pl : Int → Int} (h : ∀ b, T b → s.2 12 b = -9 ∨ T (s.2 12 b)) : ∀ (n : Nat) (b x : Int), T b → bnd so nu (s.2 12) pl n b x = -9 ∨ T (bnd so nu (s.2 12) pl n b x) := by
  intro n
  induction n with
  | zero => intro b x _; exact Or.inl rfl
  | succ n ih =>
    intro b x hb
    unfold bnd
    by_cases e : s.2 12 b = -9
    · rw [if_pos e]; exact Or.inl rfl
    · rw [if_neg e]
      have hu := (h b hb).resolve_left e
      split
      · exact Or.inr hu
      · exact ih _ x hu
theorem nb_ok {nu : Int → Int} {q z : Int} (hS : JS A T c s) (hq : q = -9 ∨ T q) (hnu : ∀ y, T y → nu y = if y = q then z else s.2 10 y) {n : Nat} {b x : Int} {F : Nat → SC → Prop} (hb : T b) (hD : DP (s.2 12) n b) (hF : F (A (bnd (s.2 9) nu (s.2 12) (s.2 13) n b x)) c) : ck iv L h0 d 56 [vr (A b), vi x, vr (A q), vi z] c (qa F) := by
  have A9 := hS.1.1
  have hq64 : A q = 2 ∨ 64 ≤ A q := by
    rcases hq with e | e
    · left; rw [e]; exact A9
    · right; exact (hS.2 q e).1.1
  have key : ∀ (n : Nat) (b : Int), T b → DP (s.2 12) n b → F (A (bnd (s.2 9) nu (s.2 12) (s.2 13) n b x)) c → wk iv L h0 d 56 9 [ln, li x, lr (A q), li z, lr (A b), lr (A (s.2 12 b))] [] c (qa F) := by
    intro n
    induction n with
    | zero => intro b _ hD _; exact hD.elim
    | succ n ih =>
      intro b hb hD hF
      unfold bnd at hF
      obtain ⟨⟨p1, p2, p3, p4⟩, ⟨p5, p6, p7, p8⟩, ⟨p9, p10, p11⟩, p12⟩ := hS.2 b hb
      by_cases e : s.2 12 b = -9
      · rw [if_pos e, A9] at hF
        rw [e, A9]
        exact C56_9 ⟨fun _ => hF, fun h => absurd rfl h⟩
      · rw [if_neg e] at hF
        have hu := p11.resolve_left e
        obtain ⟨⟨u1, u2, u3, u4⟩, ⟨u5, u6, u7, u8⟩, ⟨u9, u10, u11⟩, u12⟩ := hS.2 _ hu
        have hne : A (s.2 12 b) ≠ 2 := by omega
        have nx : ¬ ((s.2 9 (s.2 12 b) = 8 ∨ (s.2 9 (s.2 12 b) = 10 ∧ s.2 13 b = 1)) ∧ nu (s.2 12 b) = x) → wk iv L h0 d 56 9 [ln, li x, lr (A q), li z, lr (A (s.2 12 b)), lr (fR c (A (s.2 12 b)) 5)] [] c (qa F) := fun w => by
          rw [u9]
          exact ih _ hu (hD.resolve_left e).2 (by rw [if_neg w] at hF; exact hF)
        have st : ((s.2 9 (s.2 12 b) = 8 ∨ (s.2 9 (s.2 12 b) = 10 ∧ s.2 13 b = 1)) ∧ nu (s.2 12 b) = x) → F (A (s.2 12 b)) c := fun w => by rw [if_pos w] at hF; exact hF
        have hn := hnu _ hu
        have iq : A (s.2 12 b) = A q ↔ s.2 12 b = q := by
          constructor
          · intro w
            rcases hq with e' | e'
            · rw [e', A9] at w; exact absurd w hne
            · exact hS.1.2 _ _ hu e' w
          · intro w; rw [w]
        refine C56_9 ⟨fun w => absurd w hne, fun _ => ⟨u2, ?_⟩⟩
        rw [u5, u6]
        have both : (s.2 9 (s.2 12 b) = 8 ∨ (s.2 9 (s.2 12 b) = 10 ∧ s.2 13 b = 1)) → (A (s.2 12 b) = 2 ∨ 64 ≤ A (s.2 12 b)) ∧ (A q = 2 ∨ 64 ≤ A q) ∧ (A (s.2 12 b) ≠ A q → (s.2 10 (s.2 12 b) ≠ x → wk iv L h0 d 56 9 [ln, li x, lr (A q), li z, lr (A (s.2 12 b)), lr (fR c (A (s.2 12 b)) 5)] [] c (qa F)) ∧ (s.2 10 (s.2 12 b) = x → F (A (s.2 12 b)) c)) ∧ (A (s.2 12 b) = A q → (z ≠ x → wk iv L h0 d 56 9 [ln, li x, lr (A q), li z, lr (A (s.2 12 b)), lr (fR c (A (s.2 12 b)) 5)] [] c (qa F)) ∧ (z = x → F (A (s.2 12 b)) c)) := fun hs => by
          refine ⟨Or.inr u1, hq64, fun w => ?_, fun w => ?_⟩
          · rw [if_neg (fun w' => w (iq.mpr w'))] at hn
            exact ⟨fun v => nx (fun v' => v (by rw [← hn]; exact v'.2)), fun v => st ⟨hs, by rw [hn]; exact v⟩⟩
          · rw [if_pos (iq.mp w)] at hn
            exact ⟨fun v => nx (fun v' => v (by rw [← hn]; exact v'.2)), fun v => st ⟨hs, by rw [hn]; exact v⟩⟩
        refine ⟨fun e8 => both (Or.inl e8), fun e8 => ⟨fun e10 => nx (fun v => by rcases v.1 with v | v; exact e8 v; exact e10 v.1), fun e10 => ⟨p2, fun e1 => nx (fun v => by rcases v.1 with v | v; exact e8 v; exact e1 (by rw [p10 e]; exact v.2)), fun e1 => both (Or.inr ⟨e10, by rw [← p10 e]; exact e1⟩)⟩⟩⟩
  obtain ⟨⟨p1, p2, p3, p4⟩, ⟨p5, p6, p7, p8⟩, ⟨p9, p10, p11⟩, p12⟩ := hS.2 b hb
  refine C56 ⟨p2, ?_⟩
  rw [p9]
  exact key n b hb hD hF
theorem nb0_ok {n : Nat} {b x : Int} {F : Nat → SC → Prop} (hS : JS A T c s) (hb : T b) (hD : DP (s.2 12) n b) (hF : F (A (bnd (s.2 9) (s.2 10) (s.2 12) (s.2 13) n b x)) c) : ck iv L h0 d 56 [vr (A b), vi x, vr 2, vi (-9)] c (qa F) := by
  have := nb_ok (iv := iv) (L := L) (h0 := h0) (d := d) (nu := s.2 10) (q := -9) (z := -9) (F := F) hS (Or.inl rfl) (fun y hy => by
    rw [if_neg (fun e => ?_)]
    have h64 := (hS.2 y hy).1.1
    rw [e, hS.1.1] at h64
    omega) hb hD hF
  rw [hS.1.1] at this
  exact this
end
end
section
/-! Making, a sort at a time, by the desk. Printed by wip/gen2/gen_dmake.py. -/
section
variable {iv : List (Int × Int)} {L : Nat} {h0 : MH} {A : Int → Nat} {T : Int → Prop} {ρ : Int → Option Int} {c e f : SC} {s w : SM} {k d M : Nat}
abbrev CXR (c e : SC) : Prop := CX jys jrs c e ∧ RMk 0 0 c e
theorem CXR.t (h1 : CXR c e) (h2 : CXR e f) : CXR c f := ⟨h1.1.tr h2.1, h1.2.tr h2.2⟩
theorem cjg {as : List VV} {F : Int → SM → Prop} {G : Int → SC → Prop} {a3 : Int} {k' d' : Nat} (h : cj iv L h0 A T ρ k' d' M as s (qi F)) (hv : VJ A T ρ e s) (h3 : 0 ≤ a3) (hk : a3 + k' ≤ 65) (hx : CXR c e) (hG : ∀ z f w, VJ A T ρ f w → CXR c f → F z w → G z f) : ck iv L h0 d' (tgM A M as a3).1 (tgM A M as a3).2 e (qi G) := inQ (h e a3 hv h3 hk) (Nat.le_refl _) (fun z f w a b q => hG z f w a (hx.t b) q)
theorem cjq {as : List VV} {F : Int → SM → Prop} {a3 : Int} {k' d' : Nat} (h : cj iv L h0 A T ρ k' d' M as s (qi F)) (hv : VJ A T ρ e s) (h3 : 0 ≤ a3) (hk : a3 + k' ≤ 65) (hx : CXR c e) : ck iv L h0 d' (tgM A M as a3).1 (tgM A M as a3).2 e (qi (QF A T ρ c F)) := cjg h hv h3 hk hx (fun z f w a b q => ⟨w, a, b, q⟩)
theorem ua_same {f : Nat} {i z : Int} (h : s.2 f i = z) : ua s f i z = s := by
  refine Prod.ext rfl (funext fun k => funext fun j => ?_)
  show (if k = f ∧ j = i then z else s.2 k j) = s.2 k j
  split
  · rename_i q
    rw [q.1, q.2, h]
  · rfl
theorem D87 {b : Int} {F : Int → SM → Prop} (hT : T b) (hρ : ρ b = none) (H : (s.2 21 b ≠ 0 → F 0 s) ∧ (s.2 21 b = 0 → F (s.2 19 b) s)) : cj iv L h0 A T ρ k d 87 [vr 307, vi b] s (qi F) := by
  intro c a3 hv h3 hk
  refine toQ ?_
  show ck iv L h0 d 189 [vr (A b)] c _
  obtain ⟨q1, q2, q3⟩ := hv.dy hT
  rw [hρ] at q3
  refine C189 ⟨hv.k5 hT, ?_⟩
  rw [q2, q3]
  exact ⟨fun h => ⟨s, hv, ⟨CX.rf, RMk.rf⟩, H.1 h⟩, fun h => ⟨s, hv, ⟨CX.rf, RMk.rf⟩, H.2 h⟩⟩
theorem D88 {a1 a2 : Int} {F : Int → SM → Prop} (hT : T a1) (hρ : ρ a1 = none) (H : cj iv L h0 A T ρ k d 89 [vr 307, vi a1, vi a2] (ua (ua s 20 a1 a2) 21 a1 0) (qi fun r3 s2 => ((a2 = (-1) → cj iv L h0 A T ρ k d 87 [vr 307, vi a1] (ua s2 19 a1 r3) (qi fun r5 s4 => F r5 s4)) ∧ (a2 ≠ (-1) → ((s2.2 21 a1 ≠ 0 → cj iv L h0 A T ρ k d 87 [vr 307, vi a1] (ua s2 19 a1 r3) (qi fun r7 s6 => F r7 s6)) ∧ (s2.2 21 a1 = 0 → ((s2.2 9 a1 = 10 → cj iv L h0 A T ρ k d 87 [vr 307, vi a1] (ua s2 19 a1 r3) (qi fun r9 s8 => F r9 s8)) ∧ (s2.2 9 a1 ≠ 10 → ((s2.2 9 a1 = 11 → cj iv L h0 A T ρ k d 87 [vr 307, vi a1] (ua s2 19 a1 r3) (qi fun r11 s10 => F r11 s10)) ∧ (s2.2 9 a1 ≠ 11 → cj iv L h0 A T ρ k d 70 [vr 307, vi a2, vi r3] (ua s2 19 a1 r3) (qi fun r13 s12 => ((r13 ≠ 0 → cj iv L h0 A T ρ k d 87 [vr 307, vi a1] s12 (qi fun r15 s14 => F r15 s14)) ∧ (r13 = 0 → cj iv L h0 A T ρ k d 87 [vr 307, vi a1] (ua s12 21 a1 6) (qi fun r17 s16 => F r17 s16)))))))))))))) : cj iv L h0 A T ρ (k + 1) (d + 1) 88 [vr 307, vi a1, vi a2] s (qi F) := by
  intro c a3 hv h3 hk
  refine toQ ?_
  show ck iv L h0 (d + 1) 165 [vr 175, vr (A a1), vi a2, vi a3] c _
  have hk5 := hv.k5 hT
  have h1 := vj_10 (z := 0) (vj_8 (z := a2) hv hT) hT hρ
  have x1 : CXR c (uI (uI c (A a1) 8 a2) (A a1) 10 0) := ⟨(CX.rf.uI (fun _ => ky25 _ _ 8 hk5 (by decide))).uI (fun _ => ky25 _ _ 10 hk5 (by decide)), RMk.rf⟩
  have k3 : kl c 175 = 3 := by simp only [hv.1.1]
  refine C165 ⟨fun _ => ⟨hk5, by omega, k3, cjg (a3 := a3 + 1) H h1 (by omega) (by omega) x1 ?_⟩, fun h => by omega⟩
  rintro r e s2 hv2 hx2 ⟨g1, g2⟩
  have hk5' := hv2.k5 hT
  obtain ⟨d1, d2, d3⟩ := hv2.dy hT
  rw [hρ] at d3
  have d9 : fI e (A a1) 1 = s2.2 9 a1 := (hv2.2.1.2 a1 hT).2.1.1
  have h2 := vj_9 (z := r) hv2 hT
  have x2 : CXR c (uI e (A a1) 9 r) := hx2.t ⟨CX.rf.uI (fun _ => ky25 _ _ 9 hk5' (by decide)), RMk.rf⟩
  have e9 : fI (uI e (A a1) 9 r) (A a1) 9 = r := by rw [fI_uI, if_pos ⟨rfl, rfl⟩]
  have k3' : kl e 175 = 3 := by simp only [hv2.1.1]
  have f3' : fR e 175 0 = 65 := by simp only [hv2.1.1]
  have k4' : kl e 65 = 4 := by simp only [hv2.1.1]
  rw [d3, d9, e9, f3']
  refine ⟨hk5', fun q => cjq (a3 := 0) (g1 q) h2 (Int.le_refl _) (by omega) x2, fun q => ⟨fun q2 => cjq (a3 := 0) ((g2 q).1 q2) h2 (Int.le_refl _) (by omega) x2, fun q2 => ⟨fun q3 => cjq (a3 := 0) (((g2 q).2 q2).1 q3) h2 (Int.le_refl _) (by omega) x2, fun q3 => ⟨fun q4 => cjq (a3 := 0) ((((g2 q).2 q2).2 q3).1 q4) h2 (Int.le_refl _) (by omega) x2, fun q4 => ⟨k3', k4', cjg (a3 := 0) ((((g2 q).2 q2).2 q3).2 q4) h2 (Int.le_refl _) (by omega) x2 ?_⟩⟩⟩⟩⟩
  rintro r5 e5 s5 hv5 hx5 ⟨g5, g6⟩
  have hk55 := hv5.k5 hT
  exact ⟨fun q => ⟨hk55, cjq (a3 := 0) (g5 q) hv5 (Int.le_refl _) (by omega) hx5⟩, fun q => ⟨hk55, cjq (a3 := 0) (g6 q) (vj_10 hv5 hT hρ) (Int.le_refl _) (by omega) (hx5.t ⟨CX.rf.uI (fun _ => ky25 _ _ 10 hk55 (by decide)), RMk.rf⟩)⟩⟩
/-- a node and its parts -/
theorem VJ.st (h : VJ A T ρ c s) {b : Int} (hb : T b) : kl c (A b) = 5 ∧ fI c (A b) 1 = s.2 9 b ∧ fI c (A b) 4 = s.2 10 b ∧ fI c (A b) 2 = s.2 11 b ∧ fR c (A b) 3 = A b + 1 ∧ kl c (A b + 1) = 103 ∧ le c (A b + 1) = pO (s.2 9 b) ∧ (∀ i, 0 ≤ i → i < pO (s.2 9 b) → aR c (A b + 1) i = A (s.2 14 (3 * b + i)) ∧ T (s.2 14 (3 * b + i))) := by
  obtain ⟨⟨p1, p2, p3, p4⟩, ⟨p5, p6, p7, p8⟩, ⟨p9, p10, p11⟩, p12⟩ := h.2.1.2 b hb
  exact ⟨p2, p5, p6, p7, p8, p3, p4, p12⟩
theorem VJ.p0 (h : VJ A T ρ c s) {b : Int} (hb : T b) (hp : 0 < pO (s.2 9 b)) : aR c (A b + 1) 0 = A (s.2 14 (3 * b)) ∧ T (s.2 14 (3 * b)) := by
  have := (h.st hb).2.2.2.2.2.2.2 0 (Int.le_refl _) hp
  rw [Int.add_zero] at this
  exact this

theorem dmk_0 {a1 a2 : Int} {F : Int → SM → Prop} (hT : T a1) (e : s.2 9 a1 = 0) (H : F 0 s) : cj iv L h0 A T ρ k (d + 1) 89 [vr 307, vi a1, vi a2] s (qi F) := by
  intro c a3 hv h3 hk
  refine toQ ?_
  show ck iv L h0 (d + 1) 166 [vr 175, vr (A a1), vi a2, vi a3] c _
  obtain ⟨n1, n2, n3, n4, n5, n6, n7, n8⟩ := hv.st hT
  have k3 : kl c 175 = 3 := by simp only [hv.1.1]
  refine C166 ⟨n1, ?_⟩
  rw [n2, n5, n6, n7]
  refine ⟨fun q => by exfalso; omega, fun q => by exfalso; omega, fun q => by exfalso; omega, fun q => by exfalso; omega, fun q => by exfalso; omega, fun q => by exfalso; omega, fun q => by exfalso; omega, fun q => by exfalso; omega, fun q => by exfalso; omega, fun q => by exfalso; omega, fun q => by exfalso; omega, ?_⟩
  exact fun _ => ⟨s, hv, ⟨CX.rf, RMk.rf⟩, H⟩
theorem dmk_1 {a1 a2 : Int} {F : Int → SM → Prop} (hT : T a1) (e : s.2 9 a1 = 1) (H : F 1 s) : cj iv L h0 A T ρ k (d + 1) 89 [vr 307, vi a1, vi a2] s (qi F) := by
  intro c a3 hv h3 hk
  refine toQ ?_
  show ck iv L h0 (d + 1) 166 [vr 175, vr (A a1), vi a2, vi a3] c _
  obtain ⟨n1, n2, n3, n4, n5, n6, n7, n8⟩ := hv.st hT
  have k3 : kl c 175 = 3 := by simp only [hv.1.1]
  refine C166 ⟨n1, ?_⟩
  rw [n2, n5, n6, n7]
  refine ⟨?_, fun q => by exfalso; omega, fun q => by exfalso; omega, fun q => by exfalso; omega, fun q => by exfalso; omega, fun q => by exfalso; omega, fun q => by exfalso; omega, fun q => by exfalso; omega, fun q => by exfalso; omega, fun q => by exfalso; omega, fun q => by exfalso; omega, fun q => by exfalso; omega⟩
  exact fun _ => ⟨s, hv, ⟨CX.rf, RMk.rf⟩, H⟩
theorem dmk_2 {a1 a2 : Int} {F : Int → SM → Prop} (hT : T a1) (e : s.2 9 a1 = 2) (H : F 2 s) : cj iv L h0 A T ρ k (d + 1) 89 [vr 307, vi a1, vi a2] s (qi F) := by
  intro c a3 hv h3 hk
  refine toQ ?_
  show ck iv L h0 (d + 1) 166 [vr 175, vr (A a1), vi a2, vi a3] c _
  obtain ⟨n1, n2, n3, n4, n5, n6, n7, n8⟩ := hv.st hT
  have k3 : kl c 175 = 3 := by simp only [hv.1.1]
  refine C166 ⟨n1, ?_⟩
  rw [n2, n5, n6, n7]
  refine ⟨fun q => by exfalso; omega, ?_, fun q => by exfalso; omega, fun q => by exfalso; omega, fun q => by exfalso; omega, fun q => by exfalso; omega, fun q => by exfalso; omega, fun q => by exfalso; omega, fun q => by exfalso; omega, fun q => by exfalso; omega, fun q => by exfalso; omega, fun q => by exfalso; omega⟩
  exact fun _ => ⟨s, hv, ⟨CX.rf, RMk.rf⟩, H⟩
theorem dmk_4 {a1 a2 : Int} {F : Int → SM → Prop} (hT : T a1) (e : s.2 9 a1 = 4 ∨ s.2 9 a1 = 5 ∨ s.2 9 a1 = 6 ∨ s.2 9 a1 = 7) (H : cj iv L h0 A T ρ k d 88 [vr 307, vi (s.2 14 (3 * a1)), vi 1] s (qi fun _ s1 => s1.2 9 a1 = s.2 9 a1 ∧ cj iv L h0 A T ρ k d 88 [vr 307, vi (s1.2 14 (3 * a1 + 1)), vi 1] s1 (qi fun _ s2 => (s2.2 9 a1 ≠ 7 → F 1 s2) ∧ (s2.2 9 a1 = 7 → F 2 s2)))) : cj iv L h0 A T ρ k (d + 1) 89 [vr 307, vi a1, vi a2] s (qi F) := by
  intro c a3 hv h3 hk
  refine toQ ?_
  show ck iv L h0 (d + 1) 166 [vr 175, vr (A a1), vi a2, vi a3] c _
  obtain ⟨n1, n2, n3, n4, n5, n6, n7, n8⟩ := hv.st hT
  have k3 : kl c 175 = 3 := by simp only [hv.1.1]
  refine C166 ⟨n1, ?_⟩
  rw [n2, n5, n6, n7]
  refine ⟨fun q => by exfalso; omega, fun q => by exfalso; omega, fun q => by exfalso; omega, ?_, fun q => by exfalso; omega, fun q => by exfalso; omega, fun q => by exfalso; omega, fun q => by exfalso; omega, fun q => by exfalso; omega, fun q => by exfalso; omega, fun q => by exfalso; omega, fun q => by exfalso; omega⟩
  intro _
  have hp : pO (s.2 9 a1) = 2 := by rcases e with e | e | e | e <;> rw [e] <;> rfl
  obtain ⟨p0, p0T⟩ := hv.p0 hT (by omega)
  rw [hp, p0]
  refine ⟨rfl, by omega, k3, cjg (a3 := a3) H hv h3 hk ⟨CX.rf, RMk.rf⟩ ?_⟩
  rintro r e1 s1 hv1 hx1 ⟨g0, g1⟩
  obtain ⟨m1, m2, m3, m4, m5, m6, m7, m8⟩ := hv1.st hT
  have k3' : kl e1 175 = 3 := by simp only [hv1.1.1]
  rw [m5, m6, m7, g0, hp, (m8 1 (by decide) (by rw [g0, hp]; decide)).1]
  refine ⟨m1, rfl, by omega, k3', cjg (a3 := a3) g1 hv1 h3 hk hx1 ?_⟩
  rintro r2 e2 s2 hv2 hx2 ⟨g2, g3⟩
  have l1 := hv2.st hT
  rw [l1.2.1]
  exact ⟨l1.1, fun q => ⟨s2, hv2, hx2, g2 q⟩, fun q => ⟨s2, hv2, hx2, g3 q⟩⟩
theorem dmk_5 {a1 a2 : Int} {F : Int → SM → Prop} (hT : T a1) (e : s.2 9 a1 = 8) (H : cj iv L h0 A T ρ k d 90 [vr 307, vi a1, vi a2] s (qi F)) : cj iv L h0 A T ρ k (d + 1) 89 [vr 307, vi a1, vi a2] s (qi F) := by
  intro c a3 hv h3 hk
  refine toQ ?_
  show ck iv L h0 (d + 1) 166 [vr 175, vr (A a1), vi a2, vi a3] c _
  obtain ⟨n1, n2, n3, n4, n5, n6, n7, n8⟩ := hv.st hT
  have k3 : kl c 175 = 3 := by simp only [hv.1.1]
  refine C166 ⟨n1, ?_⟩
  rw [n2, n5, n6, n7]
  refine ⟨fun q => by exfalso; omega, fun q => by exfalso; omega, fun q => by exfalso; omega, fun q => by exfalso; omega, ?_, fun q => by exfalso; omega, fun q => by exfalso; omega, fun q => by exfalso; omega, fun q => by exfalso; omega, fun q => by exfalso; omega, fun q => by exfalso; omega, fun q => by exfalso; omega⟩
  exact fun _ => ⟨k3, cjq (a3 := a3) H hv h3 hk ⟨CX.rf, RMk.rf⟩⟩
theorem dmk_8 {a1 a2 : Int} {F : Int → SM → Prop} (hT : T a1) (e : s.2 9 a1 = 11) (H : cj iv L h0 A T ρ k d 92 [vr 307, vi a1, vi a2] s (qi F)) : cj iv L h0 A T ρ k (d + 1) 89 [vr 307, vi a1, vi a2] s (qi F) := by
  intro c a3 hv h3 hk
  refine toQ ?_
  show ck iv L h0 (d + 1) 166 [vr 175, vr (A a1), vi a2, vi a3] c _
  obtain ⟨n1, n2, n3, n4, n5, n6, n7, n8⟩ := hv.st hT
  have k3 : kl c 175 = 3 := by simp only [hv.1.1]
  refine C166 ⟨n1, ?_⟩
  rw [n2, n5, n6, n7]
  refine ⟨fun q => by exfalso; omega, fun q => by exfalso; omega, fun q => by exfalso; omega, fun q => by exfalso; omega, fun q => by exfalso; omega, fun q => by exfalso; omega, fun q => by exfalso; omega, ?_, fun q => by exfalso; omega, fun q => by exfalso; omega, fun q => by exfalso; omega, fun q => by exfalso; omega⟩
  exact fun _ => ⟨k3, cjq (a3 := a3) H hv h3 hk ⟨CX.rf, RMk.rf⟩⟩
theorem dmk_9 {a1 a2 : Int} {F : Int → SM → Prop} (hT : T a1) (e : s.2 9 a1 = 12) (H : cj iv L h0 A T ρ k d 93 [vr 307, vi a1, vi a2] s (qi F)) : cj iv L h0 A T ρ k (d + 1) 89 [vr 307, vi a1, vi a2] s (qi F) := by
  intro c a3 hv h3 hk
  refine toQ ?_
  show ck iv L h0 (d + 1) 166 [vr 175, vr (A a1), vi a2, vi a3] c _
  obtain ⟨n1, n2, n3, n4, n5, n6, n7, n8⟩ := hv.st hT
  have k3 : kl c 175 = 3 := by simp only [hv.1.1]
  refine C166 ⟨n1, ?_⟩
  rw [n2, n5, n6, n7]
  refine ⟨fun q => by exfalso; omega, fun q => by exfalso; omega, fun q => by exfalso; omega, fun q => by exfalso; omega, fun q => by exfalso; omega, fun q => by exfalso; omega, fun q => by exfalso; omega, fun q => by exfalso; omega, ?_, fun q => by exfalso; omega, fun q => by exfalso; omega, fun q => by exfalso; omega⟩
  exact fun _ => ⟨k3, cjq (a3 := a3) H hv h3 hk ⟨CX.rf, RMk.rf⟩⟩
theorem dmk_6 {a1 a2 : Int} {F : Int → SM → Prop} (hT : T a1) (e : s.2 9 a1 = 9) (H : cj iv L h0 A T ρ k d 91 [vr 307, vi a1] s (qi F)) : cj iv L h0 A T ρ k (d + 1) 89 [vr 307, vi a1, vi a2] s (qi F) := by
  intro c a3 hv h3 hk
  refine toQ ?_
  show ck iv L h0 (d + 1) 166 [vr 175, vr (A a1), vi a2, vi a3] c _
  obtain ⟨n1, n2, n3, n4, n5, n6, n7, n8⟩ := hv.st hT
  have k3 : kl c 175 = 3 := by simp only [hv.1.1]
  refine C166 ⟨n1, ?_⟩
  rw [n2, n5, n6, n7]
  refine ⟨fun q => by exfalso; omega, fun q => by exfalso; omega, fun q => by exfalso; omega, fun q => by exfalso; omega, fun q => by exfalso; omega, ?_, fun q => by exfalso; omega, fun q => by exfalso; omega, fun q => by exfalso; omega, fun q => by exfalso; omega, fun q => by exfalso; omega, fun q => by exfalso; omega⟩
  exact fun _ => ⟨k3, cjq (a3 := a3) H hv h3 hk ⟨CX.rf, RMk.rf⟩⟩
theorem dmk_10 {a1 a2 : Int} {F : Int → SM → Prop} (hT : T a1) (e : s.2 9 a1 = 13 ∨ s.2 9 a1 = 14) (H : cj iv L h0 A T ρ k d 94 [vr 307, vi a1] s (qi F)) : cj iv L h0 A T ρ k (d + 1) 89 [vr 307, vi a1, vi a2] s (qi F) := by
  intro c a3 hv h3 hk
  refine toQ ?_
  show ck iv L h0 (d + 1) 166 [vr 175, vr (A a1), vi a2, vi a3] c _
  obtain ⟨n1, n2, n3, n4, n5, n6, n7, n8⟩ := hv.st hT
  have k3 : kl c 175 = 3 := by simp only [hv.1.1]
  refine C166 ⟨n1, ?_⟩
  rw [n2, n5, n6, n7]
  refine ⟨fun q => by exfalso; omega, fun q => by exfalso; omega, fun q => by exfalso; omega, fun q => by exfalso; omega, fun q => by exfalso; omega, fun q => by exfalso; omega, fun q => by exfalso; omega, fun q => by exfalso; omega, fun q => by exfalso; omega, ?_, fun q => by exfalso; omega, fun q => by exfalso; omega⟩
  exact fun _ => ⟨k3, cjq (a3 := a3) H hv h3 hk ⟨CX.rf, RMk.rf⟩⟩
theorem dmk_7 {a1 a2 : Int} {F : Int → SM → Prop} (hT : T a1) (e : s.2 9 a1 = 10) (H : cj iv L h0 A T ρ k d 88 [vr 307, vi (s.2 14 (3 * a1)), vi (-1)] s (qi fun _ s1 => s1.2 9 a1 = s.2 9 a1 ∧ cj iv L h0 A T ρ k d 88 [vr 307, vi (s1.2 14 (3 * a1 + 1)), vi a2] s1 (qi F))) : cj iv L h0 A T ρ k (d + 1) 89 [vr 307, vi a1, vi a2] s (qi F) := by
  intro c a3 hv h3 hk
  refine toQ ?_
  show ck iv L h0 (d + 1) 166 [vr 175, vr (A a1), vi a2, vi a3] c _
  obtain ⟨n1, n2, n3, n4, n5, n6, n7, n8⟩ := hv.st hT
  have k3 : kl c 175 = 3 := by simp only [hv.1.1]
  refine C166 ⟨n1, ?_⟩
  rw [n2, n5, n6, n7]
  refine ⟨fun q => by exfalso; omega, fun q => by exfalso; omega, fun q => by exfalso; omega, fun q => by exfalso; omega, fun q => by exfalso; omega, fun q => by exfalso; omega, ?_, fun q => by exfalso; omega, fun q => by exfalso; omega, fun q => by exfalso; omega, fun q => by exfalso; omega, fun q => by exfalso; omega⟩
  intro _
  have hp : pO (s.2 9 a1) = 2 := by rw [e]; rfl
  obtain ⟨p0, p0T⟩ := hv.p0 hT (by omega)
  rw [hp, p0]
  refine ⟨rfl, by omega, k3, cjg (a3 := a3) H hv h3 hk ⟨CX.rf, RMk.rf⟩ ?_⟩
  rintro r e1 s1 hv1 hx1 ⟨g0, g1⟩
  obtain ⟨m1, m2, m3, m4, m5, m6, m7, m8⟩ := hv1.st hT
  have k3' : kl e1 175 = 3 := by simp only [hv1.1.1]
  rw [m5, m6, m7, g0, hp, (m8 1 (by decide) (by rw [g0, hp]; decide)).1]
  exact ⟨m1, rfl, by omega, k3', cjq (a3 := a3) g1 hv1 h3 hk hx1⟩
theorem dmk_11 {a1 a2 : Int} {F : Int → SM → Prop} (hT : T a1) (e : s.2 9 a1 = 15) (H : cj iv L h0 A T ρ k d 88 [vr 307, vi (s.2 14 (3 * a1)), vi (s.2 11 a1)] s (qi fun _ s1 => F (s1.2 11 a1) s1)) : cj iv L h0 A T ρ k (d + 1) 89 [vr 307, vi a1, vi a2] s (qi F) := by
  intro c a3 hv h3 hk
  refine toQ ?_
  show ck iv L h0 (d + 1) 166 [vr 175, vr (A a1), vi a2, vi a3] c _
  obtain ⟨n1, n2, n3, n4, n5, n6, n7, n8⟩ := hv.st hT
  have k3 : kl c 175 = 3 := by simp only [hv.1.1]
  refine C166 ⟨n1, ?_⟩
  rw [n2, n5, n6, n7]
  refine ⟨fun q => by exfalso; omega, fun q => by exfalso; omega, fun q => by exfalso; omega, fun q => by exfalso; omega, fun q => by exfalso; omega, fun q => by exfalso; omega, fun q => by exfalso; omega, fun q => by exfalso; omega, fun q => by exfalso; omega, fun q => by exfalso; omega, ?_, fun q => by exfalso; omega⟩
  intro _
  have hp : pO (s.2 9 a1) = 1 := by rw [e]; rfl
  obtain ⟨p0, p0T⟩ := hv.p0 hT (by omega)
  rw [hp, p0, n4]
  refine ⟨rfl, by omega, k3, cjg (a3 := a3) H hv h3 hk ⟨CX.rf, RMk.rf⟩ ?_⟩
  rintro r e1 s1 hv1 hx1 g
  obtain ⟨m1, m2, m3, m4, m5, m6, m7, m8⟩ := hv1.st hT
  rw [m4]
  exact ⟨m1, s1, hv1, hx1, g⟩
theorem dmk_3 {a1 a2 : Int} {F : Int → SM → Prop} (hT : T a1) (hρ : ρ a1 = none) (e : s.2 9 a1 = 3) (hD : DP (s.2 12) 70 a1) (H : (bds s a1 (s.2 10 a1) = -9 → F 0 (ua s 21 a1 1)) ∧ (bds s a1 (s.2 10 a1) ≠ -9 → T (bds s a1 (s.2 10 a1)) → (s.2 9 (bds s a1 (s.2 10 a1)) = 8 → F (s.2 11 (bds s a1 (s.2 10 a1))) s) ∧ (s.2 9 (bds s a1 (s.2 10 a1)) ≠ 8 → 0 < pO (s.2 9 (bds s a1 (s.2 10 a1))) ∧ ρ (s.2 14 (3 * bds s a1 (s.2 10 a1))) = none ∧ (s.2 21 (s.2 14 (3 * bds s a1 (s.2 10 a1))) ≠ 0 → F 0 s) ∧ (s.2 21 (s.2 14 (3 * bds s a1 (s.2 10 a1))) = 0 → F (s.2 19 (s.2 14 (3 * bds s a1 (s.2 10 a1)))) s)))) : cj iv L h0 A T ρ k (d + 1 + 1) 89 [vr 307, vi a1, vi a2] s (qi F) := by
  intro c a3 hv h3 hk
  refine toQ ?_
  show ck iv L h0 (d + 1 + 1) 166 [vr 175, vr (A a1), vi a2, vi a3] c _
  obtain ⟨n1, n2, n3, n4, n5, n6, n7, n8⟩ := hv.st hT
  have k3 : kl c 175 = 3 := by simp only [hv.1.1]
  refine C166 ⟨n1, ?_⟩
  rw [n2, n5, n6, n7]
  refine ⟨fun q => by exfalso; omega, fun q => by exfalso; omega, ?_, fun q => by exfalso; omega, fun q => by exfalso; omega, fun q => by exfalso; omega, fun q => by exfalso; omega, fun q => by exfalso; omega, fun q => by exfalso; omega, fun q => by exfalso; omega, fun q => by exfalso; omega, fun q => by exfalso; omega⟩
  intro _
  have hTb := bnd_T (T := T) (so := s.2 9) (nu := s.2 10) (pl := s.2 13) (fun b hb => (hv.2.1.2 b hb).2.2.1.2.2) 70 a1 (s.2 10 a1) hT
  refine ⟨k3, C167 ⟨n1, ?_⟩⟩
  rw [n3]
  refine nb0_ok hv.2.1 hT hD ?_
  generalize hu : bnd (s.2 9) (s.2 10) (s.2 12) (s.2 13) 70 a1 (s.2 10 a1) = u at *
  have hu : bds s a1 (s.2 10 a1) = u := hu
  rw [hu] at H
  by_cases hn : u = -9
  · rw [hn, hv.2.1.1.1]
    exact ⟨fun q => absurd rfl q, fun _ => ⟨n1, _, vj_10 hv hT hρ, ⟨CX.rf.uI (fun _ => ky25 _ _ 10 n1 (by decide)), RMk.rf⟩, H.1 hn⟩⟩
  · have hT2 := hTb.resolve_left hn
    obtain ⟨g1, g2⟩ := H.2 hn hT2
    have h64 := (hv.2.1.2 u hT2).1.1
    obtain ⟨m1, m2, m3, m4, m5, m6, m7, m8⟩ := hv.st hT2
    rw [m2, m4, m5, m6, m7]
    refine ⟨fun _ => ⟨m1, fun e8 => ?_, fun e8 => ⟨s, hv, ⟨CX.rf, RMk.rf⟩, g1 e8⟩⟩, fun q => by omega⟩
    obtain ⟨g3, g4, g5⟩ := g2 e8
    obtain ⟨p0, p0T⟩ := hv.p0 hT2 g3
    rw [p0]
    exact ⟨rfl, ⟨by omega, g3⟩, hv.k5 p0T, cjq (a3 := 0) (k' := k) (d' := d) (M := 87) (as := [vr 307, vi (s.2 14 (3 * u))]) (D87 p0T g4 g5) hv (Int.le_refl _) (by omega) ⟨CX.rf, RMk.rf⟩⟩
end
end
section
/-! Making DEF, USE, PICK, PAIR, halves, by the desk. -/
section
variable {iv : List (Int × Int)} {L : Nat} {h0 : MH} {A : Int → Nat} {T : Int → Prop} {ρ : Int → Option Int} {c e f : SC} {s w : SM} {k d M : Nat}
theorem VJ.j3 (h : VJ A T ρ c s) : kl c 175 = 3 ∧ fR c 175 0 = 65 ∧ kl c 65 = 4 ∧ (fR c 65 0 = 66 ∧ fR c 65 1 = 67 ∧ fR c 65 2 = 68) ∧ (kl c 66 = 100 ∧ kl c 67 = 100 ∧ kl c 68 = 100) ∧ (le c 66 = 1440 ∧ le c 67 = 1440 ∧ le c 68 = 1440) ∧ aI c 66 = s.2 4 ∧ aI c 67 = s.2 5 ∧ aI c 68 = s.2 6 := by
  obtain ⟨h1, -, -, h4, e4, e5, e6, -⟩ := h
  simp only [h1.1]
  exact ⟨trivial, trivial, trivial, ⟨trivial, trivial, trivial⟩, ⟨trivial, trivial, trivial⟩, ⟨trivial, trivial, trivial⟩, e4, e5, e6⟩
theorem D90 {a1 a2 : Int} {F : Int → SM → Prop} (hT : T a1) (hρ : ρ a1 = none) (e : s.2 9 a1 = 8) (H : (a2 = -1 → cj iv L h0 A T ρ k d 88 [vr 307, vi (s.2 14 (3 * a1)), vi (-1)] s (qi fun r s1 => cj iv L h0 A T ρ k d 65 [vr 307, vi 3, vi (s.2 11 a1), vi r] s1 (qi F))) ∧ (a2 ≠ -1 → (0 ≤ a2 ∧ a2 < 1440) ∧ (s.2 4 a2 ≠ 3 → (a2 ≠ 0 → cj iv L h0 A T ρ k d 88 [vr 307, vi (s.2 14 (3 * a1)), vi (-1)] s (qi fun r s1 => cj iv L h0 A T ρ k d 65 [vr 307, vi 3, vi (s.2 11 a1), vi r] s1 (qi F))) ∧ (a2 = 0 → cj iv L h0 A T ρ k d 88 [vr 307, vi (s.2 14 (3 * a1)), vi 0] s (qi fun r s1 => cj iv L h0 A T ρ k d 65 [vr 307, vi 3, vi (s.2 11 a1), vi r] s1 (qi F)))) ∧ (s.2 4 a2 = 3 → a2 ≠ 0 ∧ cj iv L h0 A T ρ k d 70 [vr 307, vi (s.2 11 a1), vi (s.2 5 a2)] s (qi fun r s1 => s1 = s ∧ (r = 0 → cj iv L h0 A T (ro ρ a1 4) k d 88 [vr 307, vi (s.2 14 (3 * a1)), vi (s.2 6 a2)] s (qi fun r2 s2 => cj iv L h0 A T ρ k d 65 [vr 307, vi 3, vi (s.2 11 a1), vi r2] (ua s2 21 a1 4) (qi F))) ∧ (r ≠ 0 → cj iv L h0 A T ρ k d 88 [vr 307, vi (s.2 14 (3 * a1)), vi (s.2 6 a2)] s (qi fun r2 s2 => cj iv L h0 A T ρ k d 65 [vr 307, vi 3, vi (s.2 11 a1), vi r2] s2 (qi F))))))) : cj iv L h0 A T ρ k (d + 1) 90 [vr 307, vi a1, vi a2] s (qi F) := by
  intro c a3 hv h3 hk
  refine toQ ?_
  show ck iv L h0 (d + 1) 168 [vr 175, vr (A a1), vi a2, vi a3] c _
  obtain ⟨n1, n2, n3, n4, n5, n6, n7, n8⟩ := hv.st hT
  obtain ⟨k1, k2, k3, ⟨k4, k5, k6⟩, ⟨k7, k8, k9⟩, ⟨k10, k11, k12⟩, k13, k14, k15⟩ := hv.j3
  have hp : pO (s.2 9 a1) = 1 := by rw [e]; rfl
  obtain ⟨p0, p0T⟩ := hv.p0 hT (by omega)
  have plain : ∀ z : Int, cj iv L h0 A T ρ k d 88 [vr 307, vi (s.2 14 (3 * a1)), vi z] s (qi fun r s1 => cj iv L h0 A T ρ k d 65 [vr 307, vi 3, vi (s.2 11 a1), vi r] s1 (qi F)) → ck iv L h0 d 165 [vr 175, vr (A (s.2 14 (3 * a1))), vi z, vi a3] c (qi fun r6 s5 => (kl s5 65 = 4) ∧ ck iv L h0 d 181 [vr 65, vi 3, vi (s.2 11 a1), vi r6] s5 (qi fun r9 s8 => QF A T ρ c F r9 s8)) := fun z h => by
    refine cjg (a3 := a3) h hv h3 hk ⟨CX.rf, RMk.rf⟩ ?_
    rintro r e1 s1 hv1 hx1 g
    exact ⟨hv1.j3.2.2.1, cjq (a3 := 0) g hv1 (Int.le_refl _) (by omega) hx1⟩
  refine C168 ?_
  simp only [k1, k2, k3, k4, k5, k6, k7, k8, k9, k10, k11, k12, k13, k14, k15, n1, n4, n5, n6, n7, hp, p0, true_and]
  refine ⟨fun h0' => ⟨fun q => ⟨by omega, plain _ (H.1 q)⟩, fun q => ?_⟩, fun q => ⟨by omega, ?_⟩⟩
  · obtain ⟨g1, g2, g3⟩ := H.2 q
    refine ⟨g1, fun q3 => ⟨by omega, plain _ ((g2 q3).1 h0')⟩, fun q3 => ⟨g1, g1, ?_⟩⟩
    refine cjg (a3 := 0) (g3 q3).2 hv (Int.le_refl _) (by omega) ⟨CX.rf, RMk.rf⟩ ?_
    rintro r e1 s1 hv1 hx1 ⟨rfl, g4, g5⟩
    obtain ⟨m1, m2, m3, m4, m5, m6, m7, m8⟩ := hv1.st hT
    obtain ⟨l1, l2, l3, -⟩ := hv1.j3
    obtain ⟨p0', p0T'⟩ := hv1.p0 hT (by omega)
    simp only [l1, l2, m1, m4, m5, m6, m7, hp, p0', true_and]
    refine ⟨fun q0 => ⟨by omega, ?_⟩, fun q0 => ⟨by omega, ?_⟩⟩
    · refine cjg (a3 := a3) (g5 q0) hv1 h3 hk hx1 ?_
      rintro r2 e2 s2 hv2 hx2 g6
      exact ⟨hv2.j3.2.2.1, cjq (a3 := 0) g6 hv2 (Int.le_refl _) (by omega) hx2⟩
    · refine inQ (g4 q0 _ a3 (vj_ro hv1 hT) h3 hk) (Nat.le_refl _) ?_
      rintro r2 e2 s2 hv2 hx2 g6
      have hx3 : CXR c e2 := (hx1.t ⟨CX.rf.uI (fun _ => ky25 _ _ 10 m1 (by decide)), RMk.rf⟩).t hx2
      have hv3 := vj_or hv2 hρ
      exact ⟨hv3.j3.2.2.1, cjq (a3 := 0) g6 hv3 (Int.le_refl _) (by omega) hx3⟩
  · obtain ⟨g1, g2, g3⟩ := H.2 (by omega)
    have h4 : s.2 4 a2 ≠ 3 := fun w => (g3 w).1 q
    rw [← q]
    exact plain _ (by rw [q]; exact (g2 h4).2 q)
theorem D91 {a1 : Int} {F : Int → SM → Prop} (hT : T a1) (e : s.2 9 a1 = 9) (H : cj iv L h0 A T ρ k d 88 [vr 307, vi (s.2 14 (3 * a1)), vi (-1)] s (qi fun r s1 => s1.2 9 a1 = s.2 9 a1 ∧ ρ (s1.2 14 (3 * a1)) = none ∧ (0 ≤ r ∧ r < 1440) ∧ (s1.2 4 r ≠ 3 → (s1.2 21 (s1.2 14 (3 * a1)) ≠ 0 → cj iv L h0 A T ρ k d 88 [vr 307, vi (s1.2 14 (3 * a1 + 1)), vi 0] s1 (qi fun _ s2 => F 0 s2)) ∧ (s1.2 21 (s1.2 14 (3 * a1)) = 0 → (s1.2 4 r = 0 → cj iv L h0 A T ρ k d 88 [vr 307, vi (s1.2 14 (3 * a1 + 1)), vi 0] s1 (qi fun _ s2 => F 0 s2)) ∧ (s1.2 4 r ≠ 0 → cj iv L h0 A T ρ k d 88 [vr 307, vi (s1.2 14 (3 * a1 + 1)), vi 0] (ua s1 21 (s1.2 14 (3 * a1)) 2) (qi fun _ s2 => F 0 s2)))) ∧ (s1.2 4 r = 3 → cj iv L h0 A T ρ k d 88 [vr 307, vi (s1.2 14 (3 * a1 + 1)), vi (s1.2 5 r)] s1 (qi fun _ s2 => F (s2.2 6 r) s2)))) : cj iv L h0 A T ρ k (d + 1) 91 [vr 307, vi a1] s (qi F) := by
  intro c a3 hv h3 hk
  refine toQ ?_
  show ck iv L h0 (d + 1) 169 [vr 175, vr (A a1), vi a3] c _
  obtain ⟨n1, n2, n3, n4, n5, n6, n7, n8⟩ := hv.st hT
  have hp : pO (s.2 9 a1) = 2 := by rw [e]; rfl
  obtain ⟨p0, p0T⟩ := hv.p0 hT (by omega)
  refine C169 ⟨n1, ?_⟩
  rw [n5, n6, n7, hp, p0]
  refine ⟨rfl, by omega, hv.j3.1, cjg (a3 := a3) H hv h3 hk ⟨CX.rf, RMk.rf⟩ ?_⟩
  rintro r e1 s1 hv1 hx1 ⟨g0, gρ, gr, g1, g2⟩
  obtain ⟨m1, m2, m3, m4, m5, m6, m7, m8⟩ := hv1.st hT
  obtain ⟨k1, k2, k3, ⟨k4, k5, k6⟩, ⟨k7, k8, k9⟩, ⟨k10, k11, k12⟩, k13, k14, k15⟩ := hv1.j3
  obtain ⟨p0', p0T'⟩ := hv1.p0 hT (by rw [g0, hp]; decide)
  obtain ⟨p1', p1T'⟩ := m8 1 (by decide) (by rw [g0, hp]; decide)
  obtain ⟨d1, d2, d3⟩ := hv1.dy p0T'
  rw [gρ] at d3
  have d3 : fI e1 (A (s1.2 14 (3 * a1))) 10 = s1.2 21 (s1.2 14 (3 * a1)) := d3
  have hk5 := hv1.k5 p0T'
  simp only [k1, k2, k3, k4, k5, k6, k7, k8, k9, k10, k11, k12, k13, k14, k15, m1, m5, m6, m7, g0, hp, p0', p1', d3, hk5, true_and]
  refine ⟨gr, fun q3 => ⟨by omega, fun qr => ⟨by omega, cjg (a3 := a3) ((g1 q3).1 qr) hv1 h3 hk hx1 (fun z f w a b q => ⟨w, a, b, q⟩)⟩, fun qr => ?_⟩, fun q3 => ⟨by omega, by omega, cjg (a3 := a3) (g2 q3) hv1 h3 hk hx1 ?_⟩⟩
  · have fin : ∀ (z : Int) (s' : SM), VJ A T ρ (uI e1 (A (s1.2 14 (3 * a1))) 10 z) s' → cj iv L h0 A T ρ k d 88 [vr 307, vi (s1.2 14 (3 * a1 + 1)), vi 0] s' (qi fun _ s2 => F 0 s2) → (kl e1 (A (s1.2 14 (3 * a1))) = 5) ∧ (kl e1 (A a1) = 5) ∧ (kl e1 (fR e1 (A a1) 3) = 103) ∧ ((0 : Int) ≤ 1 ∧ 1 < le e1 (fR e1 (A a1) 3)) ∧ ck iv L h0 d 165 [vr 175, vr (aR e1 (fR e1 (A a1) 3) 1), vi 0, vi a3] (uI e1 (A (s1.2 14 (3 * a1))) 10 z) (qi fun r26 s25 => QF A T ρ c F 0 s25) := fun z s' hv' h => by
      rw [m5, m6, m7, g0, hp, p1']
      exact ⟨hk5, m1, rfl, by omega, cjg (a3 := a3) h hv' h3 hk (hx1.t ⟨CX.rf.uI (fun _ => ky25 _ _ 10 hk5 (by decide)), RMk.rf⟩) (fun z f w a b q => ⟨w, a, b, q⟩)⟩
    refine C173 ?_
    simp only [k1, k2, k3, k4, k7, k10, k13, true_and]
    refine ⟨gr, fun q => absurd rfl q, fun _ => ⟨fun q => absurd q q3, fun _ => ⟨fun q0 => ?_, fun q0 => ?_⟩⟩⟩
    · exact fin 2 _ (vj_10 hv1 p0T' gρ) (((g1 q3).2 qr).2 q0)
    · refine fin 0 s1 ?_ (((g1 q3).2 qr).1 q0)
      have := vj_10 (z := 0) hv1 p0T' gρ
      rw [ua_same qr] at this
      exact this
  · rintro r2 e2 s2 hv2 hx2 g3
    obtain ⟨k1, k2, k3, ⟨k4, k5, k6⟩, ⟨k7, k8, k9⟩, ⟨k10, k11, k12⟩, k13, k14, k15⟩ := hv2.j3
    rw [k1, k2, k3, k6, k9, k12, k15]
    exact ⟨rfl, rfl, rfl, gr, s2, hv2, hx2, g3⟩
theorem D92 {a1 a2 : Int} {F : Int → SM → Prop} (hT : T a1) (hρ : ρ a1 = none) (e : s.2 9 a1 = 11) (H : cj iv L h0 A T ρ k d 88 [vr 307, vi (s.2 14 (3 * a1)), vi 2] s (qi fun _ s1 => s1.2 9 a1 = s.2 9 a1 ∧ cj iv L h0 A T ρ k d 88 [vr 307, vi (s1.2 14 (3 * a1 + 1)), vi a2] s1 (qi fun r4 s3 => s3.2 9 a1 = s.2 9 a1 ∧ cj iv L h0 A T ρ k d 88 [vr 307, vi (s3.2 14 (3 * a1 + 2)), vi a2] s3 (qi fun r6 s5 => (a2 = (-1) → cj iv L h0 A T ρ k d 70 [vr 307, vi r4, vi r6] s5 (qi fun r8 s7 => (r8 = 0 → F 0 (ua s7 21 a1 5)) ∧ (r8 ≠ 0 → cj iv L h0 A T ρ k d 71 [vr 307, vi r4, vi r6] s7 (qi F)))) ∧ (a2 ≠ (-1) → F a2 s5))))) : cj iv L h0 A T ρ k (d + 1) 92 [vr 307, vi a1, vi a2] s (qi F) := by
  intro c a3 hv h3 hk
  refine toQ ?_
  show ck iv L h0 (d + 1) 170 [vr 175, vr (A a1), vi a2, vi a3] c _
  obtain ⟨n1, n2, n3, n4, n5, n6, n7, n8⟩ := hv.st hT
  have hp : pO (s.2 9 a1) = 3 := by rw [e]; rfl
  obtain ⟨p0, p0T⟩ := hv.p0 hT (by omega)
  refine C170 ⟨n1, ?_⟩
  rw [n5, n6, n7, hp, p0]
  refine ⟨rfl, by omega, hv.j3.1, cjg (a3 := a3) H hv h3 hk ⟨CX.rf, RMk.rf⟩ ?_⟩
  rintro r e1 s1 hv1 hx1 ⟨g0, g1⟩
  obtain ⟨m1, m2, m3, m4, m5, m6, m7, m8⟩ := hv1.st hT
  rw [m5, m6, m7, g0, hp, (m8 1 (by decide) (by rw [g0, hp]; decide)).1]
  refine ⟨m1, rfl, by omega, hv1.j3.1, cjg (a3 := a3) g1 hv1 h3 hk hx1 ?_⟩
  rintro r4 e3 s3 hv3 hx3 ⟨g3, g4⟩
  obtain ⟨m1, m2, m3, m4, m5, m6, m7, m8⟩ := hv3.st hT
  rw [m5, m6, m7, g3, hp, (m8 2 (by decide) (by rw [g3, hp]; decide)).1]
  refine ⟨m1, rfl, by omega, hv3.j3.1, cjg (a3 := a3) g4 hv3 h3 hk hx3 ?_⟩
  rintro r6 e5 s5 hv5 hx5 ⟨g5, g6⟩
  obtain ⟨k1, k2, k3, -⟩ := hv5.j3
  rw [k1, k2, k3]
  refine ⟨fun q => ⟨rfl, rfl, cjg (a3 := 0) (g5 q) hv5 (Int.le_refl _) (by omega) hx5 ?_⟩, fun q => ⟨s5, hv5, hx5, g6 q⟩⟩
  rintro r8 e7 s7 hv7 hx7 ⟨g7, g8⟩
  obtain ⟨k1, k2, k3, -⟩ := hv7.j3
  rw [k1, k2, k3]
  have hk5 := hv7.k5 hT
  exact ⟨fun q => ⟨hk5, _, vj_10 hv7 hT hρ, hx7.t ⟨CX.rf.uI (fun _ => ky25 _ _ 10 hk5 (by decide)), RMk.rf⟩, g7 q⟩, fun q => ⟨rfl, rfl, cjq (a3 := 0) (g8 q) hv7 (Int.le_refl _) (by omega) hx7⟩⟩
abbrev two (iv : List (Int × Int)) (L : Nat) (h0 : MH) (A : Int → Nat) (T : Int → Prop) (ρ : Int → Option Int) (k d : Nat) (a1 x y : Int) (s : SM) (F : Int → SM → Prop) : Prop := cj iv L h0 A T ρ k d 88 [vr 307, vi (s.2 14 (3 * a1)), vi x] s (qi fun r s1 => s1.2 9 a1 = s.2 9 a1 ∧ cj iv L h0 A T ρ k d 88 [vr 307, vi (s1.2 14 (3 * a1 + 1)), vi y] s1 (qi fun r' s2 => cj iv L h0 A T ρ k d 65 [vr 307, vi 4, vi r, vi r'] s2 (qi F)))
theorem D93 {a1 a2 : Int} {F : Int → SM → Prop} (hT : T a1) (e : s.2 9 a1 = 12) (H : (a2 = -1 → two iv L h0 A T ρ k d a1 (-1) (-1) s F) ∧ (a2 = 0 → two iv L h0 A T ρ k d a1 0 0 s F) ∧ (a2 ≠ -1 → a2 ≠ 0 → (0 ≤ a2 ∧ a2 < 1440) ∧ (s.2 4 a2 ≠ 4 → two iv L h0 A T ρ k d a1 (-1) (-1) s F) ∧ (s.2 4 a2 = 4 → two iv L h0 A T ρ k d a1 (s.2 5 a2) (s.2 6 a2) s F))) : cj iv L h0 A T ρ k (d + 1) 93 [vr 307, vi a1, vi a2] s (qi F) := by
  intro c a3 hv h3 hk
  refine toQ ?_
  show ck iv L h0 (d + 1) 171 [vr 175, vr (A a1), vi a2, vi a3] c _
  obtain ⟨n1, n2, n3, n4, n5, n6, n7, n8⟩ := hv.st hT
  obtain ⟨k1, k2, k3, ⟨k4, k5, k6⟩, ⟨k7, k8, k9⟩, ⟨k10, k11, k12⟩, k13, k14, k15⟩ := hv.j3
  have hp : pO (s.2 9 a1) = 2 := by rw [e]; rfl
  obtain ⟨p0, p0T⟩ := hv.p0 hT (by omega)
  have go : ∀ x y : Int, two iv L h0 A T ρ k d a1 x y s F → ck iv L h0 d 165 [vr 175, vr (A (s.2 14 (3 * a1))), vi x, vi a3] c (qi fun r6 s5 => (kl s5 (A a1) = 5) ∧ (kl s5 (fR s5 (A a1) 3) = 103) ∧ ((0 : Int) ≤ 1 ∧ 1 < le s5 (fR s5 (A a1) 3)) ∧ (kl s5 175 = 3) ∧ ck iv L h0 d 165 [vr 175, vr (aR s5 (fR s5 (A a1) 3) 1), vi y, vi a3] s5 (qi fun r12 s11 => (kl s11 175 = 3) ∧ (kl s11 (fR s11 175 0) = 4) ∧ ck iv L h0 d 181 [vr (fR s11 175 0), vi 4, vi r6, vi r12] s11 (qi fun r16 s15 => QF A T ρ c F r16 s15))) := fun x y h => by
    refine cjg (a3 := a3) h hv h3 hk ⟨CX.rf, RMk.rf⟩ ?_
    rintro r e1 s1 hv1 hx1 ⟨g0, g1⟩
    obtain ⟨m1, m2, m3, m4, m5, m6, m7, m8⟩ := hv1.st hT
    rw [m5, m6, m7, g0, hp, (m8 1 (by decide) (by rw [g0, hp]; decide)).1]
    refine ⟨m1, rfl, by omega, hv1.j3.1, cjg (a3 := a3) g1 hv1 h3 hk hx1 ?_⟩
    rintro r2 e2 s2 hv2 hx2 g2
    obtain ⟨l1, l2, l3, -⟩ := hv2.j3
    rw [l1, l2, l3]
    exact ⟨rfl, rfl, cjq (a3 := 0) g2 hv2 (Int.le_refl _) (by omega) hx2⟩
  refine C171 ?_
  rw [k1, k2, k3, k4, k5, k6, k7, k8, k9, k10, k11, k12, k13, k14, k15, n1, n5, n6, n7, hp, p0]
  refine ⟨fun q0 => ⟨fun q => ⟨rfl, rfl, by omega, rfl, go _ _ (H.1 q)⟩, fun q => ?_⟩, fun q0 => ⟨rfl, rfl, by omega, rfl, go _ _ (H.2.1 q0)⟩⟩
  obtain ⟨g1, g2, g3⟩ := H.2.2 q q0
  exact ⟨rfl, rfl, rfl, g1, fun q4 => ⟨rfl, rfl, by omega, go _ _ (g2 q4)⟩, fun q4 => ⟨rfl, g1, rfl, g1, rfl, rfl, by omega, go _ _ (g3 q4)⟩⟩
theorem D94 {a1 : Int} {F : Int → SM → Prop} (hT : T a1) (e : s.2 9 a1 = 13 ∨ s.2 9 a1 = 14) (H : cj iv L h0 A T ρ k d 88 [vr 307, vi (s.2 14 (3 * a1)), vi (-1)] s (qi fun r s1 => s1.2 9 a1 = s.2 9 a1 ∧ ρ (s1.2 14 (3 * a1)) = none ∧ (0 ≤ r ∧ r < 1440) ∧ (s1.2 4 r ≠ 4 → (s1.2 21 (s1.2 14 (3 * a1)) ≠ 0 → F 0 s1) ∧ (s1.2 21 (s1.2 14 (3 * a1)) = 0 → (s1.2 4 r = 0 → F 0 s1) ∧ (s1.2 4 r ≠ 0 → F 0 (ua s1 21 (s1.2 14 (3 * a1)) 3)))) ∧ (s1.2 4 r = 4 → (s1.2 9 a1 ≠ 13 → F (s1.2 6 r) s1) ∧ (s1.2 9 a1 = 13 → F (s1.2 5 r) s1)))) : cj iv L h0 A T ρ k (d + 1) 94 [vr 307, vi a1] s (qi F) := by
  intro c a3 hv h3 hk
  refine toQ ?_
  show ck iv L h0 (d + 1) 172 [vr 175, vr (A a1), vi a3] c _
  obtain ⟨n1, n2, n3, n4, n5, n6, n7, n8⟩ := hv.st hT
  have hp : pO (s.2 9 a1) = 1 := by rcases e with e | e <;> rw [e] <;> rfl
  obtain ⟨p0, p0T⟩ := hv.p0 hT (by omega)
  refine C172 ⟨n1, ?_⟩
  rw [n5, n6, n7, hp, p0]
  refine ⟨rfl, by omega, hv.j3.1, cjg (a3 := a3) H hv h3 hk ⟨CX.rf, RMk.rf⟩ ?_⟩
  rintro r e1 s1 hv1 hx1 ⟨g0, gρ, gr, g1, g2⟩
  obtain ⟨m1, m2, m3, m4, m5, m6, m7, m8⟩ := hv1.st hT
  obtain ⟨k1, k2, k3, ⟨k4, k5, k6⟩, ⟨k7, k8, k9⟩, ⟨k10, k11, k12⟩, k13, k14, k15⟩ := hv1.j3
  obtain ⟨p0', p0T'⟩ := hv1.p0 hT (by rw [g0, hp]; decide)
  obtain ⟨d1, d2, d3⟩ := hv1.dy p0T'
  rw [gρ] at d3
  have d3 : fI e1 (A (s1.2 14 (3 * a1))) 10 = s1.2 21 (s1.2 14 (3 * a1)) := d3
  have hk5 := hv1.k5 p0T'
  rw [k1, k2, k3, k4, k5, k6, k7, k8, k9, k10, k11, k12, k13, k14, k15, m1, m2, m5, m6, m7, g0, hp, p0', d3, hk5]
  rw [g0] at g2
  refine ⟨rfl, rfl, rfl, gr, fun q4 => ⟨rfl, rfl, by omega, rfl, fun qr => ⟨s1, hv1, hx1, (g1 q4).1 qr⟩, fun qr => ?_⟩, fun q4 => ⟨rfl, fun q => ⟨rfl, gr, s1, hv1, hx1, (g2 q4).1 q⟩, fun q => ⟨rfl, gr, s1, hv1, hx1, (g2 q4).2 q⟩⟩⟩
  have fin : ∀ (z : Int) (s' : SM), VJ A T ρ (uI e1 (A (s1.2 14 (3 * a1))) 10 z) s' → F 0 s' → (kl e1 (A (s1.2 14 (3 * a1))) = 5) ∧ QF A T ρ c F 0 (uI e1 (A (s1.2 14 (3 * a1))) 10 z) := fun z s' hv' h => ⟨hk5, s', hv', hx1.t ⟨CX.rf.uI (fun _ => ky25 _ _ 10 hk5 (by decide)), RMk.rf⟩, h⟩
  have both : (s1.2 4 r ≠ 0 → (kl e1 (A (s1.2 14 (3 * a1))) = 5) ∧ QF A T ρ c F 0 (uI e1 (A (s1.2 14 (3 * a1))) 10 3)) ∧ (s1.2 4 r = 0 → (kl e1 (A (s1.2 14 (3 * a1))) = 5) ∧ QF A T ρ c F 0 (uI e1 (A (s1.2 14 (3 * a1))) 10 0)) := ⟨fun q0 => fin 3 _ (vj_10 hv1 p0T' gρ) (((g1 q4).2 qr).2 q0), fun q0 => fin 0 s1 (by
    have := vj_10 (z := 0) hv1 p0T' gρ
    rw [ua_same qr] at this
    exact this) (((g1 q4).2 qr).1 q0)⟩
  refine C173 ?_
  simp only [k1, k2, k3, k4, k7, k10, k13, true_and]
  refine ⟨gr, fun _ => ⟨fun _ => ⟨fun q => absurd q q4, fun _ => both⟩, fun q13 => ⟨fun q => absurd (e.resolve_left q13) q, fun _ => ⟨fun q => absurd q q4, fun _ => both⟩⟩⟩, fun q => by omega⟩
end
end

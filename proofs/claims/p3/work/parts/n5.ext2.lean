/-! .. and whole runs. -/
theorem ent6 {n : Nat} {v w : Value} (h : ent iv6 (n, v, w) = true) : (∃ a b : Int32, v = .int a ∧ w = .int b) ∨ (n = 0 ∧ v = w ∧ ∃ j, j < 6 ∧ v = .retAddr j) := by
  unfold ent at h
  simp only at h
  cases e1 : lohi iv6 v with
  | none => rw [e1] at h; cases h
  | some p =>
    cases e2 : lohi iv6 w with
    | none => rw [e1, e2] at h; cases h
    | some q =>
      obtain ⟨a, b⟩ := p
      obtain ⟨u, y⟩ := q
      rw [e1, e2] at h
      simp only at h
      have g1 := lh6 e1
      have g2 := lh6 e2
      have o1 : ∀ z : Int32, -2147483648 ≤ z.toInt ∧ z.toInt ≤ 2147483647 := fun z => (i32_ok z).2
      rcases g1 with ⟨z1, rfl, rfl, rfl⟩ | ⟨j1, rfl, l1, rfl, rfl⟩
      · rcases g2 with ⟨z2, rfl, rfl, rfl⟩ | ⟨j2, rfl, l2, rfl, rfl⟩
        · exact Or.inl ⟨z1, z2, rfl, rfl⟩
        · exfalso
          have := o1 z1
          split at h
          · simp at h
          · simp at h; omega
          · simp at h; omega
          · simp at h; omega
          · simp at h; omega
          · simp at h; omega
          · cases h
      · rcases g2 with ⟨z2, rfl, rfl, rfl⟩ | ⟨j2, rfl, l2, rfl, rfl⟩
        · exfalso
          have := o1 z2
          split at h
          · simp at h
          · simp at h; omega
          · simp at h; omega
          · simp at h; omega
          · simp at h; omega
          · simp at h; omega
          · cases h
        · split at h
          · simp at h
            exact Or.inr ⟨rfl, by rw [h], j1, l1, rfl⟩
          · simp at h
          · simp at h
          · simp at h
          · simp at h
          · simp at h
          · cases h
/-- the shapes of a branch -/
def altS (alts : List (CD × Nat)) : Prop := (∃ n v w x y, alts = [((n, v, w), x), ((cno n, v, w), y)]) ∨ ∃ v, ∀ q ∈ alts, q.1.2.1 = v ∧ ∃ z, q.1.2.2 = .int z
theorem sw_alts {v : Value} : ∀ (offs : List Nat) (lo : Int) (q : CD × Nat), q ∈ swAlts v lo offs → q.1.2.1 = v ∧ ∃ z, q.1.2.2 = .int z := by
  intro offs
  induction offs with
  | nil => intro lo q h; cases h
  | cons o r ih =>
    intro lo q h
    rcases List.mem_cons.mp h with rfl | h
    · exact ⟨rfl, _, rfl⟩
    · exact ih _ q h
theorem find_cg {α : Type} {p q : α → Bool} : ∀ (l : List α), (∀ x ∈ l, p x = q x) → l.find? p = l.find? q := by
  intro l
  induction l with
  | nil => intro _; rfl
  | cons a r ih =>
    intro h
    rw [List.find?_cons, List.find?_cons, h a (List.mem_cons_self ..), ih (fun x hx => h x (List.mem_cons_of_mem _ hx))]
theorem find_ext {iv : List (Int × Int)} (hI : ∀ j, j < 6 → ∃ a, iv[j]? = some (a, a)) {alts : List (CD × Nat)} (hS : altS alts) {q : CD × Nat} (h : alts.find? (fun q => ent iv6 q.1) = some q) : alts.find? (fun q => ent iv q.1) = some q := by
  have ints : ∀ (n : Nat) (a b : Int32), ent iv6 (n, .int a, .int b) = ent iv (n, .int a, .int b) := fun _ _ _ => rfl
  have sy0 : ∀ j, j < 6 → ent iv (0, .retAddr j, .retAddr j) = true := fun j hj => by
    obtain ⟨a, ha⟩ := hI j hj
    unfold ent
    have e : lohi iv (.retAddr j) = some (a, a) := ha
    simp only [e]
    simp
  have sy1 : ∀ j, j < 6 → ent iv (1, .retAddr j, .retAddr j) = false := fun j hj => by
    obtain ⟨a, ha⟩ := hI j hj
    unfold ent
    have e : lohi iv (.retAddr j) = some (a, a) := ha
    simp only [e]
    simp
  rcases hS with ⟨n, v, w, x, y, rfl⟩ | ⟨v, hv⟩
  · rw [List.find?_cons] at h ⊢
    cases e : ent iv6 (n, v, w) with
    | true =>
      have h : some ((n, v, w), x) = some q := by
        simp only [e] at h
        exact h
      rw [← h]
      have e' : ent iv (n, v, w) = true := by
        rcases ent6 e with ⟨a, b, rfl, rfl⟩ | ⟨rfl, rfl, j, hj, rfl⟩
        · rw [← ints]; exact e
        · exact sy0 j hj
      simp only [e']
    | false =>
      simp only [e] at h
      rw [List.find?_cons] at h
      cases e2 : ent iv6 (cno n, v, w) with
      | false => simp only [e2] at h; cases h
      | true =>
        have h : some ((cno n, v, w), y) = some q := by
          simp only [e2] at h
          exact h
        rw [← h]
        have e' : ent iv (n, v, w) = false ∧ ent iv (cno n, v, w) = true := by
          rcases ent6 e2 with ⟨a, b, rfl, rfl⟩ | ⟨hn, rfl, j, hj, rfl⟩
          · rw [← ints, ← ints]; exact ⟨e, e2⟩
          · have hn1 : n = 1 := by
              unfold cno at hn
              split at hn
              · cases hn
              · rfl
              · cases hn
              · cases hn
              · cases hn
              · cases hn
            rw [hn, hn1]
            exact ⟨sy1 j hj, sy0 j hj⟩
        simp only [e'.1]
        rw [List.find?_cons]
        simp only [e'.2]
  · have hm := List.mem_of_find?_eq_some h
    have ht := List.find?_some h
    obtain ⟨g1, z, g2⟩ := hv q hm
    have ht : ent iv6 (q.1.1, q.1.2.1, q.1.2.2) = true := ht
    rw [g1, g2] at ht
    rcases ent6 ht with ⟨a, b, hva, -⟩ | ⟨-, hvw, j, -, hvj⟩
    · rw [← find_cg alts (p := fun q => ent iv6 q.1) (fun c hc => ?_)]
      · exact h
      · obtain ⟨k1, z2, k2⟩ := hv c hc
        show ent iv6 (c.1.1, c.1.2.1, c.1.2.2) = ent iv (c.1.1, c.1.2.1, c.1.2.2)
        rw [k1, k2, hva]
        exact ints _ _ _
    · rw [hvw] at hvj
      cases hvj

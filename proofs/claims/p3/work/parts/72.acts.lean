/-! Births, links, what binds a letter, what stands within. -/
def nvl (so v : Int) : Int := if so = 1 ∨ so = 2 ∨ so = 3 ∨ so = 8 ∨ so = 10 then v else -9
def kvl (so k : Int) : Int := if so = 8 ∨ so = 15 then k else -9
def setU (s : SM) (b so v k : Int) : SM := ua (ua (ua s 9 b so) 10 b (nvl so v)) 11 b (kvl so k)
def bornU (s : SM) (so v k : Int) : SM := setU (us s 8 (s.1 8 + 1)) (s.1 8) so v k
def partU (s : SM) (b i c : Int) : SM := ua (ua (ua s 14 (3 * b + i) c) 12 c b) 13 c i
def replU (s : SM) (o c : Int) : SM := if s.2 12 o = -9 then ua (ua (us s 15 c) 12 c (-9)) 13 c (-9) else partU s (s.2 12 o) (s.2 13 o) c
def bnd (so nu up pl : Int → Int) : Nat → Int → Int → Int
  | 0, _, _ => -9
  | n + 1, b, x => if up b = -9 then -9 else if (so (up b) = 8 ∨ (so (up b) = 10 ∧ pl b = 1)) ∧ nu (up b) = x then up b else bnd so nu up pl n (up b) x
/-- the top is reached in less than n steps -/
def DP (up : Int → Int) : Nat → Int → Prop
  | 0, _ => False
  | n + 1, b => up b = -9 ∨ ((0 ≤ up b ∧ up b < 3004) ∧ DP up n (up b))
def wth (up : Int → Int) : Nat → Int → Int → Bool
  | 0, _, _ => false
  | n + 1, b, r => if b = r then true else if up b = -9 then false else wth up n (up b) r
theorem DP_up {up : Int → Int} : ∀ (n m : Nat) (b : Int), n ≤ m → DP up n b → DP up m b := by
  intro n
  induction n with
  | zero => intro m b _ h; exact h.elim
  | succ n ih =>
    intro m b hm h
    obtain ⟨m, rfl⟩ : ∃ k, m = k + 1 := ⟨m - 1, by omega⟩
    rcases h with h | ⟨h1, h2⟩
    · exact Or.inl h
    · exact Or.inr ⟨h1, ih m _ (by omega) h2⟩
theorem bnd_f {so nu up pl : Int → Int} : ∀ (n m : Nat) (b x : Int), n ≤ m → DP up n b → bnd so nu up pl m b x = bnd so nu up pl n b x := by
  intro n
  induction n with
  | zero => intro m b x _ h; exact h.elim
  | succ n ih =>
    intro m b x hm h
    obtain ⟨m, rfl⟩ : ∃ k, m = k + 1 := ⟨m - 1, by omega⟩
    unfold bnd
    by_cases e : up b = -9
    · rw [if_pos e, if_pos e]
    · rw [if_neg e, if_neg e]
      obtain ⟨h1, h2⟩ := h.resolve_left e
      rw [ih m _ x (by omega) h2]
theorem wth_f {up : Int → Int} : ∀ (n m : Nat) (b r : Int), n ≤ m → DP up n b → wth up m b r = wth up n b r := by
  intro n
  induction n with
  | zero => intro m b r _ h; exact h.elim
  | succ n ih =>
    intro m b r hm h
    obtain ⟨m, rfl⟩ : ∃ k, m = k + 1 := ⟨m - 1, by omega⟩
    unfold wth
    by_cases e0 : b = r
    · rw [if_pos e0, if_pos e0]
    · rw [if_neg e0, if_neg e0]
      by_cases e : up b = -9
      · rw [if_pos e, if_pos e]
      · rw [if_neg e, if_neg e]
        obtain ⟨h1, h2⟩ := h.resolve_left e
        exact ih m _ r (by omega) h2
/-- the way up from every node -/
theorem AT_DP {so pa up pl : Int → Int} {B : Int} (hB : B ≤ 3004) : ∀ (t : Term) (n : Nat), AT so pa up pl B t → DP up n (hd t) → ∀ y, y ∈ fl t → DP up (n + dpt t) y := by
  intro t
  induction t with
  | index k => intro n h hdp y hy; rw [List.mem_singleton.mp hy]; exact DP_up _ _ _ (by omega) hdp
  | add t x ih ihx =>
    intro n h hdn y hy
    obtain ⟨h1, h2, h3, h4, h5, h6, h7⟩ := h
    have hdp : dpt (Term.add t x) = max (dpt t) (dpt x + 1) := rfl
    rcases List.mem_append.mp hy with hy | hy
    · exact DP_up _ _ _ (by omega) (ih n h1 hdn y hy)
    · have m := (AT_mem t h1 _ (hd_mem t h1)).1
      exact DP_up _ _ _ (by omega) (ihx (n + 1) h2 (Or.inr (by rw [h6]; exact ⟨⟨m.1, by omega⟩, hdn⟩)) y hy)
  | _ => intro n h; exact h.elim
section
variable {iv : List (Int × Int)} {L : Nat} {h0 : MH}
theorem set_ok {s : SM} {d : Nat} {b so v k : Int} {F : SM → Prop} (hb : 0 ≤ b ∧ b < 3004) (h : F (setU s b so v k)) : cm iv L h0 d 75 [vr 307, vi b, vi so, vi v, vi k] s (qv F) := by
  simp only [setU, nvl, kvl] at h
  refine B75 ⟨hb, ?_⟩
  by_cases e1 : so = 1
  · subst e1; simpa using h
  by_cases e2 : so = 2
  · subst e2; simpa using h
  by_cases e3 : so = 3
  · subst e3; simpa using h
  by_cases e8 : so = 8
  · subst e8; simpa using h
  by_cases e10 : so = 10
  · subst e10; simpa using h
  by_cases e15 : so = 15
  · subst e15; simpa using h
  simpa [e1, e2, e3, e8, e10, e15] using h
theorem born_ok {s : SM} {d : Nat} {so v k : Int} {F : Int → SM → Prop} (hb : 0 ≤ s.1 8 ∧ s.1 8 < 3004) (h : F (s.1 8) (bornU s so v k)) : cm iv L h0 (d + 1) 74 [vr 307, vi so, vi v, vi k] s (qi F) :=
  B74 ⟨by omega, set_ok hb h⟩
theorem setPart_ok {s : SM} {d : Nat} {b i c : Int} {F : SM → Prop} (hb : 0 ≤ b ∧ b < 3004) (hi : 0 ≤ i ∧ i < 3) (hc : 0 ≤ c ∧ c < 3004) (h : F (partU s b i c)) : cm iv L h0 d 76 [vr 307, vi b, vi i, vi c] s (qv F) :=
  B76 ⟨by omega, by omega, by omega, hc, h⟩
theorem replace_ok {s : SM} {d : Nat} {o c : Int} {F : SM → Prop} (ho : 0 ≤ o ∧ o < 3004) (hu : s.2 12 o = -9 ∨ ((0 ≤ s.2 12 o ∧ s.2 12 o < 3004) ∧ 0 ≤ s.2 13 o ∧ s.2 13 o < 3)) (hc : 0 ≤ c ∧ c < 3004) (h : F (replU s o c)) : cm iv L h0 (d + 1) 77 [vr 307, vi o, vi c] s (qv F) := by
  refine B77 ⟨ho, fun e => ?_, fun e => ⟨hc, ?_⟩⟩
  · obtain ⟨h1, h2⟩ := hu.resolve_left e
    refine setPart_ok h1 h2 hc ?_
    rw [replU, if_neg e] at h
    exact h
  · rw [replU, if_pos e] at h
    exact h
theorem binderOf_ok {s : SM} {d n : Nat} {b x : Int} {F : Int → SM → Prop} (hb : 0 ≤ b ∧ b < 3004) (hd : DP (s.2 12) n b) (h : F (bnd (s.2 9) (s.2 10) (s.2 12) (s.2 13) n b x) s) : cm iv L h0 d 85 [vr 307, vi b, vi x] s (qi F) := by
  have key : ∀ (n : Nat) (c : Int), (0 ≤ c ∧ c < 3004) → DP (s.2 12) n c → F (bnd (s.2 9) (s.2 10) (s.2 12) (s.2 13) n c x) s → wm iv L h0 d 85 10 [lr 307, ln, li x, li c, li (s.2 12 c)] [] s (qi F) := by
    intro n
    induction n with
    | zero => intro c _ h; exact h.elim
    | succ n ih =>
      intro c hc hd h
      unfold bnd at h
      refine B85_10 ⟨fun e => by rw [if_pos e] at h; exact h, fun e => ?_⟩
      rw [if_neg e] at h
      obtain ⟨h1, h2⟩ := hd.resolve_left e
      have nx : ¬ ((s.2 9 (s.2 12 c) = 8 ∨ (s.2 9 (s.2 12 c) = 10 ∧ s.2 13 c = 1)) ∧ s.2 10 (s.2 12 c) = x) → wm iv L h0 d 85 10 [lr 307, ln, li x, li (s.2 12 c), li (s.2 12 (s.2 12 c))] [] s (qi F) := fun q => ih _ h1 h2 (by rw [if_neg q] at h; exact h)
      have st : ((s.2 9 (s.2 12 c) = 8 ∨ (s.2 9 (s.2 12 c) = 10 ∧ s.2 13 c = 1)) ∧ s.2 10 (s.2 12 c) = x) → F (s.2 12 c) s := fun q => by rw [if_pos q] at h; exact h
      exact ⟨h1, fun e8 => ⟨fun q => nx (fun w => q w.2), fun q => st ⟨Or.inl e8, q⟩⟩, fun e8 => ⟨fun q => nx (fun w => by rcases w.1 with w1 | w1; exact e8 w1; exact q w1.1), fun e10 => ⟨hc, fun q => nx (fun w => by rcases w.1 with w1 | w1; exact e8 w1; exact q w1.2), fun e1 => ⟨fun q => nx (fun w => q w.2), fun q => st ⟨Or.inr ⟨e10, e1⟩, q⟩⟩⟩⟩⟩
  exact B85 ⟨hb, key n b hb hd h⟩
theorem isWithin_ok {s : SM} {d n : Nat} {b r : Int} {F : Int → SM → Prop} (hb : 0 ≤ b ∧ b < 3004) (hr : 0 ≤ r) (hd : DP (s.2 12) n b) (h : F (if wth (s.2 12) n b r then 1 else 0) s) : cm iv L h0 d 84 [vr 307, vi b, vi r] s (qi F) := by
  have key : ∀ (n : Nat) (c : Int), (0 ≤ c ∧ c < 3004) → DP (s.2 12) n c → F (if wth (s.2 12) n c r then 1 else 0) s → wm iv L h0 d 84 2 [lr 307, ln, li r, li c] [] s (qi F) := by
    intro n
    induction n with
    | zero => intro c _ h; exact h.elim
    | succ n ih =>
      intro c hc hd h
      unfold wth at h
      refine B84_2 ⟨fun e => by omega, fun e => ⟨fun e1 => ⟨fun q => absurd e1 q, fun _ => by simpa [e1] using h⟩, fun e1 => ⟨hc, ?_⟩⟩⟩
      rw [if_neg e1] at h
      by_cases e2 : s.2 12 c = -9
      · rw [if_pos e2] at h
        rw [e2]
        exact B84_2 ⟨fun _ => ⟨fun _ => by simpa using h, fun q => by omega⟩, fun q => absurd rfl q⟩
      · rw [if_neg e2] at h
        obtain ⟨h1, h2⟩ := hd.resolve_left e2
        exact ih _ h1 h2 h
  exact B84 (key n b hb hd h)
end

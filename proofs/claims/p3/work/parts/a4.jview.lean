/-! Judging by the desk, seen as a judging over rows: which runs of the desk stand for which of the reference's methods. -/
def ai (as : List VV) (i : Nat) : Int := match as[i]? with
  | some (.inl z) => z
  | _ => 0
/-- the method that stands for the reference's M, with what it is called -/
def tgM (A : Int → Nat) (M : Nat) (as : List VV) (a3 : Int) : Nat × List VV :=
  if M = 88 then (165, [vr 175, vr (A (ai as 1)), vi (ai as 2), vi a3])
  else if M = 89 then (166, [vr 175, vr (A (ai as 1)), vi (ai as 2), vi a3])
  else if M = 90 then (168, [vr 175, vr (A (ai as 1)), vi (ai as 2), vi a3])
  else if M = 91 then (169, [vr 175, vr (A (ai as 1)), vi a3])
  else if M = 92 then (170, [vr 175, vr (A (ai as 1)), vi (ai as 2), vi a3])
  else if M = 93 then (171, [vr 175, vr (A (ai as 1)), vi (ai as 2), vi a3])
  else if M = 94 then (172, [vr 175, vr (A (ai as 1)), vi a3])
  else if M = 87 then (189, [vr (A (ai as 1))])
  else if M = 65 then (181, [vr 65, vi (ai as 1), vi (ai as 2), vi (ai as 3)])
  else if M = 70 then (182, [vr 65, vi (ai as 1), vi (ai as 2)])
  else (184, [vr 65, vi (ai as 1), vi (ai as 2), vi 0])
/-- how the nodes hang, what they are -/
def JS (A : Int → Nat) (T : Int → Prop) (c : SC) (s : SM) : Prop := (A (-9) = 2 ∧ ∀ b b', T b → T b' → A b = A b' → b = b') ∧ ∀ b, T b → (64 ≤ A b ∧ kl c (A b) = 5 ∧ kl c (A b + 1) = 103 ∧ le c (A b + 1) = pO (s.2 9 b)) ∧ (fI c (A b) 1 = s.2 9 b ∧ fI c (A b) 4 = s.2 10 b ∧ fI c (A b) 2 = s.2 11 b ∧ fR c (A b) 3 = A b + 1) ∧ (fR c (A b) 5 = A (s.2 12 b) ∧ (s.2 12 b ≠ -9 → fI c (A b) 6 = s.2 13 b) ∧ (s.2 12 b = -9 ∨ T (s.2 12 b))) ∧ ∀ i, 0 ≤ i → i < pO (s.2 9 b) → aR c (A b + 1) i = A (s.2 14 (3 * b + i)) ∧ T (s.2 14 (3 * b + i))
/-- what was judged; some reasons may be others -/
def JDy (A : Int → Nat) (T : Int → Prop) (ρ : Int → Option Int) (c : SC) (s : SM) : Prop := ∀ b, T b → fI c (A b) 8 = s.2 20 b ∧ fI c (A b) 9 = s.2 19 b ∧ fI c (A b) 10 = (ρ b).getD (s.2 21 b)
def JKi (c : SC) (s : SM) : Prop := (fI c 65 4 = s.1 2 ∧ fI c 65 5 = s.1 3) ∧ aI c 66 = s.2 4 ∧ aI c 67 = s.2 5 ∧ aI c 68 = s.2 6 ∧ aI c 69 = s.2 7
def VJ (A : Int → Nat) (T : Int → Prop) (ρ : Int → Option Int) (c : SC) (s : SM) : Prop := FIX c ∧ JS A T c s ∧ JDy A T ρ c s ∧ JKi c s
/-- what judging may write -/
def jys : List (Nat × Nat) := [(5, 8), (5, 9), (5, 10), (25, 8), (25, 9), (25, 10), (4, 5)]
def jrs : List Nat := [66, 67, 68, 69]
def QJ (A : Int → Nat) (T : Int → Prop) (ρ : Int → Option Int) (c : SC) (Q : Option VV → SM → Prop) (v : Option VV) (e : SC) : Prop := ∃ w, VJ A T ρ e w ∧ (CX jys jrs c e ∧ RMk 0 0 c e) ∧ Q v w
def cj (iv : List (Int × Int)) (L : Nat) (h0 : MH) (A : Int → Nat) (T : Int → Prop) (ρ : Int → Option Int) (k d M : Nat) (as : List VV) (s : SM) (Q : Option VV → SM → Prop) : Prop := ∀ (c : SC) (a3 : Int), VJ A T ρ c s → 0 ≤ a3 → a3 + k ≤ 65 → ck iv L h0 d (tgM A M as a3).1 (tgM A M as a3).2 c (QJ A T ρ c Q)
section
variable {iv : List (Int × Int)} {L : Nat} {h0 : MH} {A : Int → Nat} {T : Int → Prop} {ρ : Int → Option Int} {c e f : SC} {s w : SM} {k d M : Nat}
theorem ky25 (a k : Nat) (y : Nat) (h : k = 5) (hy : y = 8 ∨ y = 9 ∨ y = 10) : (ky a k, y) ∈ jys := by
  subst h
  unfold ky
  split
  · rcases hy with rfl | rfl | rfl <;> decide
  · rcases hy with rfl | rfl | rfl <;> decide
theorem QJ.tr {Q : Option VV → SM → Prop} {v : Option VV} (h1 : CX jys jrs c e ∧ RMk 0 0 c e) (h : QJ A T ρ e Q v f) : QJ A T ρ c Q v f := by
  obtain ⟨w, a, ⟨b1, b2⟩, q⟩ := h
  exact ⟨w, a, ⟨h1.1.tr b1, h1.2.tr b2⟩, q⟩
/-- from a call within to the whole -/
theorem cj_in {M' : Nat} {as : List VV} {a3 : Int} {Q : Option VV → SM → Prop} {Q' : Option VV → SC → Prop} {k' d' : Nat} (h : cj iv L h0 A T ρ k' d' M as s Q) (hv : VJ A T ρ c s) (h3 : 0 ≤ a3) (hk : a3 + k' ≤ 65) (hQ : ∀ v e w, VJ A T ρ e w → CX jys jrs c e → RMk 0 0 c e → Q v w → Q' v e) : ck iv L h0 d' (tgM A M as a3).1 (tgM A M as a3).2 c Q' := by
  refine wc_mono (h c a3 hv h3 hk) (Nat.le_refl _) ?_
  rintro v e ⟨w, a, ⟨b1, b2⟩, q⟩
  exact hQ v e w a b1 b2 q
theorem cji_mono {as : List VV} {k' d' : Nat} {F F' : Int → SM → Prop} (h : cj iv L h0 A T ρ k d M as s (qi F)) (hd : d ≤ d') (hk : k ≤ k') (hq : ∀ z s', F z s' → F' z s') : cj iv L h0 A T ρ k' d' M as s (qi F') := fun c a3 hv h3 hk3 => wc_mono (h c a3 hv h3 (by omega)) hd (fun v e ⟨w, a, b, z, q1, q2⟩ => ⟨w, a, b, z, q1, hq z w q2⟩)
theorem js_uI {b y : Nat} {z : Int} (h : JS A T c s) (hy : y = 8 ∨ y = 9 ∨ y = 10) : JS A T (uI c b y z) s := by
  refine ⟨h.1, fun x hx => ?_⟩
  obtain ⟨p1, ⟨p2, p3, p4, p5⟩, ⟨p6, p7, p8⟩, p9⟩ := h.2 x hx
  have e : ∀ k, k < 8 → fI (uI c b y z) (A x) k = fI c (A x) k := fun k hk => by rw [fI_uI, if_neg (by omega)]
  exact ⟨p1, ⟨(e 1 (by decide)).trans p2, (e 4 (by decide)).trans p3, (e 2 (by decide)).trans p4, p5⟩, ⟨p6, fun q => (e 6 (by decide)).trans (p7 q), p8⟩, p9⟩
end

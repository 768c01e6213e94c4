/-! value(i), left(k). -/
def hasV (s : SM) : Prop := s.1 61 = 0 ∨ s.1 61 = 1
def atB (o : List Int) (k : Int) : Int := if k = -1 then o.length else if 0 ≤ k ∧ k < o.length then o.getD k.toNat 0 else -9
/-- the hole of a term -/
def hlN : Term → Int
  | .div (.index b) _ => b
  | _ => -9
section
variable {iv : List (Int × Int)} {L : Nat} {h0 : MH} {s : SM} {V : Term} {d : Nat}
theorem has_ok {F : Int → SM → Prop} (h1 : hasV s → F 1 s) (h0' : ¬ hasV s → F 0 s) : cm iv L h0 d 147 [vr 307] s (qi F) :=
  B147 ⟨fun q => h1 (Or.inl q), fun q => ⟨fun q2 => h0' (fun c => by unfold hasV at c; omega), fun q2 => h1 (Or.inr q2)⟩⟩
theorem atB_ok {o : List Int} {w : SM} {k : Int} {F : Int → SM → Prop} (h : BY w o) (hF : F (atB o k) w) : (k ≠ (-1) → (-2147483648 ≤ (w.1 67) - 1 ∧ (w.1 67) - 1 ≤ 2147483647) ∧ ((0 ≤ k ∧ k ≤ (w.1 67) - 1 → (0 ≤ k ∧ k < 400) ∧ F (w.2 66 k) w) ∧ (k < 0 ∨ (w.1 67) - 1 < k → F (-9) w))) ∧ (k = (-1) → F (w.1 67) w) := by
  obtain ⟨⟨a1, a2⟩, a3⟩ := h
  unfold atB at hF
  refine ⟨fun q => ⟨by omega, fun q2 => ⟨by omega, ?_⟩, fun q2 => ?_⟩, fun q => ?_⟩
  · rw [if_neg q, if_pos (by omega)] at hF
    have := a3 k.toNat (o.getD k.toNat 0) (by rw [List.getElem?_eq_getElem (by omega)]; rw [List.getD_eq_getElem?_getD, List.getElem?_eq_getElem (by omega)]; rfl)
    rw [show ((k.toNat : Nat) : Int) = k by omega] at this
    rw [this]
    exact hF
  · rw [if_neg q, if_neg (by omega)] at hF
    exact hF
  · rw [if_pos q] at hF
    rw [a1]
    exact hF
/-- what is to be known of the last value -/
def VK (s : SM) (V : Term) : Prop := hasV s → HB s ∧ VH s V ∧ VB s V
theorem value_ok {k : Int} {F : Int → SM → Prop} (h8 : s.1 8 ≤ 3000) (hV : VK s V) (hd : 407 ≤ d) (H0 : ¬ hasV s → F (-9) s) (H1 : ∀ w, hasV s → eqx [67, 69] [66, 68, 70] s w → F (atB (wrt s V).1 k) w) : cm iv L h0 d 148 [vr 307, vi k] s (qi F) := by
  obtain ⟨d, rfl⟩ : ∃ k, d = k + 1 := ⟨d - 1, by omega⟩
  refine B148 (has_ok (fun q => ⟨fun _ => ?_, fun q2 => by cases q2⟩) (fun q => ⟨fun q2 => absurd rfl q2, fun _ => H0 q⟩))
  obtain ⟨⟨b1, b2, b3⟩, v1, v2⟩ := hV q
  exact write1_ok (by omega) h8 ⟨v1.1, v2⟩ v1.2 eqx.rf (by omega) (fun u hu => atB_ok hu.2.1 (H1 u q hu.1))
def lefA (s : SM) (V : Term) (k : Int) : Int := if 0 ≤ k ∧ k < (wrt s V).2.length then hlN ((wrt s V).2.getD k.toNat .null) else -9
theorem getD_at {α : Type} {l : List α} {k : Int} {x : α} (h0 : 0 ≤ k) (h1 : k < l.length) : l[k.toNat]? = some (l.getD k.toNat x) := by
  rw [List.getD_eq_getElem?_getD, List.getElem?_eq_getElem (by omega)]
  rfl
theorem lef_at {w : SM} {lo hi elo ehi : Int} {o : List Int × List Term} {k : Int} (hb : 0 ≤ lo ∧ hi ≤ 2600) (hu : OU s lo hi elo ehi o w) (h0 : 0 ≤ k) (h1 : k < o.2.length) (hd : ∀ V, V ∈ o.2 → ∃ (b : Nat) (E : Term), V = .div (.index b) E) : (0 ≤ w.2 68 k ∧ w.2 68 k < 2600) ∧ w.2 47 (w.2 68 k) = hlN (o.2.getD k.toNat .null) ∧ ∃ (b : Nat) (E : Term), o.2.getD k.toNat .null = .div (.index b) E ∧ VR s lo hi elo ehi E (s.2 50 (w.2 68 k)) := by
  have e := getD_at (x := Term.null) h0 h1
  generalize o.2.getD k.toNat .null = V at e ⊢
  obtain ⟨b, E, rfl⟩ := hd V (List.mem_of_getElem? e)
  have := (hu.2.2.2 k.toNat _ e).1
  rw [show ((k.toNat : Nat) : Int) = k by omega] at this
  obtain ⟨e', ⟨k0, k1, k2, k3, k4, k5, -⟩, kE⟩ := this
  refine ⟨by omega, ?_, b, E, rfl, ?_⟩
  · rw [hu.c (by decide), k2]; rfl
  · rw [k5]; exact kE
end

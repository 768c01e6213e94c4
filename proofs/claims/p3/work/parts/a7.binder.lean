/-! What binds a letter, by the desk. -/
section
variable {iv : List (Int × Int)} {L : Nat} {h0 : MH} {A : Int → Nat} {T : Int → Prop} {ρ : Int → Option Int} {c e f : SC} {s w : SM} {k d M : Nat}
theorem bnd_T {so nu pl : Int → Int} (h : ∀ b, T b → s.2 12 b = -9 ∨ T (s.2 12 b)) : ∀ (n : Nat) (b x : Int), T b → bnd so nu (s.2 12) pl n b x = -9 ∨ T (bnd so nu (s.2 12) pl n b x) := by
  intro n
  induction n with
  | zero => intro b x _; exact Or.inl rfl
  | succ n ih =>
    intro b x hb
    unfold bnd
    by_cases e : s.2 12 b = -9
    · rw [if_pos e]; exact Or.inl rfl
    · rw [if_neg e]
      have hu := (h b hb).resolve_left e
      split
      · exact Or.inr hu
      · exact ih _ x hu
theorem nb_ok {nu : Int → Int} {q z : Int} (hS : JS A T c s) (hq : q = -9 ∨ T q) (hnu : ∀ y, T y → nu y = if y = q then z else s.2 10 y) {n : Nat} {b x : Int} {F : Nat → SC → Prop} (hb : T b) (hD : DP (s.2 12) n b) (hF : F (A (bnd (s.2 9) nu (s.2 12) (s.2 13) n b x)) c) : ck iv L h0 d 56 [vr (A b), vi x, vr (A q), vi z] c (qa F) := by
  have A9 := hS.1.1
  have hq64 : A q = 2 ∨ 64 ≤ A q := by
    rcases hq with e | e
    · left; rw [e]; exact A9
    · right; exact (hS.2 q e).1.1
  have key : ∀ (n : Nat) (b : Int), T b → DP (s.2 12) n b → F (A (bnd (s.2 9) nu (s.2 12) (s.2 13) n b x)) c → wk iv L h0 d 56 9 [ln, li x, lr (A q), li z, lr (A b), lr (A (s.2 12 b))] [] c (qa F) := by
    intro n
    induction n with
    | zero => intro b _ hD _; exact hD.elim
    | succ n ih =>
      intro b hb hD hF
      unfold bnd at hF
      obtain ⟨⟨p1, p2, p3, p4⟩, ⟨p5, p6, p7, p8⟩, ⟨p9, p10, p11⟩, p12⟩ := hS.2 b hb
      by_cases e : s.2 12 b = -9
      · rw [if_pos e, A9] at hF
        rw [e, A9]
        exact C56_9 ⟨fun _ => hF, fun h => absurd rfl h⟩
      · rw [if_neg e] at hF
        have hu := p11.resolve_left e
        obtain ⟨⟨u1, u2, u3, u4⟩, ⟨u5, u6, u7, u8⟩, ⟨u9, u10, u11⟩, u12⟩ := hS.2 _ hu
        have hne : A (s.2 12 b) ≠ 2 := by omega
        have nx : ¬ ((s.2 9 (s.2 12 b) = 8 ∨ (s.2 9 (s.2 12 b) = 10 ∧ s.2 13 b = 1)) ∧ nu (s.2 12 b) = x) → wk iv L h0 d 56 9 [ln, li x, lr (A q), li z, lr (A (s.2 12 b)), lr (fR c (A (s.2 12 b)) 5)] [] c (qa F) := fun w => by
          rw [u9]
          exact ih _ hu (hD.resolve_left e).2 (by rw [if_neg w] at hF; exact hF)
        have st : ((s.2 9 (s.2 12 b) = 8 ∨ (s.2 9 (s.2 12 b) = 10 ∧ s.2 13 b = 1)) ∧ nu (s.2 12 b) = x) → F (A (s.2 12 b)) c := fun w => by rw [if_pos w] at hF; exact hF
        have hn := hnu _ hu
        have iq : A (s.2 12 b) = A q ↔ s.2 12 b = q := by
          constructor
          · intro w
            rcases hq with e' | e'
            · rw [e', A9] at w; exact absurd w hne
            · exact hS.1.2 _ _ hu e' w
          · intro w; rw [w]
        refine C56_9 ⟨fun w => absurd w hne, fun _ => ⟨u2, ?_⟩⟩
        rw [u5, u6]
        have both : (s.2 9 (s.2 12 b) = 8 ∨ (s.2 9 (s.2 12 b) = 10 ∧ s.2 13 b = 1)) → (A (s.2 12 b) = 2 ∨ 64 ≤ A (s.2 12 b)) ∧ (A q = 2 ∨ 64 ≤ A q) ∧ (A (s.2 12 b) ≠ A q → (s.2 10 (s.2 12 b) ≠ x → wk iv L h0 d 56 9 [ln, li x, lr (A q), li z, lr (A (s.2 12 b)), lr (fR c (A (s.2 12 b)) 5)] [] c (qa F)) ∧ (s.2 10 (s.2 12 b) = x → F (A (s.2 12 b)) c)) ∧ (A (s.2 12 b) = A q → (z ≠ x → wk iv L h0 d 56 9 [ln, li x, lr (A q), li z, lr (A (s.2 12 b)), lr (fR c (A (s.2 12 b)) 5)] [] c (qa F)) ∧ (z = x → F (A (s.2 12 b)) c)) := fun hs => by
          refine ⟨Or.inr u1, hq64, fun w => ?_, fun w => ?_⟩
          · rw [if_neg (fun w' => w (iq.mpr w'))] at hn
            exact ⟨fun v => nx (fun v' => v (by rw [← hn]; exact v'.2)), fun v => st ⟨hs, by rw [hn]; exact v⟩⟩
          · rw [if_pos (iq.mp w)] at hn
            exact ⟨fun v => nx (fun v' => v (by rw [← hn]; exact v'.2)), fun v => st ⟨hs, by rw [hn]; exact v⟩⟩
        refine ⟨fun e8 => both (Or.inl e8), fun e8 => ⟨fun e10 => nx (fun v => by rcases v.1 with v | v; exact e8 v; exact e10 v.1), fun e10 => ⟨p2, fun e1 => nx (fun v => by rcases v.1 with v | v; exact e8 v; exact e1 (by rw [p10 e]; exact v.2)), fun e1 => both (Or.inr ⟨e10, by rw [← p10 e]; exact e1⟩)⟩⟩⟩
  obtain ⟨⟨p1, p2, p3, p4⟩, ⟨p5, p6, p7, p8⟩, ⟨p9, p10, p11⟩, p12⟩ := hS.2 b hb
  refine C56 ⟨p2, ?_⟩
  rw [p9]
  exact key n b hb hD hF
theorem nb0_ok {n : Nat} {b x : Int} {F : Nat → SC → Prop} (hS : JS A T c s) (hb : T b) (hD : DP (s.2 12) n b) (hF : F (A (bnd (s.2 9) (s.2 10) (s.2 12) (s.2 13) n b x)) c) : ck iv L h0 d 56 [vr (A b), vi x, vr 2, vi (-9)] c (qa F) := by
  have := nb_ok (iv := iv) (L := L) (h0 := h0) (d := d) (nu := s.2 10) (q := -9) (z := -9) (F := F) hS (Or.inl rfl) (fun y hy => by
    rw [if_neg (fun e => ?_)]
    have h64 := (hS.2 y hy).1.1
    rw [e, hS.1.1] at h64
    omega) hb hD hF
  rw [hS.1.1] at this
  exact this
end

/-! What judging comes to hangs on the tree alone. -/
theorem AT_un {so pa up pl so' pa' up' pl' : Int → Int} {B B' : Int} : ∀ (t : Term), AT so pa up pl B t → AT so' pa' up' pl' B' t → (∀ y, y ∈ fl t → y ≠ hd t → up' y = up y ∧ pl' y = pl y) ∧ ∀ y, y ∈ fl t → ∀ i, 0 ≤ i → i < pO (so y) → (y = hd t → i < na t) → pa' (3 * y + i) = pa (3 * y + i) := by
  intro t
  induction t with
  | index n =>
    intro _ _
    refine ⟨fun y hy hn => absurd (List.mem_singleton.mp hy) hn, fun y hy i i0 _ hi => ?_⟩
    have := hi (List.mem_singleton.mp hy)
    have : i < 0 := this
    omega
  | add t x ih ihx =>
    intro h h'
    obtain ⟨h1, h2, h3, h4, h5, h6, h7⟩ := h
    obtain ⟨k1, k2, k3, k4, k5, k6, k7⟩ := h'
    obtain ⟨a1, a2⟩ := ih h1 k1
    obtain ⟨b1, b2⟩ := ihx h2 k2
    refine ⟨fun y hy hn => ?_, fun y hy i i0 ip hi => ?_⟩
    · rcases List.mem_append.mp hy with q | q
      · exact a1 y q hn
      · by_cases e : y = hd x
        · rw [e, h6, h7, k6, k7]; exact ⟨rfl, rfl⟩
        · exact b1 y q e
    · rcases List.mem_append.mp hy with q | q
      · by_cases e : y = hd t
        · by_cases e2 : i = na t
          · rw [e, e2, h5, k5]
          · refine a2 y q i i0 ip (fun _ => ?_)
            have hi : i < na t + 1 := hi e
            omega
        · exact a2 y q i i0 ip (fun q => absurd q e)
      · refine b2 y q i i0 ip (fun e => ?_)
        rw [h3, ← e]
        exact ip
  | _ => intro h; exact h.elim
/-- a tree, wherever births are -/
def SHW (s : SM) (t : Term) : Prop := AT (s.2 9) (s.2 14) (s.2 12) (s.2 13) 3004 t ∧ full (s.2 9) t ∧ (fl t).Nodup ∧ hd t = s.1 15 ∧ s.2 12 (hd t) = -9 ∧ s.2 13 (hd t) = -9
theorem SHT.w {s : SM} {t : Term} (h : SHT s t) : SHW s t := ⟨AT_B (by have := h.2.2.2.2.1; omega) t h.1, h.2.1, h.2.2.1, h.2.2.2.2.2.1, h.2.2.2.2.2.2.1, h.2.2.2.2.2.2.2⟩
theorem SHW.ul {s w : SM} {t : Term} (h : SHW s t) (h' : SHW w t) {y : Int} (hy : y ∈ fl t) : w.2 12 y = s.2 12 y ∧ w.2 13 y = s.2 13 y := by
  by_cases e : y = hd t
  · rw [e, h.2.2.2.2.1, h'.2.2.2.2.1, h.2.2.2.2.2, h'.2.2.2.2.2]; exact ⟨rfl, rfl⟩
  · exact (AT_un t h.1 h'.1).1 y hy e
theorem SHW.pa {s w : SM} {t : Term} (h : SHW s t) (h' : SHW w t) {y i : Int} (hy : y ∈ fl t) (h0 : 0 ≤ i) (hi : i < pO (s.2 9 y)) : w.2 14 (3 * y + i) = s.2 14 (3 * y + i) :=
  (AT_un t h.1 h'.1).2 y hy i h0 hi (fun e => by have := h.2.1; unfold full at this; rw [this, ← e]; exact hi)
theorem SHW.up {s : SM} {t : Term} (h : SHW s t) {y : Int} (hy : y ∈ fl t) (hu : s.2 12 y ≠ -9) : s.2 12 y ∈ fl t := by
  refine ((AT_mem t h.1 y hy).2.2.2 (fun e => hu ?_)).1
  rw [e]
  exact h.2.2.2.2.1
theorem bnd_mem {s : SM} {t : Term} (h : SHW s t) {nu : Int → Int} : ∀ (n : Nat) (y x : Int), y ∈ fl t → bnd (s.2 9) nu (s.2 12) (s.2 13) n y x = -9 ∨ (bnd (s.2 9) nu (s.2 12) (s.2 13) n y x ∈ fl t ∧ (s.2 9 (bnd (s.2 9) nu (s.2 12) (s.2 13) n y x) = 8 ∨ s.2 9 (bnd (s.2 9) nu (s.2 12) (s.2 13) n y x) = 10)) := by
  intro n
  induction n with
  | zero => intro y x _; exact Or.inl rfl
  | succ n ih =>
    intro y x hy
    unfold bnd
    by_cases e : s.2 12 y = -9
    · rw [if_pos e]; exact Or.inl rfl
    · have hu := h.up hy e
      rw [if_neg e]
      by_cases e2 : (s.2 9 (s.2 12 y) = 8 ∨ (s.2 9 (s.2 12 y) = 10 ∧ s.2 13 y = 1)) ∧ nu (s.2 12 y) = x
      · rw [if_pos e2]; exact Or.inr ⟨hu, e2.1.imp id (fun q => q.1)⟩
      · rw [if_neg e2]; exact ih _ x hu
theorem bnd_cg {s w : SM} {t : Term} (h : SHW s t) (h' : SHW w t) {nu nu' : Int → Int} (h9 : ∀ y, y ∈ fl t → w.2 9 y = s.2 9 y) (hn : ∀ y, y ∈ fl t → s.2 9 y = 8 ∨ s.2 9 y = 10 → nu' y = nu y) : ∀ (n : Nat) (y x : Int), y ∈ fl t → bnd (w.2 9) nu' (w.2 12) (w.2 13) n y x = bnd (s.2 9) nu (s.2 12) (s.2 13) n y x := by
  intro n
  induction n with
  | zero => intro y x _; rfl
  | succ n ih =>
    intro y x hy
    unfold bnd
    obtain ⟨e1, e2⟩ := h.ul h' hy
    rw [e1, e2]
    by_cases e : s.2 12 y = -9
    · rw [if_pos e, if_pos e]
    · have hu := h.up hy e
      rw [if_neg e, if_neg e, h9 _ hu, ih _ x hu]
      by_cases e3 : s.2 9 (s.2 12 y) = 8 ∨ (s.2 9 (s.2 12 y) = 10 ∧ s.2 13 y = 1)
      · rw [hn _ hu (e3.imp id (fun q => q.1))]
      · rw [if_neg (fun q => e3 q.1), if_neg (fun q => e3 q.1)]
section
variable {so nu td pa : Int → Int} {kk : Int → Term} {bd : Int → Int → Int} {A : Option Term} {J : JT}
theorem jd_0 (b : Nat) : jd so nu td pa kk bd (.index b) A J = jen (so b) b A (if so b = 0 then (jin b A J, .null) else if so b = 1 then (jin b A J, .result) else if so b = 2 then (jin b A J, .thrown) else jnm so td pa kk (bd b (nu b)) b (jin b A J)) := rfl
theorem jd_1 (b : Nat) (x : Term) : jd so nu td pa kk bd (.add (.index b) x) A J = jen (so b) b A (
      if so b = 8 then jdf (jd so nu td pa kk bd x) b (kk (td b)) A (jin b A J)
      else if so b = 15 then ((jd so nu td pa kk bd x (some (kk (td b))) (jin b A J)).1, kk (td b))
      else jhf (jd so nu td pa kk bd x) (hd x) (so b) (jin b A J)) := rfl
theorem jd_2 (b : Nat) (x y : Term) : jd so nu td pa kk bd (.add (.add (.index b) x) y) A J = jen (so b) b A (
      if so b = 9 then jus (jd so nu td pa kk bd x) (jd so nu td pa kk bd y) (hd x) (jin b A J)
      else if so b = 10 then jd so nu td pa kk bd y A (jd so nu td pa kk bd x none (jin b A J)).1
      else if so b = 12 then jpr (jd so nu td pa kk bd x) (jd so nu td pa kk bd y) A (jin b A J)
      else ((jd so nu td pa kk bd y (some .result) (jd so nu td pa kk bd x (some .result) (jin b A J)).1).1, if so b = 7 then .thrown else .result)) := rfl
theorem jd_3 (b : Nat) (x y z : Term) : jd so nu td pa kk bd (.add (.add (.add (.index b) x) y) z) A J = jen (so b) b A (jpk (jd so nu td pa kk bd x) (jd so nu td pa kk bd y) (jd so nu td pa kk bd z) b A (jin b A J)) := rfl
end
/-- cells that agree where judging looks -/
theorem jd_cg {so nu td pa so' nu' td' pa' up pl : Int → Int} {kk kk' : Int → Term} {bd bd' : Int → Int → Int} {B : Int} (S : Int → Prop) (hs : ∀ x, S x → so' x = so x ∧ nu' x = nu x ∧ (so x = 8 ∨ so x = 15 → kk' (td' x) = kk (td x))) (hb : ∀ x y, S x → bd' x y = bd x y ∧ (bd x y = -9 ∨ (S (bd x y) ∧ (so (bd x y) = 8 ∨ pa' (3 * bd x y) = pa (3 * bd x y))))) : ∀ (n : Nat) (t : Term), dpt t ≤ n → AT so pa up pl B t → (∀ x, x ∈ fl t → S x) → jd so' nu' td' pa' kk' bd' t = jd so nu td pa kk bd t := by
  intro n
  induction n with
  | zero => intro t h; have := dpt_pos t; omega
  | succ n ih =>
    intro t hn hA hS
    funext A J
    cases t with
    | index b =>
      have hSb := hS b (List.mem_singleton.mpr rfl)
      obtain ⟨s1, s2, s3⟩ := hs b hSb
      rw [jd_0, jd_0, s1, s2]
      obtain ⟨b1, b2⟩ := hb b (nu b) hSb
      rw [b1]
      have : jnm so' td' pa' kk' (bd b (nu b)) b (jin b A J) = jnm so td pa kk (bd b (nu b)) b (jin b A J) := by
        unfold jnm
        by_cases e4 : bd b (nu b) = -9
        · rw [if_pos e4, if_pos e4]
        · obtain ⟨b3, b4⟩ := b2.resolve_left e4
          obtain ⟨u1, u2, u3⟩ := hs _ b3
          rw [if_neg e4, if_neg e4, u1]
          by_cases e5 : so (bd b (nu b)) = 8
          · rw [if_pos e5, if_pos e5, u3 (Or.inl e5)]
          · rw [if_neg e5, if_neg e5, b4.resolve_left e5]
      rw [this]
    | add t1 y =>
      have hd1 : dpt (Term.add t1 y) = max (dpt t1) (dpt y + 1) := rfl
      have fy := ih y (by omega) hA.2.1 (fun x hx => hS x (List.mem_append_right _ hx))
      cases t1 with
      | index b =>
        obtain ⟨s1, s2, s3⟩ := hs b (hS b (List.mem_append_left _ (List.mem_singleton.mpr rfl)))
        rw [jd_1, jd_1, s1, fy]
        by_cases e8 : so b = 8
        · rw [if_pos e8, if_pos e8, s3 (Or.inl e8)]
        · by_cases e15 : so b = 15
          · rw [if_neg e8, if_neg e8, if_pos e15, if_pos e15, s3 (Or.inr e15)]
          · rw [if_neg e8, if_neg e8, if_neg e15, if_neg e15]
      | add t2 z =>
        have hd2 : dpt (Term.add t2 z) = max (dpt t2) (dpt z + 1) := rfl
        have fz := ih z (by omega) hA.1.2.1 (fun x hx => hS x (List.mem_append_left _ (List.mem_append_right _ hx)))
        cases t2 with
        | index b =>
          obtain ⟨s1, s2, s3⟩ := hs b (hS b (List.mem_append_left _ (List.mem_append_left _ (List.mem_singleton.mpr rfl))))
          rw [jd_2, jd_2, s1, fy, fz]
        | add t3 v =>
          have hd3 : dpt (Term.add t3 v) = max (dpt t3) (dpt v + 1) := rfl
          have fv := ih v (by omega) hA.1.1.2.1 (fun x hx => hS x (List.mem_append_left _ (List.mem_append_left _ (List.mem_append_right _ hx))))
          cases t3 with
          | index b =>
            obtain ⟨s1, s2, s3⟩ := hs b (hS b (List.mem_append_left _ (List.mem_append_left _ (List.mem_append_left _ (List.mem_singleton.mpr rfl)))))
            rw [jd_3, jd_3, s1, fy, fz, fv]
          | _ => rfl
        | _ => rfl
      | _ => rfl
    | _ => exact hA.elim
/-- two states with one tree, and nodes alike -/
theorem jdg_un {s w : SM} {t : Term} (h : SHW s t) (h' : SHW w t) (hn : ∀ x, x ∈ fl t → w.2 9 x = s.2 9 x ∧ w.2 10 x = s.2 10 x ∧ w.2 11 x = s.2 11 x) (hk : ∀ x, x ∈ fl t → (s.2 9 x = 8 ∨ s.2 9 x = 15) → kks w (s.2 11 x) = kks s (s.2 11 x)) : jdg w t = jdg s t := by
  unfold jdg jds
  rw [jd_cg (so := s.2 9) (nu := s.2 10) (td := s.2 11) (pa := s.2 14) (kk := kks s) (bd := bds s) (fun x => x ∈ fl t) (fun x hx => ?_) (fun x y hx => ?_) (dpt t) t (Nat.le_refl _) h.1 (fun x hx => hx)]
  · obtain ⟨a1, a2, a3⟩ := hn x hx
    exact ⟨a1, a2, fun q => by rw [a3]; exact hk x hx q⟩
  · have e : bds w x y = bds s x y := bnd_cg h h' (fun z hz => (hn z hz).1) (fun z hz _ => (hn z hz).2.1) 70 x y hx
    refine ⟨e, (bnd_mem h (nu := s.2 10) 70 x y hx).imp id (fun q => ⟨q.1, ?_⟩)⟩
    rcases q.2 with q2 | q2
    · exact Or.inl q2
    · right
      have := h.pa h' q.1 (Int.le_refl 0) (show (0 : Int) < pO (s.2 9 (bds s x y)) from by rw [show s.2 9 (bds s x y) = 10 from q2]; decide)
      rw [Int.add_zero] at this
      exact this
theorem kks_ag {s w : SM} {n : Int} (hK : KIs s) (h2 : s.1 2 ≤ w.1 2) (he : ∀ k, k < s.1 2 → w.2 4 k = s.2 4 k ∧ w.2 5 k = s.2 5 k ∧ w.2 6 k = s.2 6 k) : ∀ k, 0 ≤ k → k < s.1 2 → kks w k = kks s k := by
  have key : ∀ (q : Nat) (k : Int), 0 ≤ k → k < s.1 2 → kd (w.2 4) (w.2 5) (w.2 6) q k = kd (s.2 4) (s.2 5) (s.2 6) q k := by
    intro q
    induction q with
    | zero => intro k _ _; rfl
    | succ q ih =>
      intro k k0 k1
      obtain ⟨e1, e2, e3⟩ := he k k1
      rw [kd_s, kd_s, e1, e2, e3]
      by_cases h3 : k < 3
      · have := (hK.2.1 k k0 h3).1
        have hk : s.2 4 k = 0 ∨ s.2 4 k = 1 ∨ s.2 4 k = 2 := by omega
        rcases hk with e | e | e <;> rw [e] <;> rfl
      · obtain ⟨q1, q2, q3, q4, q5⟩ := hK.2.2 k (by omega) k1
        rw [ih _ q2.1 (by omega), ih _ q3.1 (by omega)]
  intro k k0 k1
  unfold kks
  rw [if_pos (show 0 ≤ k ∧ k < w.1 2 by omega), if_pos (show 0 ≤ k ∧ k < s.1 2 by omega)]
  exact key 40 k k0 k1
theorem jdg_x {ey ef : List Nat} {s w : SM} {t : Term} (h : SHT s t) (h' : SHT w t) (hN : NB s) (hK : KIs s) (hx : SX ey ef s w) (hy : 2 ∉ ey) (hf : (4 ∉ ef ∧ 5 ∉ ef ∧ 6 ∉ ef) ∧ 9 ∉ ef ∧ 10 ∉ ef ∧ 11 ∉ ef) : jdg w t = jdg s t := by
  have k3 := hK.1
  refine jdg_un h.w h'.w (fun x hx2 => ?_) (fun x hx2 q => ?_)
  · have := h.lt hx2
    exact ⟨hx.2 9 (by decide) hf.2.1 x (by unfold scI; omega), hx.2 10 (by decide) hf.2.2.1 x (by unfold scI; omega), hx.2 11 (by decide) hf.2.2.2 x (by unfold scI; omega)⟩
  · have := h.lt hx2
    have := (hN x this.1 this.2.1).2.2.2 q
    exact kks_ag (n := 0) hK (by rw [hx.1 2 (by decide) hy]; exact Int.le_refl _) (fun k hk => ⟨hx.2 4 (by decide) hf.1.1 k (by unfold scI; omega), hx.2 5 (by decide) hf.1.2.1 k (by unfold scI; omega), hx.2 6 (by decide) hf.1.2.2 k (by unfold scI; omega)⟩) _ this.1 this.2

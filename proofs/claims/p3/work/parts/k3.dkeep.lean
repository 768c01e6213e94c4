/-! What of works stays over other changes of the desk. -/
section
variable {iv : List (Int × Int)} {L : Nat} {h0 : MH} {A A' : Int → Nat} {P Q : Nat → Prop} {c c0 e f : SC} {σ s s' : SM} {t : Term} {d p q a g x y r w : Nat} {n b : Int} {ys : List (Nat × Nat)} {rs : List Nat} {R : RS} {X Y E V : Term} {l : List (Int × Nat)} {o : List Int × List Term}
/-- keys and rows of the pools are not among these -/
def NPY (ys : List (Nat × Nat)) (rs : List Nat) : Prop := (∀ y, (10, y) ∉ ys ∧ (7, y) ∉ ys) ∧ ((6, 2) ∉ ys ∧ (6, 3) ∉ ys) ∧ 178 ∉ rs ∧ 179 ∉ rs ∧ 181 ∉ rs ∧ 182 ∉ rs
theorem pool_row (hX : FIX c) (hx : CX ys rs c e) (h : NPY ys rs) (hp : p = 177 ∨ p = 180) : aR e (p + 1) = aR c (p + 1) ∧ aR e (p + 2) = aR c (p + 2) ∧ fI e p 2 = fI c p 2 ∧ fI e p 3 = fI c p 3 := by
  obtain ⟨k1, -⟩ := hX.pl hp
  have h353 := hX.2.2.1
  have hr1 : rk (p + 1) (kl c (p + 1)) ∉ rs := by unfold rk; rw [if_pos (by omega)]; rcases hp with rfl | rfl; exact h.2.2.1; exact h.2.2.2.2.1
  have hr2 : rk (p + 2) (kl c (p + 2)) ∉ rs := by unfold rk; rw [if_pos (by omega)]; rcases hp with rfl | rfl; exact h.2.2.2.1; exact h.2.2.2.2.2
  have hk : ky p (kl c p) = 6 := by unfold ky; rw [if_neg (by omega), k1]
  exact ⟨hx.ar (by omega) hr1, hx.ar (by omega) hr2, hx.i (by omega) (by rw [hk]; exact h.2.1.1), hx.i (by omega) (by rw [hk]; exact h.2.1.2)⟩
theorem liv_cx (hX : FIX c) (hx : CX ys rs c e) (h : NPY ys rs) (hp : p = 177 ∨ p = 180) (u : Nat) (hu : LIV c p u) : LIV e p u := by
  obtain ⟨r1, r2, r3, r4⟩ := pool_row hX hx h hp
  refine ⟨⟨hu.1.1, Nat.lt_of_lt_of_le hu.1.2 hx.n⟩, fun i i0 i1 => ?_, fun i i0 i1 => ?_⟩
  · rw [r1]; exact hu.2.1 i (by rw [r3] at i0; exact i0) i1
  · rw [r2]; exact hu.2.2 i (by rw [r4] at i0; exact i0) i1
theorem yng_cx (hX : FIX c) (hx : CX ys rs c e) (h : NPY ys rs) (hp : p = 177 ∨ p = 180) : ∀ u, YNG c p u → YNG e p u :=
  yng_up (liv_cx hX hx h hp) (fun q i hq hn => ⟨by rw [(pool_row hX hx h hq).1], by rw [(pool_row hX hx h hq).2.1]⟩)
theorem sty_cx (hX : FIX c) (hx : CX ys rs c e) (h : NPY ys rs) (hp : p = 177 ∨ p = 180) : STY (YNG c p) (YNG e p) c e := fun u hu => ⟨yng_cx hX hx h hp u hu, fun hk => by
  have hl := hu.1.1.2
  have h3 := hu.1.1.1
  have hky : ky u (kl c u) = kl c u := by unfold ky; rw [if_neg (by omega)]
  have hn : ∀ y, (ky u (kl c u), y) ∉ ys := fun y => by
    rw [hky]
    rcases hk with k | k <;> rw [k]
    · exact (h.1 y).1
    · exact (h.1 y).2
  exact ⟨hx.k hl, fun y _ => ⟨hx.i hl (hn y), hx.r hl (hn y)⟩⟩⟩
theorem PL2_cx (hX : FIX c) (hx : CX ys rs c e) (h : NPY ys rs) (hP : PL2 c) : PL2 e := by
  obtain ⟨q1, q2, q3⟩ := hP
  refine ⟨fun q hq => ?_, fun r q i j hr hq i0 i1 j0 j1 he hn => ?_, fun r q i j hr hq i0 i1 j0 j1 he hn => ?_⟩
  · obtain ⟨r1, r2, r3, r4⟩ := pool_row hX hx h hq
    obtain ⟨c1, c5, c6⟩ := q1 q hq
    have hn := hx.n
    refine ⟨by rw [r3, r4]; exact c1, fun i i0 i1 => ?_, fun i i0 i1 => ?_⟩
    · rw [r1]; exact (c5 i i0 i1).imp id (fun z => ⟨z.1, by omega, by rw [hx.k z.2.1]; exact z.2.2⟩)
    · rw [r2]; exact (c6 i i0 i1).imp id (fun z => ⟨z.1, by omega, by rw [hx.k z.2.1]; exact z.2.2⟩)
  · rw [(pool_row hX hx h hr).1] at he hn; rw [(pool_row hX hx h hq).1] at he
    exact q2 r q i j hr hq i0 i1 j0 j1 he hn
  · rw [(pool_row hX hx h hr).2.1] at he hn; rw [(pool_row hX hx h hq).2.1] at he
    exact q3 r q i j hr hq i0 i1 j0 j1 he hn
theorem PLP_cx (hX : FIX c) (hx : CX ys rs c e) (h : NPY ys rs) (h11 : (11, 0) ∉ ys ∧ (11, 1) ∉ ys) (hP : PLP c p q) : PLP e p q := by
  obtain ⟨a1, a2, a3, a4⟩ := hP
  have h353 := hX.2.2.1
  have hk : ky 176 (kl c 176) = 11 := by rw [hX.wk.1]; rfl
  exact ⟨a1, (hx.r (by omega) (by rw [hk]; exact h11.1)).trans a2, (hx.r (by omega) (by rw [hk]; exact h11.2)).trans a3, PL2_cx hX hx h a4⟩
theorem PHI_cx (hX : FIX c) (hx : CX ys rs c e) (h : NPY ys rs) : PHI e = PHI c := by
  obtain ⟨r1, r2, -⟩ := pool_row hX hx h (Or.inl rfl)
  obtain ⟨r3, r4, -⟩ := pool_row hX hx h (Or.inr rfl)
  unfold PHI
  rw [r1, r2, r3, r4]
theorem RMP_cx (hX : FIX c) (hx : CX ys rs c e) (h : NPY ys rs) (hr : RMk 0 0 c e) : RMP c e := by
  have h1 := PHI_cx hX hx h
  have h2 := hx.n
  obtain ⟨r1, r2⟩ := hr
  exact ⟨⟨by omega, by omega⟩, h2, fun a ha => hx.k ha, fun a a1 a2 => by omega⟩
/-- what a writer does, as a change -/
theorem WX.cx (hw : kl c w = 12) (hl : w < 235) (h : WX w c e) : CX [(12, 1), (12, 3), (12, 6)] [w + 1, w + 2, w + 3, w + 4] c e := by
  obtain ⟨⟨a1, a2⟩, a3, a4, a5, a6⟩ := h
  refine ⟨by omega, fun a _ => a3 a, fun a y ha hy => ⟨a4 a y (fun z => hy ?_), a5 a y⟩, fun a ha hr => a6 a (fun z => hr ?_)⟩
  · rw [z.1, hw]
    have : ky w 12 = 12 := by unfold ky; rw [if_neg (by omega)]
    rw [this]
    rcases z.2 with e | e | e <;> rw [e] <;> decide
  · unfold rk
    rw [if_pos (by omega)]
    have : a = w + 1 ∨ a = w + 2 ∨ a = w + 3 ∨ a = w + 4 := by omega
    rcases this with e | e | e | e <;> rw [e] <;> simp
theorem npy_w (hw : w = 183 ∨ w = 188) : NPY [(12, 1), (12, 3), (12, 6)] [w + 1, w + 2, w + 3, w + 4] := by
  refine ⟨fun y => ⟨by simp, by simp⟩, ⟨by decide, by decide⟩, ?_⟩
  rcases hw with rfl | rfl <;> decide
theorem WX.rm (h : WX w c e) (hw : w = 183 ∨ w = 188) : RMP c e := by
  obtain ⟨⟨a1, a2⟩, a3, a4, a5, a6⟩ := h
  have : PHI e = PHI c := by unfold PHI; rw [(a6 178 (by omega)).2, (a6 181 (by omega)).2, (a6 179 (by omega)).2, (a6 182 (by omega)).2]
  exact ⟨⟨by omega, by omega⟩, by omega, fun a _ => (a3 a).1, fun a a1 a2 => by omega⟩
/-- a value over new births -/
theorem DV_EXT (hE : EXT A A' (s.1 8)) : ∀ (m : Nat) (V : Term) (a : Nat) (l : List (Int × Nat)), SizeOf.sizeOf V < m → VB s V → DV A c P V a l → DV A' c P V a l := by
  intro m
  induction m with
  | zero => intro V a l h; omega
  | succ m ih =>
    intro V a l hm hb hv
    cases V with
    | null => exact trivial
    | int z => exact hv
    | arg z => exact hv
    | index z => exact hv
    | mul r y =>
      obtain ⟨h1, h2, h3⟩ := hv
      have hb : VB s r ∧ (y = .null ∨ (isV y = true ∧ VB s y)) := hb
      simp only [Term.mul.sizeOf_spec] at hm
      exact ⟨ih r _ _ (by omega) hb.1 h1, h2, fun q => ih y _ _ (by omega) (hb.2.resolve_left q).2 (h3 q)⟩
    | add x y =>
      obtain ⟨h1, h2, h3, h4⟩ := hv
      simp only [Term.add.sizeOf_spec] at hm
      exact ⟨h1, h2, ih x _ _ (by omega) hb.1.2 h3, ih y _ _ (by omega) hb.2.2 h4⟩
    | length x =>
      obtain ⟨h1, h2, h3⟩ := hv
      simp only [Term.length.sizeOf_spec] at hm
      exact ⟨h1, h2, ih x _ _ (by omega) hb.2 h3⟩
    | sub b E =>
      cases b with
      | index b =>
        obtain ⟨h1, h2, h3, l', h4, h5⟩ := hv
        simp only [Term.sub.sizeOf_spec] at hm
        exact ⟨h1, h2.trans (hE b hb.1).symm, h3, l', h4, ih E _ _ (by omega) hb.2.2 h5⟩
      | _ => exact hv.elim
    | div b E =>
      cases b with
      | index b =>
        obtain ⟨h1, h2, h3, l', h4, h5⟩ := hv
        simp only [Term.div.sizeOf_spec] at hm
        exact ⟨h1, h2.trans (hE b hb.1).symm, h3, l', h4, ih E _ _ (by omega) hb.2.2 h5⟩
      | _ => exact hv.elim
    | rem b z =>
      cases b with
      | index b =>
        cases z with
        | elem x z =>
          cases z with
          | elem y E =>
            obtain ⟨h1, h2, h3, h4, h5, h6, h7⟩ := hv
            obtain ⟨⟨b1, b2, b3⟩, b4, b5⟩ := hb
            simp only [Term.rem.sizeOf_spec, Term.elem.sizeOf_spec] at hm
            exact ⟨h1, h2.trans (hE b b1).symm, h3, ih x _ _ (by omega) b3 h4, h5, fun q => ih y _ _ (by omega) (b4.resolve_right q).2 (h6 q), h7.imp id (fun q => ⟨q.1, q.2.choose, q.2.choose_spec.1, ih E _ _ (by omega) (b5.resolve_right q.1).2 q.2.choose_spec.2⟩)⟩
          | _ => exact hv.elim
        | _ => exact hv.elim
      | _ => exact hv.elim
    | _ => exact hv.elim
end

/-! Nodes as things: where each lies, what it holds, how they hang together; walking from node to node. -/
def NDb (c : SC) (a : Nat) (b so v k : Int) : Prop := kl c a = 5 ∧ kl c (a + 1) = 103 ∧ le c (a + 1) = pO so ∧ fI c a 0 = b ∧ fI c a 1 = so ∧ fI c a 2 = k ∧ fR c a 3 = a + 1 ∧ fI c a 4 = v
/-- the nodes that were born, by their births -/
def ND (A : Int → Nat) (c : SC) (s : SM) : Prop := (∀ b, ¬ (0 ≤ b ∧ b < s.1 8) → A b = 2) ∧ ∀ b, 0 ≤ b → b < s.1 8 → NDb c (A b) b (s.2 9 b) (s.2 10 b) (s.2 11 b) ∧ A b + 1 < nxt c ∧ (A b = 73 ∨ 353 ≤ A b)
/-- the tree as it hangs -/
def HG (A : Int → Nat) (c : SC) (s : SM) (t : Term) : Prop := (∀ x, x ∈ fl t → fR c (A x) 5 = A (s.2 12 x) ∧ (x ≠ hd t → fI c (A x) 6 = s.2 13 x) ∧ ∀ i, 0 ≤ i → i < pO (s.2 9 x) → aR c (A x + 1) i = A (s.2 14 (3 * x + i))) ∧ fR c 70 1 = A (hd t)
/-- .. and as it was listed -/
def LST (A : Int → Nat) (c : SC) (t : Term) : Prop := fI c 70 3 = (fl t).length ∧ ∀ (j : Nat) (x : Int), (fl t)[j]? = some x → aR c 71 j = A x ∧ fI c (A x) 7 = j
section
variable {A : Int → Nat} {c e : SC} {s : SM} {t : Term} {ys : List (Nat × Nat)} {rs : List Nat}
theorem ky5 {a k : Nat} (h : a = 73 ∨ 353 ≤ a) : ky a k = k := by unfold ky; rw [if_neg (by omega)]
theorem ND.ne (h : ND A c s) {b : Int} (hb : 0 ≤ b ∧ b < s.1 8) : A b ≠ 2 ∧ 64 ≤ A b := by
  have := (h.2 b hb.1 hb.2).2.2
  omega
theorem ND.lt (h : ND A c s) (h3 : 353 ≤ nxt c) (b : Int) : A b < nxt c := by
  by_cases hb : 0 ≤ b ∧ b < s.1 8
  · have := (h.2 b hb.1 hb.2).2.1
    omega
  · rw [h.1 b hb]; omega
theorem ND.inj (h : ND A c s) {b b' : Int} (hb : 0 ≤ b ∧ b < s.1 8) (e : A b' = A b) : b' = b := by
  by_cases hb' : 0 ≤ b' ∧ b' < s.1 8
  · have h1 := (h.2 b hb.1 hb.2).1.2.2.2.1
    have h2 := (h.2 b' hb'.1 hb'.2).1.2.2.2.1
    rw [e, h1] at h2
    exact h2.symm
  · have := (h.ne hb).1
    rw [h.1 b' hb'] at e
    omega
theorem ND.iff (h : ND A c s) (b : Int) : A b = 2 ↔ ¬ (0 ≤ b ∧ b < s.1 8) := ⟨fun q hb => (h.ne hb).1 q, h.1 b⟩
theorem ND.x (h : ND A c s) (hx : CX ys rs c e) (h0 : (5, 0) ∉ ys) (h1 : (5, 1) ∉ ys) (h2 : (5, 2) ∉ ys) (h3 : (5, 3) ∉ ys) (h4 : (5, 4) ∉ ys) : ND A e s := by
  refine ⟨h.1, fun b b0 b1 => ?_⟩
  obtain ⟨⟨n1, n2, n3, n4, n5, n6, n7, n8⟩, n9, n10⟩ := h.2 b b0 b1
  have hk : ky (A b) (kl c (A b)) = 5 := by rw [ky5 n10, n1]
  have ha : A b < nxt c := by omega
  refine ⟨⟨(hx.k ha).trans n1, (hx.k n9).trans n2, (hx.l n9).trans n3, (hx.i ha (by rw [hk]; exact h0)).trans n4, (hx.i ha (by rw [hk]; exact h1)).trans n5, (hx.i ha (by rw [hk]; exact h2)).trans n6, (hx.r ha (by rw [hk]; exact h3)).trans n7, (hx.i ha (by rw [hk]; exact h4)).trans n8⟩, Nat.lt_of_lt_of_le n9 hx.1, n10⟩
theorem HG.x (h : HG A c s t) (hN : ND A c s) (hm : ∀ x, x ∈ fl t → 0 ≤ x ∧ x < s.1 8) (hF : FIX c) (hx : CX ys rs c e) (h5 : (5, 5) ∉ ys) (h6 : (5, 6) ∉ ys) (h81 : (8, 1) ∉ ys) (hr : 1103 ∉ rs ∧ 74 ∉ rs) : HG A e s t := by
  refine ⟨fun x hm0 => ?_, ?_⟩
  · obtain ⟨q1, q2, q3⟩ := h.1 x hm0
    obtain ⟨⟨n1, n2, n3, n4, n5, n6, n7, n8⟩, n9, n10⟩ := hN.2 x (hm x hm0).1 (hm x hm0).2
    have hk : ky (A x) (kl c (A x)) = 5 := by rw [ky5 n10, n1]
    have ha : A x < nxt c := by omega
    refine ⟨(hx.r ha (by rw [hk]; exact h5)).trans q1, fun q => (hx.i ha (by rw [hk]; exact h6)).trans (q2 q), fun i i0 i1 => ?_⟩
    rw [hx.ar n9 (by
      rw [n2]
      unfold rk
      split
      · rw [show A x + 1 = 74 by omega]; exact hr.2
      · exact hr.1)]
    exact q3 i i0 i1
  · have h3 := hF.2.2.1
    have hk : kl c 70 = 8 := by simp only [hF.1]
    rw [hx.r (by omega) (by rw [hk]; exact h81)]
    exact h.2
theorem LST.x (h : LST A c t) (hN : ND A c s) (hm : ∀ x, x ∈ fl t → 0 ≤ x ∧ x < s.1 8) (hF : FIX c) (hx : CX ys rs c e) (h7 : (5, 7) ∉ ys) (h83 : (8, 3) ∉ ys) (hr : 71 ∉ rs) : LST A e t := by
  have h3 := hF.2.2.1
  have hk0 : kl c 70 = 8 := by simp only [hF.1]
  refine ⟨(hx.i (by omega) (by rw [hk0]; exact h83)).trans h.1, fun j x hj => ?_⟩
  obtain ⟨q1, q2⟩ := h.2 j x hj
  have hm0 := hm x (List.mem_of_getElem? hj)
  obtain ⟨⟨n1, n2, n3, n4, n5, n6, n7, n8⟩, n9, n10⟩ := hN.2 x hm0.1 hm0.2
  have hk : ky (A x) (kl c (A x)) = 5 := by rw [ky5 n10, n1]
  have ha : A x < nxt c := by omega
  rw [hx.ar (by omega) (by unfold rk; rw [if_pos (by decide)]; exact hr)]
  exact ⟨q1, (hx.i ha (by rw [hk]; exact h7)).trans q2⟩
end
/-- the node behind one and all of its parts -/
def bh (so up pl pa : Int → Int) : Nat → Int → Int
  | 0, _ => -9
  | n + 1, x => if up x = -9 then -9 else if pl x + 1 < pO (so (up x)) then pa (3 * up x + (pl x + 1)) else bh so up pl pa n (up x)
theorem bh_s (so up pl pa : Int → Int) (n : Nat) (x : Int) : bh so up pl pa (n + 1) x = if up x = -9 then -9 else if pl x + 1 < pO (so (up x)) then pa (3 * up x + (pl x + 1)) else bh so up pl pa n (up x) := rfl
theorem bh_f {so up pl pa : Int → Int} : ∀ (n m : Nat) (b : Int), n ≤ m → DP up n b → bh so up pl pa m b = bh so up pl pa n b := by
  intro n
  induction n with
  | zero => intro m b _ h; exact h.elim
  | succ n ih =>
    intro m b hm h
    obtain ⟨m, rfl⟩ : ∃ k, m = k + 1 := ⟨m - 1, by omega⟩
    rw [bh_s, bh_s]
    by_cases e : up b = -9
    · rw [if_pos e, if_pos e]
    · rw [if_neg e, if_neg e]
      obtain ⟨h1, h2⟩ := h.resolve_left e
      rw [ih m _ (by omega) h2]
def fo (so up pl pa : Int → Int) (x : Int) : Int := if 0 < pO (so x) then pa (3 * x) else bh so up pl pa 70 x
/-- one behind another -/
def chn (f : Int → Int) : List Int → Int → Prop
  | [], _ => True
  | x :: r, e => f x = r.headD e ∧ chn f r e
theorem chn_app {f : Int → Int} : ∀ (l : List Int) (m : List Int) (e : Int), chn f l (m.headD e) → chn f m e → chn f (l ++ m) e := by
  intro l
  induction l with
  | nil => intro m e _ h; exact h
  | cons x r ih =>
    intro m e h1 h2
    refine ⟨?_, ih m e h1.2 h2⟩
    rw [h1.1]
    cases r <;> rfl
theorem chn_l {f : Int → Int} : ∀ (l m : List Int) (e : Int), chn f (l ++ m) e → chn f l (m.headD e) ∧ chn f m e := by
  intro l
  induction l with
  | nil => intro m e h; exact ⟨trivial, h⟩
  | cons x r ih =>
    intro m e h
    obtain ⟨h1, h2⟩ := ih m e h.2
    refine ⟨⟨?_, h1⟩, h2⟩
    have := h.1
    rw [this]
    cases r <;> rfl
theorem chn_u {f : Int → Int} : ∀ (l : List Int) (e e' : Int), l ≠ [] → chn f l e → chn f l e' → e = e' := by
  intro l
  induction l with
  | nil => intro e e' h; exact absurd rfl h
  | cons x r ih =>
    intro e e' _ h h'
    cases r with
    | nil => exact h.1.symm.trans h'.1
    | cons y r => exact ih e e' (by simp) h.2 h'.2
/-- where a walk through a tree ends -/
theorem chn_tree {so pa up pl : Int → Int} {B : Int} : ∀ (u : Term), AT so pa up pl B u → (∀ y, y ∈ fl u → DP up 70 y) → (∀ y, y ∈ fl u → y ≠ hd u → 0 ≤ up y) → chn (fo so up pl pa) (fl u) (if na u < pO (so (hd u)) then pa (3 * hd u + na u) else bh so up pl pa 70 (hd u)) := by
  intro u
  induction u with
  | index b =>
    intro h _ _
    show chn _ [(b : Int)] (if (0 : Int) < pO (so b) then pa (3 * (b : Int) + 0) else bh so up pl pa 70 b)
    refine ⟨?_, trivial⟩
    show fo so up pl pa b = _
    unfold fo
    rw [Int.add_zero]
    rfl
  | add t x ih ihx =>
    intro h hD hu
    obtain ⟨h1, h2, h3, h4, h5, h6, h7⟩ := h
    have hx := hd_mem x h2
    have mt : ∀ y, y ∈ fl t → y ∈ fl (Term.add t x) := fun y hy => List.mem_append_left _ hy
    have mx : ∀ y, y ∈ fl x → y ∈ fl (Term.add t x) := fun y hy => List.mem_append_right _ hy
    have i1 := ih h1 (fun y hy => hD y (mt y hy)) (fun y hy hn => hu y (mt y hy) hn)
    rw [if_pos h4, h5] at i1
    have i2 := ihx h2 (fun y hy => hD y (mx y hy)) (fun y hy hn => by
      have := (AT_mem x h2 y hy).2.2.2 hn
      have := (AT_mem x h2 _ this.1).1
      omega)
    rw [if_neg (by unfold full at h3; omega)] at i2
    obtain ⟨r, hr⟩ := fl_hd x h2
    refine chn_app (fl t) (fl x) _ ?_ ?_
    · rw [hr]
      exact i1
    · have e : bh so up pl pa 70 (hd x) = if na t + 1 < pO (so (hd t)) then pa (3 * hd t + (na t + 1)) else bh so up pl pa 70 (hd t) := by
        have h70 : DP up (69 + 1) (hd x) := hD _ (mx _ hx)
        have hn : ¬ up (hd x) = -9 := by
          rw [h6]
          have := (AT_mem t h1 _ (hd_mem t h1)).1
          omega
        rw [show (70 : Nat) = 69 + 1 from rfl, bh_s, if_neg hn, h6, h7]
        have h69 : DP up 69 (hd t) := by
          have := h70.resolve_left hn
          rw [h6] at this
          exact this.2
        rw [bh_f 69 (69 + 1) (hd t) (by decide) h69]
      show chn _ (fl x) (if na t + 1 < pO (so (hd t)) then pa (3 * hd t + (na t + 1)) else bh so up pl pa 70 (hd t))
      rw [← e]
      exact i2
  | _ => intro h; exact h.elim
abbrev bhs (s : SM) (x : Int) : Int := bh (s.2 9) (s.2 12) (s.2 13) (s.2 14) 70 x
abbrev fos (s : SM) (x : Int) : Int := fo (s.2 9) (s.2 12) (s.2 13) (s.2 14) x
theorem SHT.up9 {s : SM} {t : Term} (h : SHT s t) {y : Int} (hy : y ∈ fl t) (hn : y ≠ hd t) : s.2 12 y ∈ fl t := ((AT_mem t h.1 y hy).2.2.2 hn).1
theorem SHT.chn {s : SM} {t : Term} (h : SHT s t) : chn (fos s) (fl t) (-9) := by
  have := chn_tree t h.1 (fun y hy => DP_up 61 70 _ (by decide) (DP_tree h y hy)) (fun y hy hn => (h.lt (h.up9 hy hn)).1)
  rw [if_neg (by have := h.2.1; unfold full at this; omega)] at this
  rw [show bh (s.2 9) (s.2 12) (s.2 13) (s.2 14) 70 (hd t) = -9 by rw [show (70 : Nat) = 69 + 1 from rfl, bh_s, if_pos h.2.2.2.2.2.2.1]] at this
  exact this
theorem bhs_in {s : SM} {t : Term} (h : SHT s t) : ∀ (n : Nat) (x : Int), x ∈ fl t → bh (s.2 9) (s.2 12) (s.2 13) (s.2 14) n x = -9 ∨ bh (s.2 9) (s.2 12) (s.2 13) (s.2 14) n x ∈ fl t := by
  intro n
  induction n with
  | zero => intro x _; exact Or.inl rfl
  | succ n ih =>
    intro x hx
    rw [bh_s]
    by_cases e : s.2 12 x = -9
    · rw [if_pos e]; exact Or.inl rfl
    · rw [if_neg e]
      have hn : x ≠ hd t := fun q => e (by rw [q]; exact h.2.2.2.2.2.2.1)
      have hu := h.up9 hx hn
      split
      · rename_i hl
        have m := (AT_mem t h.1 x hx).2.2.2 hn
        right
        exact ((AT_mem t h.1 _ hu).2.2.1 (s.2 13 x + 1) (by omega) hl (fun q => by have := h.2.1; unfold full at this; rw [q] at hl; omega)).1
      · exact ih _ hu
section
variable {iv : List (Int × Int)} {L : Nat} {h0 : MH} {A : Int → Nat} {c : SC} {s : SM} {t : Term} {d : Nat}
theorem SHT.m (h : SHT s t) : ∀ x, x ∈ fl t → 0 ≤ x ∧ x < s.1 8 := fun x hx => ⟨(h.lt hx).1, (h.lt hx).2.1⟩
theorem A9 (hN : ND A c s) : A (-9) = 2 := hN.1 _ (by omega)
theorem behind_ok {x : Int} {F : Nat → SC → Prop} (hN : ND A c s) (hH : HG A c s t) (h : SHT s t) (hx : x ∈ fl t) (hF : F (A (bhs s x)) c) : ck iv L h0 d 191 [vr (A x)] c (qa F) := by
  have key : ∀ (n : Nat) (x : Int), x ∈ fl t → DP (s.2 12) n x → F (A (bh (s.2 9) (s.2 12) (s.2 13) (s.2 14) n x)) c → wk iv L h0 d 191 2 [ln, lr (A x)] [] c (qa F) := by
    intro n
    induction n with
    | zero => intro x _ hdp _; exact hdp.elim
    | succ n ih =>
      intro x hx hdp hF
      obtain ⟨n1, n2, n3, n4, n5, n6, n7, n8⟩ := (hN.2 x (h.m x hx).1 (h.m x hx).2).1
      obtain ⟨q1, q2, q3⟩ := hH.1 x hx
      rw [bh_s] at hF
      refine C191_2 ⟨n1, ?_⟩
      rw [q1]
      by_cases e : s.2 12 x = -9
      · rw [if_pos e, A9 hN] at hF
        rw [e, A9 hN]
        exact ⟨fun _ => hF, fun q => absurd rfl q⟩
      · rw [if_neg e] at hF
        have hn : x ≠ hd t := fun q => e (by rw [q]; exact h.2.2.2.2.2.2.1)
        have hu := h.up9 hx hn
        have m := (AT_mem t h.1 x hx).2.2.2 hn
        obtain ⟨u1, u2, u3, u4, u5, u6, u7, u8⟩ := (hN.2 _ (h.m _ hu).1 (h.m _ hu).2).1
        have hp := pO_in (s.2 9 (s.2 12 x))
        rw [q2 hn, u7, u3, u2]
        refine ⟨fun q => absurd q (hN.ne (h.m _ hu)).1, fun _ => ⟨by omega, u1, by omega, fun hl => ?_, fun hl => ⟨rfl, by omega, ?_⟩⟩⟩
        · rw [if_neg (by omega)] at hF
          exact ih _ hu ((hdp.resolve_left e).2) hF
        · rw [if_pos hl] at hF
          rw [(hH.1 _ hu).2.2 _ (by omega) hl]
          exact hF
  exact C191 (key 70 x hx (DP_up 61 70 _ (by decide) (DP_tree h x hx)) hF)
theorem following_ok {x : Int} {F : Nat → SC → Prop} (hN : ND A c s) (hH : HG A c s t) (h : SHT s t) (hx : x ∈ fl t) (hF : F (A (fos s x)) c) : ck iv L h0 (d + 1) 192 [vr (A x)] c (qa F) := by
  obtain ⟨n1, n2, n3, n4, n5, n6, n7, n8⟩ := (hN.2 x (h.m x hx).1 (h.m x hx).2).1
  obtain ⟨q1, q2, q3⟩ := hH.1 x hx
  refine C192 ⟨n1, ?_⟩
  rw [n7, n2, n3]
  unfold fos fo at hF
  refine ⟨by omega, fun hl => ?_, fun hl => ⟨rfl, by omega, ?_⟩⟩
  · rw [if_neg (by omega)] at hF
    exact behind_ok hN hH h hx hF
  · rw [if_pos hl] at hF
    rw [q3 0 (by omega) hl, Int.add_zero]
    exact hF
theorem getD_head {l : List Int} {e x : Int} {r : List Int} (h : l = x :: r) : l.headD e = x := by rw [h]; rfl
theorem list_ok {F : SC → Prop} (hX : FIX c) (hN : ND A c s) (hH : HG A c s t) (h : SHT s t) (hF : ∀ e, CX [(5, 7), (8, 3)] [71] c e → RMk 0 0 c e → LST A e t → F e) : ck iv L h0 (d + 2) 206 [vr 70] c (qv F) := by
  have h3 := hX.2.2.1
  have key : ∀ (m p : List Int) (e : SC), fl t = p ++ m → chn (fos s) m (-9) → CX [(5, 7), (8, 3)] [71] c e → RMk 0 0 c e → fI e 70 3 = p.length → (∀ (j : Nat) (x : Int), p[j]? = some x → aR e 71 j = A x ∧ fI e (A x) 7 = j) → wk iv L h0 (d + 2) 206 10 [lr 70, lr (A (m.headD (-9)))] [] e (qv F) := by
    intro m
    induction m with
    | nil =>
      intro p e hp _ hx hr hl hj
      have hA : A (-9) = 2 := A9 hN
      refine C206_10 ⟨fun _ => hF e hx hr ⟨?_, ?_⟩, fun q => absurd hA q⟩
      · rw [hl, hp, List.append_nil]
      · rw [hp, List.append_nil]; exact hj
    | cons x m ih =>
      intro p e hp hc hx hr hl hj
      have hxm : x ∈ fl t := by rw [hp]; simp
      have hXe : FIX e := hX.x hx (by decide) (by decide)
      have hNe : ND A e s := hN.x hx (by decide) (by decide) (by decide) (by decide) (by decide)
      obtain ⟨⟨n1, n2, n3, n4, n5, n6, n7, n8⟩, n9, n10⟩ := hNe.2 x (h.m x hxm).1 (h.m x hxm).2
      have hlen : p.length + 1 ≤ 60 := by
        have := h.2.2.2.1
        rw [hp] at this
        simp at this
        omega
      show wk iv L h0 (d + 2) 206 10 [lr 70, lr (A x)] [] e (qv F)
      refine C206_10 ⟨fun q => absurd q (hN.ne (h.m x hxm)).1, fun _ => ?_⟩
      simp only [hXe.1, hl, true_and]
      refine ⟨fun q => by omega, fun _ => ⟨n1, by omega, by omega, Or.inr n1, ?_⟩⟩
      have hk5 : ky (A x) (kl e (A x)) = 5 := by rw [ky5 n10, n1]
      generalize hE : uB (uI (uI e (A x) 7 (p.length : Int)) 70 3 ((p.length : Int) + 1)) 71 (p.length : Int) (A x) = f
      have hxf : CX [(5, 7), (8, 3)] [71] c f := by
        rw [← hE]
        refine ((hx.uI (fun _ => by rw [hk5]; decide)).uI (fun _ => by rw [kl_uI]; simp only [hXe.1]; decide)).uB (fun _ => by unfold rk; rw [if_pos (by decide)]; decide)
      have hrf : RMk 0 0 c f := by rw [← hE]; exact hr
      have hNf := hN.x hxf (by decide) (by decide) (by decide) (by decide) (by decide)
      have hHf := hH.x hN h.m hX hxf (by decide) (by decide) (by decide) (by decide)
      have hfo : fos s x = m.headD (-9) := hc.1
      refine following_ok hNf hHf h hxm ?_
      rw [hfo]
      refine ih (p ++ [x]) f (by rw [hp]; simp) hc.2 hxf hrf ?_ (fun j y hy => ?_)
      · rw [← hE]
        rw [fI_uB, fI_uI, if_pos ⟨rfl, rfl⟩]
        simp
      · have hne : ∀ y, y ∈ fl t → y ≠ x → A y ≠ A x := fun y hy hn q => hn (hN.inj (h.m x hxm) q)
        have hAne : ∀ y, A y ≠ 70 := fun y q => by
          have h8 : kl e 70 = 8 := by simp only [hXe.1]
          by_cases hb : 0 ≤ y ∧ y < s.1 8
          · have := (hNe.2 y hb.1 hb.2).1.1
            rw [q, h8] at this
            omega
          · rw [hN.1 y hb] at q; omega
        have v71 : ∀ i : Int, aR f 71 i = if i = p.length then A x else aR e 71 i := fun i => by
          rw [← hE, aR_uB]
          by_cases q : i = p.length
          · rw [if_pos ⟨rfl, q⟩, if_pos q]
          · rw [if_neg (fun w => q w.2), if_neg q]; rfl
        have v7 : ∀ y, fI f (A y) 7 = if A y = A x then (p.length : Int) else fI e (A y) 7 := fun y => by
          rw [← hE, fI_uB, fI_uI, if_neg (fun w => absurd w.1 (by decide)), fI_uI]
          by_cases q : A y = A x
          · rw [if_pos ⟨rfl, q⟩, if_pos q]
          · rw [if_neg (fun w => q w.2), if_neg q]
        have hnd := h.2.2.1
        by_cases hjl : j < p.length
        · rw [List.getElem?_append_left hjl] at hy
          have hyx : y ≠ x := fun q => by
            rw [hp] at hnd
            exact (List.nodup_append.mp hnd).2.2 y (List.mem_of_getElem? hy) x (by simp) q
          have hyt : y ∈ fl t := by rw [hp]; exact List.mem_append_left _ (List.mem_of_getElem? hy)
          rw [v71, v7, if_neg (by omega), if_neg (hne y hyt hyx)]
          exact hj j y hy
        · rw [List.getElem?_append_right (by omega)] at hy
          have : j - p.length = 0 := by
            cases hq : j - p.length with
            | zero => rfl
            | succ k => rw [hq] at hy; simp at hy
          rw [this] at hy
          simp at hy
          subst hy
          have hjp : j = p.length := by omega
          subst hjp
          rw [v71, v7, if_pos rfl, if_pos rfl]
          exact ⟨rfl, rfl⟩
  have hk70 : kl c 70 = 8 := by simp only [hX.1]
  refine C206 ⟨hk70, ?_⟩
  rw [hH.2]
  have hh : A (hd t) = A ((fl t).headD (-9)) := by
    obtain ⟨r, hr⟩ := fl_hd t h.1
    rw [hr]; rfl
  rw [hh]
  refine key (fl t) [] _ rfl h.chn (CX.rf.uI (fun _ => by simp only [hX.1]; decide)) ⟨Nat.le_refl _, Nat.le_refl _⟩ ?_ (fun j x hj => by simp at hj)
  rw [fI_uI, if_pos ⟨rfl, rfl⟩]
  rfl
end

/-! What the desk keeps for undo(). -/
/-- only some rows change -/
def SMR (R1 R2 : List Nat) (c f : SC) : Prop := (∀ b y, fI f b y = fI c b y ∧ fR f b y = fR c b y) ∧ (∀ b, kl f b = kl c b ∧ le f b = le c b) ∧ (nxt f = nxt c ∧ slo f = slo c) ∧ (∀ b, b ∉ R2 → aI f b = aI c b) ∧ ∀ b, b ∉ R1 → aR f b = aR c b
theorem SMR.rf {R1 R2 : List Nat} {c : SC} : SMR R1 R2 c c := ⟨fun _ _ => ⟨rfl, rfl⟩, fun _ => ⟨rfl, rfl⟩, ⟨rfl, rfl⟩, fun _ _ => rfl, fun _ _ => rfl⟩
theorem SMR.uA {R1 R2 : List Nat} {c f : SC} {a : Nat} {i z : Int} (h : SMR R1 R2 c f) (ha : a ∈ R2) : SMR R1 R2 c (uA f a i z) := ⟨h.1, h.2.1, h.2.2.1, fun b hb => by
  rw [← h.2.2.2.1 b hb]
  funext k
  rw [aI_uA, if_neg (fun q => hb (by rw [q.1]; exact ha))], h.2.2.2.2⟩
theorem SMR.uB {R1 R2 : List Nat} {c f : SC} {a z : Nat} {i : Int} (h : SMR R1 R2 c f) (ha : a ∈ R1) : SMR R1 R2 c (uB f a i z) := ⟨h.1, h.2.1, h.2.2.1, h.2.2.2.1, fun b hb => by
  rw [← h.2.2.2.2 b hb]
  funext k
  rw [aR_uB, if_neg (fun q => hb (by rw [q.1]; exact ha))]⟩
theorem SMR.cx {R1 R2 : List Nat} {ys : List (Nat × Nat)} {rs : List Nat} {c e f : SC} (h : SMR R1 R2 e f) (hx : CX ys rs c e) (hr : ∀ a, a ∈ R1 ∨ a ∈ R2 → a < 353 ∧ a ∈ rs) : CX ys rs c f := by
  obtain ⟨h1, h2, h3, h4, h5⟩ := h
  have hno : ∀ a, rk a (kl c a) ∉ rs → a ∉ R1 ∧ a ∉ R2 := fun a ha => by
    refine ⟨fun q => ?_, fun q => ?_⟩
    · have := hr a (Or.inl q)
      unfold rk at ha
      rw [if_pos this.1] at ha
      exact ha this.2
    · have := hr a (Or.inr q)
      unfold rk at ha
      rw [if_pos this.1] at ha
      exact ha this.2
  refine ⟨by rw [h3.1]; exact hx.1, fun a ha => ?_, fun a y ha hy => ?_, fun a ha hy => ?_⟩
  · rw [(h2 a).1, (h2 a).2]; exact hx.2.1 a ha
  · rw [(h1 a y).1, (h1 a y).2]; exact hx.2.2.1 a y ha hy
  · rw [h4 a (hno a hy).2, h5 a (hno a hy).1]; exact hx.2.2.2 a ha hy
theorem SMR.fix {R1 R2 : List Nat} {c f : SC} (h : SMR R1 R2 c f) (hX : FIX c) (h72 : 72 ∉ R1) (h193 : 193 ∉ R1) : FIX f := by
  have hx : CX [] [] c c := CX.rf
  obtain ⟨h1, h2, h3, h4, h5⟩ := h
  have e1 : ∀ b y, fR f b y = fR c b y := fun b y => (h1 b y).2
  have e2 : ∀ b, kl f b = kl c b := fun b => (h2 b).1
  have e3 : ∀ b, le f b = le c b := fun b => (h2 b).2
  obtain ⟨g1, ⟨g2, g3⟩, g4, g5⟩ := hX
  refine ⟨?_, ⟨fun i hi => ?_, fun i hi => ?_⟩, by rw [h3.1]; exact g4, by rw [e2]; exact g5⟩
  · unfold FIXa at g1 ⊢
    simp only [e1, e2, e3]; exact g1
  · simp only [e1, e2, e3, h5 72 h72]; exact g2 i hi
  · simp only [e1, e2, e3, h5 193 h193]; exact g3 i hi
/-- a thing that was kept -/
def SNc (A : Int → Nat) (c : SC) (a : Nat) (u : Snap) : Prop := (fI c a 4 = (fl u.1).length ∧ fR c a 5 = A (u.2.1 16)) ∧ ∀ (k : Nat) (x : Int), (fl u.1)[k]? = some x → aR c (a + 1) k = A x ∧ aR c (a + 2) k = A (u.2.2 12 x) ∧ (x ≠ hd u.1 → aI c (a + 3) k = u.2.2 13 x) ∧ aI c (a + 4) k = u.2.2 10 x
def pos (n : Int) (l i : Nat) : Nat := (n.toNat + 21 + i - l) % 20
def KSc (A : Int → Nat) (c : SC) (K : List Snap) : Prop := (fI c 70 7 = K.length ∧ K.length ≤ 20 ∧ 0 ≤ fI c 70 6 ∧ fI c 70 6 < 20) ∧ ∀ (i : Nat) (u : Snap), K[i]? = some u → SNc A c (75 + 5 * pos (fI c 70 6) K.length i) u
def snR : List Nat := [76, 77, 78, 79, 81, 82, 83, 84, 86, 87, 88, 89, 91, 92, 93, 94, 96, 97, 98, 99, 101, 102, 103, 104, 106, 107, 108, 109, 111, 112, 113, 114, 116, 117, 118, 119, 121, 122, 123, 124, 126, 127, 128, 129, 131, 132, 133, 134, 136, 137, 138, 139, 141, 142, 143, 144, 146, 147, 148, 149, 151, 152, 153, 154, 156, 157, 158, 159, 161, 162, 163, 164, 166, 167, 168, 169, 171, 172, 173, 174]
theorem snR_mem {i : Nat} (h : i < 20) {j : Nat} (hj : j < 4) : 76 + 5 * i + j ∈ snR := by
  have h1 : (List.range 20).all (fun i => (List.range 4).all (fun j => decide (76 + 5 * i + j ∈ snR))) = true := by decide +kernel
  have := List.all_eq_true.mp (List.all_eq_true.mp h1 i (List.mem_range.mpr h)) j (List.mem_range.mpr hj)
  exact of_decide_eq_true this
section
variable {iv : List (Int × Int)} {L : Nat} {h0 : MH} {A : Int → Nat} {c e : SC} {s : SM} {t : Term} {d : Nat}
theorem noteAll_ok {i : Nat} {F : SC → Prop} (hi : i < 20) (hX : FIX c) (hN : ND A c s) (hH : HG A c s t) (hL : LST A c t) (h : SHT s t) (hc : fR c 70 2 = A (s.1 16)) (hF : ∀ e, SMR [76 + 5 * i, 77 + 5 * i] [78 + 5 * i, 79 + 5 * i] (uR (uI c (75 + 5 * i) 4 (fl t).length) (75 + 5 * i) 5 (A (s.1 16))) e → SNc A e (75 + 5 * i) (t, s) → F e) : ck iv L h0 d 222 [vr (75 + 5 * i), vr 70] c (qv F) := by
  have hk : kl c 70 = 8 ∧ fR c 70 0 = 71 ∧ kl c 71 = 103 ∧ le c 71 = 60 := by simp only [hX.1]; exact ⟨trivial, trivial, trivial, trivial⟩
  obtain ⟨p1, p2, ⟨p3, p4, p5, p6⟩, ⟨p7, p8, p9, p10⟩, p11, p12, p13, p14⟩ := hX.2.1.1 i hi
  generalize hc0 : uR (uI c (75 + 5 * i) 4 (fl t).length) (75 + 5 * i) 5 (A (s.1 16)) = c0 at hF
  have l60 := h.2.2.2.1
  have key : ∀ (m p : List Int) (f : SC), fl t = p ++ m → SMR [76 + 5 * i, 77 + 5 * i] [78 + 5 * i, 79 + 5 * i] c0 f → (∀ (k : Nat) (x : Int), p[k]? = some x → aR f (76 + 5 * i) k = A x ∧ aR f (77 + 5 * i) k = A (s.2 12 x) ∧ (x ≠ hd t → aI f (78 + 5 * i) k = s.2 13 x) ∧ aI f (79 + 5 * i) k = s.2 10 x) → wk iv L h0 d 222 18 [lr (75 + 5 * i), lr 70, li p.length] [] f (qv F) := by
    intro m
    induction m with
    | nil =>
      intro p f hp hf hj
      have e4 : fI f (75 + 5 * i) 4 = (fl t).length := by
        rw [(hf.1 _ _).1, ← hc0, fI_uR, fI_uI, if_pos ⟨rfl, rfl⟩]
      have e5 : fR f (75 + 5 * i) 5 = A (s.1 16) := by
        rw [(hf.1 _ _).2, ← hc0, fR_uR, if_pos ⟨rfl, rfl⟩]
      have ekl : kl f (75 + 5 * i) = 9 := by rw [(hf.2.1 _).1, ← hc0, kl_uR, kl_uI]; exact p2
      rw [List.append_nil] at hp
      refine C222_18 ⟨ekl, fun _ => hF f hf ⟨⟨e4, e5⟩, ?_⟩, fun q => ?_⟩
      · intro k x hk
        have hk : (fl t)[k]? = some x := hk
        rw [hp] at hk
        have := hj k x hk
        rw [show 75 + 5 * i + 1 = 76 + 5 * i by omega, show 75 + 5 * i + 2 = 77 + 5 * i by omega, show 75 + 5 * i + 3 = 78 + 5 * i by omega, show 75 + 5 * i + 4 = 79 + 5 * i by omega]
        exact this
      · rw [e4, hp] at q; omega
    | cons x m ih =>
      intro p f hp hf hj
      have hxm : x ∈ fl t := by rw [hp]; simp
      have hget : (fl t)[p.length]? = some x := by rw [hp]; simp
      have hlen : p.length + 1 ≤ 60 := by
        rw [hp] at l60
        simp at l60
        omega
      have hX0 : FIX c0 := by
        rw [← hc0]
        exact hX.x (ys := [(9, 4), (9, 5)]) (rs := []) ((CX.rf.uI (fun _ => by rw [show ky (75 + 5 * i) (kl c (75 + 5 * i)) = 9 by rw [p2]; unfold ky; rw [if_neg (by omega)]]; decide)).uR (fun _ => by rw [kl_uI, show ky (75 + 5 * i) (kl c (75 + 5 * i)) = 9 by rw [p2]; unfold ky; rw [if_neg (by omega)]]; decide)) (by decide) (by decide)
      have hXf : FIX f := hf.fix hX0 (by simp; omega) (by simp; omega)
      obtain ⟨o1, o2, ⟨o3, o4, o5, o6⟩, ⟨o7, o8, o9, o10⟩, o11, o12, o13, o14⟩ := hXf.2.1.1 i hi
      have hkf : kl f 70 = 8 ∧ fR f 70 0 = 71 ∧ kl f 71 = 103 ∧ le f 71 = 60 := by simp only [hXf.1]; exact ⟨trivial, trivial, trivial, trivial⟩
      obtain ⟨⟨n1, n2, n3, n4, n5, n6, n7, n8⟩, n9, n10⟩ := hN.2 x (h.m x hxm).1 (h.m x hxm).2
      obtain ⟨q1, q2, q3⟩ := hH.1 x hxm
      have hAx : A x ≠ 75 + 5 * i := by omega
      have hf5 : fR f (A x) 5 = A (s.2 12 x) := by rw [(hf.1 _ _).2, ← hc0, fR_uR, if_neg (fun w => hAx w.2)]; exact q1
      have hf6 : x ≠ hd t → fI f (A x) 6 = s.2 13 x := fun q => by rw [(hf.1 _ _).1, ← hc0, fI_uR, fI_uI, if_neg (fun w => hAx w.2)]; exact q2 q
      have hf4 : fI f (A x) 4 = s.2 10 x := by rw [(hf.1 _ _).1, ← hc0, fI_uR, fI_uI, if_neg (fun w => hAx w.2)]; exact n8
      have hkx : kl f (A x) = 5 := by rw [(hf.2.1 _).1, ← hc0]; exact n1
      have ho : aR f 71 (p.length : Int) = A x := by
        rw [hf.2.2.2.2 71 (by simp; omega), ← hc0]
        exact (hL.2 p.length x hget).1
      have e4 : fI f (75 + 5 * i) 4 = (fl t).length := by
        rw [(hf.1 _ _).1, ← hc0, fI_uR, fI_uI, if_pos ⟨rfl, rfl⟩]
      have hup : A (s.2 12 x) = 2 ∨ kl f (A (s.2 12 x)) = 5 := by
        by_cases w : s.2 12 x = -9
        · left; rw [w]; exact A9 hN
        · right
          have hu := h.up9 hxm (fun q => w (by rw [q]; exact h.2.2.2.2.2.2.1))
          rw [(hf.2.1 _).1, ← hc0]
          exact (hN.2 _ (h.m _ hu).1 (h.m _ hu).2).1.1
      have hl : (fl t).length = p.length + (m.length + 1) := by rw [hp]; simp
      refine C222_18 ⟨o2, fun q => by rw [e4] at q; omega, fun _ => ?_⟩
      rw [hkf.1, hkf.2.1, hkf.2.2.1, hkf.2.2.2, o3, o4, o5, o6, o7, o8, o9, o10, o11, o12, o13, o14, ho, hf5, hf4, hkx]
      refine ⟨rfl, rfl, by omega, rfl, by omega, Or.inr rfl, rfl, rfl, by omega, hup, rfl, by omega, rfl, by omega, by omega, ?_⟩
      generalize hE : uA (uA (uB (uB f (76 + 5 * i) (p.length : Int) (A x)) (77 + 5 * i) (p.length : Int) (A (s.2 12 x))) (78 + 5 * i) (p.length : Int) (fI f (A x) 6)) (79 + 5 * i) (p.length : Int) (s.2 10 x) = g
      have hg : SMR [76 + 5 * i, 77 + 5 * i] [78 + 5 * i, 79 + 5 * i] c0 g := by
        rw [← hE]
        exact (((hf.uB (by simp)).uB (by simp)).uA (by simp)).uA (by simp)
      have r1 : ∀ k : Int, aR g (76 + 5 * i) k = if k = p.length then A x else aR f (76 + 5 * i) k := fun k => by
        rw [← hE, aR_uA, aR_uA, aR_uB, if_neg (by omega), aR_uB]
        by_cases w : k = p.length
        · rw [if_pos ⟨rfl, w⟩, if_pos w]
        · rw [if_neg (fun v => w v.2), if_neg w]
      have r2 : ∀ k : Int, aR g (77 + 5 * i) k = if k = p.length then A (s.2 12 x) else aR f (77 + 5 * i) k := fun k => by
        rw [← hE, aR_uA, aR_uA, aR_uB]
        by_cases w : k = p.length
        · rw [if_pos ⟨rfl, w⟩, if_pos w]
        · rw [if_neg (fun v => w v.2), if_neg w, aR_uB, if_neg (by omega)]
      have r3 : ∀ k : Int, aI g (78 + 5 * i) k = if k = p.length then fI f (A x) 6 else aI f (78 + 5 * i) k := fun k => by
        rw [← hE, aI_uA, if_neg (by omega), aI_uA]
        by_cases w : k = p.length
        · rw [if_pos ⟨rfl, w⟩, if_pos w]
        · rw [if_neg (fun v => w v.2), if_neg w]; rfl
      have r4 : ∀ k : Int, aI g (79 + 5 * i) k = if k = p.length then s.2 10 x else aI f (79 + 5 * i) k := fun k => by
        rw [← hE, aI_uA]
        by_cases w : k = p.length
        · rw [if_pos ⟨rfl, w⟩, if_pos w]
        · rw [if_neg (fun v => w v.2), if_neg w, aI_uA, if_neg (by omega)]; rfl
      have := ih (p ++ [x]) g (by rw [hp]; simp) hg (fun k y hy => ?_)
      · rw [List.length_append] at this
        simp only [List.length_cons, List.length_nil] at this
        push_cast at this
        exact this
      · rw [r1, r2, r3, r4]
        by_cases hkl : k < p.length
        · rw [List.getElem?_append_left hkl] at hy
          rw [if_neg (by omega), if_neg (by omega), if_neg (by omega), if_neg (by omega)]
          exact hj k y hy
        · rw [List.getElem?_append_right (by omega)] at hy
          have hk0 : k - p.length = 0 := by
            cases hq : k - p.length with
            | zero => rfl
            | succ z => rw [hq] at hy; simp at hy
          rw [hk0] at hy
          simp at hy
          subst hy
          have hkp : (k : Int) = p.length := by omega
          rw [if_pos hkp, if_pos hkp, if_pos hkp, if_pos hkp]
          exact ⟨rfl, rfl, hf6, rfl⟩
  refine C222 ⟨hk.1, p2, ?_⟩
  rw [hL.1, hc, hc0]
  exact key (fl t) [] c0 rfl SMR.rf (fun k x hk => by simp at hk)
end

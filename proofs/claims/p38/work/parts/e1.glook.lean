section
/-! Looks by the desk: what stays; told, part, go, seek. -/
def r1Y : List (Nat × Nat) := [(5, 0), (5, 1), (5, 2), (5, 3), (5, 4), (5, 5), (5, 6), (5, 7), (5, 8), (5, 9), (5, 10), (8, 1), (8, 3), (8, 4), (4, 4), (4, 5)]
def r1R : List Nat := [1103, 74, 72, 193, 71, 66, 67, 68, 69]
section
variable {iv : List (Int × Int)} {L : Nat} {h0 : MH} {A A' : Int → Nat} {c e : SC} {s s' w : SM} {t : Term} {d : Nat} {P : Int → Prop} {Q : Int → Int → Prop} {K : List Snap} {ys : List (Nat × Nat)} {rs : List Nat}
theorem R1.xa (h : R1 A c s t) (hS : SHT s t) (hx : CX ys rs c e) (hy : ∀ q, q ∈ r1Y → q ∉ ys) (hf : ∀ q, q ∈ finF → q ∉ ys) (hr : ∀ a, a ∈ r1R → a ∉ rs) : (FIX e ∧ ND A e s ∧ HG A e s t ∧ LST A e t) ∧ fI e 70 4 = s.1 8 ∧ KIc e s ∧ JUc A e s t := by
  obtain ⟨⟨hX, hN, hH, hL⟩, ⟨hc, h8⟩, hI, hJ1, hJ2, hJ3⟩ := h
  have h3 := hX.2.2.1
  have hk := hX.dk
  have yn : ∀ q, q ∈ r1Y → q ∉ ys := hy
  have k : ∀ i j, (i, j) ∈ r1Y → (i, j) ∉ ys := fun i j q => hy _ q
  have r : ∀ a, a ∈ r1R → a < 353 → ∀ z, rk a z ∉ rs := fun a ha hl z => by unfold rk; rw [if_pos hl]; exact hr a ha
  have e4 : fI e 65 4 = fI c 65 4 := hx.i (by omega) (by rw [hk.2.2.2.2]; exact k 4 4 (by decide))
  have e5 : fI e 65 5 = fI c 65 5 := hx.i (by omega) (by rw [hk.2.2.2.2]; exact k 4 5 (by decide))
  have e66 : aI e 66 = aI c 66 := hx.ai (by omega) (r 66 (by decide) (by decide) _)
  have e67 : aI e 67 = aI c 67 := hx.ai (by omega) (r 67 (by decide) (by decide) _)
  have e68 : aI e 68 = aI c 68 := hx.ai (by omega) (r 68 (by decide) (by decide) _)
  have e69 : aI e 69 = aI c 69 := hx.ai (by omega) (r 69 (by decide) (by decide) _)
  refine ⟨⟨hX.x hx hf ⟨hr 72 (by decide), hr 193 (by decide)⟩, hN.x hx (k 5 0 (by decide)) (k 5 1 (by decide)) (k 5 2 (by decide)) (k 5 3 (by decide)) (k 5 4 (by decide)), hH.x hN hS.m hX hx (k 5 5 (by decide)) (k 5 6 (by decide)) (k 8 1 (by decide)) ⟨hr 1103 (by decide), hr 74 (by decide)⟩, hL.x hN hS.m hX hx (k 5 7 (by decide)) (k 8 3 (by decide)) (hr 71 (by decide))⟩, ?_, hI.x hX hx (k 4 4 (by decide)) ⟨hr 66 (by decide), hr 67 (by decide), hr 68 (by decide), hr 69 (by decide)⟩, ?_, by rw [e5]; exact hJ2, fun x hx' => ?_⟩
  · rw [hx.i (a := 70) (by omega) (by rw [hk.2.1]; exact k 8 4 (by decide))]
    exact h8
  · unfold KJc
    rw [e4, e5, e66, e67, e68, e69]
    exact hJ1
  · have hb := hS.m x hx'
    obtain ⟨⟨n1, n2, n3, n4, n5, n6, n7, n8⟩, n9, n10⟩ := hN.2 x hb.1 hb.2
    have ke : ky (A x) (kl c (A x)) = 5 := by rw [ky5 n10, n1]
    have hlt : A x < nxt c := by omega
    have g := hJ3 x hx'
    unfold vkc ktc aKc at g ⊢
    unfold vkc ktc at g ⊢
    rw [hx.i hlt (y := 8) (by rw [ke]; exact k 5 8 (by decide)), hx.i hlt (y := 9) (by rw [ke]; exact k 5 9 (by decide)), hx.i hlt (y := 10) (by rw [ke]; exact k 5 10 (by decide)), e4, e5, e66, e67, e68]
    exact g
theorem R1.x (h : R1 A c s t) (hS : SHT s t) (hx : CX ys rs c e) (hy : ∀ q, q ∈ r1Y → q ∉ ys) (h82 : (8, 2) ∉ ys) (hf : ∀ q, q ∈ finF → q ∉ ys) (hr : ∀ a, a ∈ r1R → a ∉ rs) : R1 A e s t := by
  obtain ⟨g1, g2, g3⟩ := h.xa hS hx hy hf hr
  have hk := h.1.1.dk
  have h3 := h.1.1.2.2.1
  exact ⟨g1, ⟨by rw [hx.r (a := 70) (by omega) (by rw [hk.2.1]; exact h82)]; exact h.2.1.1, g2⟩, g3⟩
theorem R1.go {y : Int} (h : R1 A c s t) (hS : SHT s t) : R1 A (uR c 70 2 (A y)) (us s 16 y) t := by
  have hx : CX [(8, 2)] [] c (uR c 70 2 (A y)) := CX.rf.uR (fun _ => by rw [h.1.1.dk.2.1]; decide)
  obtain ⟨g1, g2, g3⟩ := h.xa hS hx (by decide) (by decide) (fun _ _ w => by cases w)
  exact ⟨g1, ⟨by rw [fR_uR, if_pos ⟨rfl, rfl⟩]; rfl, g2⟩, g3⟩
def fnY : List (Nat × Nat) := [(1, 14)]
theorem refC_x {f : Int} (h : FIX c) : CX fnY [198] c (refC c f) := by
  unfold refC
  have hk := h.dk
  exact (CX.rf.uI (fun _ => by rw [hk.1]; decide)).uA (fun _ => by unfold rk; rw [if_pos (by decide)]; decide)
theorem R1.ref {f : Int} (h : R1 A c s t) (hS : SHT s t) : R1 A (refC c f) s t := h.x hS (refC_x h.1.1) (by decide) (by decide) (by decide) (by decide)
theorem told_c {b k : Int} {F : Int → SC → Prop} (h1 : R1 A c s t) (hS : SHT s t) (hF : F (tldA s t b k) c) : ck iv L h0 (d + 1) 7 [vr 64, vi b, vi k] c (qi F) := by
  obtain ⟨d1, d2, d3, d4, d5⟩ := h1.1.1.dk
  refine C7 ⟨d1, by rw [d3]; exact d2, ?_⟩
  rw [d3]
  refine find_c h1 hS (fun hb => ⟨fun _ => ⟨d1, ?_⟩, fun w => absurd w (h1.1.2.1.ne (hS.m b hb)).1⟩) (fun hb => ⟨fun w => absurd rfl w, fun _ => ?_⟩)
  · have hbb := hS.m b hb
    obtain ⟨⟨n1, n2, n3, n4, n5, n6, n7, n8⟩, n9, n10⟩ := h1.1.2.1.2 b hbb.1 hbb.2
    obtain ⟨g1, g2, g3⟩ := h1.1.2.2.1.1 b hb
    have hj := (h1.2.2.2.2.2 b hb).2.2.1
    unfold tldA at hF
    rw [if_pos hb] at hF
    refine C48 ⟨fun q => ⟨n1, ?_⟩, fun q => ⟨n1, ?_⟩, fun q => ⟨n1, ?_⟩, fun q => ⟨n1, ?_⟩, fun q => ⟨n1, ?_⟩, fun q => ⟨n1, ?_⟩, fun q => ⟨n1, ?_⟩, fun q => ?_⟩
    · rw [if_pos q] at hF; rw [n5]; exact hF
    · rw [if_neg (by omega), if_pos q] at hF; rw [n8]; exact hF
    · rw [if_neg (by omega), if_neg (by omega), if_pos q] at hF; rw [n6]; exact hF
    · rw [if_neg (by omega), if_neg (by omega), if_neg (by omega), if_pos q] at hF
      rw [g1]
      by_cases w : b = hd t
      · have hu := hS.2.2.2.2.2.2.1
        rw [← w] at hu
        rw [hu] at hF ⊢
        have h2 : A (-9) = 2 := h1.1.2.1.1 (-9) (by omega)
        exact ⟨fun w' => absurd h2 w', fun _ => hF⟩
      · have hum := hS.m _ (hS.up9 hb w)
        obtain ⟨⟨m1, m2, m3, m4, -⟩, -⟩ := h1.1.2.1.2 _ hum.1 hum.2
        exact ⟨fun _ => ⟨m1, by rw [m4]; exact hF⟩, fun w' => absurd w' (h1.1.2.1.ne hum).1⟩
    · rw [if_neg (by omega), if_neg (by omega), if_neg (by omega), if_neg (by omega), if_pos q] at hF
      rw [g1]
      by_cases w : b = hd t
      · have hu := hS.2.2.2.2.2.2.1
        have hp := hS.2.2.2.2.2.2.2
        rw [← w] at hu hp
        rw [hu]
        rw [hp] at hF
        have h2 : A (-9) = 2 := h1.1.2.1.1 (-9) (by omega)
        exact ⟨fun w' => absurd h2 w', fun _ => hF⟩
      · have hum := hS.m _ (hS.up9 hb w)
        exact ⟨fun _ => by rw [g2 w]; exact hF, fun w' => absurd w' (h1.1.2.1.ne hum).1⟩
    · rw [if_neg (by omega), if_neg (by omega), if_neg (by omega), if_neg (by omega), if_neg (by omega), if_pos q] at hF
      rw [n7, n2, n3]
      exact ⟨by omega, hF⟩
    · rw [if_neg (by omega), if_neg (by omega), if_neg (by omega), if_neg (by omega), if_neg (by omega), if_neg (by omega), if_pos q] at hF
      rw [hj]; exact hF
    · rw [if_neg (by omega), if_neg (by omega), if_neg (by omega), if_neg (by omega), if_neg (by omega), if_neg (by omega), if_neg (by omega)] at hF
      exact hF
  · unfold tldA at hF
    rw [if_neg hb] at hF
    exact hF
theorem part_c {b i : Int} {F : Int → SC → Prop} (h1 : R1 A c s t) (hS : SHT s t) (hr : 0 ≤ aI c 198 2 ∧ aI c 198 2 ≤ 600) (hF : F (parA s t b i) (if b ∈ fl t ∧ ¬ (0 ≤ i ∧ i < pO (s.2 9 b)) then refC c 2 else c)) : ck iv L h0 (d + 1) 8 [vr 64, vi b, vi i] c (qi F) := by
  obtain ⟨d1, d2, d3, d4, d5⟩ := h1.1.1.dk
  refine C8 ⟨d1, by rw [d3]; exact d2, ?_⟩
  rw [d3]
  unfold parA at hF
  refine find_c h1 hS (fun hb => ⟨fun _ => ?_, fun w => absurd w (h1.1.2.1.ne (hS.m b hb)).1⟩) (fun hb => ⟨fun w => absurd rfl w, fun _ => ?_⟩)
  · have hbb := hS.m b hb
    obtain ⟨⟨n1, n2, n3, n4, n5, n6, n7, n8⟩, n9, n10⟩ := h1.1.2.1.2 b hbb.1 hbb.2
    rw [if_pos hb] at hF
    refine ⟨n1, hasPart_c h1.1.2.1 hbb (fun q => ⟨fun w => absurd w (by decide), fun _ => ?_⟩) (fun q => ⟨fun _ => ⟨d1, refuse_c h1.1.1 (by decide) hr ?_⟩, fun w => absurd rfl w⟩)⟩
    · rw [if_pos q, if_neg (fun w => w.2 q)] at hF
      have hm := hS.m _ ((AT_mem t hS.1 b hb).2.2.1 i q.1 q.2 (fun w => by have := hS.2.1; unfold full at this; rw [this, ← w]; exact q.2)).1
      obtain ⟨⟨m1, m2, m3, m4, -⟩, -⟩ := h1.1.2.1.2 _ hm.1 hm.2
      rw [n7, n2, n3, (h1.1.2.2.1.1 b hb).2.2 i q.1 q.2, m4]
      exact ⟨n1, rfl, q, m1, hF⟩
    · rw [if_neg q, if_pos ⟨hb, q⟩] at hF
      exact hF
  · rw [if_neg hb, if_neg (fun w => hb w.1)] at hF
    exact hF
theorem seek_c {b : Int} {F : Int → SC → Prop} (h1 : R1 A c s t) (hS : SHT s t) (hF : ∀ e, R1 A e (seeU s t b) t → CX [(8, 2)] [] c e → RMk 0 0 c e → F (seeA t b) e) : ck iv L h0 (d + 1) 12 [vr 64, vi b] c (qi F) := by
  obtain ⟨d1, d2, d3, d4, d5⟩ := h1.1.1.dk
  have hx : CX [(8, 2)] [] c (uR c 70 2 (A b)) := CX.rf.uR (fun _ => by rw [d2]; decide)
  refine C12 ⟨d1, by rw [d3]; exact d2, ?_⟩
  rw [d3]
  unfold seeU seeA at hF
  refine find_c h1 hS (fun hb => ⟨fun _ => ⟨d1, by rw [d3]; exact d2, ?_⟩, fun w => absurd w (h1.1.2.1.ne (hS.m b hb)).1⟩) (fun hb => ⟨fun w => absurd rfl w, fun _ => ?_⟩)
  · rw [if_pos hb, if_pos hb] at hF
    rw [d3]
    exact hF _ (h1.go hS) hx RMk.rf
  · rw [if_neg hb, if_neg hb] at hF
    exact hF c h1 CX.rf RMk.rf
end
section
variable {iv : List (Int × Int)} {L : Nat} {h0 : MH} {A A' : Int → Nat} {c e : SC} {s s' w : SM} {t : Term} {d : Nat}
/-- what go() comes to, as a cell -/
theorem beside_c {z : Int} {F : Nat → SC → Prop} (h1 : R1 A c s t) (hT : AFT s t) (hz : z = 1 ∨ z = -1) (hu : s.2 12 (s.1 16) ≠ -9) (hF : F (A (besA s z)) c) : ck iv L h0 (d + 1) 212 [vr 70, vr (A (s.2 12 (s.1 16))), vi (s.2 13 (s.1 16) + z)] c (qa F) := by
  have hS := hT.1
  have hne : s.1 16 ≠ hd t := fun w => hu (by rw [w]; exact hS.2.2.2.2.2.2.1)
  have hum := hS.up9 hT.2.2 hne
  have hub := hS.m _ hum
  obtain ⟨⟨n1, n2, n3, n4, n5, n6, n7, n8⟩, n9, n10⟩ := h1.1.2.1.2 _ hub.1 hub.2
  have h2 : A (-9) = 2 := h1.1.2.1.1 (-9) (by omega)
  unfold besA at hF
  rw [if_neg hu] at hF
  refine C212 ⟨n1, hasPart_c h1.1.2.1 hub (fun q => ⟨fun w => absurd w (by decide), fun _ => ⟨n1, ?_⟩⟩) (fun q => ⟨fun _ => ?_, fun w => absurd rfl w⟩)⟩
  · rw [if_pos q] at hF
    rw [n7, n2, n3, (h1.1.2.2.1.1 _ hum).2.2 _ q.1 q.2]
    exact ⟨rfl, q, hF⟩
  · rw [if_neg q, h2] at hF
    exact hF
theorem behind_c {F : Nat → SC → Prop} (h1 : R1 A c s t) (hT : AFT s t) (hF : F (A (bhd (isH s) (s.1 16) (fl t) false)) c) : ck iv L h0 d 213 [vr 70, vr (A (s.1 16))] c (qa F) := by
  have hS := hT.1
  obtain ⟨k1, k2, k3, k4⟩ := h1.1.1.or
  have h2 : A (-9) = 2 := h1.1.2.1.1 (-9) (by omega)
  have hsz := h1.1.2.2.2.1
  have hll := hS.2.2.2.1
  have key : ∀ (m p : List Int), fl t = p ++ m → bhd (isH s) (s.1 16) m true = bhd (isH s) (s.1 16) (fl t) false → wk iv L h0 d 213 7 [lr 70, ln, li p.length] [] c (qa F) := by
    intro m
    induction m with
    | nil =>
      intro p hp hb
      rw [← hb] at hF
      rw [show bhd (isH s) (s.1 16) [] true = -9 from rfl, h2] at hF
      rw [List.append_nil] at hp
      refine C213_7 ⟨k1, fun _ => hF, fun q => ?_⟩
      rw [hp] at hsz
      omega
    | cons x m ih =>
      intro p hp hb
      obtain ⟨o1, o2, o3, o4, o5, o6, o7, o8⟩ := R1.ord h1.1 hS hp
      rw [bhd_c] at hb
      refine C213_7 ⟨k1, fun q => by omega, fun _ => ?_⟩
      rw [k2, k3, k4, o4, o6, o7]
      refine ⟨rfl, by omega, rfl, fun q => ⟨by omega, ?_⟩, fun q => ?_⟩
      · have hx : isH s x = false := by unfold isH; exact decide_eq_false q
        rw [hx] at hb
        have := ih (p ++ [x]) (by rw [hp]; simp) (by simpa using hb)
        rw [List.length_append] at this
        simp only [List.length_cons, List.length_nil] at this
        push_cast at this
        exact this
      · have hx : isH s x = true := by unfold isH; exact decide_eq_true q
        rw [hx] at hb
        rw [← hb] at hF
        exact hF
  obtain ⟨p, m, hpm⟩ := List.append_of_mem hT.2.2
  obtain ⟨o1, o2, o3, o4, o5, o6, o7, o8⟩ := R1.ord h1.1 hS hpm
  have hnd := hS.2.2.1
  have skip : ∀ (q : List Int), s.1 16 ∉ q → bhd (isH s) (s.1 16) (q ++ s.1 16 :: m) false = bhd (isH s) (s.1 16) m true := by
    intro q
    induction q with
    | nil => intro _; simp [bhd_c]
    | cons y q ih =>
      intro hq
      simp only [List.mem_cons, not_or] at hq
      rw [List.cons_append, bhd_c]
      have : decide (y = s.1 16) = false := decide_eq_false (fun w => hq.1 w.symm)
      rw [this]
      simpa using ih hq.2
  have hcp : s.1 16 ∉ p := fun w => by
    rw [hpm] at hnd
    exact (List.nodup_append.mp hnd).2.2 _ w _ (List.mem_cons_self) rfl
  refine C213 ⟨o6, by rw [o5]; omega, ?_⟩
  rw [o5]
  have := key m (p ++ [s.1 16]) (by rw [hpm]; simp) (by rw [hpm, skip p hcp])
  rw [List.length_append] at this
  simp only [List.length_cons, List.length_nil] at this
  push_cast at this
  exact this
theorem go_c {k : Int} {F : Int → SC → Prop} (h1 : R1 A c s t) (hT : AFT s t) (hD : 3 ≤ d) (hF : ∀ e, R1 A e (goU s t k) t → CX [(8, 2)] [] c e → RMk 0 0 c e → F (goA s t k) e) : ck iv L h0 d 11 [vr 64, vi k] c (qi F) := by
  obtain ⟨d, rfl⟩ : ∃ k, d = k + 1 + 1 + 1 := ⟨d - 3, by omega⟩
  have hS := hT.1
  obtain ⟨⟨d1, d2, d3, d4, d5⟩, e1, e2, e3, e4, e5, e6⟩ := h1.cur hT
  have hcb := hS.m _ hT.2.2
  have h2 : A (-9) = 2 := h1.1.2.1.1 (-9) (by omega)
  obtain ⟨⟨n1, n2, n3, n4, n5, n6, n7, n8⟩, n9, n10⟩ := h1.1.2.1.2 _ hcb.1 hcb.2
  obtain ⟨g1, g2, g3⟩ := h1.1.2.2.1.1 _ hT.2.2
  refine C11 ⟨fun q => ?_, fun q => ⟨fun q2 => ⟨d1, by rw [d3]; exact d2, ?_⟩, fun q2 => ?_⟩⟩
  · have : goA s t k = -1 := by unfold goA; rw [if_neg (by omega)]
    rw [← this]
    exact hF c (by unfold goU; rw [if_neg (by omega)]; exact h1) CX.rf RMk.rf
  · rw [d3]
    have hG : ∀ y, goG s t k = y → (y = -9 ∨ y ∈ fl t) → (A y ≠ 2 → kl c 64 = 1 ∧ kl c (fR c 64 1) = 8 ∧ kl c (A y) = 5 ∧ F (fI c (A y) 0) (uR c (fR c 64 1) 2 (A y))) ∧ (A y = 2 → F (-4) c) := fun y hy hm => by
      have hx : CX [(8, 2)] [] c (uR c 70 2 (A y)) := CX.rf.uR (fun _ => by rw [d2]; decide)
      refine ⟨fun w => ?_, fun w => ?_⟩
      · have h9 : y ≠ -9 := fun w' => w (by rw [w', h2])
        have hyt : y ∈ fl t := by rcases hm with q | q; · exact absurd q h9
                                  · exact q
        have hyb := hS.m _ hyt
        obtain ⟨⟨m1, m2, m3, m4, -⟩, -⟩ := h1.1.2.1.2 _ hyb.1 hyb.2
        refine ⟨d1, by rw [d3]; exact d2, m1, ?_⟩
        rw [m4, d3]
        have ha : goA s t k = y := by unfold goA; rw [if_pos (by omega), hy, if_neg h9]
        rw [← ha]
        refine hF _ ?_ (by rw [ha]; exact hx) RMk.rf
        unfold goU
        rw [hy, if_pos ⟨by omega, h9⟩, ha]
        exact h1.go hS
      · have h9 : y = -9 := by
          rcases hm with q | q
          · exact q
          · exact absurd w (h1.1.2.1.ne (hS.m _ q)).1
        have ha : goA s t k = -4 := by unfold goA; rw [if_pos (by omega), hy, if_pos h9]
        rw [← ha]
        refine hF c ?_ CX.rf RMk.rf
        unfold goU
        rw [hy, if_neg (fun w' => w'.2 h9)]
        exact h1
    have hup : s.2 12 (s.1 16) = -9 ∨ s.2 12 (s.1 16) ∈ fl t := by
      by_cases w : s.1 16 = hd t
      · left; rw [w]; exact hS.2.2.2.2.2.2.1
      · right; exact hS.up9 hT.2.2 w
    have hkid : ∀ x i, x ∈ fl t → 0 ≤ i → i < pO (s.2 9 x) → s.2 14 (3 * x + i) ∈ fl t := fun x i hx i0 i1 => ((AT_mem t hS.1 x hx).2.2.1 i i0 i1 (fun w => by have := hS.2.1; unfold full at this; rw [this, ← w]; exact i1)).1
    have upb : s.2 12 (s.1 16) ≠ -9 → s.1 16 ≠ hd t := fun w w' => w (by rw [w']; exact hS.2.2.2.2.2.2.1)
    have hbes : ∀ z, besA s z = -9 ∨ besA s z ∈ fl t := fun z => by
      unfold besA
      by_cases w : s.2 12 (s.1 16) = -9
      · rw [if_pos w]; exact Or.inl rfl
      · rw [if_neg w]
        by_cases w2 : 0 ≤ s.2 13 (s.1 16) + z ∧ s.2 13 (s.1 16) + z < pO (s.2 9 (s.2 12 (s.1 16)))
        · rw [if_pos w2]; exact Or.inr (hkid _ _ (hS.up9 hT.2.2 (upb w)) w2.1 w2.2)
        · rw [if_neg w2]; exact Or.inl rfl
    refine C211 ⟨d2, by rw [e1]; exact n1, ?_⟩
    rw [e1, g1]
    have upn : A (s.2 12 (s.1 16)) ≠ 2 → s.2 12 (s.1 16) ≠ -9 := fun w w' => w (by rw [w', h2])
    have up2 : A (s.2 12 (s.1 16)) = 2 → s.2 12 (s.1 16) = -9 := fun w => by
      rcases hup with q | q
      · exact q
      · exact absurd w (h1.1.2.1.ne (hS.m _ q)).1
    have side : ∀ z, (z = 1 ∨ z = -1) → goG s t k = besA s z → (A (s.2 12 (s.1 16)) ≠ 2 → fI c (A (s.1 16)) 6 = s.2 13 (s.1 16) ∧ 0 ≤ s.2 13 (s.1 16) ∧ s.2 13 (s.1 16) < 3) := fun z _ _ w => by
      have hn := upn w
      have := pl_in hS hT.2.2 hn
      have := pO_in (s.2 9 (s.2 12 (s.1 16)))
      exact ⟨g2 (upb hn), by omega, by omega⟩
    have side2 : ∀ z, goG s t k = besA s z → A (s.2 12 (s.1 16)) = 2 → goG s t k = -9 := fun z q w => by
      rw [q]; unfold besA; rw [if_pos (up2 w)]
    refine ⟨fun q => ?_, fun q => ?_, fun q => ?_, fun q => ?_, fun q => ?_, fun q => ?_⟩
    · exact hG _ (by unfold goG; rw [if_pos q]) hup
    · have hk : goG s t k = if 0 < pO (s.2 9 (s.1 16)) then s.2 14 (3 * s.1 16) else -9 := by unfold goG; rw [if_neg (by omega), if_pos q]
      refine C212 ⟨n1, hasPart_c h1.1.2.1 hcb (fun w => ⟨fun w' => absurd w' (by decide), fun _ => ⟨n1, ?_⟩⟩) (fun w => ⟨fun _ => ?_, fun w' => absurd rfl w'⟩)⟩
      · rw [n7, n2, n3, g3 0 w.1 w.2, Int.add_zero]
        rw [if_pos w.2] at hk
        have := hkid _ 0 hT.2.2 w.1 w.2
        rw [Int.add_zero] at this
        exact ⟨rfl, w, hG _ hk (Or.inr this)⟩
      · rw [if_neg (by omega)] at hk
        have := hG _ hk (Or.inl rfl)
        rw [h2] at this
        exact this
    · have hk : goG s t k = besA s 1 := by unfold goG; rw [if_neg (by omega), if_neg (by omega), if_pos q]
      refine ⟨fun w => ?_, fun w => ?_⟩
      · obtain ⟨p1, p2, p3⟩ := side 1 (Or.inl rfl) hk w
        rw [p1]
        exact ⟨by omega, beside_c h1 hT (Or.inl rfl) (upn w) (hG _ hk (hbes 1))⟩
      · have := hG _ (side2 1 hk w) (Or.inl rfl)
        rw [h2] at this
        exact this
    · have hk : goG s t k = besA s (-1) := by unfold goG; rw [if_neg (by omega), if_neg (by omega), if_neg (by omega), if_pos q]
      refine ⟨fun w => ?_, fun w => ?_⟩
      · obtain ⟨p1, p2, p3⟩ := side (-1) (Or.inr rfl) hk w
        rw [p1]
        exact ⟨by omega, beside_c (z := -1) h1 hT (Or.inr rfl) (upn w) (hG _ hk (hbes (-1)))⟩
      · have := hG _ (side2 (-1) hk w) (Or.inl rfl)
        rw [h2] at this
        exact this
    · have hk : goG s t k = bhd (isH s) (s.1 16) (fl t) false := by unfold goG; rw [if_neg (by omega), if_neg (by omega), if_neg (by omega), if_neg (by omega), if_pos q]
      exact behind_c h1 hT (hG _ hk ((bhd_in (isH s) (s.1 16) (fl t) false).imp id (fun w => w.1)))
    · have hk : goG s t k = s.1 15 := by unfold goG; rw [if_neg (by omega), if_neg (by omega), if_neg (by omega), if_neg (by omega), if_neg (by omega)]
      rw [h1.1.2.2.1.2]
      exact hG _ (by rw [hk, ← hS.2.2.2.2.2.1]) (Or.inr (hd_mem t hS.1))
  · have : goA s t k = -1 := by unfold goA; rw [if_neg (by omega)]
    rw [← this]
    exact hF c (by unfold goU; rw [if_neg (by omega)]; exact h1) CX.rf RMk.rf
end
end
section
/-! Looks by the desk: hole, count, digest. -/
section
variable {iv : List (Int × Int)} {L : Nat} {h0 : MH} {A A' : Int → Nat} {c e : SC} {s s' w : SM} {t : Term} {d : Nat}
/-- a node of the list, whole -/
theorem R1.row (h1 : R1 A c s t) (hS : SHT s t) {p m : List Int} {x : Int} (e : fl t = p ++ x :: m) : (kl c 64 = 1 ∧ fR c 64 1 = 70 ∧ kl c 70 = 8 ∧ fR c 70 0 = 71 ∧ kl c 71 = 103 ∧ le c 71 = 60 ∧ fI c 70 3 = (fl t).length) ∧ x ∈ fl t ∧ p.length < 60 ∧ (fl t).length = p.length + 1 + m.length ∧ aR c 71 (p.length : Int) = A x ∧ kl c (A x) = 5 ∧ fI c (A x) 0 = x ∧ fI c (A x) 1 = s.2 9 x ∧ fI c (A x) 4 = s.2 10 x ∧ fI c (A x) 2 = s.2 11 x ∧ fI c (A x) 10 = (jdg s t).2.2 x ∧ 0 ≤ (jdg s t).2.2 x ∧ (jdg s t).2.2 x ≤ 6 := by
  obtain ⟨o1, o2, o3, o4, o5, o6, o7, o8⟩ := R1.ord h1.1 hS e
  obtain ⟨k1, k2, k3, k4⟩ := h1.1.1.or
  obtain ⟨d1, d2, d3, d4, d5⟩ := h1.1.1.dk
  obtain ⟨⟨n1, n2, n3, n4, n5, n6, n7, n8⟩, n9, n10⟩ := h1.1.2.1.2 x (hS.m x o1).1 (hS.m x o1).2
  exact ⟨⟨d1, d3, k1, k2, k3, k4, h1.1.2.2.2.1⟩, o1, o2, o3, o4, o6, n4, n5, n8, n6, (h1.2.2.2.2.2 x o1).2.2⟩
theorem R1.nil (h1 : R1 A c s t) : kl c 64 = 1 ∧ fR c 64 1 = 70 ∧ kl c 70 = 8 ∧ fI c 70 3 = (fl t).length := by
  obtain ⟨d1, d2, d3, d4, d5⟩ := h1.1.1.dk
  exact ⟨d1, d3, d2, h1.1.2.2.2.1⟩
theorem hole_c {i f : Int} {F : Int → SC → Prop} (h1 : R1 A c s t) (hS : SHT s t) (hF : F (holA s t i f) c) : ck iv L h0 d 10 [vr 64, vi i, vi f] c (qi F) := by
  have key : ∀ (m p : List Int) (k : Int), fl t = p ++ m → 0 ≤ k → k ≤ p.length → holA s t i f = nthp (if f = 0 then isH s else isF (jdg s t)) m (i - k) → wk iv L h0 d 10 5 [lr 64, li i, li f, li k, li p.length] [] c (qi F) := by
    intro m
    induction m with
    | nil =>
      intro p k e k0 k1 hk
      obtain ⟨d1, d2, d3, d4⟩ := h1.nil
      rw [List.append_nil] at e
      rw [hk] at hF
      refine C10_5 ?_
      rw [d2, d4, e]
      exact ⟨d1, d3, fun _ => hF, fun q => by omega⟩
    | cons x m ih =>
      intro p k e k0 k1 hk
      obtain ⟨⟨d1, d2, d3, d4, d5, d6, d7⟩, o1, o2, o3, o4, o5, o6, o7, o8, o9, o10, o11, o12⟩ := h1.row hS e
      have nx : ∀ (z : Int), 0 ≤ z → z ≤ p.length + 1 → holA s t i f = nthp (if f = 0 then isH s else isF (jdg s t)) m (i - z) → wk iv L h0 d 10 5 [lr 64, li i, li f, li z, li (p.length + 1)] [] c (qi F) := fun z z0 z1 hz => by
        have := ih (p ++ [x]) z (by rw [e]; simp) z0 (by simp; omega) hz
        rw [List.length_append] at this
        simp only [List.length_cons, List.length_nil] at this
        push_cast at this
        exact this
      unfold nthp at hk
      refine C10_5 ?_
      rw [d2, d4, d5, d6, d7, o4, o5, o6, o7, o10]
      refine ⟨d1, d3, fun q => by omega, fun _ => ⟨rfl, by omega, fun q => ⟨rfl, fun q2 => ⟨by omega, ?_⟩, fun q2 => ⟨fun q3 => ⟨by omega, by omega, ?_⟩, fun q3 => ?_⟩⟩, fun q => ⟨rfl, fun q2 => ⟨by omega, ?_⟩, fun q2 => ⟨fun q3 => ⟨by omega, by omega, ?_⟩, fun q3 => ?_⟩⟩⟩⟩
      · have hx : isH s x = false := by unfold isH; exact decide_eq_false q2
        refine nx k k0 (by omega) ?_
        rw [hk, if_pos q, hx]; simp
      · have hx : isH s x = true := by unfold isH; exact decide_eq_true q2
        refine nx (k + 1) (by omega) (by omega) ?_
        rw [hk, if_pos q, hx, if_pos rfl, if_neg (by omega)]; congr 1; omega
      · have hx : isH s x = true := by unfold isH; exact decide_eq_true q2
        rw [hk, if_pos q, hx, if_pos rfl, if_pos (by omega)] at hF
        exact hF
      · have hx : isF (jdg s t) x = false := by unfold isF; exact decide_eq_false (by omega)
        refine nx k k0 (by omega) ?_
        rw [hk, if_neg q, hx]; simp
      · have hx : isF (jdg s t) x = true := by unfold isF; exact decide_eq_true (by omega)
        refine nx (k + 1) (by omega) (by omega) ?_
        rw [hk, if_neg q, hx, if_pos rfl, if_neg (by omega)]; congr 1; omega
      · have hx : isF (jdg s t) x = true := by unfold isF; exact decide_eq_true (by omega)
        rw [hk, if_neg q, hx, if_pos rfl, if_pos (by omega)] at hF
        exact hF
  exact C10 (key (fl t) [] 0 rfl (Int.le_refl 0) (Int.le_refl 0) (by rw [Int.sub_zero]; rfl))
theorem many_c {f : Int} {F : Int → SC → Prop} (h1 : R1 A c s t) (hS : SHT s t) (hF : F (cntp (if f = 0 then isH s else isF (jdg s t)) (fl t)) c) : ck iv L h0 d 49 [vr 64, vi f] c (qi F) := by
  have key : ∀ (m p : List Int) (k : Int), fl t = p ++ m → 0 ≤ k → k ≤ p.length → cntp (if f = 0 then isH s else isF (jdg s t)) (fl t) = k + cntp (if f = 0 then isH s else isF (jdg s t)) m → wk iv L h0 d 49 4 [lr 64, li f, li k, li p.length] [] c (qi F) := by
    intro m
    induction m with
    | nil =>
      intro p k e k0 k1 hk
      obtain ⟨d1, d2, d3, d4⟩ := h1.nil
      rw [List.append_nil] at e
      rw [hk, show cntp _ [] = 0 from rfl, Int.add_zero] at hF
      refine C49_4 ?_
      rw [d2, d4, e]
      exact ⟨d1, d3, fun _ => hF, fun q => by omega⟩
    | cons x m ih =>
      intro p k e k0 k1 hk
      obtain ⟨⟨d1, d2, d3, d4, d5, d6, d7⟩, o1, o2, o3, o4, o5, o6, o7, o8, o9, o10, o11, o12⟩ := h1.row hS e
      have nx : ∀ (z : Int), 0 ≤ z → z ≤ p.length + 1 → cntp (if f = 0 then isH s else isF (jdg s t)) (fl t) = z + cntp (if f = 0 then isH s else isF (jdg s t)) m → wk iv L h0 d 49 4 [lr 64, li f, li z, li (p.length + 1)] [] c (qi F) := fun z z0 z1 hz => by
        have := ih (p ++ [x]) z (by rw [e]; simp) z0 (by simp; omega) hz
        rw [List.length_append] at this
        simp only [List.length_cons, List.length_nil] at this
        push_cast at this
        exact this
      rw [show ∀ P, cntp P (x :: m) = (if P x then 1 else 0) + cntp P m from fun _ => rfl] at hk
      refine C49_4 ?_
      rw [d2, d4, d5, d6, d7, o4, o5, o7, o10]
      refine ⟨d1, d3, fun q => by omega, fun _ => ⟨rfl, by omega, fun q => ⟨rfl, fun q2 => ⟨by omega, ?_⟩, fun q2 => ⟨by omega, by omega, ?_⟩⟩, fun q => ⟨rfl, fun q2 => ⟨by omega, ?_⟩, fun q2 => ⟨by omega, by omega, ?_⟩⟩⟩⟩
      · have hx : isH s x = false := by unfold isH; exact decide_eq_false q2
        exact nx k k0 (by omega) (by rw [hk, if_pos q, hx]; simp)
      · have hx : isH s x = true := by unfold isH; exact decide_eq_true q2
        exact nx (k + 1) (by omega) (by omega) (by rw [hk, if_pos q, hx, if_pos rfl]; omega)
      · have hx : isF (jdg s t) x = false := by unfold isF; exact decide_eq_false (by omega)
        exact nx k k0 (by omega) (by rw [hk, if_neg q, hx]; simp)
      · have hx : isF (jdg s t) x = true := by unfold isF; exact decide_eq_true (by omega)
        exact nx (k + 1) (by omega) (by omega) (by rw [hk, if_neg q, hx, if_pos rfl]; omega)
  exact C49 (key (fl t) [] 0 rfl (Int.le_refl 0) (Int.le_refl 0) (by omega))
theorem digest_c {F : Int → SC → Prop} (h1 : R1 A c s t) (hT : AFT s t) (hF : F (digA s t) c) : ck iv L h0 d 39 [vr 64] c (ql F) := by
  have hS := hT.1
  obtain ⟨⟨d1, d2, d3, d4, d5⟩, e1, e2, e3, e4, e5, e6⟩ := h1.cur hT
  have hcb := hS.m _ hT.2.2
  obtain ⟨⟨n1, n2, n3, n4, n5, n6, n7, n8⟩, n9, n10⟩ := h1.1.2.1.2 _ hcb.1 hcb.2
  have key : ∀ (m p : List Int) (h : Int), fl t = p ++ m → (fl t).foldl (dg1 s (jdg s t)) 17 = m.foldl (dg1 s (jdg s t)) h → wk iv L h0 d 39 6 [lr 64, ll h, ln, li p.length] [] c (ql F) := by
    intro m
    induction m with
    | nil =>
      intro p h e hk
      obtain ⟨d1, d2, d3, d4⟩ := h1.nil
      rw [List.append_nil] at e
      unfold digA at hF
      rw [hk] at hF
      refine C39_6 ?_
      rw [d2, d4, e, e1, n1, n4, e5]
      exact ⟨d1, d3, fun _ => ⟨rfl, hF⟩, fun q => by omega⟩
    | cons x m ih =>
      intro p h e hk
      obtain ⟨⟨d1, d2, d3, d4, d5, d6, d7⟩, o1, o2, o3, o4, o5, o6, o7, o8, o9, o10, o11, o12⟩ := h1.row hS e
      refine C39_6 ?_
      rw [d2, d4, d5, d6, d7, o4, o5, o6, o7, o8, o9, o10]
      refine ⟨d1, d3, fun q => by omega, fun _ => ⟨rfl, by omega, rfl, by omega, ?_⟩⟩
      have := ih (p ++ [x]) (dg1 s (jdg s t) h x) (by rw [e]; simp) hk
      rw [List.length_append] at this
      simp only [List.length_cons, List.length_nil] at this
      push_cast at this
      exact this
  exact C39 (key (fl t) [] 17 rfl rfl)
end
end
section
/-! Looks by the desk: the box, findings, counts. -/
def BXc (A : Int → Nat) (c : SC) (s : SM) : Prop := fI c 64 12 = s.1 71 ∧ ∀ i, 0 ≤ i → i < 8 → aR c 197 i = A (s.2 72 i - 1)
def FNc (c : SC) (s : SM) : Prop := fI c 64 14 = s.1 0 ∧ ∀ f, 0 ≤ f → f < 6 → aI c 198 f = s.2 1 f
section
variable {iv : List (Int × Int)} {L : Nat} {h0 : MH} {A A' : Int → Nat} {c e : SC} {s s' w : SM} {t : Term} {d : Nat} {ys : List (Nat × Nat)} {rs : List Nat}
theorem cr_ok {a ci y M : Nat} {as : List VV} {X : Option VV → SC → Prop} (hk : kl c a = ci + 1) (hc : ci < 12) (hy : y < nfl ci) (hr : isRf ci y = false) (h : inR (fI c a y) → ck iv L h0 d M as c X) : ck iv L h0 d M as c X := wc_ok (fun _ ⟨H, hH⟩ => by
  obtain ⟨-, -, -, h4, -⟩ := hH
  obtain ⟨fs, -, -, h7⟩ := h4 a ci hk hc
  exact h ((h7 y hy).2 hr).2)
theorem FIX.bx (h : FIX c) : kl c 64 = 1 ∧ fR c 64 10 = 197 ∧ kl c 197 = 103 ∧ le c 197 = 8 ∧ fR c 64 11 = 198 ∧ kl c 198 = 100 ∧ le c 198 = 6 := by
  simp only [h.1]
  exact ⟨trivial, trivial, trivial, trivial, trivial, trivial, trivial⟩
theorem FNc.ref {f : Int} (h : FNc c s) (hf : 0 ≤ f ∧ f < 6) : FNc (refC c f) (mtU s f) := by
  refine ⟨?_, fun g g0 g6 => ?_⟩
  · unfold refC
    rw [fI_uA, fI_uI, if_pos ⟨rfl, rfl⟩]
    rfl
  · unfold refC mtU
    rw [aI_uA, ua_2, us_2]
    by_cases q : g = f
    · subst q
      rw [if_pos ⟨rfl, rfl⟩, if_pos ⟨rfl, rfl⟩, h.2 g g0 g6]
    · rw [if_neg (fun w => q w.2), if_neg (fun w => q w.2)]
      exact h.2 g g0 g6
theorem FNc.x (h : FNc c s) (hX : FIX c) (hx : CX ys rs c e) (hy : (1, 14) ∉ ys) (hr : 198 ∉ rs) : FNc e s := by
  have hk := hX.dk
  have h3 := hX.2.2.1
  refine ⟨by rw [hx.i (a := 64) (by omega) (by rw [hk.1]; exact hy)]; exact h.1, fun f f0 f6 => ?_⟩
  rw [hx.ai (a := 198) (by omega) (by unfold rk; rw [if_pos (by decide)]; exact hr)]
  exact h.2 f f0 f6
theorem BXc.x (h : BXc A c s) (hX : FIX c) (hx : CX ys rs c e) (hy : (1, 12) ∉ ys) (hr : 197 ∉ rs) : BXc A e s := by
  have hk := hX.dk
  have h3 := hX.2.2.1
  refine ⟨by rw [hx.i (a := 64) (by omega) (by rw [hk.1]; exact hy)]; exact h.1, fun f f0 f6 => ?_⟩
  rw [hx.ar (a := 197) (by omega) (by unfold rk; rw [if_pos (by decide)]; exact hr)]
  exact h.2 f f0 f6
theorem BXc.up (h : BXc A c s) (hb : BX s) (hE : EXT A A' (s.1 8)) : BXc A' c s := ⟨h.1, fun i i0 i8 => by
  rw [h.2 i i0 i8]
  have := (hb.2 i i0 i8).2
  exact (hE _ (by omega)).symm⟩
theorem inbox_c {i : Int} {F : Int → SC → Prop} (hX : FIX c) (hb : BXc A c s) (H1 : (0 ≤ i ∧ i < s.1 71) → F 1 c) (H2 : ¬ (0 ≤ i ∧ i < s.1 71) → F 0 c) : ck iv L h0 d 46 [vr 64, vi i] c (qi F) := by
  refine C46 ⟨fun q => H2 (by omega), fun q => ⟨hX.dk.1, ?_⟩⟩
  rw [hb.1]
  exact ⟨fun q2 => H2 (by omega), fun q2 => H1 (by omega)⟩
theorem ref_c {f : Int} {F : Int → SC → Prop} (hX : FIX c) (hf : 0 ≤ f ∧ f < 6) (hn : FNc c s) (hr : ∀ f, 0 ≤ f → f < 6 → 0 ≤ s.2 1 f ∧ s.2 1 f ≤ 600) (hF : F (-3) (refC c f)) : ck iv L h0 d 47 [vr 64, vi f] c (qi F) := refuse_c hX hf (by rw [hn.2 f hf.1 hf.2]; exact hr f hf.1 hf.2) hF
theorem box_c {n : Int} {F : Int → SC → Prop} (hX : FIX c) (hN : ND A c s) (hb : BXc A c s) (hn : FNc c s) (hr : ∀ f, 0 ≤ f → f < 6 → 0 ≤ s.2 1 f ∧ s.2 1 f ≤ 600) (hF : ∀ e, CX [(1, 12), (1, 14)] [197, 198] c e → RMk 0 0 c e → BXc A e (boxU s n) → FNc e (boxU s n) → F (boxA n) e) : ck iv L h0 (d + 1) 31 [vr 64, vi n] c (qi F) := by
  have hk := hX.bx
  have h2 : A (0 - 1) = 2 := hN.1 (0 - 1) (by omega)
  unfold boxA boxU at hF
  refine C31 ⟨fun q => ⟨fun q2 => ?_, fun q2 => ⟨hk.1, ref_c hX (by decide) hn hr ?_⟩⟩, fun q => ?_⟩
  · have key : ∀ (m : Nat) (l : Int) (f : SC), l + m = 8 → 0 ≤ l → SMR [197] [] c f → (∀ j, 0 ≤ j → j < l → aR f 197 j = 2) → wk iv L h0 (d + 1) 31 20 [lr 64, li n, li l] [] f (qi F) := by
      intro m
      induction m with
      | zero =>
        intro l f e l0 hf hj
        have kf : kl f 64 = 1 := by rw [(hf.2.1 _).1]; exact hk.1
        refine C31_20 ⟨fun _ => ⟨kf, ?_⟩, fun q => by omega⟩
        rw [if_neg (by omega), if_neg (by omega), if_neg (by omega), if_neg (by omega)] at hF
        refine hF _ ?_ ⟨by rw [nx_uI, hf.2.2.1.1]; exact Nat.le_refl _, by rw [sl_uI, hf.2.2.1.2]; exact Nat.le_refl _⟩ ⟨by rw [fI_uI, if_pos ⟨rfl, rfl⟩]; rfl, fun i i0 i8 => ?_⟩ ⟨?_, fun g g0 g6 => ?_⟩
        · exact (hf.cx CX.rf (fun a ha => by simp at ha; subst ha; exact ⟨by decide, by simp⟩)).uI (fun _ => by rw [kf]; decide)
        · rw [aR_uI, hj i i0 (by omega)]
          show 2 = A ((if 72 = 72 ∧ 0 ≤ i ∧ i < 8 then 0 else s.2 72 i) - 1)
          rw [if_pos ⟨rfl, i0, i8⟩, h2]
        · rw [fI_uI, if_neg (by omega), (hf.1 _ _).1]; exact hn.1
        · rw [aI_uI, hf.2.2.2.1 _ (by simp)]; exact hn.2 g g0 g6
      | succ m ih =>
        intro l f e l0 hf hj
        have kf : ∀ a, kl f a = kl c a ∧ le f a = le c a := fun a => hf.2.1 a
        have rf : fR f 64 10 = 197 := by rw [(hf.1 _ _).2]; exact hk.2.1
        refine C31_20 ⟨fun q => by omega, fun _ => ?_⟩
        rw [rf, (kf _).1, (kf _).1, (kf _).2, hk.1, hk.2.2.1, hk.2.2.2.1]
        refine ⟨rfl, rfl, by omega, by omega, ih (l + 1) _ (by omega) (by omega) (hf.uB (by simp)) (fun j j0 j1 => ?_)⟩
        rw [aR_uB]
        by_cases w : j = l
        · rw [if_pos ⟨rfl, w⟩]
        · rw [if_neg (fun q => w q.2)]; exact hj j j0 (by omega)
    exact key 8 0 c (by decide) (by decide) SMR.rf (fun j j0 j1 => by omega)
  · rw [if_neg (by omega), if_pos q2, if_neg (by omega), if_pos q2] at hF
    exact hF _ ((refC_x hX).up (by decide) (by decide)) RMk.rf (hb.x hX (refC_x hX) (by decide) (by decide)) (hn.ref (by decide))
  · rw [if_pos q, if_pos q] at hF
    exact hF c CX.rf RMk.rf hb hn
theorem keep_c {i b : Int} {F : Int → SC → Prop} (h1 : R1 A c s t) (hS : SHT s t) (hb : BXc A c s) (hB : BX s) (hn : FNc c s) (hr : ∀ f, 0 ≤ f → f < 6 → 0 ≤ s.2 1 f ∧ s.2 1 f ≤ 600) (hF : ∀ e, CX fnY [197, 198] c e → RMk 0 0 c e → BXc A e (kepU s t i b) → FNc e (kepU s t i b) → F (kepA s t i b) e) : ck iv L h0 (d + 1) 32 [vr 64, vi i, vi b] c (qi F) := by
  obtain ⟨d1, d2, d3, d4, d5⟩ := h1.1.1.dk
  have hX := h1.1.1
  have hk := hX.bx
  refine C32 ⟨d1, by rw [d3]; exact d2, ?_⟩
  rw [d3]
  unfold kepA kepU at hF
  refine find_c h1 hS (fun hm => ⟨fun _ => ⟨d1, inbox_c hX hb (fun q => ⟨fun _ => ?_, fun w => absurd w (by decide)⟩) (fun q => ⟨fun w => absurd rfl w, fun _ => ⟨d1, ref_c hX (by decide) hn hr ?_⟩⟩)⟩, fun w => absurd w (h1.1.2.1.ne (hS.m b hm)).1⟩) (fun hm => ⟨fun w => absurd rfl w, fun _ => ?_⟩)
  · have hbb := hS.m b hm
    have h71 := hB.1
    rw [hk.2.1, hk.2.2.1, hk.2.2.2.1, if_pos hm, if_pos q, if_pos hm, if_pos q] at *
    have hka := (h1.1.2.1.2 b hbb.1 hbb.2).1.1
    refine ⟨d1, rfl, by omega, Or.inr hka, hF _ (CX.rf.uB (fun _ => by unfold rk; rw [if_pos (by decide)]; decide)) RMk.rf ⟨hb.1, fun j j0 j8 => ?_⟩ hn⟩
    rw [aR_uB]
    show _ = A ((if 72 = 72 ∧ j = i then b + 1 else s.2 72 j) - 1)
    by_cases w : j = i
    · rw [if_pos ⟨rfl, w⟩, if_pos ⟨rfl, w⟩]; congr 1; omega
    · rw [if_neg (fun w' => w w'.2), if_neg (fun w' => w w'.2)]; exact hb.2 j j0 j8
  · rw [if_pos hm, if_neg q, if_pos hm, if_neg q] at hF
    exact hF _ ((refC_x hX).up (fun _ q => q) (by decide)) RMk.rf (hb.x hX (refC_x hX) (by decide) (by decide)) (hn.ref (by decide))
  · rw [if_neg hm, if_neg hm] at hF
    exact hF c CX.rf RMk.rf hb hn
theorem lak_c {i : Int} (hN : ND A c s) (hb : BXc A c s) (hB : BX s) (hi : 0 ≤ i ∧ i < s.1 71) : (s.2 72 i = 0 → aR c 197 i = 2) ∧ (s.2 72 i ≠ 0 → aR c 197 i ≠ 2 ∧ kl c (aR c 197 i) = 5 ∧ fI c (aR c 197 i) 1 = s.2 9 (s.2 72 i - 1) ∧ fI c (aR c 197 i) 4 = s.2 10 (s.2 72 i - 1)) := by
  have h71 := hB.1
  rw [hb.2 i hi.1 (by omega)]
  refine ⟨fun q => hN.1 _ (by omega), fun q => ?_⟩
  have := hB.2 i hi.1 (by omega)
  have hr : 0 ≤ s.2 72 i - 1 ∧ s.2 72 i - 1 < s.1 8 := by omega
  obtain ⟨⟨n1, n2, n3, n4, n5, n6, n7, n8⟩, n9, n10⟩ := hN.2 _ hr.1 hr.2
  exact ⟨(hN.ne hr).1, n1, n5, n8⟩
theorem boxed_c {i k : Int} {F : Int → SC → Prop} (hX : FIX c) (hN : ND A c s) (hb : BXc A c s) (hB : BX s) (hn : FNc c s) (hr : ∀ f, 0 ≤ f → f < 6 → 0 ≤ s.2 1 f ∧ s.2 1 f ≤ 600) (hF : ∀ e, CX [(1, 13), (1, 14)] [198] c e → RMk 0 0 c e → BXc A e (bxdU s i k) → FNc e (bxdU s i k) → F (bxdA s i k) e) : ck iv L h0 (d + 1) 33 [vr 64, vi i, vi k] c (qi F) := by
  have hk := hX.bx
  have rf : ∀ f, (f = 1 ∨ f = 2 ∨ f = 3) → (k = 1 ∨ k = 3) → lakA s i k = f → ck iv L h0 d 47 [vr 64, vi f] c (qi F) := fun f hf hk' hl => by
    refine ref_c hX (by omega) hn hr ?_
    have e1 : bxdA s i k = -3 := by unfold bxdA; rw [if_pos hk', if_neg (by omega)]
    have e2 : bxdU s i k = mtU s f := by unfold bxdU; rw [if_pos hk', if_neg (by omega), hl]
    rw [e1, e2] at hF
    exact hF _ ((refC_x hX).up (by decide) (by decide)) RMk.rf (hb.x hX (refC_x hX) (by decide) (by decide)) (hn.ref (by omega))
  have body : (k = 1 ∨ k = 3) → (0 ≤ i ∧ i < s.1 71) → (kl c 64 = 1) ∧ (kl c (fR c 64 10) = 103) ∧ (0 ≤ i ∧ i < le c (fR c 64 10)) ∧ ((aR c (fR c 64 10) i ≠ 2 → (kl c (aR c (fR c 64 10) i) = 5) ∧ ((fI c (aR c (fR c 64 10) i) 1 = k → F 1 (uI c 64 13 (fI c (aR c (fR c 64 10) i) 4))) ∧ (fI c (aR c (fR c 64 10) i) 1 ≠ k → ck iv L h0 d 47 [vr 64, vi 3] c (qi F)))) ∧ (aR c (fR c 64 10) i = 2 → ck iv L h0 d 47 [vr 64, vi 1] c (qi F))) := fun hk' hi => by
    obtain ⟨l1, l2⟩ := lak_c hN hb hB hi
    have h71 := hB.1
    rw [hk.2.1, hk.2.2.1, hk.2.2.2.1]
    by_cases q : s.2 72 i = 0
    · refine ⟨hk.1, rfl, by omega, fun w => absurd (l1 q) w, fun _ => rf 1 (Or.inl rfl) hk' ?_⟩
      unfold lakA; rw [if_pos hi, if_pos q]
    · obtain ⟨m1, m2, m3, m4⟩ := l2 q
      rw [m3, m4]
      refine ⟨hk.1, rfl, by omega, fun _ => ⟨m2, fun w => ?_, fun w => rf 3 (Or.inr (Or.inr rfl)) hk' ?_⟩, fun w => absurd w m1⟩
      · have e0 : lakA s i k = 0 := by unfold lakA; rw [if_pos hi, if_neg q, if_pos w]
        have e1 : bxdA s i k = 1 := by unfold bxdA; rw [if_pos hk', if_pos e0]
        have e2 : bxdU s i k = us s 73 (s.2 10 (s.2 72 i - 1)) := by unfold bxdU; rw [if_pos hk', if_pos e0]
        rw [e1, e2] at hF
        have hx : CX [(1, 13), (1, 14)] [198] c (uI c 64 13 (s.2 10 (s.2 72 i - 1))) := CX.rf.uI (fun _ => by rw [hk.1]; decide)
        have hx' : CX [(1, 13)] [] c (uI c 64 13 (s.2 10 (s.2 72 i - 1))) := CX.rf.uI (fun _ => by rw [hk.1]; decide)
        exact hF _ hx RMk.rf (hb.x hX hx' (by decide) (by decide)) (hn.x hX hx' (by decide) (by decide))
      · unfold lakA; rw [if_pos hi, if_neg q, if_neg w]
  have out : (k = 1 ∨ k = 3) → ¬ (0 ≤ i ∧ i < s.1 71) → ck iv L h0 d 47 [vr 64, vi 2] c (qi F) := fun hk' hi => rf 2 (Or.inr (Or.inl rfl)) hk' (by unfold lakA; rw [if_neg hi])
  refine C33 ⟨fun q => ⟨hk.1, inbox_c hX hb (fun hi => ⟨fun _ => body (Or.inl q) hi, fun w => absurd w (by decide)⟩) (fun hi => ⟨fun w => absurd rfl w, fun _ => ⟨hk.1, out (Or.inl q) hi⟩⟩)⟩, fun q => ⟨fun q2 => ⟨hk.1, inbox_c hX hb (fun hi => ⟨fun _ => body (Or.inr q2) hi, fun w => absurd w (by decide)⟩) (fun hi => ⟨fun w => absurd rfl w, fun _ => ⟨hk.1, out (Or.inr q2) hi⟩⟩)⟩, fun q2 => ?_⟩⟩
  have e1 : bxdA s i k = -1 := by unfold bxdA; rw [if_neg (by omega)]
  have e2 : bxdU s i k = s := by unfold bxdU; rw [if_neg (by omega)]
  rw [e1, e2] at hF
  exact hF c CX.rf RMk.rf hb hn
end
end
section
/-! Looks by the desk: share, count, kinds told, signs. -/
theorem tdiv_inL {a b : Int} (ha : inL a) (h1 : b ≠ -1) (h0 : b ≠ 0) : inL (a.tdiv b) := by
  unfold inL at ha ⊢
  by_cases e : b = 1
  · subst e
    rw [Int.tdiv_one]
    exact ha
  · have h2 : 2 ≤ b.natAbs := by omega
    have h3 : (a.tdiv b).natAbs = a.natAbs / b.natAbs := Int.natAbs_tdiv a b
    have h4 : a.natAbs / b.natAbs ≤ a.natAbs / 2 := Nat.div_le_div_left h2 (by decide)
    omega
section
variable {iv : List (Int × Int)} {L : Nat} {h0 : MH} {A A' : Int → Nat} {c e : SC} {s s' w : SM} {t : Term} {d : Nat} {ys : List (Nat × Nat)} {rs : List Nat} {K : List Snap}
theorem crs_ok {ci y M : Nat} {as : List VV} {X : Option VV → SC → Prop} (hc : ci < 12) (hy : y < nfl ci) (hr : isRf ci y = false) (h : (∀ a, kl c a = ci + 1 → inR (fI c a y)) → ck iv L h0 d M as c X) : ck iv L h0 d M as c X := wc_ok (fun _ ⟨H, hH⟩ => by
  obtain ⟨-, -, -, h4, -⟩ := hH
  refine h (fun a hk => ?_)
  obtain ⟨fs, -, -, h7⟩ := h4 a ci hk hc
  exact ((h7 y hy).2 hr).2)
theorem share_c {i j : Int} {F : Int → SC → Prop} (hX : FIX c) (hN : ND A c s) (hb : BXc A c s) (hB : BX s) (hn : FNc c s) (hr : ∀ f, 0 ≤ f → f < 6 → 0 ≤ s.2 1 f ∧ s.2 1 f ≤ 600) (hF : ∀ e, CX [(1, 13), (1, 14)] [198] c e → RMk 0 0 c e → BXc A e (shaU s i j) → FNc e (shaU s i j) → F (shaA s i j) e) : ck iv L h0 (d + 1) 34 [vr 64, vi i, vi j] c (qi F) := by
  refine crs_ok (ci := 4) (y := 4) (by decide) (by decide) rfl (fun hR => ?_)
  have hk := hX.bx
  have rf : ∀ f, (f = 1 ∨ f = 2 ∨ f = 3 ∨ f = 4) → shaF s i j = f → ck iv L h0 d 47 [vr 64, vi f] c (qi F) := fun f hf hl => by
    refine ref_c hX (by omega) hn hr ?_
    have e1 : shaA s i j = -3 := by unfold shaA; rw [if_neg (by omega)]
    have e2 : shaU s i j = mtU s f := by unfold shaU; rw [if_neg (by omega), hl]
    rw [e1, e2] at hF
    exact hF _ ((refC_x hX).up (by decide) (by decide)) RMk.rf (hb.x hX (refC_x hX) (by decide) (by decide)) (hn.ref (by omega))
  have lk2 : ∀ x, ¬ (0 ≤ x ∧ x < s.1 71) → lakA s x 1 = 2 := fun x hx => by unfold lakA; rw [if_neg hx]
  have lk1 : ∀ x, (0 ≤ x ∧ x < s.1 71) → s.2 72 x = 0 → lakA s x 1 = 1 := fun x hx q => by unfold lakA; rw [if_pos hx, if_pos q]
  have lkn : ∀ x, (0 ≤ x ∧ x < s.1 71) → s.2 72 x ≠ 0 → lakA s x 1 = if s.2 9 (s.2 72 x - 1) = 1 then 0 else 3 := fun x hx q => by unfold lakA; rw [if_pos hx, if_neg q]
  refine C34 ⟨hk.1, inbox_c hX hb (fun hi => ⟨fun w => absurd w (by decide), fun _ => ⟨hk.1, inbox_c hX hb (fun hj => ⟨fun _ => ?_, fun w => absurd w (by decide)⟩) (fun hj => ⟨fun w => absurd rfl w, fun _ => ⟨hk.1, rf 2 (by omega) ?_⟩⟩)⟩⟩) (fun hi => ⟨fun _ => ⟨hk.1, rf 2 (by omega) ?_⟩, fun w => absurd rfl w⟩)⟩
  · obtain ⟨l1, l2⟩ := lak_c hN hb hB hi
    obtain ⟨m1, m2⟩ := lak_c hN hb hB hj
    have h71 := hB.1
    rw [hk.2.1, hk.2.2.1, hk.2.2.2.1]
    refine ⟨hk.1, rfl, by omega, by omega, fun q => rf 1 (by omega) ?_, fun q => ⟨fun q2 => ?_, fun q2 => rf 1 (by omega) ?_⟩⟩
    · have hi0 : s.2 72 i = 0 := Classical.byContradiction fun w => (l2 w).1 q
      unfold shaF
      rw [lk1 i hi hi0, if_neg (fun w => ?_), if_pos (Or.inl rfl)]
      rcases w with w | w
      · omega
      · by_cases z : s.2 72 j = 0
        · rw [lk1 j hj z] at w; omega
        · rw [lkn j hj z] at w; split at w <;> omega
    · have hi0 : s.2 72 i ≠ 0 := fun w => q (l1 w)
      have hj0 : s.2 72 j ≠ 0 := fun w => q2 (m1 w)
      obtain ⟨-, a2, a3, a4⟩ := l2 hi0
      obtain ⟨-, b2, b3, b4⟩ := m2 hj0
      have ei := lkn i hi hi0
      have ej := lkn j hj hj0
      have eF : shaF s i j = if lakA s i 1 = 3 ∨ lakA s j 1 = 3 then 3 else if shaN s j = 0 then 4 else 0 := by
        unfold shaF
        rw [if_neg (fun w => ?_), if_neg (fun w => ?_)]
        · rw [ei, ej] at w; split at w <;> split at w <;> omega
        · rw [ei, ej] at w; split at w <;> split at w <;> omega
      have r1 := hR _ a2
      have r2 := hR _ b2
      unfold inR at r1 r2
      rw [a4] at r1
      rw [b4] at r2
      rw [a3, b3, a4, b4]
      refine ⟨a2, fun w => rf 3 (by omega) ?_, fun w => ⟨b2, fun w2 => ⟨fun w3 => ?_, fun w3 => rf 4 (by omega) ?_⟩, fun w2 => rf 3 (by omega) ?_⟩⟩
      · rw [eF, if_pos (Or.inl (by rw [ei, if_neg w]))]
      · have e0 : shaF s i j = 0 := by rw [eF, if_neg (by rw [ei, ej, if_pos w, if_pos w2]; omega), if_neg (show ¬ shaN s j = 0 from w3)]
        have e1 : shaA s i j = 1 := by unfold shaA; rw [if_pos e0]
        have e2 : shaU s i j = us s 73 (shaV s i j) := by unfold shaU; rw [if_pos e0]
        rw [e1, e2] at hF
        have iL1 : inL (1000 * s.2 10 (s.2 72 i - 1)) := by unfold inL; omega
        have iL2 : inL (s.2 10 (s.2 72 j - 1)) := by unfold inL; omega
        have iL3 : inL ((1000 * s.2 10 (s.2 72 i - 1)).tdiv (s.2 10 (s.2 72 j - 1))) := by
          by_cases z : s.2 10 (s.2 72 j - 1) = -1
          · rw [z, Int.tdiv_neg, Int.tdiv_one]; unfold inL; omega
          · exact tdiv_inL iL1 z w3
        have hx' : CX [(1, 13)] [] c (uI c 64 13 (w32 ((1000 * s.2 10 (s.2 72 i - 1)).tdiv (s.2 10 (s.2 72 j - 1))))) := CX.rf.uI (fun _ => by rw [hk.1]; decide)
        exact ⟨iL1, iL2, w3, iL3, hF _ (hx'.up (by decide) (fun _ q => by cases q)) RMk.rf (hb.x hX hx' (by decide) (by decide)) (hn.x hX hx' (by decide) (by decide))⟩
      · rw [eF, if_neg (by rw [ei, ej, if_pos w, if_pos w2]; omega), if_pos (show shaN s j = 0 from w3)]
      · rw [eF, if_pos (Or.inr (by rw [ej, if_neg w2]))]
    · have hj0 : s.2 72 j = 0 := Classical.byContradiction fun w => (m2 w).1 q2
      have hi0 : s.2 72 i ≠ 0 := fun w => q (l1 w)
      unfold shaF
      rw [lk1 j hj hj0, lkn i hi hi0, if_neg (fun w => ?_), if_pos (Or.inr rfl)]
      split at w <;> omega
  · unfold shaF; rw [lk2 j hj, if_pos (Or.inr rfl)]
  · unfold shaF; rw [lk2 i hi, if_pos (Or.inl rfl)]
theorem kindOf_c {k w : Int} {F : Int → SC → Prop} (hX : FIX c) (hI : KIc c s) (hK : KIs s) (hF : F (kofA s k w) c) : ck iv L h0 (d + 1) 3 [vr 64, vi k, vi w] c (qi F) := by
  obtain ⟨d1, d2, d3, d4, d5⟩ := hX.dk
  have hk : fR c 65 0 = 66 ∧ fR c 65 1 = 67 ∧ fR c 65 2 = 68 ∧ fR c 65 3 = 69 ∧ kl c 66 = 100 ∧ kl c 67 = 100 ∧ kl c 68 = 100 ∧ kl c 69 = 100 ∧ le c 66 = 1440 ∧ le c 67 = 1440 ∧ le c 68 = 1440 ∧ le c 69 = 1440 := by
    simp only [hX.1]
    exact ⟨trivial, trivial, trivial, trivial, trivial, trivial, trivial, trivial, trivial, trivial, trivial, trivial⟩
  obtain ⟨f0, f1, f2, f3, g0, g1, g2, g3, l0, l1, l2, l3⟩ := hk
  have hn := hK.1
  unfold kofA at hF
  refine C3 ⟨d1, by rw [d4]; exact d5, ?_⟩
  rw [d4]
  refine has_c hX hI (fun q => ⟨fun _ => ?_, fun z => absurd z (by decide)⟩) (fun q => ⟨fun z => absurd rfl z, fun _ => by rw [if_neg q] at hF; exact hF⟩)
  rw [if_pos q] at hF
  obtain ⟨r0, r1, r2, r3⟩ := hI.2 k q.1 q.2
  rw [d4, f0, f1, f2, f3, g0, g1, g2, g3, l0, l1, l2, l3, r0, r1, r2, r3]
  refine ⟨fun z => ⟨d1, d5, rfl, by omega, ?_⟩, fun z => ⟨d1, d5, rfl, by omega, ?_⟩, fun z => ⟨d1, d5, rfl, by omega, ?_⟩, fun z => ⟨d1, d5, rfl, by omega, ?_⟩, fun z => ?_⟩
  · rw [if_pos z] at hF; exact hF
  · rw [if_neg (by omega), if_pos z] at hF; exact hF
  · rw [if_neg (by omega), if_neg (by omega), if_pos z] at hF; exact hF
  · rw [if_neg (by omega), if_neg (by omega), if_neg (by omega), if_pos z] at hF; exact hF
  · rw [if_neg (by omega), if_neg (by omega), if_neg (by omega), if_neg (by omega)] at hF; exact hF
theorem meet_c {a b : Int} {F : Int → SC → Prop} (h1 : R1 A c s t) (hK : KIs s) (hd : 42 ≤ d) (hF : F (metA s a b) c) : ck iv L h0 d 4 [vr 64, vi a, vi b] c (qi F) := by
  obtain ⟨d, rfl⟩ : ∃ k, d = k + 1 := ⟨d - 1, by omega⟩
  have hX := h1.1.1
  obtain ⟨d1, d2, d3, d4, d5⟩ := hX.dk
  have hI := h1.2.2.1
  have hJ := h1.2.2.2
  unfold metA at hF
  refine C4 ⟨d1, by rw [d4]; exact d5, ?_⟩
  rw [d4]
  refine has_c hX hI (fun q => ⟨fun z => absurd z (by decide), fun _ => ⟨d1, by rw [d4]; exact d5, ?_⟩⟩) (fun q => ⟨fun _ => by rw [if_neg (fun z => q z.1)] at hF; exact hF, fun z => absurd rfl z⟩)
  rw [d4]
  refine has_c hX hI (fun q2 => ⟨fun _ => ⟨d1, by rw [d4]; exact d5, ?_⟩, fun z => absurd z (by decide)⟩) (fun q2 => ⟨fun z => absurd rfl z, fun _ => by rw [if_neg (fun z => q2 z.2)] at hF; exact hF⟩)
  rw [if_pos ⟨q, q2⟩] at hF
  rw [d4]
  have ek : ∀ k, (0 ≤ k ∧ k < s.1 2) → kts (mx A c s) k = kks s k := fun k hk => hI.kks hK hk.1 hk.2
  refine doMeet_ok (s := mx A c s) ⟨hX, ⟨rfl, rfl⟩, rfl, rfl, rfl, rfl⟩ hJ.1 (by show fI c 65 5 ≤ 1440; have := hJ.2.1; omega) (Or.inl ⟨q.1, by show a < fI c 65 4; rw [hI.1]; exact q.2⟩) (Or.inl ⟨q2.1, by show b < fI c 65 4; rw [hI.1]; exact q2.2⟩) (by omega) ?_
  rw [ek a q, ek b q2]
  cases h : kmt (kks s a) (kks s b) with
  | true => rw [h] at hF; exact ⟨fun z => absurd z (by decide), fun _ => hF⟩
  | false => rw [h] at hF; exact ⟨fun _ => hF, fun z => absurd rfl z⟩
end
end
section
/-! kind() by the desk. -/
theorem KI_push {n i a b : Int} {ks ka kb sz ks' ka' kb' sz' : Int → Int} (h : KI n ks ka kb sz) (hn : n < 40) (hi : i = 3 ∨ i = 4) (ha : 0 ≤ a ∧ a < n) (hb : 0 ≤ b ∧ b < n) (hz : 1 + sz a + sz b ≤ 40) (h1 : ∀ k, ks' k = if k = n then i else ks k) (h2 : ∀ k, ka' k = if k = n then a else ka k) (h3 : ∀ k, kb' k = if k = n then b else kb k) (h4 : ∀ k, sz' k = if k = n then 1 + sz a + sz b else sz k) : KI (n + 1) ks' ka' kb' sz' := by
  obtain ⟨g1, g2, g3⟩ := h
  refine ⟨by omega, fun k k0 k3 => ?_, fun k k3 kn => ?_⟩
  · rw [h1, h2, h3, h4, if_neg (by omega), if_neg (by omega), if_neg (by omega), if_neg (by omega)]
    exact g2 k k0 k3
  · by_cases q : k = n
    · subst q
      rw [h1, h2, h3, h4 k, if_pos rfl, if_pos rfl, if_pos rfl, if_pos rfl, h4 a, h4 b, if_neg (by omega), if_neg (by omega)]
      exact ⟨hi, ha, hb, rfl, hz⟩
    · obtain ⟨q1, q2, q3, q4, q5⟩ := g3 k k3 (by omega)
      rw [h1, h2, h3, h4 k, if_neg q, if_neg q, if_neg q, if_neg q, h4 (ka k), h4 (kb k), if_neg (by omega), if_neg (by omega)]
      exact ⟨q1, q2, q3, q4, q5⟩
theorem vk_told {n m k : Int} (h : vk n m k) : vk (n + 1) m k := by unfold vk at h ⊢; omega
theorem KJ_push {n m i a b : Int} {ks ka kb sz ks' ka' kb' sz' : Int → Int} (h : KJ n m ks ka kb sz) (hn : n < 40) (hi : i = 3 ∨ i = 4) (ha : 0 ≤ a ∧ a < n) (hb : 0 ≤ b ∧ b < n) (hz : 1 + sz a + sz b ≤ 40) (h1 : ∀ k, ks' k = if k = n then i else ks k) (h2 : ∀ k, ka' k = if k = n then a else ka k) (h3 : ∀ k, kb' k = if k = n then b else kb k) (h4 : ∀ k, sz' k = if k = n then 1 + sz a + sz b else sz k) : KJ (n + 1) m ks' ka' kb' sz' := by
  obtain ⟨g1, g2, g3⟩ := h
  refine ⟨KI_push g1 hn hi ha hb hz h1 h2 h3 h4, g2, fun k k40 km => ?_⟩
  obtain ⟨q1, q2, q3, q4, q5⟩ := g3 k k40 km
  have n2 : ka k ≠ n := by unfold vk at q2; omega
  have n3 : kb k ≠ n := by unfold vk at q3; omega
  rw [h1, h2, h3, h4 k, if_neg (by omega), if_neg (by omega), if_neg (by omega), if_neg (by omega), h4 (ka k), h4 (kb k), if_neg n2, if_neg n3]
  exact ⟨q1, vk_told q2, vk_told q3, q4, q5⟩
theorem kt_push {n m : Int} {ks ka kb sz ks' ka' kb' : Int → Int} (h : KJ n m ks ka kb sz) (hn : n < 40) (h1 : ∀ k, k ≠ n → ks' k = ks k ∧ ka' k = ka k ∧ kb' k = kb k) : ∀ k, vk n m k → kt ks' ka' kb' k = kt ks ka kb k := by
  have key : ∀ (q : Nat) (k : Int), vk n m k → kd ks' ka' kb' q k = kd ks ka kb q k := by
    intro q
    induction q with
    | zero => intro k _; rfl
    | succ q ih =>
      intro k hk
      have hkn : k ≠ n := by unfold vk at hk; omega
      obtain ⟨e1, e2, e3⟩ := h1 k hkn
      obtain ⟨a1, a2, a3, a4⟩ := h.at hk
      rw [kd_s, kd_s, e1, e2, e3]
      by_cases h3 : ks k < 3
      · by_cases e0 : ks k = 0
        · rw [if_pos e0, if_pos e0]
        · by_cases e1 : ks k = 1
          · rw [if_neg e0, if_neg e0, if_pos e1, if_pos e1]
          · rw [if_neg e0, if_neg e0, if_neg e1, if_neg e1, if_pos (by omega), if_pos (by omega)]
      · obtain ⟨b1, b2, b3, -⟩ := a4 (by omega)
        rw [ih _ (vk_le b2 hk h.2.1), ih _ (vk_le b3 hk h.2.1)]
  exact fun k hk => key 40 k hk
def kiY : List (Nat × Nat) := [(4, 4)]
def kiR : List Nat := [66, 67, 68, 69]
section
variable {iv : List (Int × Int)} {L : Nat} {h0 : MH} {A A' : Int → Nat} {c e : SC} {s s' w : SM} {t : Term} {d : Nat}
def knS (s : SM) (i a b : Int) : SM := us (ua (ua (ua (ua s 4 (s.1 2) i) 5 (s.1 2) a) 6 (s.1 2) b) 7 (s.1 2) (1 + s.2 7 a + s.2 7 b)) 2 (s.1 2 + 1)
def knC (c : SC) (n i a b z : Int) : SC := uI (uA (uA (uA (uA c 66 n i) 67 n a) 68 n b) 69 n z) 65 4 (n + 1)
theorem knC_x {n i a b z : Int} (hX : FIX c) : CX kiY kiR c (knC c n i a b z) := by
  unfold knC
  refine CX.uI ((((CX.rf.uA (fun _ => ?_)).uA (fun _ => ?_)).uA (fun _ => ?_)).uA (fun _ => ?_)) (fun _ => ?_)
  · unfold rk; rw [if_pos (by decide)]; decide
  · unfold rk; rw [if_pos (by decide)]; decide
  · unfold rk; rw [if_pos (by decide)]; decide
  · unfold rk; rw [if_pos (by decide)]; decide
  · show (ky 65 (kl c 65), 4) ∈ kiY
    rw [hX.dk.2.2.2.2]; decide
theorem R1.kind {i a b : Int} (h : R1 A c s t) (hS : SHT s t) (hB : NB s) (hK : KIs s) (hn : s.1 2 < 40) (hi : i = 3 ∨ i = 4) (ha : 0 ≤ a ∧ a < s.1 2) (hb : 0 ≤ b ∧ b < s.1 2) (hz : 1 + s.2 7 a + s.2 7 b ≤ 40) : R1 A (knC c (s.1 2) i a b (1 + s.2 7 a + s.2 7 b)) (knS s i a b) t ∧ KIs (knS s i a b) ∧ SHT (knS s i a b) t := by
  obtain ⟨⟨hX, hN, hH, hL⟩, ⟨hc, h8⟩, hI, hJ1, hJ2, hJ3⟩ := h
  have h3 := hX.2.2.1
  have hk := hX.dk
  have hx := knC_x (n := s.1 2) (i := i) (a := a) (b := b) (z := 1 + s.2 7 a + s.2 7 b) hX
  have hE : eqx [2] [4, 5, 6, 7] s (knS s i a b) := eqx_us (eqx_ua (eqx_ua (eqx_ua (eqx_ua eqx.rf (by decide)) (by decide)) (by decide)) (by decide)) (by decide)
  have hS' : SHT (knS s i a b) t := hS.x (SX.eq (ey := [2]) (ef := [4, 5, 6, 7]) hE (by decide) (by decide)) (by decide) (by decide)
  have r4 : ∀ k, (knS s i a b).2 4 k = if k = s.1 2 then i else s.2 4 k := fun k => by
    unfold knS; simp only [us_2, ua_2]; rw [if_neg (by omega), if_neg (by omega), if_neg (by omega)]; by_cases q : k = s.1 2 <;> simp [q]
  have r5 : ∀ k, (knS s i a b).2 5 k = if k = s.1 2 then a else s.2 5 k := fun k => by
    unfold knS; simp only [us_2, ua_2]; rw [if_neg (by omega), if_neg (by omega)]; by_cases q : k = s.1 2 <;> simp [q]
  have r6 : ∀ k, (knS s i a b).2 6 k = if k = s.1 2 then b else s.2 6 k := fun k => by
    unfold knS; simp only [us_2, ua_2]; rw [if_neg (by omega)]; by_cases q : k = s.1 2 <;> simp [q]
  have r7 : ∀ k, (knS s i a b).2 7 k = if k = s.1 2 then 1 + s.2 7 a + s.2 7 b else s.2 7 k := fun k => by
    unfold knS; simp only [us_2, ua_2]; by_cases q : k = s.1 2 <;> simp [q]
  have hK' : KIs (knS s i a b) := KI_push hK hn hi ha hb hz r4 r5 r6 r7
  have v4 : fI (knC c (s.1 2) i a b (1 + s.2 7 a + s.2 7 b)) 65 4 = s.1 2 + 1 := by unfold knC; rw [fI_uI, if_pos ⟨rfl, rfl⟩]
  have v5 : fI (knC c (s.1 2) i a b (1 + s.2 7 a + s.2 7 b)) 65 5 = fI c 65 5 := by unfold knC; rw [fI_uI, if_neg (by omega)]; rfl
  have w6 : ∀ k, aI (knC c (s.1 2) i a b (1 + s.2 7 a + s.2 7 b)) 66 k = if k = s.1 2 then i else aI c 66 k := fun k => by
    unfold knC; rw [aI_uI, aI_uA, if_neg (by omega), aI_uA, if_neg (by omega), aI_uA, if_neg (by omega), aI_uA]; by_cases q : k = s.1 2 <;> simp [q]
  have w7 : ∀ k, aI (knC c (s.1 2) i a b (1 + s.2 7 a + s.2 7 b)) 67 k = if k = s.1 2 then a else aI c 67 k := fun k => by
    unfold knC; rw [aI_uI, aI_uA, if_neg (by omega), aI_uA, if_neg (by omega), aI_uA]; by_cases q : k = s.1 2 <;> simp [q, aI_uA]
  have w8 : ∀ k, aI (knC c (s.1 2) i a b (1 + s.2 7 a + s.2 7 b)) 68 k = if k = s.1 2 then b else aI c 68 k := fun k => by
    unfold knC; rw [aI_uI, aI_uA, if_neg (by omega), aI_uA]; by_cases q : k = s.1 2 <;> simp [q, aI_uA]
  have w9 : ∀ k, aI (knC c (s.1 2) i a b (1 + s.2 7 a + s.2 7 b)) 69 k = if k = s.1 2 then 1 + s.2 7 a + s.2 7 b else aI c 69 k := fun k => by
    unfold knC; rw [aI_uI, aI_uA]; by_cases q : k = s.1 2 <;> simp [q, aI_uA]
  obtain ⟨i1, i2⟩ := id hI
  have za := (i2 a ha.1 ha.2).2.2.2
  have zb := (i2 b hb.1 hb.2).2.2.2
  have hJ1' : KJ (s.1 2) (fI c 65 5) (aI c 66) (aI c 67) (aI c 68) (aI c 69) := by have := hJ1; unfold KJc at this; rw [i1] at this; exact this
  have hjd : jdg (knS s i a b) t = jdg s t := jdg_un hS.w hS'.w (fun x _ => by rw [hE.2 9 (by decide), hE.2 10 (by decide), hE.2 11 (by decide)]; exact ⟨rfl, rfl, rfl⟩) (fun x hx q => by
    have hq := (hB x (hS.m _ hx).1 (hS.m _ hx).2).2.2.2 q
    rw [kks_told hq, kks_told (show 0 ≤ s.2 11 x ∧ s.2 11 x < s.1 2 + 1 by omega)]
    exact kt_push (KJ_40 hK) hn (fun k hk => by rw [r4, r5, r6, if_neg hk, if_neg hk, if_neg hk]; exact ⟨rfl, rfl, rfl⟩) _ (Or.inl hq))
  refine ⟨⟨⟨hX.x hx (by decide) (by decide), hN.x hx (by decide) (by decide) (by decide) (by decide) (by decide), ?_, hL.x hN hS.m hX hx (by decide) (by decide) (by decide)⟩, ⟨?_, ?_⟩, ⟨v4, fun k k0 kn => ?_⟩, ⟨?_, by rw [v5]; exact hJ2, fun x hx' => ?_⟩⟩, hK', hS'⟩
  · exact hH.x hN hS.m hX hx (by decide) (by decide) (by decide) (by decide)
  · rw [hx.r (a := 70) (by omega) (by rw [hk.2.1]; decide)]; exact hc
  · rw [hx.i (a := 70) (by omega) (by rw [hk.2.1]; decide)]; exact h8
  · have kn : k < s.1 2 + 1 := kn
    rw [w6, w7, w8, w9, r4, r5, r6, r7]
    by_cases q : k = s.1 2
    · rw [if_pos q, if_pos q, if_pos q, if_pos q, if_pos q, if_pos q, if_pos q, if_pos q]; exact ⟨rfl, rfl, rfl, rfl⟩
    · rw [if_neg q, if_neg q, if_neg q, if_neg q, if_neg q, if_neg q, if_neg q, if_neg q]; exact i2 k k0 (by omega)
  · unfold KJc
    rw [v4, v5]
    exact KJ_push hJ1' hn hi ha hb (by rw [za, zb]; exact hz) w6 w7 w8 (fun k => by rw [w9, za, zb])
  · have hbb := hS.m x hx'
    obtain ⟨⟨n1, n2, n3, n4, n5, n6, n7, n8⟩, n9, n10⟩ := hN.2 x hbb.1 hbb.2
    have ke : ky (A x) (kl c (A x)) = 5 := by rw [ky5 n10, n1]
    have hlt : A x < nxt c := by omega
    have kt' : ∀ k, vkc c k → vkc (knC c (s.1 2) i a b (1 + s.2 7 a + s.2 7 b)) k ∧ ktc (knC c (s.1 2) i a b (1 + s.2 7 a + s.2 7 b)) k = ktc c k := fun k hk' => by
      unfold vkc at hk' ⊢
      rw [i1] at hk'
      rw [v4, v5]
      exact ⟨vk_told hk', kt_push hJ1' hn (fun j hj => by rw [w6, w7, w8, if_neg hj, if_neg hj, if_neg hj]; exact ⟨rfl, rfl, rfl⟩) _ hk'⟩
    obtain ⟨⟨g1, g2⟩, g3, g4⟩ := hJ3 x hx'
    rw [hjd, hx.i hlt (y := 8) (by rw [ke]; decide), hx.i hlt (y := 9) (by rw [ke]; decide), hx.i hlt (y := 10) (by rw [ke]; decide)]
    refine ⟨⟨(kt' _ g1).1, (kt' _ g1).2.trans g2⟩, ?_, g4⟩
    unfold aKc at g3 ⊢
    cases hA : (jdg s t).2.1 x with
    | none => rw [hA] at g3; exact g3
    | some T => rw [hA] at g3; exact ⟨(kt' _ g3.1).1, (kt' _ g3.1).2.trans g3.2⟩
theorem kfind_c {i a b : Int} {F : Int → SC → Prop} (hX : FIX c) (hI : KIc c s) (hK : KIs s) (hF : F (kfs s i a b) c) : ck iv L h0 d 178 [vr 65, vi i, vi a, vi b] c (qi F) := by
  have hk : kl c 65 = 4 ∧ fR c 65 0 = 66 ∧ fR c 65 1 = 67 ∧ fR c 65 2 = 68 ∧ kl c 66 = 100 ∧ kl c 67 = 100 ∧ kl c 68 = 100 ∧ le c 66 = 1440 ∧ le c 67 = 1440 ∧ le c 68 = 1440 := by
    simp only [hX.1]
    exact ⟨trivial, trivial, trivial, trivial, trivial, trivial, trivial, trivial, trivial, trivial⟩
  obtain ⟨d5, f0, f1, f2, g0, g1, g2, l0, l1, l2⟩ := hk
  have hn := hK.1
  have key : ∀ (n : Nat) (k : Int), 3 ≤ k → k ≤ s.1 2 → (s.1 2 - k).toNat = n → kfs s i a b = kfd (s.2 4) (s.2 5) (s.2 6) i a b n k → wk iv L h0 d 178 3 [lr 65, li i, li a, li b, li k] [] c (qi F) := by
    intro n
    induction n with
    | zero =>
      intro k q3 qk qn hf
      have hf : kfs s i a b = -1 := hf
      rw [hf] at hF
      refine C178_3 ⟨d5, fun _ => hF, fun q => ?_⟩
      rw [hI.1] at q
      omega
    | succ n ih =>
      intro k q3 qk qn hf
      obtain ⟨e1, e2, e3, -⟩ := hI.2 k (by omega) (by omega)
      have nx : ¬ (s.2 4 k = i ∧ s.2 5 k = a ∧ s.2 6 k = b) → wk iv L h0 d 178 3 [lr 65, li i, li a, li b, li (k + 1)] [] c (qi F) := fun e => by
        unfold kfd at hf
        rw [if_neg e] at hf
        exact ih (k + 1) (by omega) (by omega) (by omega) hf
      refine C178_3 ?_
      rw [hI.1, f0, f1, f2, g0, g1, g2, l0, l1, l2, e1, e2, e3]
      refine ⟨d5, fun q => by omega, fun _ => ⟨rfl, by omega, fun z => ⟨by omega, nx (fun q => z q.1)⟩, fun z => ⟨rfl, by omega, fun z2 => ⟨by omega, nx (fun q => z2 q.2.1)⟩, fun z2 => ⟨rfl, by omega, fun z3 => ⟨by omega, nx (fun q => z3 q.2.2)⟩, fun z3 => ?_⟩⟩⟩⟩
      unfold kfd at hf
      rw [if_pos ⟨z, z2, z3⟩] at hf
      rw [hf] at hF
      exact hF
  exact C178 (key _ 3 (by omega) (by omega) rfl rfl)
end
end
section
/-! kind(), sign(), count() by the desk. -/
section
variable {iv : List (Int × Int)} {L : Nat} {h0 : MH} {A A' : Int → Nat} {c e : SC} {s s' w : SM} {t : Term} {d : Nat} {K : List Snap} {Sh : Int → Option Snap}
theorem FIX.kr (h : FIX c) : kl c 65 = 4 ∧ (fR c 65 0 = 66 ∧ fR c 65 1 = 67 ∧ fR c 65 2 = 68 ∧ fR c 65 3 = 69) ∧ (kl c 66 = 100 ∧ kl c 67 = 100 ∧ kl c 68 = 100 ∧ kl c 69 = 100) ∧ le c 66 = 1440 ∧ le c 67 = 1440 ∧ le c 68 = 1440 ∧ le c 69 = 1440 := by
  simp only [h.1]
  exact ⟨trivial, ⟨trivial, trivial, trivial, trivial⟩, ⟨trivial, trivial, trivial, trivial⟩, trivial, trivial, trivial, trivial⟩
theorem ksize_c {a b : Int} {F : Int → SC → Prop} (hX : FIX c) (hI : KIc c s) (hK : KIs s) (ha : 0 ≤ a ∧ a < s.1 2) (hb : 0 ≤ b ∧ b < s.1 2) (hF : F (1 + s.2 7 a + s.2 7 b) c) : ck iv L h0 d 177 [vr 65, vi a, vi b] c (qi F) := by
  obtain ⟨k1, ⟨f0, f1, f2, f3⟩, ⟨g0, g1, g2, g3⟩, l0, l1, l2, l3⟩ := hX.kr
  have hn := hK.1
  have za := ((KJ_40 hK).at (k := a) (Or.inl ha)).1
  have zb := ((KJ_40 hK).at (k := b) (Or.inl hb)).1
  refine C177 ?_
  rw [k1, f3, g3, l3, (hI.2 a ha.1 ha.2).2.2.2, (hI.2 b hb.1 hb.2).2.2.2]
  exact ⟨rfl, rfl, by omega, by omega, by omega, by omega, hF⟩
theorem kmake_c {i a b : Int} {F : Int → SC → Prop} (hX : FIX c) (hI : KIc c s) (hK : KIs s) (ha : 0 ≤ a ∧ a < s.1 2) (hb : 0 ≤ b ∧ b < s.1 2) (hn : s.1 2 < 40) (hF : F (s.1 2) (knC c (s.1 2) i a b (1 + s.2 7 a + s.2 7 b))) : ck iv L h0 (d + 1) 179 [vr 65, vi i, vi a, vi b] c (qi F) := by
  obtain ⟨k1, ⟨f0, f1, f2, f3⟩, ⟨g0, g1, g2, g3⟩, l0, l1, l2, l3⟩ := hX.kr
  have hn3 := hK.1
  refine C179 ⟨k1, ksize_c hX hI hK ha hb ⟨k1, C175 ?_⟩⟩
  rw [k1, f0, f1, f2, f3, g0, g1, g2, g3, l0, l1, l2, l3, hI.1]
  refine ⟨rfl, rfl, by omega, rfl, by omega, rfl, by omega, rfl, by omega, k1, ?_⟩
  have e4 : fI (uA (uA (uA (uA c 66 (s.1 2) i) 67 (s.1 2) a) 68 (s.1 2) b) 69 (s.1 2) (1 + s.2 7 a + s.2 7 b)) 65 4 = s.1 2 := hI.1
  rw [e4]
  exact ⟨by omega, hF⟩
theorem kind_c {p a b : Int} {F : Int → SC → Prop} (hX : FIX c) (hI : KIc c s) (hK : KIs s) (hd : 3 ≤ d) (H1 : kbad s a b → F (-1) c) (H2 : ¬ kbad s a b → (0 ≤ kfs s (kis p) a b ∨ s.1 2 = 40) → F (kndA s p a b) c) (H3 : ¬ kbad s a b → ¬ 0 ≤ kfs s (kis p) a b → s.1 2 < 40 → F (s.1 2) (knC c (s.1 2) (kis p) a b (1 + s.2 7 a + s.2 7 b))) : ck iv L h0 d 2 [vr 64, vi p, vi a, vi b] c (qi F) := by
  obtain ⟨d, rfl⟩ : ∃ k, d = k + 1 + 1 := ⟨d - 2, by omega⟩
  obtain ⟨d1, d2, d3, d4, d5⟩ := hX.dk
  have hn := hK.1
  have body : ∀ i : Int, kis p = i → (kl c 64 = 1) ∧ (kl c (fR c 64 0) = 4) ∧ ck iv L h0 (d + 1) 176 [vr (fR c 64 0), vi a] c (qi fun r4 s3 => ((r4 = 0 → F (-1) s3) ∧ (r4 ≠ 0 → (kl s3 64 = 1) ∧ (kl s3 (fR s3 64 0) = 4) ∧ ck iv L h0 (d + 1) 176 [vr (fR s3 64 0), vi b] s3 (qi fun r8 s7 => ((r8 = 0 → F (-1) s7) ∧ (r8 ≠ 0 → (kl s7 64 = 1) ∧ (kl s7 (fR s7 64 0) = 4) ∧ ck iv L h0 (d + 1) 177 [vr (fR s7 64 0), vi a, vi b] s7 (qi fun r12 s11 => ((r12 ≤ 40 → (kl s11 64 = 1) ∧ (kl s11 (fR s11 64 0) = 4) ∧ ck iv L h0 (d + 1) 178 [vr (fR s11 64 0), vi i, vi a, vi b] s11 (qi fun r16 s15 => ((r16 < 0 → (kl s15 64 = 1) ∧ (kl s15 (fR s15 64 0) = 4) ∧ ((fI s15 (fR s15 64 0) 4 < 40 → ck iv L h0 (d + 1) 179 [vr (fR s15 64 0), vi i, vi a, vi b] s15 (qi fun r20 s19 => F r20 s19)) ∧ (40 ≤ fI s15 (fR s15 64 0) 4 → F (-2) s15))) ∧ (0 ≤ r16 → F r16 s15)))) ∧ (40 < r12 → F (-1) s11))))))))) := fun i hi => by
    subst hi
    rw [d4]
    refine ⟨d1, d5, has_c hX hI (fun qa' => ⟨fun w => absurd w (by decide), fun _ => ⟨d1, by rw [d4]; exact d5, ?_⟩⟩) (fun q => ⟨fun _ => H1 (Or.inl q), fun w => absurd rfl w⟩)⟩
    rw [d4]
    refine has_c hX hI (fun qb => ⟨fun w => absurd w (by decide), fun _ => ⟨d1, by rw [d4]; exact d5, ?_⟩⟩) (fun q => ⟨fun _ => H1 (Or.inr (Or.inl q)), fun w => absurd rfl w⟩)
    rw [d4]
    refine ksize_c hX hI hK qa' qb ⟨fun qz => ⟨d1, by rw [d4]; exact d5, ?_⟩, fun qz => H1 (Or.inr (Or.inr qz))⟩
    have hg : ¬ kbad s a b := fun w => by
      rcases w with w | w | w
      · exact w qa'
      · exact w qb
      · omega
    rw [d4]
    refine kfind_c hX hI hK ⟨fun qf => ⟨d1, by rw [d4]; exact d5, ?_⟩, fun qf => ?_⟩
    · rw [d4, hI.1]
      refine ⟨fun q40 => kmake_c hX hI hK qa' qb q40 (H3 hg (by omega) q40), fun q40 => ?_⟩
      have := H2 hg (Or.inr (by omega))
      unfold kndA at this
      rw [if_neg (by omega), if_pos (by omega)] at this
      exact this
    · have := H2 hg (Or.inl qf)
      unfold kndA at this
      rw [if_pos qf] at this
      exact this
  exact C2 ⟨fun q => body 3 (by unfold kis; rw [if_pos q]), fun q => body 4 (by unfold kis; rw [if_neg q])⟩
end
theorem sg_sz {n m : Int} {ks ka kb sz : Int → Int} (h : KJ n m ks ka kb sz) : ∀ (q : Nat) (k : Int), sz k ≤ q → vk n m k → ((sg (kt ks ka kb k)).length : Int) = sz k := by
  intro q
  induction q with
  | zero => intro k h1 hk; have := (h.at hk).1; omega
  | succ q ih =>
    intro k h1 hk
    obtain ⟨a1, a2, a3, a4⟩ := h.at hk
    have hl := kt_leaf h (k := k)
    by_cases h3 : ks k < 3
    · have e := a3 h3
      rcases (show ks k = 0 ∨ ks k = 1 ∨ ks k = 2 by omega) with e0 | e0 | e0
      · rw [hl.1 e0, e.2]; rfl
      · rw [hl.2.1 e0, e.2]; rfl
      · rw [hl.2.2 e0, e.2]; rfl
    · obtain ⟨k3, va, vb, e, sa, sb⟩ := a4 (by omega)
      have i1 := ih (ka k) (by omega) (vk_le va hk h.2.1)
      have i2 := ih (kb k) (by omega) (vk_le vb hk h.2.1)
      have hn := kt_node h hk
      rcases (show ks k = 3 ∨ ks k = 4 by omega) with e0 | e0
      · rw [hn.1 e0, e, ← i1, ← i2]
        show ((102 :: (sg _ ++ sg _) : List Int).length : Int) = _
        simp; omega
      · rw [hn.2 e0, e, ← i1, ← i2]
        show ((112 :: (sg _ ++ sg _) : List Int).length : Int) = _
        simp; omega
theorem sgn_0 {T : Term} {x : Int} {r : List Int} (h : sg T = x :: r) : sgn T 0 = x := by unfold sgn; rw [h]; rfl
theorem sgn_big {T : Term} {i : Int} (h : ((sg T).length : Int) ≤ i) : sgn T i = -9 := by
  unfold sgn
  by_cases q : i < 0
  · rw [if_pos q]
  · rw [if_neg q, List.getD_eq_getElem?_getD, List.getElem?_eq_none (by omega)]; rfl
theorem sgn_a {T T1 T2 : Term} {x i : Int} (h : sg T = x :: (sg T1 ++ sg T2)) (hi : 0 < i) (hl : i - 1 < ((sg T1).length : Int)) : sgn T i = sgn T1 (i - 1) := by
  unfold sgn
  rw [if_neg (by omega), if_neg (by omega), h, show i.toNat = (i - 1).toNat + 1 by omega, List.getD_cons_succ, List.getD_eq_getElem?_getD, List.getD_eq_getElem?_getD, List.getElem?_append_left (by omega)]
theorem sgn_b {T T1 T2 : Term} {x i : Int} (h : sg T = x :: (sg T1 ++ sg T2)) (hi : 0 < i) (hl : ((sg T1).length : Int) ≤ i - 1) : sgn T i = sgn T2 (i - 1 - (sg T1).length) := by
  unfold sgn
  rw [if_neg (by omega), if_neg (by omega), h, show i.toNat = (i - 1).toNat + 1 by omega, List.getD_cons_succ, List.getD_eq_getElem?_getD, List.getD_eq_getElem?_getD, List.getElem?_append_right (by omega), show (i - 1).toNat - (sg T1).length = (i - 1 - ((sg T1).length : Int)).toNat by omega]
theorem scat_8 : slen 8 = 5 ∧ scat 8 0 = 63 ∧ scat 8 1 = 119 ∧ scat 8 2 = 116 ∧ scat 8 3 = 102 ∧ scat 8 4 = 112 := by decide +kernel
section
variable {iv : List (Int × Int)} {L : Nat} {h0 : MH} {A A' : Int → Nat} {c e : SC} {s s' w : SM} {t : Term} {d : Nat} {K : List Snap} {Sh : Int → Option Snap}
/-- a sign of a kind, walked to -/
theorem signOf_c (hX : FIX c) (hJ : KJc c) (hm : fI c 65 5 ≤ 1440) : ∀ (q : Nat) (k i n : Int) {F : Int → SC → Prop}, vkc c k → 0 ≤ i → i ≤ 2147483647 → aI c 69 k ≤ q → n + aI c 69 k ≤ 41 → 0 ≤ n → F (sgn (ktc c k) i) c → wk iv L h0 d 185 8 [lr 65, ln, ln, li k, li i, li n] [] c (qi F) := by
  obtain ⟨k1, ⟨f0, f1, f2, f3⟩, ⟨g0, g1, g2, g3⟩, l0, l1, l2, l3⟩ := hX.kr
  intro q
  induction q with
  | zero =>
    intro k i n F hk i0 iM hq hn n0 hF
    have := (KJ.at hJ hk).1
    omega
  | succ q ih =>
    intro k i n F hk i0 iM hq hn n0 hF
    obtain ⟨a1, a2, a3, a4⟩ := KJ.at hJ hk
    have hlt := hk.lt hJ.1.1.2 hJ.2.1
    have hlen : ∀ j, vkc c j → ((sg (ktc c j)).length : Int) = aI c 69 j := fun j hj => sg_sz hJ (aI c 69 j).toNat j (by have := (KJ.at hJ hj).1; omega) hj
    have hl := kt_leaf (k := k) hJ
    have hnd := kt_node hJ hk
    have hr : 0 ≤ k ∧ k < 1440 := by omega
    refine C185_8 ⟨fun w => by omega, fun _ => ?_⟩
    rw [f0, f1, f2, f3, g0, g1, g2, g3, l0, l1, l2, l3]
    refine ⟨k1, rfl, hr, fun w => ?_, fun w => ⟨fun w0 => ?_, fun w0 => ⟨rfl, hr, ?_, ?_, ?_⟩⟩⟩
    · rw [sgn_big (by rw [hlen k hk]; exact w)] at hF
      exact hF
    · have h3 : 3 ≤ aI c 66 k := by
        by_cases z : aI c 66 k < 3
        · have := (a3 z).2; omega
        · omega
      obtain ⟨b1, b2, b3, b4, b5, b6⟩ := a4 h3
      have b2 : vkc c (aI c 67 k) := vk_le b2 hk hJ.2.1
      have b3 : vkc c (aI c 68 k) := vk_le b3 hk hJ.2.1
      have r2 := b2.lt hJ.1.1.2 hJ.2.1
      have r3 := b3.lt hJ.1.1.2 hJ.2.1
      have hs : ∃ x, sg (ktc c k) = x :: (sg (ktc c (aI c 67 k)) ++ sg (ktc c (aI c 68 k))) := by
        rcases (show aI c 66 k = 3 ∨ aI c 66 k = 4 by omega) with e0 | e0
        · exact ⟨102, by show sg (kt _ _ _ k) = _; rw [hnd.1 e0]; rfl⟩
        · exact ⟨112, by show sg (kt _ _ _ k) = _; rw [hnd.2 e0]; rfl⟩
      obtain ⟨x, hs⟩ := hs
      refine ⟨by omega, rfl, hr, by omega, fun z => ⟨by omega, rfl, hr, by omega, ?_⟩, fun z => ⟨by omega, ?_⟩⟩
      · refine ih _ _ _ b3 (by omega) (by omega) (by omega) (by omega) (by omega) ?_
        rw [sgn_b hs (by omega) (by rw [hlen _ b2]; exact z), hlen _ b2] at hF
        exact hF
      · refine ih _ _ _ b2 (by omega) (by omega) (by omega) (by omega) (by omega) ?_
        rw [sgn_a hs (by omega) (by rw [hlen _ b2]; exact z)] at hF
        exact hF
    · exact ⟨by decide, by decide⟩
    · rw [scat_8.1]; omega
    · obtain ⟨-, t0, t1, t2, t3, t4⟩ := scat_8
      rw [w0] at hF
      rcases (show aI c 66 k = 0 ∨ aI c 66 k = 1 ∨ aI c 66 k = 2 ∨ aI c 66 k = 3 ∨ aI c 66 k = 4 by omega) with e0 | e0 | e0 | e0 | e0
      · rw [sgn_0 (x := 63) (r := []) (by show sg (kt _ _ _ k) = _; rw [hl.1 e0]; rfl)] at hF
        rw [e0, t0]; exact hF
      · rw [sgn_0 (x := 119) (r := []) (by show sg (kt _ _ _ k) = _; rw [hl.2.1 e0]; rfl)] at hF
        rw [e0, t1]; exact hF
      · rw [sgn_0 (x := 116) (r := []) (by show sg (kt _ _ _ k) = _; rw [hl.2.2 e0]; rfl)] at hF
        rw [e0, t2]; exact hF
      · rw [sgn_0 (x := 102) (r := sg (ktc c (aI c 67 k)) ++ sg (ktc c (aI c 68 k))) (by show sg (kt _ _ _ k) = _; rw [hnd.1 e0]; rfl)] at hF
        rw [e0, t3]; exact hF
      · rw [sgn_0 (x := 112) (r := sg (ktc c (aI c 67 k)) ++ sg (ktc c (aI c 68 k))) (by show sg (kt _ _ _ k) = _; rw [hnd.2 e0]; rfl)] at hF
        rw [e0, t4]; exact hF
theorem sign_c {b q i : Int} {F : Int → SC → Prop} (h1 : R1 A c s t) (hS : SHT s t) (hi : i ≤ 2147483647) (hF : F (sigA s t b q i) c) : ck iv L h0 (d + 1) 9 [vr 64, vi b, vi q, vi i] c (qi F) := by
  have hX := h1.1.1
  obtain ⟨d1, d2, d3, d4, d5⟩ := hX.dk
  obtain ⟨j1, j2, j3⟩ := h1.2.2.2
  unfold sigA at hF
  have sp : ∀ k, vkc c k → 0 ≤ i → F (sgn (ktc c k) i) c → ck iv L h0 d 185 [vr 65, vi k, vi i] c (qi F) := fun k hk i0 h => by
    have := (KJ.at j1 hk).1
    exact C185 (signOf_c hX j1 (by omega) 40 k i 0 hk i0 hi (by omega) (by omega) (by omega) h)
  refine C9 ⟨d1, by rw [d3]; exact d2, ?_⟩
  rw [d3]
  refine find_c h1 hS (fun hb => ⟨fun w => absurd w (h1.1.2.1.ne (hS.m b hb)).1, fun _ => ⟨fun i0 => ⟨fun q0 => ?_, fun q0 => ?_⟩, fun i0 => ?_⟩⟩) (fun hb => ⟨fun _ => ?_, fun w => absurd rfl w⟩)
  · have hbb := hS.m b hb
    obtain ⟨⟨n1, -⟩, n9, n10⟩ := h1.1.2.1.2 b hbb.1 hbb.2
    obtain ⟨⟨g1, g2⟩, g3, g4⟩ := j3 b hb
    have hlt := g1.lt j1.1.1.2 j1.2.1
    rw [if_pos ⟨hb, i0⟩, if_pos q0, ← g2] at hF
    refine ⟨n1, fun _ => ⟨d1, by rw [d4]; exact d5, ?_⟩, fun w => by omega⟩
    rw [d4]
    exact sp _ g1 i0 hF
  · have hbb := hS.m b hb
    obtain ⟨⟨n1, -⟩, n9, n10⟩ := h1.1.2.1.2 b hbb.1 hbb.2
    obtain ⟨⟨g1, g2⟩, g3, g4⟩ := j3 b hb
    rw [if_pos ⟨hb, i0⟩, if_neg q0] at hF
    unfold aKc at g3
    cases hA : (jdg s t).2.1 b with
    | none =>
      rw [hA] at g3 hF
      exact ⟨n1, fun w => absurd g3 w, fun _ => hF⟩
    | some T =>
      rw [hA] at g3 hF
      obtain ⟨g5, g6⟩ := g3
      have hlt := g5.lt j1.1.1.2 j1.2.1
      rw [← g6] at hF
      refine ⟨n1, fun _ => ⟨d1, by rw [d4]; exact d5, ?_⟩, fun w => by omega⟩
      rw [d4]
      exact sp _ g5 i0 hF
  · rw [if_neg (by omega)] at hF
    exact hF
  · rw [if_neg (fun w => hb w.1)] at hF
    exact hF
end
end
section
/-! count() and small looks by the desk. -/
section
variable {iv : List (Int × Int)} {L : Nat} {h0 : MH} {A A' : Int → Nat} {c e : SC} {s s' w : SM} {t : Term} {d : Nat} {K : List Snap} {Sh : Int → Option Snap}
theorem FIX.sh (h : FIX c) : kl c 64 = 1 ∧ (fR c 64 6 = 193 ∧ kl c 193 = 105 ∧ le c 193 = 6) ∧ (fR c 64 3 = 176 ∧ kl c 176 = 11) ∧ (fR c 64 4 = 183 ∧ kl c 183 = 12) ∧ fR c 64 5 = 188 ∧ kl c 188 = 12 := by
  simp only [h.1]
  exact ⟨trivial, ⟨trivial, trivial, trivial⟩, ⟨trivial, trivial⟩, ⟨trivial, trivial⟩, trivial, trivial⟩
theorem shelfSum_c {F : Int → SC → Prop} (hX : FIX c) (hs : ∀ p : Nat, p < 6 → fI c (199 + 6 * p) 5 = s.2 37 p ∧ 0 ≤ s.2 37 p ∧ s.2 37 p ≤ 60) (hF : F (s.2 37 0 + s.2 37 1 + s.2 37 2 + s.2 37 3 + s.2 37 4 + s.2 37 5) c) : ck iv L h0 d 50 [vr 64] c (qi F) := by
  obtain ⟨k1, ⟨k2, k3, k4⟩, -⟩ := hX.sh
  have step : ∀ (p : Nat) (z : Int), p < 6 → 0 ≤ z → z ≤ 60 * p → wk iv L h0 d 50 4 [lr 64, li (z + s.2 37 p), li (p + 1)] [] c (qi F) → wk iv L h0 d 50 4 [lr 64, li z, li p] [] c (qi F) := fun p z hp z0 z1 h => by
    obtain ⟨a1, a2, -⟩ := hX.2.1.2 p hp
    obtain ⟨b1, b2, b3⟩ := hs p hp
    refine C50_4 ⟨fun w => by omega, fun _ => ?_⟩
    rw [k2, k3, k4, a1, a2, b1]
    exact ⟨k1, rfl, by omega, rfl, by omega, by omega, h⟩
  have b : ∀ p : Nat, p < 6 → 0 ≤ s.2 37 p ∧ s.2 37 p ≤ 60 := fun p hp => (hs p hp).2
  have b0 := b 0 (by decide)
  have b1 := b 1 (by decide)
  have b2 := b 2 (by decide)
  have b3 := b 3 (by decide)
  have b4 := b 4 (by decide)
  have b5 := b 5 (by decide)
  push_cast at b0 b1 b2 b3 b4 b5
  refine C50 (step 0 0 (by decide) (by decide) (by decide) (step 1 _ (by decide) (by push_cast; omega) (by push_cast; omega) (step 2 _ (by decide) (by push_cast; omega) (by push_cast; omega) (step 3 _ (by decide) (by push_cast; omega) (by push_cast; omega) (step 4 _ (by decide) (by push_cast; omega) (by push_cast; omega) (step 5 _ (by decide) (by push_cast; omega) (by push_cast; omega) (C50_4 ⟨fun _ => ?_, fun w => absurd w (by decide)⟩)))))))
  push_cast
  rw [show (0 : Int) + s.2 37 0 + s.2 37 1 + s.2 37 2 + s.2 37 3 + s.2 37 4 + s.2 37 5 = s.2 37 0 + s.2 37 1 + s.2 37 2 + s.2 37 3 + s.2 37 4 + s.2 37 5 by omega]
  exact hF
theorem count_c {k : Int} {F : Int → SC → Prop} (h1 : R1 A c s t) (hS : SHT s t) (hk : fI c 70 7 = s.1 24) (hs : ∀ p : Nat, p < 6 → fI c (199 + 6 * p) 5 = s.2 37 p ∧ 0 ≤ s.2 37 p ∧ s.2 37 p ≤ 60) (hw : (if fI c 176 4 = -1 then -9 else fI c 176 4) = s.1 61) (hF : F (cntA s t k) c) : ck iv L h0 (d + 1) 36 [vr 64, vi k] c (qi F) := by
  have hX := h1.1.1
  obtain ⟨d1, d2, d3, d4, d5⟩ := hX.dk
  obtain ⟨k1, -, ⟨k5, k6⟩, -⟩ := hX.sh
  unfold cntA at hF
  refine C36 ?_
  rw [d4, d3, k5, k6, h1.2.2.1.1, h1.2.1.2, hk]
  refine ⟨fun q => ⟨d1, d5, ?_⟩, fun q => ⟨d1, d2, ?_⟩, fun q => ⟨d1, d2, ?_⟩, fun q => ⟨d1, many_c h1 hS ?_⟩, fun q => ⟨d1, many_c h1 hS ?_⟩, fun q => ⟨d1, shelfSum_c hX hs ?_⟩, fun q => ⟨d1, rfl, fun w => ?_, fun w => ?_⟩, fun q => ?_⟩
  · rw [if_pos q] at hF; exact hF
  · rw [if_neg (by omega), if_pos q] at hF; exact hF
  · rw [if_neg (by omega), if_neg (by omega), if_pos q] at hF; exact hF
  · rw [if_neg (by omega), if_neg (by omega), if_neg (by omega), if_pos q] at hF; exact hF
  · rw [if_neg (by omega), if_neg (by omega), if_neg (by omega), if_neg (by omega), if_pos q] at hF; exact hF
  · rw [if_neg (by omega), if_neg (by omega), if_neg (by omega), if_neg (by omega), if_neg (by omega), if_pos q] at hF; exact hF
  · rw [if_neg (by omega), if_neg (by omega), if_neg (by omega), if_neg (by omega), if_neg (by omega), if_neg (by omega), if_pos q, ← hw, if_neg w] at hF; exact hF
  · rw [if_neg (by omega), if_neg (by omega), if_neg (by omega), if_neg (by omega), if_neg (by omega), if_neg (by omega), if_pos q, ← hw, if_pos w] at hF; exact hF
  · rw [if_neg (by omega), if_neg (by omega), if_neg (by omega), if_neg (by omega), if_neg (by omega), if_neg (by omega), if_neg (by omega)] at hF; exact hF
theorem nodes_c {F : Int → SC → Prop} (h1 : R1 A c s t) (hF : F (fl t).length c) : ck iv L h0 d 5 [vr 64] c (qi F) := by
  obtain ⟨d1, d2, d3, d4⟩ := h1.nil
  exact C5 (by rw [d2, d4]; exact ⟨d1, d3, hF⟩)
theorem cursor_c {F : Int → SC → Prop} (h1 : R1 A c s t) (hT : AFT s t) (hF : F (s.1 16) c) : ck iv L h0 d 6 [vr 64] c (qi F) := by
  obtain ⟨⟨d1, d2, d3, d4, d5⟩, e1, e2, e3, e4, e5, e6⟩ := h1.cur hT
  have hcb := hT.1.m _ hT.2.2
  obtain ⟨⟨n1, n2, n3, n4, -⟩, -⟩ := h1.1.2.1.2 _ hcb.1 hcb.2
  refine C6 ?_
  rw [d3, e1, n4]
  exact ⟨d1, d2, n1, hF⟩
theorem finding_c {F : Int → SC → Prop} (hX : FIX c) (hn : FNc c s) (hF : F (s.1 0) c) : ck iv L h0 d 37 [vr 64] c (qi F) := C37 ⟨hX.dk.1, by rw [hn.1]; exact hF⟩
theorem findings_c {f : Int} {F : Int → SC → Prop} (hX : FIX c) (hn : FNc c s) (hF : F (if 1 ≤ f ∧ f ≤ 5 then s.2 1 f else -1) c) : ck iv L h0 d 38 [vr 64, vi f] c (qi F) := by
  obtain ⟨k1, k2, k3, k4, k5, k6, k7⟩ := hX.bx
  refine C38 ⟨fun q => ?_, fun q => ⟨fun q2 => ?_, fun q2 => ?_⟩⟩
  · rw [if_neg (by omega)] at hF; exact hF
  · rw [if_pos ⟨q, q2⟩, ← hn.2 f (by omega) (by omega)] at hF
    rw [k5, k6, k7]
    exact ⟨k1, rfl, by omega, hF⟩
  · rw [if_neg (by omega)] at hF; exact hF
theorem asked_c {F : Int → SC → Prop} (hX : FIX c) (hF : F (fI c 64 13) c) : ck iv L h0 d 35 [vr 64] c (qi F) := C35 ⟨hX.dk.1, hF⟩
end
end
section
/-! The trials of the desk: where they lie, judging one. -/
/-- where the trials lie -/
def tra : Nat → Nat
  | 0 => 233
  | n + 1 => tra n + 2 + 2 * (pO n).toNat
def TRc (c : SC) : Prop := ∀ n : Nat, 1 ≤ n → n < 16 → (aR c 194 n = tra n ∧ kl c (tra n) = 5 ∧ kl c (tra n + 1) = 103 ∧ le c (tra n + 1) = pO n ∧ fI c (tra n) 1 = n ∧ fR c (tra n) 3 = tra n + 1 ∧ (n = 8 ∨ n = 15 → fI c (tra n) 2 = 0)) ∧ ∀ i : Nat, (i : Int) < pO n → aR c (tra n + 1) i = tra n + 2 + 2 * i ∧ kl c (tra n + 2 + 2 * i) = 5 ∧ kl c (tra n + 2 + 2 * i + 1) = 103 ∧ le c (tra n + 2 + 2 * i + 1) = 0 ∧ fI c (tra n + 2 + 2 * i) 1 = 0 ∧ fR c (tra n + 2 + 2 * i) 3 = tra n + 2 + 2 * i + 1 ∧ fR c (tra n + 2 + 2 * i) 5 = tra n ∧ fI c (tra n + 2 + 2 * i) 6 = i
theorem tra_in : ∀ n : Nat, n < 16 → (n ≠ 0 → 235 ≤ tra n) ∧ (tra n : Int) + 2 + 2 * pO n ≤ 307 := by decide +kernel
def trA (A : Int → Nat) (n : Nat) : Int → Nat := fun b => if 3000 ≤ b ∧ b < 3004 then tra n + 2 * (b - 3000).toNat else A b
def trX (c : SC) (s : SM) (n : Nat) : SM := (s.1, fun f b => if f = 14 then (if 9000 ≤ b ∧ b < 9003 then b - 5999 else s.2 14 b) else if 3000 ≤ b ∧ b < 3004 then (if f = 9 then (if b = 3000 then (n : Int) else 0) else if f = 10 then fI c (tra n + 2 * (b - 3000).toNat) 4 else if f = 11 then fI c (tra n + 2 * (b - 3000).toNat) 2 else if f = 12 then (if b = 3000 then s.2 12 (s.1 16) else 3000) else if f = 13 then (if b = 3000 then s.2 13 (s.1 16) else b - 3001) else s.2 f b) else s.2 f b)
def trT (n : Nat) : Term := adds (pO n).toNat 3001 (.index 3000)
theorem trT_mem {n : Nat} {y : Int} (h : y ∈ fl (trT n)) : 3000 ≤ y ∧ y < 3001 + pO n := by
  have hpo := pO_in n
  unfold trT at h
  rcases adds_mem h with q | q
  · have : y = ((3000 : Nat) : Int) := List.mem_singleton.mp q
    omega
  · omega
theorem trT_in {n : Nat} {y : Int} (h : 3000 ≤ y ∧ y < 3001 + pO n) : y ∈ fl (trT n) := by
  have hpo := pO_in n
  unfold trT
  rw [adds_fl]
  by_cases q : y = 3000
  · rw [q]; exact List.mem_append_left _ (List.mem_singleton.mpr rfl)
  · refine List.mem_append_right _ (List.mem_map.mpr ⟨y.toNat, List.mem_range'.mpr ⟨(y - 3001).toNat, by omega, by omega⟩, ?_⟩)
    show ((y.toNat : Nat) : Int) = y
    omega
theorem AT_tr {so pa up pl : Int → Int} {n : Nat} (hn : n < 16) (h0 : so 3000 = n) (h1 : ∀ b, 3000 < b → b < 3004 → so b = 0 ∧ up b = 3000 ∧ pl b = b - 3001 ∧ pa (b + 5999) = b) : AT so pa up pl 3004 (trT n) ∧ full so (trT n) ∧ (fl (trT n)).Nodup ∧ hd (trT n) = 3000 := by
  have hpo := pO_in n
  have p0 : pO 0 = 0 := by decide
  obtain ⟨a1, a2, a3, a4⟩ := h1 3001 (by decide) (by decide)
  obtain ⟨b1, b2, b3, b4⟩ := h1 3002 (by decide) (by decide)
  obtain ⟨c1, c2, c3, c4⟩ := h1 3003 (by decide) (by decide)
  have x0 : AT so pa up pl 3004 (.index 3000) := ⟨by decide, by show 0 ≤ so 3000 ∧ so 3000 < 16; rw [h0]; omega⟩
  have x1 : AT so pa up pl 3004 (.index 3001) := ⟨by decide, by show 0 ≤ so 3001 ∧ so 3001 < 16; rw [a1]; omega⟩
  have x2 : AT so pa up pl 3004 (.index 3002) := ⟨by decide, by show 0 ≤ so 3002 ∧ so 3002 < 16; rw [b1]; omega⟩
  have x3 : AT so pa up pl 3004 (.index 3003) := ⟨by decide, by show 0 ≤ so 3003 ∧ so 3003 < 16; rw [c1]; omega⟩
  have g1 : 0 < pO n → AT so pa up pl 3004 (.add (.index 3000) (.index 3001)) := fun q => ⟨x0, x1, by show 0 = pO (so 3001); rw [a1, p0], by show 0 < pO (so 3000); rw [h0]; exact q, a4, a2, a3⟩
  have g2 : 1 < pO n → AT so pa up pl 3004 (.add (.add (.index 3000) (.index 3001)) (.index 3002)) := fun q => ⟨g1 (by omega), x2, by show 0 = pO (so 3002); rw [b1, p0], by show 1 < pO (so 3000); rw [h0]; exact q, b4, b2, b3⟩
  have g3 : 2 < pO n → AT so pa up pl 3004 (.add (.add (.add (.index 3000) (.index 3001)) (.index 3002)) (.index 3003)) := fun q => ⟨g2 (by omega), x3, by show 0 = pO (so 3003); rw [c1, p0], by show 2 < pO (so 3000); rw [h0]; exact q, c4, c2, c3⟩
  unfold trT
  rcases (show pO n = 0 ∨ pO n = 1 ∨ pO n = 2 ∨ pO n = 3 by omega) with e | e | e | e
  · rw [e]
    exact ⟨x0, by show 0 = pO (so 3000); rw [h0, e], by decide, rfl⟩
  · rw [e]
    exact ⟨g1 (by omega), by show 1 = pO (so 3000); rw [h0, e], by decide, rfl⟩
  · rw [e]
    exact ⟨g2 (by omega), by show 2 = pO (so 3000); rw [h0, e], by decide, rfl⟩
  · rw [e]
    exact ⟨g3 (by omega), by show 3 = pO (so 3000); rw [h0, e], by decide, rfl⟩
theorem KJ_lt {n m : Int} {ks ka kb sz ks' ka' kb' sz' : Int → Int} (h : KJ n m ks ka kb sz) (he : ∀ k, k < m → ks' k = ks k ∧ ka' k = ka k ∧ kb' k = kb k ∧ sz' k = sz k) : KJ n m ks' ka' kb' sz' := by
  obtain ⟨h1, h2, h3⟩ := h
  refine ⟨KI_lt h1 (fun k _ kn => he k (by have := h1.1; omega)), h2, fun k k4 km => ?_⟩
  obtain ⟨q1, q2, q3, q4, q5⟩ := h3 k k4 km
  obtain ⟨e1, e2, e3, e4⟩ := he k km
  have n2 : ka k < m := by unfold vk at q2; have := h1.1; omega
  have n3 : kb k < m := by unfold vk at q3; have := h1.1; omega
  rw [e1, e2, e3, e4, (he _ n2).2.2.2, (he _ n3).2.2.2]
  exact ⟨q1, q2, q3, q4, q5⟩
def trY : List (Nat × Nat) := [(25, 4), (25, 5), (25, 6), (5, 8), (5, 9), (5, 10), (25, 8), (25, 9), (25, 10), (4, 5)]
def trR : List Nat := [66, 67, 68, 69, 195, 196]
section
variable {iv : List (Int × Int)} {L : Nat} {h0 : MH} {A A' : Int → Nat} {c e : SC} {s s' w : SM} {t : Term} {d : Nat} {ys : List (Nat × Nat)} {rs : List Nat}
theorem trX_o {n : Nat} {f : Nat} {b : Int} (hb : b < 3000) (hf : f ≠ 14) : (trX c s n).2 f b = s.2 f b := by
  unfold trX
  dsimp only
  rw [if_neg hf, if_neg (by omega)]
theorem trX_14 {n : Nat} {b : Int} (hb : b < 9000) : (trX c s n).2 14 b = s.2 14 b := by
  unfold trX
  dsimp only
  rw [if_pos rfl, if_neg (by omega)]
theorem trX_n {n : Nat} {b : Int} (hb : 3000 ≤ b ∧ b < 3004) : (trX c s n).2 9 b = (if b = 3000 then (n : Int) else 0) ∧ (trX c s n).2 10 b = fI c (tra n + 2 * (b - 3000).toNat) 4 ∧ (trX c s n).2 11 b = fI c (tra n + 2 * (b - 3000).toNat) 2 ∧ (trX c s n).2 12 b = (if b = 3000 then s.2 12 (s.1 16) else 3000) ∧ (trX c s n).2 13 b = (if b = 3000 then s.2 13 (s.1 16) else b - 3001) := by
  unfold trX
  dsimp only
  refine ⟨?_, ?_, ?_, ?_, ?_⟩
  · rw [if_neg (by decide), if_pos hb, if_pos rfl]
  · rw [if_neg (by decide), if_pos hb, if_neg (by decide), if_pos rfl]
  · rw [if_neg (by decide), if_pos hb, if_neg (by decide), if_neg (by decide), if_pos rfl]
  · rw [if_neg (by decide), if_pos hb, if_neg (by decide), if_neg (by decide), if_neg (by decide), if_pos rfl]
  · rw [if_neg (by decide), if_pos hb, if_neg (by decide), if_neg (by decide), if_neg (by decide), if_neg (by decide), if_pos rfl]
theorem trX_p {n : Nat} {b : Int} (hb : 3000 < b ∧ b < 3004) : (trX c s n).2 14 (b + 5999) = b := by
  unfold trX
  dsimp only
  rw [if_pos rfl, if_pos (by omega)]; omega
theorem trA_o {n : Nat} {b : Int} (hb : b < 3000) : trA A n b = A b := if_neg (by omega)
/-- a trial hangs where the cursor does: the place to judge it -/
theorem tr_js {n : Nat} (h1 : R1 A c s t) (hS : SHT s t) (hc : s.1 16 ∈ fl t) (hT : TRc c) (hn : 1 ≤ n ∧ n < 16) (h5 : fR c (tra n) 5 = fR c (A (s.1 16)) 5) (h6 : fI c (tra n) 6 = fI c (A (s.1 16)) 6) : JS (trA A n) (fun x => x ∈ fl t ∨ x ∈ fl (trT n)) c (trX c s n) := by
  obtain ⟨⟨r1, r2, r3, r4, r5, r6, r7⟩, rp⟩ := hT n hn.1 hn.2
  obtain ⟨z1, z2⟩ := tra_in n hn.2
  have z1 := z1 (by omega)
  have hpo := pO_in n
  have hJ := js_of h1.1.1 h1.1.2.1 h1.1.2.2.1 hS
  have lt : ∀ x, x ∈ fl t → x < 3000 ∧ 0 ≤ x := fun x hx => by have := hS.m x hx; have := hS.2.2.2.2.1; omega
  have Ab : ∀ x, x ∈ fl t → A x = 73 ∨ 353 ≤ A x := fun x hx => (h1.1.2.1.2 x (hS.m x hx).1 (hS.m x hx).2).2.2
  obtain ⟨g1, g2, g3⟩ := h1.1.2.2.1.1 _ hc
  have t0 : trA A n 3000 = tra n := by unfold trA; rw [if_pos (by omega)]; omega
  have tp : ∀ b, 3000 ≤ b → b < 3004 → trA A n b = tra n + 2 * (b - 3000).toNat := fun b b0 b1 => if_pos ⟨b0, b1⟩
  have par : ∀ b, 3000 < b → b < 3001 + pO n → ∃ i : Nat, (i : Int) < pO n ∧ b = 3001 + i ∧ trA A n b = tra n + 2 + 2 * i := fun b b0 b1 => ⟨(b - 3001).toNat, by omega, by omega, by rw [tp b (by omega) (by omega)]; omega⟩
  refine ⟨⟨?_, fun b b' hb hb' he => ?_⟩, fun b hb => ?_⟩
  · rw [trA_o (by decide)]; exact hJ.1.1
  · rcases hb with hb | hb <;> rcases hb' with hb' | hb'
    · rw [trA_o (lt b hb).1, trA_o (lt b' hb').1] at he
      exact hJ.1.2 b b' hb hb' he
    · have m := trT_mem hb'
      rw [trA_o (lt b hb).1, tp b' (by omega) (by omega)] at he
      have := Ab b hb
      omega
    · have m := trT_mem hb
      rw [trA_o (lt b' hb').1, tp b (by omega) (by omega)] at he
      have := Ab b' hb'
      omega
    · have m := trT_mem hb
      have m' := trT_mem hb'
      rw [tp b (by omega) (by omega), tp b' (by omega) (by omega)] at he
      omega
  · rcases hb with hb | hb
    · obtain ⟨b0, b1⟩ := lt b hb
      obtain ⟨p1, p2, ⟨p3, p4, p5⟩, p6⟩ := hJ.2 b hb
      rw [trA_o b0, trX_o b0 (by decide), trX_o b0 (by decide), trX_o b0 (by decide), trX_o b0 (by decide), trX_o b0 (by decide)]
      refine ⟨p1, p2, ⟨?_, p4, p5.imp id Or.inl⟩, fun i i0 i1 => ?_⟩
      · rw [p3]
        rcases p5 with q | q
        · rw [q, trA_o (by decide)]
        · rw [trA_o (lt _ q).1]
      · obtain ⟨q1, q2⟩ := p6 i i0 i1
        have := pO_in (s.2 9 b)
        rw [trX_14 (by omega), q1, trA_o (lt _ q2).1]
        exact ⟨rfl, Or.inl q2⟩
    · have m := trT_mem hb
      have hb4 : 3000 ≤ b ∧ b < 3004 := by omega
      obtain ⟨x9, x10, x11, x12, x13⟩ := trX_n (c := c) (s := s) (n := n) hb4
      have p0 : pO 0 = 0 := by decide
      by_cases q : b = 3000
      · subst q
        rw [if_pos rfl] at x9 x12 x13
        have ez : tra n + 2 * ((3000 : Int) - 3000).toNat = tra n := by simp
        rw [ez] at x10 x11
        rw [t0, x9, x10, x11, x12, x13]
        refine ⟨⟨by omega, r2, r3, r4⟩, ⟨r5, rfl, rfl, r6⟩, ⟨?_, fun w => ?_, ?_⟩, fun i i0 i1 => ?_⟩
        · rw [h5, g1]
          by_cases w : s.1 16 = hd t
          · have hu := hS.2.2.2.2.2.2.1
            rw [← w] at hu
            rw [hu, trA_o (by decide)]
          · rw [trA_o (lt _ (hS.up9 hc w)).1]
        · rw [h6]
          exact g2 (fun w' => w (by rw [w']; exact hS.2.2.2.2.2.2.1))
        · by_cases w : s.1 16 = hd t
          · left; rw [w]; exact hS.2.2.2.2.2.2.1
          · right; left; exact hS.up9 hc w
        · obtain ⟨k, rfl⟩ : ∃ k : Nat, i = k := ⟨i.toNat, by omega⟩
          obtain ⟨q1, -⟩ := rp k i1
          have hx := trX_p (c := c) (s := s) (n := n) (b := 3001 + k) ⟨by omega, by omega⟩
          rw [show (3001 : Int) + k + 5999 = 3 * 3000 + k by omega] at hx
          rw [hx, q1, tp _ (by omega) (by omega)]
          exact ⟨by omega, Or.inr (trT_in ⟨by omega, by omega⟩)⟩
      · obtain ⟨i, i1, rfl, i2⟩ := par b (by omega) m.2
        rw [if_neg q] at x9 x12 x13
        obtain ⟨q1, q2, q3, q4, q5, q6, q7, q8⟩ := rp i i1
        have ez : tra n + 2 * (3001 + (i : Int) - 3000).toNat = tra n + 2 + 2 * i := by omega
        rw [ez] at x10 x11
        rw [i2, x9, x10, x11, x12, x13, t0, p0]
        refine ⟨⟨by omega, q2, q3, q4⟩, ⟨q5, rfl, rfl, q6⟩, ⟨q7, fun _ => by rw [q8]; omega, Or.inr (Or.inr (trT_in ⟨by omega, by omega⟩))⟩, fun j j0 j1 => by omega⟩
end
end
section
/-! A trial judged. -/
/-- what judging a trial leaves -/
def TRK (A : Int → Nat) (c e : SC) (t : Term) (r : Int) : Prop := (CX jys jrs c e ∧ RMk 0 0 c e) ∧ (0 ≤ r ∧ r < 1440) ∧ (∀ x, x ∈ fl t → fI e (A x) 8 = fI c (A x) 8 ∧ fI e (A x) 9 = fI c (A x) 9 ∧ fI e (A x) 10 = fI c (A x) 10) ∧ fI e 65 4 = fI c 65 4 ∧ ∀ k, k < fI c 65 5 → aI e 66 k = aI c 66 k ∧ aI e 67 k = aI c 67 k ∧ aI e 68 k = aI c 68 k ∧ aI e 69 k = aI c 69 k
theorem bnd_tr {c : SC} {s : SM} {t : Term} {n : Nat} (hS : SHT s t) : ∀ (m : Nat) (y x : Int), y ∈ fl t → bnd ((trX c s n).2 9) ((trX c s n).2 10) ((trX c s n).2 12) ((trX c s n).2 13) m y x = bnd (s.2 9) (s.2 10) (s.2 12) (s.2 13) m y x := by
  have lt : ∀ x, x ∈ fl t → x < 3000 := fun x hx => by have := hS.m x hx; have := hS.2.2.2.2.1; omega
  intro m
  induction m with
  | zero => intro y x _; rfl
  | succ m ih =>
    intro y x hy
    unfold bnd
    rw [trX_o (lt y hy) (by decide : (12 : Nat) ≠ 14), trX_o (lt y hy) (by decide : (13 : Nat) ≠ 14)]
    by_cases e : s.2 12 y = -9
    · rw [if_pos e, if_pos e]
    · have hu := hS.up9 hy (fun w => e (by rw [w]; exact hS.2.2.2.2.2.2.1))
      rw [if_neg e, if_neg e, trX_o (lt _ hu) (by decide : (9 : Nat) ≠ 14), trX_o (lt _ hu) (by decide : (10 : Nat) ≠ 14), ih _ x hu]
theorem DP_tr {c : SC} {s : SM} {t : Term} {n : Nat} (hS : SHT s t) : ∀ (m : Nat) (y : Int), y ∈ fl t → DP (s.2 12) m y → DP ((trX c s n).2 12) m y := by
  have lt : ∀ x, x ∈ fl t → x < 3000 := fun x hx => by have := hS.m x hx; have := hS.2.2.2.2.1; omega
  intro m
  induction m with
  | zero => intro y _ h; exact h
  | succ m ih =>
    intro y hy h
    unfold DP at h ⊢
    rw [trX_o (lt y hy) (by decide : (12 : Nat) ≠ 14)]
    rcases h with h | h
    · exact Or.inl h
    · right
      have hu := hS.up9 hy (fun w => by have := hS.2.2.2.2.2.2.1; rw [← w] at this; omega)
      exact ⟨h.1, ih _ hu h.2⟩
section
variable {iv : List (Int × Int)} {L : Nat} {h0 : MH} {A A' : Int → Nat} {c e : SC} {s s' w : SM} {t : Term} {d : Nat} {ys : List (Nat × Nat)} {rs : List Nat}
theorem trj_ok {n : Nat} {F : Int → SC → Prop} (h1 : R1 A c s t) (hT : AFT s t) (hK : KIs s) (hTR : TRc c) (hn : 1 ≤ n ∧ n < 16) (h5 : fR c (tra n) 5 = fR c (A (s.1 16)) 5) (h6 : fI c (tra n) 6 = fI c (A (s.1 16)) 6) (hD : 80 ≤ d) (hF : ∀ r e, TRK A c e t r → F r e) : ck iv L h0 d 165 [vr 175, vr (tra n), vi (fI c (A (s.1 16)) 8), vi 0] c (qi F) := by
  obtain ⟨hS, hB, hc⟩ := hT
  have hX := h1.1.1
  have hI := h1.2.2.1
  obtain ⟨j1, j2, j3⟩ := h1.2.2.2
  have lt : ∀ x, x ∈ fl t → x < 3000 ∧ 0 ≤ x := fun x hx => by have := hS.m x hx; have := hS.2.2.2.2.1; omega
  obtain ⟨⟨r1, r2, r3, r4, r5, r6, r7⟩, rp⟩ := hTR n hn.1 hn.2
  have hpo := pO_in n
  have hn3 := hK.1
  have hJS := tr_js h1 hS hc hTR hn h5 h6
  have hv : VJ (trA A n) (fun x => x ∈ fl t ∨ x ∈ fl (trT n)) (fun _ => none) c (mx (trA A n) c (trX c s n)) := ⟨hX, hJS, fun b _ => ⟨rfl, rfl, rfl⟩, ⟨rfl, rfl⟩, rfl, rfl, rfl, rfl⟩
  have x0 := trX_n (c := c) (s := s) (n := n) (b := 3000) (by decide)
  have hAT := AT_tr (so := (trX c s n).2 9) (pa := (trX c s n).2 14) (up := (trX c s n).2 12) (pl := (trX c s n).2 13) hn.2 (by rw [x0.1, if_pos rfl]) (fun b b0 b1 => by
    obtain ⟨x9, x10, x11, x12, x13⟩ := trX_n (c := c) (s := s) (n := n) (b := b) ⟨by omega, b1⟩
    rw [if_neg (by omega)] at x9 x12 x13
    exact ⟨x9, x12, x13, trX_p ⟨b0, b1⟩⟩)
  obtain ⟨t1, t2, t3, t4⟩ := hAT
  have hup : s.2 12 (s.1 16) = -9 ∨ s.2 12 (s.1 16) ∈ fl t := by
    by_cases w : s.1 16 = hd t
    · left; rw [w]; exact hS.2.2.2.2.2.2.1
    · right; exact hS.up9 hc w
  have e12 : (trX c s n).2 12 3000 = s.2 12 (s.1 16) := by rw [x0.2.2.2.1, if_pos rfl]
  have e13 : (trX c s n).2 13 3000 = s.2 13 (s.1 16) := by rw [x0.2.2.2.2, if_pos rfl]
  have dp0 : DP ((trX c s n).2 12) 61 3000 := by
    have := DP_tree hS _ hc
    unfold DP at this ⊢
    rw [e12]
    rcases this with q | q
    · exact Or.inl q
    · right
      have hu : s.2 12 (s.1 16) ∈ fl t := hup.resolve_left (fun w => by omega)
      exact ⟨q.1, DP_tr hS _ _ hu q.2⟩
  have hPT : PRT (mx (trA A n) c (trX c s n)) (trT n) := by
    refine ⟨t1, t2, t3, fun x hx q => ?_, fun x hx => ?_⟩
    · have m := trT_mem hx
      obtain ⟨x9, x10, x11, x12, x13⟩ := trX_n (c := c) (s := s) (n := n) (b := x) ⟨by omega, by omega⟩
      have q : (trX c s n).2 9 x = 8 ∨ (trX c s n).2 9 x = 15 := q
      show 0 ≤ (trX c s n).2 11 x ∧ (trX c s n).2 11 x < fI c 65 4
      rw [x9] at q
      by_cases w : x = 3000
      · rw [if_pos w] at q
        have ez : tra n + 2 * ((3000 : Int) - 3000).toNat = tra n := by simp
        rw [w] at x11
        rw [ez] at x11
        rw [w, x11, r7 (by omega), hI.1]
        omega
      · rw [if_neg w] at q
        omega
    · have m := trT_mem hx
      obtain ⟨x9, x10, x11, x12, x13⟩ := trX_n (c := c) (s := s) (n := n) (b := x) ⟨by omega, by omega⟩
      by_cases w : x = 3000
      · rw [w]
        exact DP_up 61 70 _ (by decide) dp0
      · rw [if_neg w] at x12
        refine DP_up 62 70 _ (by decide) ?_
        show (trX c s n).2 12 x = -9 ∨ ((0 ≤ (trX c s n).2 12 x ∧ (trX c s n).2 12 x < 3004) ∧ DP ((trX c s n).2 12) 61 ((trX c s n).2 12 x))
        right
        rw [x12]
        exact ⟨by decide, dp0⟩
  have ebd : ∀ x, bds (mx (trA A n) c (trX c s n)) 3000 x = bnd (s.2 9) (s.2 10) (s.2 12) (s.2 13) 70 (s.1 16) x := fun x => by
    show bnd ((trX c s n).2 9) ((trX c s n).2 10) ((trX c s n).2 12) ((trX c s n).2 13) (69 + 1) 3000 x = bnd (s.2 9) (s.2 10) (s.2 12) (s.2 13) (69 + 1) (s.1 16) x
    unfold bnd
    rw [e12, e13]
    by_cases w : s.2 12 (s.1 16) = -9
    · rw [if_pos w, if_pos w]
    · have hu := hup.resolve_left w
      rw [if_neg w, if_neg w, trX_o (lt _ hu).1 (by decide : (9 : Nat) ≠ 14), trX_o (lt _ hu).1 (by decide : (10 : Nat) ≠ 14), bnd_tr hS 69 _ x hu]
  have hPJ : PRJ (mx (trA A n) c (trX c s n)) (hd (trT n)) (fl (trT n)) (jdg s t) (fun x => x ∈ fl t) := by
    refine ⟨j1, fun x => ?_, fun x hx => ?_, fun x hx w => ?_⟩
    · rw [t4, ebd]
      rcases bnd_mem hS.w (nu := s.2 10) 70 (s.1 16) x hc with q | ⟨q1, q2⟩
      · exact Or.inl q
      · right
        generalize bnd (s.2 9) (s.2 10) (s.2 12) (s.2 13) 70 (s.1 16) x = u at q1 q2
        have hul := lt u q1
        refine ⟨by omega, ?_⟩
        have o9 : (mx (trA A n) c (trX c s n)).2 9 u = s.2 9 u := (trX_o (c := c) (s := s) (n := n) hul.1 (by decide : (9 : Nat) ≠ 14))
        have o11 : (mx (trA A n) c (trX c s n)).2 11 u = s.2 11 u := (trX_o (c := c) (s := s) (n := n) hul.1 (by decide : (11 : Nat) ≠ 14))
        have o14 : (mx (trA A n) c (trX c s n)).2 14 (3 * u) = s.2 14 (3 * u) := (trX_14 (c := c) (s := s) (n := n) (by omega))
        have o2 : (mx (trA A n) c (trX c s n)).1 2 = fI c 65 4 := rfl
        rw [o9, o11, o14, o2, hI.1]
        rcases q2 with q2 | q2
        · left
          have := (hB u (hS.m u q1).1 (hS.m u q1).2).2.2.2 (Or.inl q2)
          exact ⟨q2, this⟩
        · right
          have p10 : 0 < pO 10 := by decide
          have hk := ((AT_mem t hS.1 u q1).2.2.1 0 (Int.le_refl 0) (by rw [q2]; exact p10) (fun w => by have := hS.2.1; unfold full at this; rw [this, ← w, q2]; exact p10)).1
          rw [Int.add_zero] at hk
          have := lt _ hk
          exact ⟨q2, hk, by omega, by omega⟩
    · obtain ⟨⟨g1, g2⟩, g3, g4⟩ := j3 x hx
      have o19 : (mx (trA A n) c (trX c s n)).2 19 x = fI c (A x) 9 := by show fI c (trA A n x) 9 = _; rw [trA_o (lt x hx).1]
      have o20 : (mx (trA A n) c (trX c s n)).2 20 x = fI c (A x) 8 := by show fI c (trA A n x) 8 = _; rw [trA_o (lt x hx).1]
      have o21 : (mx (trA A n) c (trX c s n)).2 21 x = fI c (A x) 10 := by show fI c (trA A n x) 10 = _; rw [trA_o (lt x hx).1]
      rw [o19, o20, o21]
      exact ⟨⟨g1, g2⟩, g3, g4⟩
    · have := trT_mem w
      have := lt x hx
      omega
  have hla : (fl (trT n)).length ≤ 4 := by
    unfold trT
    rw [adds_len]
    have : (fl (Term.index 3000)).length = 1 := rfl
    omega
  have hdp := dpt_len _ t1
  have hak : aK (mx (trA A n) c (trX c s n)) (fI c (A (s.1 16)) 8) ((jdg s t).2.1 (s.1 16)) := (j3 _ hc).2.1
  have h3 : (mx (trA A n) c (trX c s n)).1 3 = fI c 65 5 := rfl
  have spec := jsp_alld (iv := iv) (L := L) (h0 := h0) (Ad := trA A n) (Tn := fun x => x ∈ fl t ∨ x ∈ fl (trT n)) (dpt (trT n)) (fun _ => none) (trT n) (mx (trA A n) c (trX c s n)) (fI c (A (s.1 16)) 8) ((jdg s t).2.1 (s.1 16)) (jdg s t) (fun x => x ∈ fl t) (Nat.le_refl _) hPT hPJ hak (by rw [h3]; omega) ⟨fun _ q => Or.inr q, fun x q => absurd rfl q⟩
  have eA : trA A n (hd (trT n)) = tra n := by rw [t4]; unfold trA; rw [if_pos (by decide)]; simp
  have spec2 := spec c 0 hv (Int.le_refl _) (by omega)
  have tg : (tgM (trA A n) 88 [vr 307, vi (hd (trT n)), vi (fI c (A (s.1 16)) 8)] 0) = (165, [vr 175, vr (tra n), vi (fI c (A (s.1 16)) 8), vi 0]) := by
    show (165, [vr 175, vr (trA A n (hd (trT n))), vi (fI c (A (s.1 16)) 8), vi 0]) = _
    rw [eA]
  rw [tg] at spec2
  refine inQ spec2 (by omega) ?_
  rintro r e w hvw hxw ⟨p1, p2, ⟨p3, -⟩, p4⟩
  obtain ⟨hXe, -, hJe, ⟨g1, g2⟩, g4, g5, g6, g7⟩ := hvw
  have hlt := p3.lt p1.2.1.1.1.2 p1.2.1.2.1
  have hw3 : w.1 3 ≤ 1320 := by rw [h3] at p2; omega
  refine hF r e ⟨hxw, by omega, fun x hx => ?_, ?_, fun k hk => ?_⟩
  · obtain ⟨a1, a2, a3⟩ := hJe x (Or.inl hx)
    obtain ⟨b1, b2, b3⟩ := p1.2.2.2 x (fun w' => by have := trT_mem w'; have := lt x hx; omega)
    rw [trA_o (lt x hx).1] at a1 a2 a3
    have o19 : (mx (trA A n) c (trX c s n)).2 19 x = fI c (A x) 9 := by show fI c (trA A n x) 9 = _; rw [trA_o (lt x hx).1]
    have o20 : (mx (trA A n) c (trX c s n)).2 20 x = fI c (A x) 8 := by show fI c (trA A n x) 8 = _; rw [trA_o (lt x hx).1]
    have o21 : (mx (trA A n) c (trX c s n)).2 21 x = fI c (A x) 10 := by show fI c (trA A n x) 10 = _; rw [trA_o (lt x hx).1]
    have a3 : fI e (A x) 10 = w.2 21 x := a3
    rw [a1, a2, a3, b1, b2, b3, o19, o20, o21]
    exact ⟨rfl, rfl, rfl⟩
  · exact g1.trans (p1.1.1 2 (by decide))
  · rw [g4, g5, g6, g7]
    exact p1.2.2.1.2.2 k (by rw [h3]; exact hk)
end
end
section
/-! offers() by the desk: safe, and all stays. -/
section
variable {iv : List (Int × Int)} {L : Nat} {h0 : MH} {A A' : Int → Nat} {c e : SC} {s s' w : SM} {t : Term} {d : Nat} {ys : List (Nat × Nat)} {rs : List Nat}
theorem R1_tr (h : R1 A c s t) (hS : SHT s t) (hK : KIs s) (hx : CX trY trR c e) (hf : ∀ x, x ∈ fl t → fI e (A x) 8 = fI c (A x) 8 ∧ fI e (A x) 9 = fI c (A x) 9 ∧ fI e (A x) 10 = fI c (A x) 10) (h4 : fI e 65 4 = fI c 65 4) (h5 : fI e 65 5 = fI c 65 5) (hk : ∀ k, k < fI c 65 5 → aI e 66 k = aI c 66 k ∧ aI e 67 k = aI c 67 k ∧ aI e 68 k = aI c 68 k ∧ aI e 69 k = aI c 69 k) : R1 A e s t := by
  obtain ⟨⟨hX, hN, hH, hL⟩, ⟨hc, h8⟩, hI, hJ1, hJ2, hJ3⟩ := h
  have h3 := hX.2.2.1
  have hkd := hX.dk
  have hn := hK.1
  have hm : 40 ≤ fI c 65 5 := hJ1.2.1
  have hke : kext (mx A c s) (mx A e s) := ⟨h4.symm, by show fI c 65 5 ≤ fI e 65 5; rw [h5]; exact Int.le_refl _, fun k hk' => hk k hk'⟩
  have hvk : ∀ k, vkc c k → vkc e k ∧ ktc e k = ktc c k := fun k hk' => ⟨by unfold vkc at hk' ⊢; rw [h4, h5]; exact hk', kext_kt (s := mx A c s) (t := mx A e s) hke hJ1 hk'⟩
  refine ⟨⟨hX.x hx (by decide) (by decide), hN.x hx (by decide) (by decide) (by decide) (by decide) (by decide), hH.x hN hS.m hX hx (by decide) (by decide) (by decide) (by decide), hL.x hN hS.m hX hx (by decide) (by decide) (by decide)⟩, ⟨?_, ?_⟩, ⟨h4.trans hI.1, fun k k0 kn => ?_⟩, ?_, by rw [h5]; exact hJ2, fun x hx' => ?_⟩
  · rw [hx.r (a := 70) (by omega) (by rw [hkd.2.1]; decide)]; exact hc
  · rw [hx.i (a := 70) (by omega) (by rw [hkd.2.1]; decide)]; exact h8
  · obtain ⟨e1, e2, e3, e4⟩ := hk k (by omega)
    rw [e1, e2, e3, e4]
    exact hI.2 k k0 kn
  · unfold KJc
    rw [h4, h5]
    exact KJ_lt hJ1 hk
  · obtain ⟨⟨g1, g2⟩, g3, g4⟩ := hJ3 x hx'
    obtain ⟨f8, f9, f10⟩ := hf x hx'
    rw [f8, f9, f10]
    refine ⟨⟨(hvk _ g1).1, (hvk _ g1).2.trans g2⟩, ?_, g4⟩
    unfold aKc at g3 ⊢
    cases hA : (jdg s t).2.1 x with
    | none => rw [hA] at g3; exact g3
    | some T => rw [hA] at g3; exact ⟨(hvk _ g3.1).1, (hvk _ g3.1).2.trans g3.2⟩
theorem tra_ne : ∀ m : Nat, m < 16 → ∀ i : Nat, i < 3 → ∀ n : Nat, n < 16 → (i : Int) < pO m → 1 ≤ n → tra m + 2 + 2 * i ≠ tra n := by
  have h : (List.range 16).all (fun m => (List.range 3).all (fun i => (List.range 16).all (fun n => decide (¬ ((i : Int) < pO m ∧ 1 ≤ n ∧ tra m + 2 + 2 * i = tra n))))) = true := by decide +kernel
  intro m m16 i i3 n n16 hi n1 e
  have h1 := List.all_eq_true.mp (List.all_eq_true.mp (List.all_eq_true.mp h m (List.mem_range.mpr m16)) i (List.mem_range.mpr i3)) n (List.mem_range.mpr n16)
  exact (of_decide_eq_true h1) ⟨hi, n1, e⟩
/-- trials stay -/
theorem TRc.up (h : TRc c) (hX : FIX c) (hx : CX ys rs c e) (hy : (25, 1) ∉ ys ∧ (25, 2) ∉ ys ∧ (25, 3) ∉ ys) (hr : ∀ a, a ∈ rs → a < 194 ∨ (194 < a ∧ a < 235) ∨ 307 ≤ a) (hp : ∀ m i : Nat, 1 ≤ m → m < 16 → (i : Int) < pO m → fR e (tra m + 2 + 2 * i) 5 = fR c (tra m + 2 + 2 * i) 5 ∧ fI e (tra m + 2 + 2 * i) 6 = fI c (tra m + 2 + 2 * i) 6) : TRc e := by
  intro n n1 n16
  obtain ⟨⟨r1, r2, r3, r4, r5, r6, r7⟩, rp⟩ := h n n1 n16
  obtain ⟨z1, z2⟩ := tra_in n n16
  have z1 := z1 (by omega)
  have hpo := pO_in n
  have h3 := hX.2.2.1
  have row : ∀ a, 235 ≤ a → a < 307 → aR e a = aR c a := fun a a0 a1 => hx.ar (by omega) (by unfold rk; rw [if_pos (by omega)]; intro w; have := hr a w; omega)
  have row4 : aR e 194 = aR c 194 := hx.ar (by omega) (by unfold rk; rw [if_pos (by omega)]; intro w; have := hr 194 w; omega)
  have key : ∀ a, 235 ≤ a → a < 307 → ky a (kl c a) = 25 := fun a a0 a1 => by unfold ky; rw [if_pos ⟨a0, a1⟩]
  have f1 : ∀ a, 235 ≤ a → a < 307 → fI e a 1 = fI c a 1 ∧ fI e a 2 = fI c a 2 ∧ fR e a 3 = fR c a 3 ∧ kl e a = kl c a ∧ le e a = le c a := fun a a0 a1 => ⟨hx.i (by omega) (by rw [key a a0 a1]; exact hy.1), hx.i (by omega) (by rw [key a a0 a1]; exact hy.2.1), hx.r (by omega) (by rw [key a a0 a1]; exact hy.2.2), hx.k (by omega), hx.l (by omega)⟩
  obtain ⟨q1, q2, q3, q4, q5⟩ := f1 (tra n) z1 (by omega)
  obtain ⟨-, -, -, q6, q7⟩ := f1 (tra n + 1) (by omega) (by omega)
  refine ⟨⟨by rw [row4]; exact r1, by rw [q4]; exact r2, by rw [q6]; exact r3, by rw [q7]; exact r4, by rw [q1]; exact r5, by rw [q3]; exact r6, fun w => by rw [q2]; exact r7 w⟩, fun i hi => ?_⟩
  obtain ⟨s1, s2, s3, s4, s5, s6, s7, s8⟩ := rp i hi
  obtain ⟨g1, g2, g3, g4, g5⟩ := f1 (tra n + 2 + 2 * i) (by omega) (by omega)
  obtain ⟨-, -, -, g6, g7⟩ := f1 (tra n + 2 + 2 * i + 1) (by omega) (by omega)
  obtain ⟨p5, p6⟩ := hp n i n1 n16 hi
  exact ⟨by rw [row _ (by omega) (by omega)]; exact s1, by rw [g4]; exact s2, by rw [g6]; exact s3, by rw [g7]; exact s4, by rw [g1]; exact s5, by rw [g3]; exact s6, by rw [p5]; exact s7, by rw [p6]; exact s8⟩
/-- what stays while trials are judged -/
def OFI (A : Int → Nat) (c0 c : SC) (s : SM) (t : Term) : Prop := R1 A c s t ∧ TRc c ∧ CX trY trR c0 c ∧ RMk 0 0 c0 c
theorem trial_c {c0 : SC} {n : Nat} {F : Int → SC → Prop} (h : OFI A c0 c s t) (hT : AFT s t) (hK : KIs s) (hn : 1 ≤ n ∧ n < 16) (hD : 82 ≤ d) (hF : ∀ r e, (r = 0 ∨ r = 1) → OFI A c0 e s t → F r e) : ck iv L h0 d 164 [vr 175, vr (tra n), vr (A (s.1 16))] c (qi F) := by
  obtain ⟨d, rfl⟩ : ∃ k, d = k + 1 := ⟨d - 1, by omega⟩
  obtain ⟨h1, hTR, hx0, hr0⟩ := h
  have hS := hT.1
  have hX := h1.1.1
  have hk : kl c 175 = 3 ∧ kl c 65 = 4 ∧ fR c 175 0 = 65 ∧ fR c 65 0 = 66 ∧ kl c 66 = 100 ∧ le c 66 = 1440 := by simp only [hX.1]; exact ⟨trivial, trivial, trivial, trivial, trivial, trivial⟩
  obtain ⟨⟨r1, r2, r3, r4, r5, r6, r7⟩, rp⟩ := hTR n hn.1 hn.2
  obtain ⟨z1, z2⟩ := tra_in n hn.2
  have z1 := z1 (by omega)
  have hpo := pO_in n
  have hcb := hS.m _ hT.2.2
  have h3 := hX.2.2.1
  obtain ⟨⟨n1, n2, n3, n4, n5, n6, n7, n8⟩, n9, n10⟩ := h1.1.2.1.2 _ hcb.1 hcb.2
  have key : ky (tra n) (kl c (tra n)) = 25 := by unfold ky; rw [if_pos ⟨z1, by omega⟩]
  generalize hc1 : uI (uR c (tra n) 5 (fR c (A (s.1 16)) 5)) (tra n) 6 (fI c (A (s.1 16)) 6) = c1
  have hx1 : CX trY trR c c1 := by
    rw [← hc1]
    exact (CX.rf.uR (fun _ => by rw [key]; decide)).uI (fun _ => by rw [kl_uR, key]; decide)
  have fo : ∀ a y, a ≠ tra n → fI c1 a y = fI c a y ∧ fR c1 a y = fR c a y := fun a y ha => by
    rw [← hc1]
    exact ⟨by rw [fI_uI, if_neg (fun w => ha w.2), fI_uR], by rw [fR_uI, fR_uR, if_neg (fun w => ha w.2)]⟩
  have hne : ∀ x, x ∈ fl t → A x ≠ tra n := fun x hx w => by
    have := (h1.1.2.1.2 x (hS.m x hx).1 (hS.m x hx).2).2.2
    omega
  have ai1 : ∀ a, aI c1 a = aI c a := fun a => by rw [← hc1, aI_uI, aI_uR]
  have h11 : R1 A c1 s t := R1_tr h1 hS hK hx1 (fun x hx => ⟨(fo _ 8 (hne x hx)).1, (fo _ 9 (hne x hx)).1, (fo _ 10 (hne x hx)).1⟩) (fo 65 4 (by omega)).1 (fo 65 5 (by omega)).1 (fun k _ => by rw [ai1, ai1, ai1, ai1]; exact ⟨rfl, rfl, rfl, rfl⟩)
  have hTR1 : TRc c1 := hTR.up hX hx1 (by decide) (by decide) (fun m i m1 m16 hi => by
    have hpm := pO_in m
    have := tra_ne m m16 i (by omega) n hn.2 hi hn.1
    exact ⟨(fo _ 5 this).2, (fo _ 6 this).1⟩)
  have hcur := hne _ hT.2.2
  have e5 : fR c1 (tra n) 5 = fR c1 (A (s.1 16)) 5 := by rw [(fo _ 5 hcur).2, ← hc1, fR_uI, fR_uR, if_pos ⟨rfl, rfl⟩]
  have e6 : fI c1 (tra n) 6 = fI c1 (A (s.1 16)) 6 := by rw [(fo _ 6 hcur).1, ← hc1, fI_uI, if_pos ⟨rfl, rfl⟩]
  have e8 : fI c1 (A (s.1 16)) 8 = fI c (A (s.1 16)) 8 := (fo _ 8 hcur).1
  refine C164 ⟨hk.1, by rw [hk.2.2.1]; exact hk.2.1, n1, r2, ?_⟩
  rw [hc1, hk.2.2.1, ← e8]
  refine trj_ok h11 hT hK hTR1 hn e5 e6 (by omega) (fun r e he => ?_)
  obtain ⟨⟨he1, he2⟩, he3, he4, he5, he6⟩ := he
  have hX1 := h11.1.1
  have hXe : FIX e := hX1.x he1 (by decide) (by decide)
  have hke : kl e 175 = 3 ∧ kl e 65 = 4 ∧ fR e 175 0 = 65 ∧ fR e 65 0 = 66 ∧ kl e 66 = 100 ∧ le e 66 = 1440 := by simp only [hXe.1]; exact ⟨trivial, trivial, trivial, trivial, trivial, trivial⟩
  have hn1 : nxt c ≤ nxt c1 := hx1.n
  have kle : ∀ a, a < nxt c → kl e a = kl c a := fun a ha => (he1.k (by omega)).trans (hx1.k ha)
  have hx2 : CX trY trR c1 (uI e 65 5 (fI c 65 5)) := (he1.up (by decide) (by decide)).uI (fun _ => by rw [hke.2.1]; decide)
  have f65 : fI c1 65 5 = fI c 65 5 := (fo 65 5 (by omega)).1
  have hR : R1 A (uI e 65 5 (fI c 65 5)) s t := R1_tr h11 hS hK hx2 (fun x hx => by
    have hA := (h11.1.2.1.2 x (hS.m x hx).1 (hS.m x hx).2).2.2
    rw [fI_uI, if_neg (by omega), fI_uI, if_neg (by omega), fI_uI, if_neg (by omega)]
    exact he4 x hx) (by rw [fI_uI, if_neg (by omega)]; exact he5) (by rw [fI_uI, if_pos ⟨rfl, rfl⟩, f65]) (fun k hk' => he6 k hk')
  have hTRe : TRc (uI e 65 5 (fI c 65 5)) := hTR1.up hX1 hx2 (by decide) (by decide) (fun m i m1 m16 hi => by
    obtain ⟨y1, y2⟩ := tra_in m m16
    have y1 := y1 (by omega)
    have kk : ky (tra m + 2 + 2 * i) (kl c1 (tra m + 2 + 2 * i)) = 25 := by unfold ky; rw [if_pos (by omega)]
    rw [fR_uI, fI_uI, if_neg (by omega)]
    exact ⟨he1.r (by omega) (by rw [kk]; decide), he1.i (by omega) (by rw [kk]; decide)⟩)
  have hO : OFI A c0 (uI e 65 5 (fI c 65 5)) s t := ⟨hR, hTRe, hx0.tr (hx1.tr hx2), by
    have hr1 : RMk 0 0 c c1 := by rw [← hc1]; exact RMk.rf
    exact (hr0.tr hr1).tr he2⟩
  have hkcur : kl e (A (s.1 16)) = 5 := by rw [kle _ (by omega)]; exact n1
  have hktr : kl e (tra n) = 5 := by rw [kle _ (by omega)]; exact r2
  have fin : ∀ v : Int, (v = 0 ∨ v = 1) → F v (uI e 65 5 (fI c 65 5)) := fun v hv => hF v _ hv hO
  have fR5 : fR e (A (s.1 16)) 5 = A (s.2 12 (s.1 16)) := by
    have := (hR.1.2.2.1.1 _ hT.2.2).1
    rw [fR_uI] at this
    exact this
  rw [hke.2.2.1]
  refine ⟨hkcur, fun _ => ⟨hke.1, hke.2.1, hktr, fun _ => fin 0 (Or.inl rfl), fun _ => fin 1 (Or.inr rfl)⟩, fun q => ⟨fun _ => ⟨hke.1, hke.2.1, hktr, fun _ => fin 0 (Or.inl rfl), fun _ => fin 1 (Or.inr rfl)⟩, fun _ => ⟨?_, hke.1, ?_⟩⟩⟩
  · rw [fR5] at q ⊢
    have hu : 0 ≤ s.2 12 (s.1 16) ∧ s.2 12 (s.1 16) < s.1 8 := Classical.byContradiction fun w => q (h1.1.2.1.1 _ w)
    have hu2 := h1.1.2.1.2 _ hu.1 hu.2
    rw [kle _ (by omega)]
    exact hu2.1.1
  · have fin2 : ∀ v : Int, ((v = 0 → (kl e 175 = 3) ∧ (kl e (fR e 175 0) = 4) ∧ (kl e (tra n) = 5) ∧ ((fI e (tra n) 10 ≠ 0 → F 0 (uI e (fR e 175 0) 5 (fI c 65 5))) ∧ (fI e (tra n) 10 = 0 → F 1 (uI e (fR e 175 0) 5 (fI c 65 5))))) ∧ (v ≠ 0 → (kl e 175 = 3) ∧ (kl e (fR e 175 0) = 4) ∧ (kl e (tra n) = 5) ∧ ((fI e (tra n) 10 ≠ 0 → F 0 (uI e (fR e 175 0) 5 (fI c 65 5))) ∧ (fI e (tra n) 10 = 0 → F 0 (uI e (fR e 175 0) 5 (fI c 65 5)))))) := fun v => by
      rw [hke.2.2.1]
      exact ⟨fun _ => ⟨hke.1, hke.2.1, hktr, fun _ => fin 0 (Or.inl rfl), fun _ => fin 1 (Or.inr rfl)⟩, fun _ => ⟨hke.1, hke.2.1, hktr, fun _ => fin 0 (Or.inl rfl), fun _ => fin 0 (Or.inl rfl)⟩⟩
    refine C173 ⟨hke.1, by rw [hke.2.2.1]; exact hke.2.1, ?_⟩
    rw [hke.2.2.1, hke.2.2.2.1, hke.2.2.2.2.1, hke.2.2.2.2.2]
    rw [hke.2.2.1] at fin2
    exact ⟨rfl, he3, fun _ => ⟨fun _ => ⟨fun _ => fin2 0, fun _ => ⟨fun _ => fin2 3, fun _ => fin2 0⟩⟩, fun _ => ⟨fun _ => fin2 0, fun _ => ⟨fun _ => fin2 0, fun _ => ⟨fun _ => fin2 3, fun _ => fin2 0⟩⟩⟩⟩, fun _ => ⟨fun _ => fin2 0, fun _ => ⟨fun _ => fin2 2, fun _ => fin2 0⟩⟩⟩
end
end
section
/-! offers() and offer() by the desk. -/
section
variable {iv : List (Int × Int)} {L : Nat} {h0 : MH} {A A' : Int → Nat} {c c0 e : SC} {s s' w : SM} {t : Term} {d : Nat} {ys : List (Nat × Nat)} {rs : List Nat}
theorem FIX.of (h : FIX c) : kl c 64 = 1 ∧ fR c 64 1 = 70 ∧ kl c 70 = 8 ∧ (fR c 64 2 = 175 ∧ kl c 175 = 3) ∧ (fR c 64 7 = 194 ∧ kl c 194 = 103 ∧ le c 194 = 16) ∧ (fR c 64 8 = 195 ∧ kl c 195 = 100 ∧ le c 195 = 42) ∧ fR c 64 9 = 196 ∧ kl c 196 = 100 ∧ le c 196 = 42 := by
  simp only [h.1]
  exact ⟨trivial, trivial, trivial, ⟨trivial, trivial⟩, ⟨trivial, trivial, trivial⟩, ⟨trivial, trivial, trivial⟩, trivial, trivial, trivial⟩
theorem OFI.nm {z : Int} (h : OFI A c0 c s t) (hS : SHT s t) (hK : KIs s) : OFI A c0 (uI c (tra 3) 4 z) s t := by
  obtain ⟨h1, hT, hx, hr⟩ := h
  have e3 : 235 ≤ tra 3 ∧ tra 3 < 307 := by decide
  have hx1 : CX trY trR c (uI c (tra 3) 4 z) := CX.rf.uI (fun _ => by unfold ky; rw [if_pos e3]; decide)
  refine ⟨R1_tr h1 hS hK hx1 (fun x _ => ?_) ?_ ?_ (fun k _ => ⟨rfl, rfl, rfl, rfl⟩), hT.up h1.1.1 hx1 (by decide) (by decide) (fun m i m1 m16 hi => ?_), hx.tr hx1, hr⟩
  · rw [fI_uI, if_neg (by omega), fI_uI, if_neg (by omega), fI_uI, if_neg (by omega)]; exact ⟨rfl, rfl, rfl⟩
  · rw [fI_uI, if_neg (by omega)]
  · rw [fI_uI, if_neg (by omega)]
  · rw [fR_uI, fI_uI, if_neg (by omega)]; exact ⟨rfl, rfl⟩
theorem OFI.row {a : Nat} {i z : Int} (h : OFI A c0 c s t) (hS : SHT s t) (hK : KIs s) (ha : a = 195 ∨ a = 196) : OFI A c0 (uA c a i z) s t := by
  obtain ⟨h1, hT, hx, hr⟩ := h
  have hx1 : CX trY trR c (uA c a i z) := CX.rf.uA (fun _ => by unfold rk; rw [if_pos (by omega)]; rcases ha with rfl | rfl <;> decide)
  refine ⟨R1_tr h1 hS hK hx1 (fun x _ => ⟨rfl, rfl, rfl⟩) rfl rfl (fun k _ => ?_), hT.up h1.1.1 hx1 (by decide) (by decide) (fun m i m1 m16 hi => ⟨rfl, rfl⟩), hx.tr hx1, hr⟩
  rw [aI_uA, if_neg (by omega), aI_uA, if_neg (by omega), aI_uA, if_neg (by omega), aI_uA, if_neg (by omega)]
  exact ⟨rfl, rfl, rfl, rfl⟩
theorem offer_c {n : Nat} {a1 a3 : Int} {F : Int → SC → Prop} (h : OFI A c0 c s t) (hT : AFT s t) (hK : KIs s) (hn : 1 ≤ n ∧ n < 16) (ha : 0 ≤ a1 ∧ a1 < 42) (hD : 83 ≤ d) (hF : ∀ r e, (r = a1 ∨ r = a1 + 1) → OFI A c0 e s t → F r e) : ck iv L h0 d 58 [vr 64, vi a1, vi n, vi a3] c (qi F) := by
  obtain ⟨d, rfl⟩ : ∃ k, d = k + 1 := ⟨d - 1, by omega⟩
  have h1 := h.1
  have hcur := h1.2.1.1
  obtain ⟨k1, k2, k3, ⟨k4, k5⟩, ⟨k6, k7, k8⟩, -⟩ := h1.1.1.of
  have ht := (h.2.1 n hn.1 hn.2).1.1
  refine C58 ?_
  rw [k2, k4, k6, ht, hcur]
  refine ⟨k1, k7, by rw [k8]; omega, k3, k5, trial_c h hT hK hn (by omega) (fun r e hr he => ⟨fun q => ?_, fun q => hF _ e (Or.inl rfl) he⟩)⟩
  obtain ⟨-, -, -, -, -, ⟨j1, j2, j3⟩, j4, j5, j6⟩ := he.1.1.1.of
  have jk : kl e 64 = 1 := he.1.1.1.dk.1
  rw [j1, j2, j3, j4, j5, j6]
  exact ⟨jk, rfl, by omega, rfl, by omega, by omega, hF _ _ (Or.inr rfl) ((he.row hT.1 hK (Or.inl rfl)).row hT.1 hK (Or.inr rfl))⟩
theorem found_c {F : Int → SC → Prop} (h1 : R1 A c s t) (hTR : TRc c) (hT : AFT s t) (hK : KIs s) (hD : 100 ≤ d) (hF : ∀ r e, (0 ≤ r ∧ r < 42) → OFI A c e s t → F r e) : ck iv L h0 d 57 [vr 64] c (qi F) := by
  obtain ⟨d, rfl⟩ : ∃ k, d = k + 1 := ⟨d - 1, by omega⟩
  have hS := hT.1
  have hc := hT.2.2
  obtain ⟨k1, k2, k3, -⟩ := h1.1.1.of
  have two : ∀ (m : Nat) (f : SC) (x z : Int), OFI A c f s t → 1 ≤ x → x + m = 16 → 0 ≤ z → z ≤ 25 + x → wk iv L h0 (d + 1) 57 55 [lr 64, ln, li z, li x] [] f (qi F) := by
    intro m
    induction m with
    | zero =>
      intro f x z hf x1 xm z0 z1
      exact C57_55 ⟨fun _ => hF z f (by omega) hf, fun q => by omega⟩
    | succ m ih =>
      intro f x z hf x1 xm z0 z1
      refine C57_55 ⟨fun q => by omega, fun _ => ⟨fun q => ⟨by omega, ih f (x + 1) z hf (by omega) (by omega) z0 (by omega)⟩, fun q => ⟨hf.1.1.1.dk.1, ?_⟩⟩⟩
      obtain ⟨n, rfl⟩ : ∃ n : Nat, x = n := ⟨x.toNat, by omega⟩
      exact offer_c hf hT hK ⟨by omega, by omega⟩ ⟨z0, by omega⟩ (by omega) (fun r e hr he => ⟨by omega, ih e _ r he (by omega) (by omega) (by omega) (by omega)⟩)
  have one : ∀ (m : Nat) (f : SC) (x z : Int), OFI A c f s t → 0 ≤ x → x + m = 26 → 0 ≤ z → z ≤ x → wk iv L h0 (d + 1) 57 12 [lr 64, lr (A (s.1 16)), li z, li x] [] f (qi F) := by
    intro m
    induction m with
    | zero =>
      intro f x z hf x0 xm z0 z1
      exact C57_12 ⟨fun _ => two 15 f 1 z hf (by decide) (by decide) z0 (by omega), fun q => by omega⟩
    | succ m ih =>
      intro f x z hf x0 xm z0 z1
      have hJ := js_of hf.1.1.1 hf.1.1.2.1 hf.1.1.2.2.1 hS
      have h9 : A (-9) = 2 := hJ.1.1
      have bin : ∀ G : Nat → SC → Prop, (∀ a, G a f) → ck iv L h0 d 56 [vr (A (s.1 16)), vi x, vr 2, vi (-9)] f (qa G) := fun G hG => by
        have := nb_ok (iv := iv) (L := L) (h0 := h0) (d := d) (nu := s.2 10) (q := -9) (z := -9) (F := G) hJ (Or.inl rfl) (fun y hy => by
          have := hS.m y hy
          rw [if_neg (by omega)]) hc (DP_up 61 70 _ (by decide) (DP_tree hS _ hc)) (x := x) (hG _)
        rw [h9] at this
        exact this
      refine C57_12 ⟨fun q => by omega, fun _ => bin _ (fun a => ⟨fun _ => ⟨by omega, ih f (x + 1) z hf (by omega) (by omega) z0 (by omega)⟩, fun _ => ?_⟩)⟩
      obtain ⟨j1, -, -, -, ⟨j6, j7, j8⟩, -⟩ := hf.1.1.1.of
      obtain ⟨⟨r1, r2, -⟩, -⟩ := hf.2.1 3 (by decide) (by decide)
      have r1 : aR f 194 3 = tra 3 := r1
      rw [j6, j7, j8, r1]
      refine ⟨j1, rfl, by decide, r2, offer_c (n := 3) (hf.nm hS hK) hT hK (by decide) ⟨z0, by omega⟩ (by omega) (fun r e hr he => ⟨by omega, ih e _ r he (by omega) (by omega) (by omega) (by omega)⟩)⟩
  refine C57 ⟨k1, by rw [k2]; exact k3, ?_⟩
  rw [k2, h1.2.1.1]
  exact one 26 c 0 0 ⟨h1, hTR, CX.rf, RMk.rf⟩ (by decide) (by decide) (by decide) (by decide)
theorem offers_c {F : Int → SC → Prop} (h1 : R1 A c s t) (hTR : TRc c) (hT : AFT s t) (hK : KIs s) (hD : 101 ≤ d) (hF : ∀ r e, OFI A c e s t → F r e) : ck iv L h0 d 22 [vr 64] c (qi F) := by
  obtain ⟨d, rfl⟩ : ∃ k, d = k + 1 := ⟨d - 1, by omega⟩
  obtain ⟨⟨d1, d2, d3, d4, d5⟩, e1, e2, -⟩ := h1.cur hT
  refine C22 ?_
  rw [d3, e1]
  exact ⟨d1, d2, e2, fun _ => hF _ c ⟨h1, hTR, CX.rf, RMk.rf⟩, fun _ => found_c h1 hTR hT hK (by omega) (fun r e _ he => hF r e he)⟩
theorem offer2_c {i k : Int} {F : Int → SC → Prop} (h1 : R1 A c s t) (hTR : TRc c) (hT : AFT s t) (hK : KIs s) (hD : 101 ≤ d) (hF : ∀ r e, OFI A c e s t → F r e) : ck iv L h0 d 23 [vr 64, vi i, vi k] c (qi F) := by
  obtain ⟨d, rfl⟩ : ∃ k, d = k + 1 := ⟨d - 1, by omega⟩
  obtain ⟨⟨d1, d2, d3, d4, d5⟩, e1, e2, -⟩ := h1.cur hT
  have h0' : OFI A c c s t := ⟨h1, hTR, CX.rf, RMk.rf⟩
  have fin : ∀ r e, (0 ≤ r ∧ r < 42) → OFI A c e s t → ((i < 0 → F (-9) e) ∧ (0 ≤ i → ((i < r → ((k ≠ 0 → (kl e 64 = 1) ∧ (kl e (fR e 64 9) = 100) ∧ (0 ≤ i ∧ i < le e (fR e 64 9)) ∧ F (aI e (fR e 64 9) i) e) ∧ (k = 0 → (kl e 64 = 1) ∧ (kl e (fR e 64 8) = 100) ∧ (0 ≤ i ∧ i < le e (fR e 64 8)) ∧ F (aI e (fR e 64 8) i) e))) ∧ (r ≤ i → F (-9) e)))) := fun r e hr he => by
    obtain ⟨j1, -, -, -, -, ⟨j2, j3, j4⟩, j5, j6, j7⟩ := he.1.1.1.of
    rw [j2, j3, j4, j5, j6, j7]
    exact ⟨fun _ => hF _ e he, fun _ => ⟨fun _ => ⟨fun _ => ⟨j1, rfl, by omega, hF _ e he⟩, fun _ => ⟨j1, rfl, by omega, hF _ e he⟩⟩, fun _ => hF _ e he⟩⟩
  refine C23 ⟨fun q => ?_, fun q => ⟨fun q1 => ?_, fun _ => hF _ c h0'⟩⟩
  · rw [d3, e1]
    exact ⟨d1, d2, e2, fun _ => found_c h1 hTR hT hK (by omega) fin, fun _ => hF _ c h0'⟩
  · rw [d3, e1]
    exact ⟨d1, d2, e2, fun _ => found_c h1 hTR hT hK (by omega) fin, fun _ => hF _ c h0'⟩
end
end
section
/-! What was told at the time of a work: reasons then. -/
section
variable {iv : List (Int × Int)} {L : Nat} {h0 : MH} {A A' : Int → Nat} {c c0 e : SC} {s s' w : SM} {t : Term} {d : Nat} {ys : List (Nat × Nat)} {rs : List Nat}
theorem thens_c {F : SC → Prop} (h1 : R1 A c s t) (hS : SHT s t) (hF : ∀ e, R1 A e s t → CX [(5, 11)] [] c e → RMk 0 0 c e → (∀ x, x ∈ fl t → fI e (A x) 11 = (jdg s t).2.2 x) → (∀ a y, (y ≠ 11 ∨ ∀ x, x ∈ fl t → a ≠ A x) → fI e a y = fI c a y) → F e) : ck iv L h0 d 217 [vr 70] c (qv F) := by
  have key : ∀ (m p : List Int) (f : SC), fl t = p ++ m → CX [(5, 11)] [] c f → RMk 0 0 c f → (∀ x, x ∈ p → fI f (A x) 11 = (jdg s t).2.2 x) → (∀ a y, (y ≠ 11 ∨ ∀ x, x ∈ fl t → a ≠ A x) → fI f a y = fI c a y) → wk iv L h0 d 217 2 [lr 70, li p.length] [] f (qv F) := by
    intro m
    induction m with
    | nil =>
      intro p f e hx hr hp ho
      have hf : R1 A f s t := h1.x hS hx (by decide) (by decide) (by decide) (fun _ _ w => by cases w)
      obtain ⟨d1, d2, d3, d4⟩ := hf.nil
      rw [List.append_nil] at e
      refine C217_2 ⟨d3, fun _ => hF f hf hx hr (fun x hx' => hp x (by rw [← e]; exact hx')) ho, fun q => ?_⟩
      rw [d4, e] at q
      omega
    | cons x m ih =>
      intro p f e hx hr hp ho
      have hf : R1 A f s t := h1.x hS hx (by decide) (by decide) (by decide) (fun _ _ w => by cases w)
      obtain ⟨⟨d1, d2, d3, d4, d5, d6, d7⟩, o1, o2, o3, o4, o5, o6, o7, o8, o9, o10, o11, o12⟩ := hf.row hS e
      refine C217_2 ?_
      rw [d4, d5, d6, d7, o4, o5, o10]
      have hxb := hS.m x o1
      obtain ⟨⟨n1, -⟩, n9, n10⟩ := h1.1.2.1.2 x hxb.1 hxb.2
      refine ⟨d3, fun q => by omega, fun _ => ⟨rfl, by omega, rfl, by omega, ?_⟩⟩
      have := ih (p ++ [x]) (uI f (A x) 11 ((jdg s t).2.2 x)) (by rw [e]; simp) (hx.uI (fun _ => by rw [o5, ky5 n10]; decide)) hr (fun y hy => ?_) (fun a y hay => ?_)
      · rw [List.length_append] at this
        simp only [List.length_cons, List.length_nil] at this
        push_cast at this
        exact this
      · rw [fI_uI]
        by_cases q : y = x
        · subst q; rw [if_pos ⟨rfl, rfl⟩]
        · rcases List.mem_append.mp hy with hy | hy
          · rw [if_neg (fun w => q ?_)]
            · exact hp y hy
            · have hyb := hS.m y (by rw [e]; exact List.mem_append_left _ hy)
              exact h1.1.2.1.inj hxb w.2
          · exact absurd (List.mem_singleton.mp hy) q
      · rw [fI_uI, if_neg (fun w => ?_)]
        · exact ho a y hay
        · rcases hay with q | q
          · exact q w.1
          · exact q x o1 w.2
  exact C217 (key (fl t) [] c rfl CX.rf RMk.rf (fun x w => by cases w) (fun _ _ _ => rfl))
/-- is another reason told now? -/
def thn (A : Int → Nat) (c : SC) (s : SM) (t : Term) : Int := if (fl t).any (fun x => decide (fI c (A x) 11 ≠ -9 ∧ fI c (A x) 11 ≠ (jdg s t).2.2 x)) = true then 1 else 0
theorem then_c {F : Int → SC → Prop} (h1 : R1 A c s t) (hS : SHT s t) (hF : F (thn A c s t) c) : ck iv L h0 d 218 [vr 70] c (qi F) := by
  have key : ∀ (m p : List Int), fl t = p ++ m → (fl t).any (fun x => decide (fI c (A x) 11 ≠ -9 ∧ fI c (A x) 11 ≠ (jdg s t).2.2 x)) = m.any (fun x => decide (fI c (A x) 11 ≠ -9 ∧ fI c (A x) 11 ≠ (jdg s t).2.2 x)) → wk iv L h0 d 218 2 [lr 70, li p.length] [] c (qi F) := by
    intro m
    induction m with
    | nil =>
      intro p e hk
      obtain ⟨d1, d2, d3, d4⟩ := h1.nil
      rw [List.append_nil] at e
      unfold thn at hF
      rw [hk] at hF
      refine C218_2 ⟨d3, fun _ => hF, fun q => ?_⟩
      rw [d4, e] at q
      omega
    | cons x m ih =>
      intro p e hk
      obtain ⟨⟨d1, d2, d3, d4, d5, d6, d7⟩, o1, o2, o3, o4, o5, o6, o7, o8, o9, o10, o11, o12⟩ := h1.row hS e
      refine C218_2 ?_
      rw [d4, d5, d6, d7, o4, o5, o10]
      have nx : ¬ (fI c (A x) 11 ≠ -9 ∧ fI c (A x) 11 ≠ (jdg s t).2.2 x) → wk iv L h0 d 218 2 [lr 70, li (p.length + 1)] [] c (qi F) := fun w => by
        rw [List.any_cons, decide_eq_false w, Bool.false_or] at hk
        have := ih (p ++ [x]) (by rw [e]; simp) hk
        rw [List.length_append] at this
        simp only [List.length_cons, List.length_nil] at this
        push_cast at this
        exact this
      refine ⟨d3, fun q => by omega, fun _ => ⟨rfl, by omega, rfl, fun q => ⟨by omega, nx (fun w => w.1 q)⟩, fun q => ⟨fun q2 => ⟨by omega, nx (fun w => w.2 q2)⟩, fun q2 => ?_⟩⟩⟩
      rw [List.any_cons, decide_eq_true (show fI c (A x) 11 ≠ -9 ∧ fI c (A x) 11 ≠ (jdg s t).2.2 x from ⟨q, q2⟩), Bool.true_or] at hk
      unfold thn at hF
      rw [hk, if_pos rfl] at hF
      exact hF
  exact C218 (key (fl t) [] rfl rfl)
end
end
section
/-! The desk between calls, as far as works go: what stays over acts. -/
def DKc (A : Int → Nat) (c : SC) (s : SM) (t : Term) (K : List Snap) (Sh : Int → Option Snap) : Prop := R1 A c s t ∧ (BXc A c s ∧ FNc c s ∧ TRc c) ∧ KSc A c K ∧ SHc c Sh
/-- the box and the findings of the reference stay -/
def SBX (s s' : SM) : Prop := (s'.1 71 = s.1 71 ∧ ∀ i, 0 ≤ i → i < 8 → s'.2 72 i = s.2 72 i) ∧ s'.1 0 = s.1 0 ∧ ∀ f, 0 ≤ f → f < 6 → s'.2 1 f = s.2 1 f
section
variable {iv : List (Int × Int)} {L : Nat} {h0 : MH} {A A' : Int → Nat} {c c0 e : SC} {s s' w : SM} {t t' : Term} {d : Nat} {ys : List (Nat × Nat)} {rs : List Nat} {K : List Snap} {Sh : Int → Option Snap}
theorem BXc.sb (h : BXc A c s) (hs : SBX s s') : BXc A c s' := ⟨h.1.trans hs.1.1.symm, fun i i0 i8 => by rw [hs.1.2 i i0 i8]; exact h.2 i i0 i8⟩
theorem FNc.sb (h : FNc c s) (hs : SBX s s') : FNc c s' := ⟨h.1.trans hs.2.1.symm, fun f f0 f6 => by rw [hs.2.2 f f0 f6]; exact h.2 f f0 f6⟩
theorem TRc.x (h : TRc c) (hX : FIX c) (hx : CX ys rs c e) (hy : (25, 1) ∉ ys ∧ (25, 2) ∉ ys ∧ (25, 3) ∉ ys ∧ (25, 5) ∉ ys ∧ (25, 6) ∉ ys) (hr : ∀ a, a ∈ rs → a < 194 ∨ (194 < a ∧ a < 235) ∨ 307 ≤ a) : TRc e := h.up hX hx ⟨hy.1, hy.2.1, hy.2.2.1⟩ hr (fun m i m1 m16 hi => by
  obtain ⟨y1, y2⟩ := tra_in m m16
  have y1 := y1 (by omega)
  have h3 := hX.2.2.1
  have kk : ky (tra m + 2 + 2 * i) (kl c (tra m + 2 + 2 * i)) = 25 := by unfold ky; rw [if_pos (by omega)]
  exact ⟨hx.r (by omega) (by rw [kk]; exact hy.2.2.2.1), hx.i (by omega) (by rw [kk]; exact hy.2.2.2.2)⟩)
/-- the box, the findings, the trials over a change -/
theorem DK_b (h : BXc A c s ∧ FNc c s ∧ TRc c) (hX : FIX c) (hB : BX s) (hE : EXT A A' (s.1 8)) (hs : SBX s s') (hx : CX ys rs c e) (hy : (1, 12) ∉ ys ∧ (1, 14) ∉ ys ∧ (25, 1) ∉ ys ∧ (25, 2) ∉ ys ∧ (25, 3) ∉ ys ∧ (25, 5) ∉ ys ∧ (25, 6) ∉ ys) (hr : ∀ a, a ∈ rs → a < 194 ∨ (198 < a ∧ a < 235) ∨ 307 ≤ a) : BXc A' e s' ∧ FNc e s' ∧ TRc e := by
  obtain ⟨h1, h2, h3⟩ := h
  have n7 : 197 ∉ rs := fun q => by have := hr _ q; omega
  have n8 : 198 ∉ rs := fun q => by have := hr _ q; omega
  exact ⟨((h1.up hB hE).x hX hx hy.1 n7).sb hs, (h2.x hX hx hy.2.1 n8).sb hs, h3.x hX hx hy.2.2 (fun a ha => by have := hr a ha; omega)⟩
theorem acR_in : ∀ a, a ∈ acR → a < 194 ∨ (198 < a ∧ a < 235) ∨ 307 ≤ a := fun a ha => by
  have : acR.all (fun a => decide (a < 194 ∨ (198 < a ∧ a < 235) ∨ 307 ≤ a)) = true := by decide
  exact of_decide_eq_true (List.all_eq_true.mp this a ha)
theorem acR_sh : ∀ a, a ∈ acR → a < 199 ∨ 353 ≤ a := fun a ha => by
  have : acR.all (fun a => decide (a < 199 ∨ 353 ≤ a)) = true := by decide
  exact of_decide_eq_true (List.all_eq_true.mp this a ha)
theorem DKc.act (h : DKc A c s t K Sh) (hB : BX s) (hs : SBX s s') (ha : ACT A c s t K e s' t') : ∃ A', DKc A' e s' t' (push K (t, s)) Sh ∧ EXT A A' (s.1 8) ∧ RMk 10 100 c e ∧ fI e 64 15 = 1 ∧ CX acY acR c e ∧ NWc (nxt c) e := by
  obtain ⟨A', a1, a2, a3, a4, a5, a6, a7⟩ := ha
  obtain ⟨h1, h2, h3, h4⟩ := h
  have hX := h1.1.1
  exact ⟨A', ⟨a1, DK_b h2 hX hB a2 hs a3 (by decide) acR_in, a5, h4.x hX a3 (by decide) acR_sh⟩, a2, a4, a6, a3, a7⟩
theorem shR_in : ∀ a, a ∈ shR → a < 194 ∨ (198 < a ∧ a < 235) ∨ 307 ≤ a := fun a ha => by
  have : shR.all (fun a => decide (a < 194 ∨ (198 < a ∧ a < 235) ∨ 307 ≤ a)) = true := by decide
  exact of_decide_eq_true (List.all_eq_true.mp this a ha)
theorem DKc.und {u : Snap} {K0 : List Snap} (h : DKc A c s t (K0 ++ [u]) Sh) (hB : BX s) (ha : UND A c s e u K0) : DKc A e (unS s u) u.1 K0 Sh := by
  obtain ⟨a1, a2, a3, a4, a5, a6⟩ := ha
  obtain ⟨h1, h2, h3, h4⟩ := h
  have hX := h1.1.1
  have hs : SBX s (unS s u) := ⟨⟨rfl, fun i _ _ => by rw [unS_o (by decide)]⟩, rfl, fun f _ _ => by rw [unS_o (by decide)]⟩
  exact ⟨a1, DK_b h2 hX hB EXT.rf hs a2 (by decide) acR_in, a4, h4.x hX a2 (by decide) acR_sh⟩
theorem DKc.shl {p : Int} {u : Snap} (h : DKc A c s t K Sh) (hS : SHT s t) (hB : BX s) (hKP : ∀ u, u ∈ K → KP s u) (hx : CX shY shR c e) (ha : SHc e (shP Sh p u)) : DKc A e s t K (shP Sh p u) := by
  obtain ⟨h1, h2, h3, h4⟩ := h
  have hX := h1.1.1
  refine ⟨h1.x hS hx (by decide) (by decide) (by decide) (by decide), DK_b h2 hX hB EXT.rf ⟨⟨rfl, fun _ _ _ => rfl⟩, rfl, fun _ _ _ => rfl⟩ hx (by decide) shR_in, h3.x hX EXT.rf hS.2.2.2.2.1.1 hKP hx (by decide) (fun a ha w => ?_), ha⟩
  have h7 := snR_lt a ha
  have : shR.all (fun a => decide (199 ≤ a)) = true := by decide
  have := of_decide_eq_true (List.all_eq_true.mp this a w)
  omega
theorem DKc.fil {u : Snap} (h : DKc A c s t K Sh) (hT : AFT s t) (hB : BX s) (ha : FIL A c s t K u e) : ∃ A' st, DKc A' e (filV s st) (filT s t u) (push K (t, s)) Sh ∧ FBs s u (fl u.1).length st ∧ EXT A A' (s.1 8) ∧ RMk 130 1200 c e ∧ CX unY acR c e ∧ NWc (nxt c) e ∧ fI e 64 15 = fI c 64 15 ∧ fR e (A (s.1 16)) 12 = A' (s.1 8) ∧ ∀ a, a < nxt c → a ≠ A (s.1 16) → kl c a = 5 → fR e a 12 = fR c a 12 := by
  obtain ⟨A', st, a1, a2, a3, a4, a5, a6, a7, a8, a9, a10⟩ := ha
  obtain ⟨h1, h2, h3, h4⟩ := h
  have hX := h1.1.1
  have he := a2.2.1
  have hs : SBX s (filV s st) := by
    refine ⟨⟨(replU_e.1 71 (by decide)).trans (he.1 71 (by decide)), fun i _ _ => by rw [filV_o (by decide), he.2 72 (by decide)]⟩, (replU_e.1 0 (by decide)).trans (he.1 0 (by decide)), fun f _ _ => by rw [filV_o (by decide), he.2 1 (by decide)]⟩
  exact ⟨A', st, ⟨a1, DK_b h2 hX hB a3 hs a4 (by decide) acR_in, a6, h4.x hX a4 (by decide) acR_sh⟩, a2, a3, a5, a4, a7, a8, a9, a10⟩
end
end

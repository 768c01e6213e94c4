/-! Looks by the desk: what stays; told, part, go, seek. -/
def r1Y : List (Nat × Nat) := [(5, 0), (5, 1), (5, 2), (5, 3), (5, 4), (5, 5), (5, 6), (5, 7), (5, 8), (5, 9), (5, 10), (8, 1), (8, 3), (8, 4), (4, 4), (4, 5)]
def r1R : List Nat := [1103, 74, 72, 193, 71, 66, 67, 68, 69]
section
variable {iv : List (Int × Int)} {L : Nat} {h0 : MH} {A A' : Int → Nat} {c e : SC} {s s' w : SM} {t : Term} {d : Nat} {P : Int → Prop} {Q : Int → Int → Prop} {K : List Snap} {ys : List (Nat × Nat)} {rs : List Nat}
theorem R1.xa (h : R1 A c s t) (hS : SHT s t) (hx : CX ys rs c e) (hy : ∀ q, q ∈ r1Y → q ∉ ys) (hf : ∀ q, q ∈ finF → q ∉ ys) (hr : ∀ a, a ∈ r1R → a ∉ rs) : (FIX e ∧ ND A e s ∧ HG A e s t ∧ LST A e t) ∧ fI e 70 4 = s.1 8 ∧ KIc e s ∧ JUc A e s t := by
  obtain ⟨⟨hX, hN, hH, hL⟩, ⟨hc, h8⟩, hI, hJ1, hJ2, hJ3⟩ := h
  have h3 := hX.2.2.1
  have hk := hX.dk
  have yn : ∀ q, q ∈ r1Y → q ∉ ys := hy
  have k : ∀ i j, (i, j) ∈ r1Y → (i, j) ∉ ys := fun i j q => hy _ q
  have r : ∀ a, a ∈ r1R → a < 353 → ∀ z, rk a z ∉ rs := fun a ha hl z => by unfold rk; rw [if_pos hl]; exact hr a ha
  have e4 : fI e 65 4 = fI c 65 4 := hx.i (by omega) (by rw [hk.2.2.2.2]; exact k 4 4 (by decide))
  have e5 : fI e 65 5 = fI c 65 5 := hx.i (by omega) (by rw [hk.2.2.2.2]; exact k 4 5 (by decide))
  have e66 : aI e 66 = aI c 66 := hx.ai (by omega) (r 66 (by decide) (by decide) _)
  have e67 : aI e 67 = aI c 67 := hx.ai (by omega) (r 67 (by decide) (by decide) _)
  have e68 : aI e 68 = aI c 68 := hx.ai (by omega) (r 68 (by decide) (by decide) _)
  have e69 : aI e 69 = aI c 69 := hx.ai (by omega) (r 69 (by decide) (by decide) _)
  refine ⟨⟨hX.x hx hf ⟨hr 72 (by decide), hr 193 (by decide)⟩, hN.x hx (k 5 0 (by decide)) (k 5 1 (by decide)) (k 5 2 (by decide)) (k 5 3 (by decide)) (k 5 4 (by decide)), hH.x hN hS.m hX hx (k 5 5 (by decide)) (k 5 6 (by decide)) (k 8 1 (by decide)) ⟨hr 1103 (by decide), hr 74 (by decide)⟩, hL.x hN hS.m hX hx (k 5 7 (by decide)) (k 8 3 (by decide)) (hr 71 (by decide))⟩, ?_, hI.x hX hx (k 4 4 (by decide)) ⟨hr 66 (by decide), hr 67 (by decide), hr 68 (by decide), hr 69 (by decide)⟩, ?_, by rw [e5]; exact hJ2, fun x hx' => ?_⟩
  · rw [hx.i (a := 70) (by omega) (by rw [hk.2.1]; exact k 8 4 (by decide))]
    exact h8
  · unfold KJc
    rw [e4, e5, e66, e67, e68, e69]
    exact hJ1
  · have hb := hS.m x hx'
    obtain ⟨⟨n1, n2, n3, n4, n5, n6, n7, n8⟩, n9, n10⟩ := hN.2 x hb.1 hb.2
    have ke : ky (A x) (kl c (A x)) = 5 := by rw [ky5 n10, n1]
    have hlt : A x < nxt c := by omega
    have g := hJ3 x hx'
    unfold vkc ktc aKc at g ⊢
    unfold vkc ktc at g ⊢
    rw [hx.i hlt (y := 8) (by rw [ke]; exact k 5 8 (by decide)), hx.i hlt (y := 9) (by rw [ke]; exact k 5 9 (by decide)), hx.i hlt (y := 10) (by rw [ke]; exact k 5 10 (by decide)), e4, e5, e66, e67, e68]
    exact g
theorem R1.x (h : R1 A c s t) (hS : SHT s t) (hx : CX ys rs c e) (hy : ∀ q, q ∈ r1Y → q ∉ ys) (h82 : (8, 2) ∉ ys) (hf : ∀ q, q ∈ finF → q ∉ ys) (hr : ∀ a, a ∈ r1R → a ∉ rs) : R1 A e s t := by
  obtain ⟨g1, g2, g3⟩ := h.xa hS hx hy hf hr
  have hk := h.1.1.dk
  have h3 := h.1.1.2.2.1
  exact ⟨g1, ⟨by rw [hx.r (a := 70) (by omega) (by rw [hk.2.1]; exact h82)]; exact h.2.1.1, g2⟩, g3⟩
theorem R1.go {y : Int} (h : R1 A c s t) (hS : SHT s t) : R1 A (uR c 70 2 (A y)) (us s 16 y) t := by
  have hx : CX [(8, 2)] [] c (uR c 70 2 (A y)) := CX.rf.uR (fun _ => by rw [h.1.1.dk.2.1]; decide)
  obtain ⟨g1, g2, g3⟩ := h.xa hS hx (by decide) (by decide) (fun _ _ w => by cases w)
  exact ⟨g1, ⟨by rw [fR_uR, if_pos ⟨rfl, rfl⟩]; rfl, g2⟩, g3⟩
def fnY : List (Nat × Nat) := [(1, 14)]
theorem refC_x {f : Int} (h : FIX c) : CX fnY [198] c (refC c f) := by
  unfold refC
  have hk := h.dk
  exact (CX.rf.uI (fun _ => by rw [hk.1]; decide)).uA (fun _ => by unfold rk; rw [if_pos (by decide)]; decide)
theorem R1.ref {f : Int} (h : R1 A c s t) (hS : SHT s t) : R1 A (refC c f) s t := h.x hS (refC_x h.1.1) (by decide) (by decide) (by decide) (by decide)
theorem told_c {b k : Int} {F : Int → SC → Prop} (h1 : R1 A c s t) (hS : SHT s t) (hF : F (tldA s t b k) c) : ck iv L h0 (d + 1) 7 [vr 64, vi b, vi k] c (qi F) := by
  obtain ⟨d1, d2, d3, d4, d5⟩ := h1.1.1.dk
  refine C7 ⟨d1, by rw [d3]; exact d2, ?_⟩
  rw [d3]
  refine find_c h1 hS (fun hb => ⟨fun _ => ⟨d1, ?_⟩, fun w => absurd w (h1.1.2.1.ne (hS.m b hb)).1⟩) (fun hb => ⟨fun w => absurd rfl w, fun _ => ?_⟩)
  · have hbb := hS.m b hb
    obtain ⟨⟨n1, n2, n3, n4, n5, n6, n7, n8⟩, n9, n10⟩ := h1.1.2.1.2 b hbb.1 hbb.2
    obtain ⟨g1, g2, g3⟩ := h1.1.2.2.1.1 b hb
    have hj := (h1.2.2.2.2.2 b hb).2.2.1
    unfold tldA at hF
    rw [if_pos hb] at hF
    refine C48 ⟨fun q => ⟨n1, ?_⟩, fun q => ⟨n1, ?_⟩, fun q => ⟨n1, ?_⟩, fun q => ⟨n1, ?_⟩, fun q => ⟨n1, ?_⟩, fun q => ⟨n1, ?_⟩, fun q => ⟨n1, ?_⟩, fun q => ?_⟩
    · rw [if_pos q] at hF; rw [n5]; exact hF
    · rw [if_neg (by omega), if_pos q] at hF; rw [n8]; exact hF
    · rw [if_neg (by omega), if_neg (by omega), if_pos q] at hF; rw [n6]; exact hF
    · rw [if_neg (by omega), if_neg (by omega), if_neg (by omega), if_pos q] at hF
      rw [g1]
      by_cases w : b = hd t
      · have hu := hS.2.2.2.2.2.2.1
        rw [← w] at hu
        rw [hu] at hF ⊢
        have h2 : A (-9) = 2 := h1.1.2.1.1 (-9) (by omega)
        exact ⟨fun w' => absurd h2 w', fun _ => hF⟩
      · have hum := hS.m _ (hS.up9 hb w)
        obtain ⟨⟨m1, m2, m3, m4, -⟩, -⟩ := h1.1.2.1.2 _ hum.1 hum.2
        exact ⟨fun _ => ⟨m1, by rw [m4]; exact hF⟩, fun w' => absurd w' (h1.1.2.1.ne hum).1⟩
    · rw [if_neg (by omega), if_neg (by omega), if_neg (by omega), if_neg (by omega), if_pos q] at hF
      rw [g1]
      by_cases w : b = hd t
      · have hu := hS.2.2.2.2.2.2.1
        have hp := hS.2.2.2.2.2.2.2
        rw [← w] at hu hp
        rw [hu]
        rw [hp] at hF
        have h2 : A (-9) = 2 := h1.1.2.1.1 (-9) (by omega)
        exact ⟨fun w' => absurd h2 w', fun _ => hF⟩
      · have hum := hS.m _ (hS.up9 hb w)
        exact ⟨fun _ => by rw [g2 w]; exact hF, fun w' => absurd w' (h1.1.2.1.ne hum).1⟩
    · rw [if_neg (by omega), if_neg (by omega), if_neg (by omega), if_neg (by omega), if_neg (by omega), if_pos q] at hF
      rw [n7, n2, n3]
      exact ⟨by omega, hF⟩
    · rw [if_neg (by omega), if_neg (by omega), if_neg (by omega), if_neg (by omega), if_neg (by omega), if_neg (by omega), if_pos q] at hF
      rw [hj]; exact hF
    · rw [if_neg (by omega), if_neg (by omega), if_neg (by omega), if_neg (by omega), if_neg (by omega), if_neg (by omega), if_neg (by omega)] at hF
      exact hF
  · unfold tldA at hF
    rw [if_neg hb] at hF
    exact hF
theorem part_c {b i : Int} {F : Int → SC → Prop} (h1 : R1 A c s t) (hS : SHT s t) (hr : 0 ≤ aI c 198 2 ∧ aI c 198 2 ≤ 600) (hF : F (parA s t b i) (if b ∈ fl t ∧ ¬ (0 ≤ i ∧ i < pO (s.2 9 b)) then refC c 2 else c)) : ck iv L h0 (d + 1) 8 [vr 64, vi b, vi i] c (qi F) := by
  obtain ⟨d1, d2, d3, d4, d5⟩ := h1.1.1.dk
  refine C8 ⟨d1, by rw [d3]; exact d2, ?_⟩
  rw [d3]
  unfold parA at hF
  refine find_c h1 hS (fun hb => ⟨fun _ => ?_, fun w => absurd w (h1.1.2.1.ne (hS.m b hb)).1⟩) (fun hb => ⟨fun w => absurd rfl w, fun _ => ?_⟩)
  · have hbb := hS.m b hb
    obtain ⟨⟨n1, n2, n3, n4, n5, n6, n7, n8⟩, n9, n10⟩ := h1.1.2.1.2 b hbb.1 hbb.2
    rw [if_pos hb] at hF
    refine ⟨n1, hasPart_c h1.1.2.1 hbb (fun q => ⟨fun w => absurd w (by decide), fun _ => ?_⟩) (fun q => ⟨fun _ => ⟨d1, refuse_c h1.1.1 (by decide) hr ?_⟩, fun w => absurd rfl w⟩)⟩
    · rw [if_pos q, if_neg (fun w => w.2 q)] at hF
      have hm := hS.m _ ((AT_mem t hS.1 b hb).2.2.1 i q.1 q.2 (fun w => by have := hS.2.1; unfold full at this; rw [this, ← w]; exact q.2)).1
      obtain ⟨⟨m1, m2, m3, m4, -⟩, -⟩ := h1.1.2.1.2 _ hm.1 hm.2
      rw [n7, n2, n3, (h1.1.2.2.1.1 b hb).2.2 i q.1 q.2, m4]
      exact ⟨n1, rfl, q, m1, hF⟩
    · rw [if_neg q, if_pos ⟨hb, q⟩] at hF
      exact hF
  · rw [if_neg hb, if_neg (fun w => hb w.1)] at hF
    exact hF
theorem seek_c {b : Int} {F : Int → SC → Prop} (h1 : R1 A c s t) (hS : SHT s t) (hF : ∀ e, R1 A e (seeU s t b) t → CX [(8, 2)] [] c e → RMk 0 0 c e → F (seeA t b) e) : ck iv L h0 (d + 1) 12 [vr 64, vi b] c (qi F) := by
  obtain ⟨d1, d2, d3, d4, d5⟩ := h1.1.1.dk
  have hx : CX [(8, 2)] [] c (uR c 70 2 (A b)) := CX.rf.uR (fun _ => by rw [d2]; decide)
  refine C12 ⟨d1, by rw [d3]; exact d2, ?_⟩
  rw [d3]
  unfold seeU seeA at hF
  refine find_c h1 hS (fun hb => ⟨fun _ => ⟨d1, by rw [d3]; exact d2, ?_⟩, fun w => absurd w (h1.1.2.1.ne (hS.m b hb)).1⟩) (fun hb => ⟨fun w => absurd rfl w, fun _ => ?_⟩)
  · rw [if_pos hb, if_pos hb] at hF
    rw [d3]
    exact hF _ (h1.go hS) hx RMk.rf
  · rw [if_neg hb, if_neg hb] at hF
    exact hF c h1 CX.rf RMk.rf
end
section
variable {iv : List (Int × Int)} {L : Nat} {h0 : MH} {A A' : Int → Nat} {c e : SC} {s s' w : SM} {t : Term} {d : Nat}
/-- what go() comes to, as a cell -/
theorem beside_c {z : Int} {F : Nat → SC → Prop} (h1 : R1 A c s t) (hT : AFT s t) (hz : z = 1 ∨ z = -1) (hu : s.2 12 (s.1 16) ≠ -9) (hF : F (A (besA s z)) c) : ck iv L h0 (d + 1) 212 [vr 70, vr (A (s.2 12 (s.1 16))), vi (s.2 13 (s.1 16) + z)] c (qa F) := by
  have hS := hT.1
  have hne : s.1 16 ≠ hd t := fun w => hu (by rw [w]; exact hS.2.2.2.2.2.2.1)
  have hum := hS.up9 hT.2.2 hne
  have hub := hS.m _ hum
  obtain ⟨⟨n1, n2, n3, n4, n5, n6, n7, n8⟩, n9, n10⟩ := h1.1.2.1.2 _ hub.1 hub.2
  have h2 : A (-9) = 2 := h1.1.2.1.1 (-9) (by omega)
  unfold besA at hF
  rw [if_neg hu] at hF
  refine C212 ⟨n1, hasPart_c h1.1.2.1 hub (fun q => ⟨fun w => absurd w (by decide), fun _ => ⟨n1, ?_⟩⟩) (fun q => ⟨fun _ => ?_, fun w => absurd rfl w⟩)⟩
  · rw [if_pos q] at hF
    rw [n7, n2, n3, (h1.1.2.2.1.1 _ hum).2.2 _ q.1 q.2]
    exact ⟨rfl, q, hF⟩
  · rw [if_neg q, h2] at hF
    exact hF
theorem behind_c {F : Nat → SC → Prop} (h1 : R1 A c s t) (hT : AFT s t) (hF : F (A (bhd (isH s) (s.1 16) (fl t) false)) c) : ck iv L h0 d 213 [vr 70, vr (A (s.1 16))] c (qa F) := by
  have hS := hT.1
  obtain ⟨k1, k2, k3, k4⟩ := h1.1.1.or
  have h2 : A (-9) = 2 := h1.1.2.1.1 (-9) (by omega)
  have hsz := h1.1.2.2.2.1
  have hll := hS.2.2.2.1
  have key : ∀ (m p : List Int), fl t = p ++ m → bhd (isH s) (s.1 16) m true = bhd (isH s) (s.1 16) (fl t) false → wk iv L h0 d 213 7 [lr 70, ln, li p.length] [] c (qa F) := by
    intro m
    induction m with
    | nil =>
      intro p hp hb
      rw [← hb] at hF
      rw [show bhd (isH s) (s.1 16) [] true = -9 from rfl, h2] at hF
      rw [List.append_nil] at hp
      refine C213_7 ⟨k1, fun _ => hF, fun q => ?_⟩
      rw [hp] at hsz
      omega
    | cons x m ih =>
      intro p hp hb
      obtain ⟨o1, o2, o3, o4, o5, o6, o7, o8⟩ := R1.ord h1.1 hS hp
      rw [bhd_c] at hb
      refine C213_7 ⟨k1, fun q => by omega, fun _ => ?_⟩
      rw [k2, k3, k4, o4, o6, o7]
      refine ⟨rfl, by omega, rfl, fun q => ⟨by omega, ?_⟩, fun q => ?_⟩
      · have hx : isH s x = false := by unfold isH; exact decide_eq_false q
        rw [hx] at hb
        have := ih (p ++ [x]) (by rw [hp]; simp) (by simpa using hb)
        rw [List.length_append] at this
        simp only [List.length_cons, List.length_nil] at this
        push_cast at this
        exact this
      · have hx : isH s x = true := by unfold isH; exact decide_eq_true q
        rw [hx] at hb
        rw [← hb] at hF
        exact hF
  obtain ⟨p, m, hpm⟩ := List.append_of_mem hT.2.2
  obtain ⟨o1, o2, o3, o4, o5, o6, o7, o8⟩ := R1.ord h1.1 hS hpm
  have hnd := hS.2.2.1
  have skip : ∀ (q : List Int), s.1 16 ∉ q → bhd (isH s) (s.1 16) (q ++ s.1 16 :: m) false = bhd (isH s) (s.1 16) m true := by
    intro q
    induction q with
    | nil => intro _; simp [bhd_c]
    | cons y q ih =>
      intro hq
      simp only [List.mem_cons, not_or] at hq
      rw [List.cons_append, bhd_c]
      have : decide (y = s.1 16) = false := decide_eq_false (fun w => hq.1 w.symm)
      rw [this]
      simpa using ih hq.2
  have hcp : s.1 16 ∉ p := fun w => by
    rw [hpm] at hnd
    exact (List.nodup_append.mp hnd).2.2 _ w _ (List.mem_cons_self) rfl
  refine C213 ⟨o6, by rw [o5]; omega, ?_⟩
  rw [o5]
  have := key m (p ++ [s.1 16]) (by rw [hpm]; simp) (by rw [hpm, skip p hcp])
  rw [List.length_append] at this
  simp only [List.length_cons, List.length_nil] at this
  push_cast at this
  exact this
theorem go_c {k : Int} {F : Int → SC → Prop} (h1 : R1 A c s t) (hT : AFT s t) (hD : 3 ≤ d) (hF : ∀ e, R1 A e (goU s t k) t → CX [(8, 2)] [] c e → RMk 0 0 c e → F (goA s t k) e) : ck iv L h0 d 11 [vr 64, vi k] c (qi F) := by
  obtain ⟨d, rfl⟩ : ∃ k, d = k + 1 + 1 + 1 := ⟨d - 3, by omega⟩
  have hS := hT.1
  obtain ⟨⟨d1, d2, d3, d4, d5⟩, e1, e2, e3, e4, e5, e6⟩ := h1.cur hT
  have hcb := hS.m _ hT.2.2
  have h2 : A (-9) = 2 := h1.1.2.1.1 (-9) (by omega)
  obtain ⟨⟨n1, n2, n3, n4, n5, n6, n7, n8⟩, n9, n10⟩ := h1.1.2.1.2 _ hcb.1 hcb.2
  obtain ⟨g1, g2, g3⟩ := h1.1.2.2.1.1 _ hT.2.2
  refine C11 ⟨fun q => ?_, fun q => ⟨fun q2 => ⟨d1, by rw [d3]; exact d2, ?_⟩, fun q2 => ?_⟩⟩
  · have : goA s t k = -1 := by unfold goA; rw [if_neg (by omega)]
    rw [← this]
    exact hF c (by unfold goU; rw [if_neg (by omega)]; exact h1) CX.rf RMk.rf
  · rw [d3]
    have hG : ∀ y, goG s t k = y → (y = -9 ∨ y ∈ fl t) → (A y ≠ 2 → kl c 64 = 1 ∧ kl c (fR c 64 1) = 8 ∧ kl c (A y) = 5 ∧ F (fI c (A y) 0) (uR c (fR c 64 1) 2 (A y))) ∧ (A y = 2 → F (-4) c) := fun y hy hm => by
      have hx : CX [(8, 2)] [] c (uR c 70 2 (A y)) := CX.rf.uR (fun _ => by rw [d2]; decide)
      refine ⟨fun w => ?_, fun w => ?_⟩
      · have h9 : y ≠ -9 := fun w' => w (by rw [w', h2])
        have hyt : y ∈ fl t := by rcases hm with q | q; · exact absurd q h9
                                  · exact q
        have hyb := hS.m _ hyt
        obtain ⟨⟨m1, m2, m3, m4, -⟩, -⟩ := h1.1.2.1.2 _ hyb.1 hyb.2
        refine ⟨d1, by rw [d3]; exact d2, m1, ?_⟩
        rw [m4, d3]
        have ha : goA s t k = y := by unfold goA; rw [if_pos (by omega), hy, if_neg h9]
        rw [← ha]
        refine hF _ ?_ (by rw [ha]; exact hx) RMk.rf
        unfold goU
        rw [hy, if_pos ⟨by omega, h9⟩, ha]
        exact h1.go hS
      · have h9 : y = -9 := by
          rcases hm with q | q
          · exact q
          · exact absurd w (h1.1.2.1.ne (hS.m _ q)).1
        have ha : goA s t k = -4 := by unfold goA; rw [if_pos (by omega), hy, if_pos h9]
        rw [← ha]
        refine hF c ?_ CX.rf RMk.rf
        unfold goU
        rw [hy, if_neg (fun w' => w'.2 h9)]
        exact h1
    have hup : s.2 12 (s.1 16) = -9 ∨ s.2 12 (s.1 16) ∈ fl t := by
      by_cases w : s.1 16 = hd t
      · left; rw [w]; exact hS.2.2.2.2.2.2.1
      · right; exact hS.up9 hT.2.2 w
    have hkid : ∀ x i, x ∈ fl t → 0 ≤ i → i < pO (s.2 9 x) → s.2 14 (3 * x + i) ∈ fl t := fun x i hx i0 i1 => ((AT_mem t hS.1 x hx).2.2.1 i i0 i1 (fun w => by have := hS.2.1; unfold full at this; rw [this, ← w]; exact i1)).1
    have upb : s.2 12 (s.1 16) ≠ -9 → s.1 16 ≠ hd t := fun w w' => w (by rw [w']; exact hS.2.2.2.2.2.2.1)
    have hbes : ∀ z, besA s z = -9 ∨ besA s z ∈ fl t := fun z => by
      unfold besA
      by_cases w : s.2 12 (s.1 16) = -9
      · rw [if_pos w]; exact Or.inl rfl
      · rw [if_neg w]
        by_cases w2 : 0 ≤ s.2 13 (s.1 16) + z ∧ s.2 13 (s.1 16) + z < pO (s.2 9 (s.2 12 (s.1 16)))
        · rw [if_pos w2]; exact Or.inr (hkid _ _ (hS.up9 hT.2.2 (upb w)) w2.1 w2.2)
        · rw [if_neg w2]; exact Or.inl rfl
    refine C211 ⟨d2, by rw [e1]; exact n1, ?_⟩
    rw [e1, g1]
    have upn : A (s.2 12 (s.1 16)) ≠ 2 → s.2 12 (s.1 16) ≠ -9 := fun w w' => w (by rw [w', h2])
    have up2 : A (s.2 12 (s.1 16)) = 2 → s.2 12 (s.1 16) = -9 := fun w => by
      rcases hup with q | q
      · exact q
      · exact absurd w (h1.1.2.1.ne (hS.m _ q)).1
    have side : ∀ z, (z = 1 ∨ z = -1) → goG s t k = besA s z → (A (s.2 12 (s.1 16)) ≠ 2 → fI c (A (s.1 16)) 6 = s.2 13 (s.1 16) ∧ 0 ≤ s.2 13 (s.1 16) ∧ s.2 13 (s.1 16) < 3) := fun z _ _ w => by
      have hn := upn w
      have := pl_in hS hT.2.2 hn
      have := pO_in (s.2 9 (s.2 12 (s.1 16)))
      exact ⟨g2 (upb hn), by omega, by omega⟩
    have side2 : ∀ z, goG s t k = besA s z → A (s.2 12 (s.1 16)) = 2 → goG s t k = -9 := fun z q w => by
      rw [q]; unfold besA; rw [if_pos (up2 w)]
    refine ⟨fun q => ?_, fun q => ?_, fun q => ?_, fun q => ?_, fun q => ?_, fun q => ?_⟩
    · exact hG _ (by unfold goG; rw [if_pos q]) hup
    · have hk : goG s t k = if 0 < pO (s.2 9 (s.1 16)) then s.2 14 (3 * s.1 16) else -9 := by unfold goG; rw [if_neg (by omega), if_pos q]
      refine C212 ⟨n1, hasPart_c h1.1.2.1 hcb (fun w => ⟨fun w' => absurd w' (by decide), fun _ => ⟨n1, ?_⟩⟩) (fun w => ⟨fun _ => ?_, fun w' => absurd rfl w'⟩)⟩
      · rw [n7, n2, n3, g3 0 w.1 w.2, Int.add_zero]
        rw [if_pos w.2] at hk
        have := hkid _ 0 hT.2.2 w.1 w.2
        rw [Int.add_zero] at this
        exact ⟨rfl, w, hG _ hk (Or.inr this)⟩
      · rw [if_neg (by omega)] at hk
        have := hG _ hk (Or.inl rfl)
        rw [h2] at this
        exact this
    · have hk : goG s t k = besA s 1 := by unfold goG; rw [if_neg (by omega), if_neg (by omega), if_pos q]
      refine ⟨fun w => ?_, fun w => ?_⟩
      · obtain ⟨p1, p2, p3⟩ := side 1 (Or.inl rfl) hk w
        rw [p1]
        exact ⟨by omega, beside_c h1 hT (Or.inl rfl) (upn w) (hG _ hk (hbes 1))⟩
      · have := hG _ (side2 1 hk w) (Or.inl rfl)
        rw [h2] at this
        exact this
    · have hk : goG s t k = besA s (-1) := by unfold goG; rw [if_neg (by omega), if_neg (by omega), if_neg (by omega), if_pos q]
      refine ⟨fun w => ?_, fun w => ?_⟩
      · obtain ⟨p1, p2, p3⟩ := side (-1) (Or.inr rfl) hk w
        rw [p1]
        exact ⟨by omega, beside_c (z := -1) h1 hT (Or.inr rfl) (upn w) (hG _ hk (hbes (-1)))⟩
      · have := hG _ (side2 (-1) hk w) (Or.inl rfl)
        rw [h2] at this
        exact this
    · have hk : goG s t k = bhd (isH s) (s.1 16) (fl t) false := by unfold goG; rw [if_neg (by omega), if_neg (by omega), if_neg (by omega), if_neg (by omega), if_pos q]
      exact behind_c h1 hT (hG _ hk ((bhd_in (isH s) (s.1 16) (fl t) false).imp id (fun w => w.1)))
    · have hk : goG s t k = s.1 15 := by unfold goG; rw [if_neg (by omega), if_neg (by omega), if_neg (by omega), if_neg (by omega), if_neg (by omega)]
      rw [h1.1.2.2.1.2]
      exact hG _ (by rw [hk, ← hS.2.2.2.2.2.1]) (Or.inr (hd_mem t hS.1))
  · have : goA s t k = -1 := by unfold goA; rw [if_neg (by omega)]
    rw [← this]
    exact hF c (by unfold goU; rw [if_neg (by omega)]; exact h1) CX.rf RMk.rf
end

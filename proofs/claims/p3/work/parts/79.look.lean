/-! More of what the reference tells; the cursor; the box. -/
def holA (s : SM) (t : Term) (i f : Int) : Int := nthp (if f = 0 then isH s else isF (jdg s t)) (fl t) i
def besA (s : SM) (z : Int) : Int := if s.2 12 (s.1 16) = -9 then -9 else if 0 ≤ s.2 13 (s.1 16) + z ∧ s.2 13 (s.1 16) + z < pO (s.2 9 (s.2 12 (s.1 16))) then s.2 14 (3 * s.2 12 (s.1 16) + (s.2 13 (s.1 16) + z)) else -9
def goG (s : SM) (t : Term) (k : Int) : Int := if k = 0 then s.2 12 (s.1 16) else if k = 1 then (if 0 < pO (s.2 9 (s.1 16)) then s.2 14 (3 * s.1 16) else -9) else if k = 2 then besA s 1 else if k = 3 then besA s (-1) else if k = 4 then bhd (isH s) (s.1 16) (fl t) false else s.1 15
def goA (s : SM) (t : Term) (k : Int) : Int := if 0 ≤ k ∧ k ≤ 5 then (if goG s t k = -9 then -4 else goG s t k) else -1
def goU (s : SM) (t : Term) (k : Int) : SM := if (0 ≤ k ∧ k ≤ 5) ∧ goG s t k ≠ -9 then us s 16 (goG s t k) else s
def seeA (t : Term) (b : Int) : Int := if b ∈ fl t then 1 else -1
def seeU (s : SM) (t : Term) (b : Int) : SM := if b ∈ fl t then us s 16 b else s
theorem bhd_c (P : Int → Bool) (c x : Int) (r : List Int) (q : Bool) : bhd P c (x :: r) q = if q && P x then x else bhd P c r (q || decide (x = c)) := rfl
theorem bhd_in (P : Int → Bool) (c : Int) : ∀ (l : List Int) (q : Bool), bhd P c l q = -9 ∨ (bhd P c l q ∈ l ∧ P (bhd P c l q) = true) := by
  intro l
  induction l with
  | nil => intro q; exact Or.inl rfl
  | cons x r ih =>
    intro q
    unfold bhd
    by_cases e : (q && P x) = true
    · rw [if_pos e]
      simp at e
      exact Or.inr ⟨List.mem_cons_self .., e.2⟩
    · rw [if_neg e]
      exact (ih _).imp id (fun h => ⟨List.mem_cons_of_mem _ h.1, h.2⟩)
section
variable {iv : List (Int × Int)} {L : Nat} {h0 : MH} {s : SM} {t : Term} {d : Nat}
theorem SHT.fl80 (h : SHT s t) {p m : List Int} {x : Int} (e : fl t = p ++ x :: m) : (p.length : Int) < 80 ∧ x ∈ fl t := by
  have := h.2.2.2.1
  rw [e] at this ⊢
  simp at this ⊢
  omega
theorem hole_ok {i f : Int} {F : Int → SM → Prop} (h : SHT s t) (hN : NB s) (hK : KIs s) (hD : 240 ≤ d) (hF : ∀ w, SX [] [] s w → F (holA s t i f) w) : cm iv L h0 d 98 [vr 307, vi i, vi f] s (qi F) := by
  obtain ⟨d, rfl⟩ : ∃ k, d = k + 1 := ⟨d - 1, by omega⟩
  refine wc_ok (fun hok _ => ?_)
  have hi : inR i := hok (vi i) (by simp)
  unfold inR at hi
  refine B98 (jl_ok h hN hK (by omega) (by omega) (fun w hw => ?_))
  obtain ⟨w1, w2, w3, w4, -⟩ := hw
  have h2 := hF w w2
  have e9 : w.2 9 = s.2 9 := w1.2 9 (by decide)
  have key : ∀ (m p : List Int) (k : Int), fl t = p ++ m → 0 ≤ k → k ≤ 2147483647 → (0 ≤ i → holA s t i f = nthp (if f = 0 then isH s else isF (jdg s t)) m k) → wm iv L h0 (d + 1) 98 13 [lr 307, li i, li f, li k, li p.length] [] w (qi F) := by
    intro m
    induction m with
    | nil =>
      intro p k e k0 k1 hk
      have := LR_nil w3 e
      refine B98_13 ⟨fun _ => ?_, fun q => by omega⟩
      by_cases hi0 : 0 ≤ i
      · rw [hk hi0] at h2; exact h2
      · rw [holA, nthp_neg _ _ _ (by omega)] at h2; exact h2
    | cons x m ih =>
      intro p k e k0 k1 hk
      obtain ⟨c1, c2⟩ := LR_cons w3 e
      obtain ⟨c3, hx⟩ := h.fl80 e
      have hlt := h.lt hx
      have e' := e
      rw [app1] at e'
      have e1 : ((p ++ [x]).length : Int) = p.length + 1 := by simp
      refine B98_13 ⟨fun q => by omega, fun _ => ⟨fun q => ?_, fun q => ?_⟩⟩
      · rw [holA, nthp_neg _ _ _ q] at h2; exact h2
      have hk := hk q
      unfold nthp at hk
      have go1 : (if f = 0 then isH s else isF (jdg s t)) x = false → wm iv L h0 (d + 1) 98 13 [lr 307, li i, li f, li k, li (p.length + 1)] [] w (qi F) := fun c => by
        rw [c, if_neg (by decide)] at hk
        have := ih (p ++ [x]) k e' k0 k1 (fun _ => hk)
        rw [e1] at this
        exact this
      have go2 : (if f = 0 then isH s else isF (jdg s t)) x = true → k ≠ 0 → wm iv L h0 (d + 1) 98 13 [lr 307, li i, li f, li (k - 1), li (p.length + 1)] [] w (qi F) := fun c kn => by
        rw [c, if_pos rfl, if_neg kn] at hk
        have := ih (p ++ [x]) (k - 1) e' (by omega) (by omega) (fun _ => hk)
        rw [e1] at this
        exact this
      have go3 : (if f = 0 then isH s else isF (jdg s t)) x = true → k = 0 → F x w := fun c kn => by
        rw [c, if_pos rfl, if_pos kn] at hk
        rw [hk] at h2
        exact h2
      rw [c1]
      refine ⟨fun hf => ⟨by omega, by omega, fun c => ⟨by omega, go1 ?_⟩, fun c => ⟨fun kn => ⟨by omega, by omega, go2 ?_ kn⟩, fun kn => go3 ?_ kn⟩⟩, fun hf => ⟨by omega, by omega, fun c => ⟨by omega, go1 ?_⟩, fun c => ⟨fun kn => ⟨by omega, by omega, go2 ?_ kn⟩, fun kn => go3 ?_ kn⟩⟩⟩
      · rw [if_pos hf]; rw [e9] at c; exact decide_eq_false c
      · rw [if_pos hf]; rw [e9] at c; exact decide_eq_true c
      · rw [if_pos hf]; rw [e9] at c; exact decide_eq_true c
      · rw [if_neg hf]; rw [(w4 x hx).1] at c; exact decide_eq_false (by omega)
      · rw [if_neg hf]; rw [(w4 x hx).1] at c; exact decide_eq_true c
      · rw [if_neg hf]; rw [(w4 x hx).1] at c; exact decide_eq_true c
  by_cases hi0 : 0 ≤ i
  · exact key (fl t) [] i rfl hi0 hi.2 (fun _ => rfl)
  · refine B98_13 ⟨fun _ => ?_, fun _ => ⟨fun _ => ?_, fun q => by omega⟩⟩
    · rw [holA, nthp_neg _ _ _ (by omega)] at h2; exact h2
    · rw [holA, nthp_neg _ _ _ (by omega)] at h2; exact h2
theorem holeBehind_ok {F : Int → SM → Prop} (h : SHT s t) (hD : 240 ≤ d) (hF : ∀ w, eqx [18] [17] s w → F (bhd (isH s) (s.1 16) (fl t) false) w) : cm iv L h0 d 104 [vr 307] s (qi F) := by
  obtain ⟨d, rfl⟩ : ∃ k, d = k + 1 := ⟨d - 1, by omega⟩
  refine B104 (layAll_ok h (by omega) (fun w h1 w3 => ?_))
  have h2 := hF w h1
  have e9 : w.2 9 = s.2 9 := h1.2 9 (by decide)
  have e16 : w.1 16 = s.1 16 := h1.1 16 (by decide)
  have key : ∀ (m p : List Int) (q : Bool), fl t = p ++ m → bhd (isH s) (s.1 16) (fl t) false = bhd (isH s) (s.1 16) m q → wm iv L h0 (d + 1) 104 8 [lr 307, li (if q then 1 else 0), li p.length] [] w (qi F) := by
    intro m
    induction m with
    | nil =>
      intro p q e hk
      have := LR_nil w3 e
      refine B104_8 ⟨fun _ => ?_, fun q => by omega⟩
      rw [hk] at h2; exact h2
    | cons x m ih =>
      intro p q e hk
      obtain ⟨c1, c2⟩ := LR_cons w3 e
      obtain ⟨c3, hx⟩ := h.fl80 e
      have hlt := h.lt hx
      have e' := e
      rw [app1] at e'
      have e1 : ((p ++ [x]).length : Int) = p.length + 1 := by simp
      rw [bhd_c] at hk
      refine B104_8 ⟨fun q => by omega, fun _ => ⟨fun q0 => ?_, fun q0 => ?_⟩⟩
      · cases q with
        | true => cases q0
        | false =>
          rw [if_neg (by simp)] at hk
          refine ⟨fun c => absurd rfl c, fun _ => ⟨by omega, fun c => ⟨by omega, ?_⟩, fun c => ⟨by omega, ?_⟩⟩⟩
          · have := ih (p ++ [x]) false e' (by rw [hk, show (false || decide (x = s.1 16)) = false from by rw [← e16]; simp; omega])
            rw [e1] at this
            exact this
          · have := ih (p ++ [x]) true e' (by rw [hk, show (false || decide (x = s.1 16)) = true from by rw [← e16]; simp; omega])
            rw [e1] at this
            exact this
      · cases q with
        | false => exact absurd rfl q0
        | true =>
          rw [c1, e9]
          refine ⟨by omega, by omega, fun c => ⟨fun _ => ⟨by omega, ?_⟩, fun c => by cases c⟩, fun c => ?_⟩
          · rw [if_neg (by simp [isH, c])] at hk
            have := ih (p ++ [x]) true e' (by rw [hk]; rfl)
            rw [e1] at this
            exact this
          · rw [if_pos (by simp [isH, c])] at hk
            rw [hk] at h2
            exact h2
  exact key (fl t) [] false rfl rfl
theorem goneTo_ok {b : Int} {F : Int → SM → Prop} (H1 : b ≠ -9 → F b (us s 16 b)) (H2 : b = -9 → F (-4) s) : cm iv L h0 d 102 [vr 307, vi b] s (qi F) := B102 ⟨H1, H2⟩
theorem besides_ok {z : Int} {F : Int → SM → Prop} (h : SHT s t) (hc : s.1 16 ∈ fl t) (hz : z = 1 ∨ z = -1) (H : F (besA s z) s) : cm iv L h0 (d + 1) 103 [vr 307, vi z] s (qi F) := by
  have hlt := h.lt hc
  have m := AT_mem t h.1 _ hc
  unfold besA at H
  refine B103 ⟨by omega, fun e => ?_, fun e => ?_⟩
  · have hne : s.1 16 ≠ hd t := fun q => e (by rw [q]; exact h.2.2.2.2.2.2.1)
    obtain ⟨u1, u2, u3⟩ := m.2.2.2 hne
    have ul := h.lt u1
    have mu := (AT_mem t h.1 _ u1).2.1
    have hp := pO_in (s.2 9 (s.2 12 (s.1 16)))
    rw [if_neg e] at H
    refine ⟨by omega, fun q => absurd q e, fun _ => ⟨by omega, mu, by omega, fun q => ⟨by omega, by omega, by omega, ?_⟩, fun q => ?_⟩⟩
    · rw [if_pos ⟨q.1, by omega⟩] at H; exact H
    · rw [if_neg (by omega)] at H; exact H
  · rw [if_pos e] at H
    exact ⟨fun _ => H, fun q => absurd e q⟩
theorem go_ok {k : Int} {F : Int → SM → Prop} (h : SHT s t) (hc : s.1 16 ∈ fl t) (hD : 300 ≤ d) (hF : ∀ w, SX [] [] (goU s t k) w → F (goA s t k) w) : cm iv L h0 d 105 [vr 307, vi k] s (qi F) := by
  obtain ⟨d, rfl⟩ : ∃ k, d = k + 2 := ⟨d - 2, by omega⟩
  have hlt := h.lt hc
  have m := AT_mem t h.1 _ hc
  have fin : ∀ w, SX [] [] s w → 0 ≤ k ∧ k ≤ 5 → ∀ g, g = goG s t k → cm iv L h0 (d + 1) 102 [vr 307, vi g] w (qi fun r w => F r w) := fun w hw hk g hg => by
    subst hg
    refine goneTo_ok (fun e => ?_) (fun e => ?_)
    · have := hF (us w 16 (goG s t k)) (by rw [goU, if_pos ⟨hk, e⟩]; exact hw.us)
      rw [goA, if_pos hk, if_neg e] at this
      exact this
    · have := hF w (by rw [goU, if_neg (fun q => q.2 e)]; exact hw)
      rw [goA, if_pos hk, if_pos e] at this
      exact this
  refine B105 ⟨fun e => ⟨by omega, fin s SX.rf (by omega) _ ?_⟩, fun e => ⟨by omega, m.2.1, fun q => fin s SX.rf (by omega) _ ?_, fun q => ⟨by omega, by omega, fin s SX.rf (by omega) _ ?_⟩⟩, fun e => besides_ok h hc (Or.inl rfl) (fin s SX.rf (by omega) _ ?_), fun e => besides_ok h hc (Or.inr rfl) (fin s SX.rf (by omega) _ ?_), fun e => holeBehind_ok h (by omega) (fun w hw => fin w (SX_lay hw) (by omega) _ ?_), fun e => fin s SX.rf (by omega) _ ?_, fun e => ?_⟩
  · subst e; rfl
  · subst e; show _ = if 0 < pO _ then _ else _; rw [if_neg (by omega)]
  · subst e; show _ = if 0 < pO _ then _ else _; rw [if_pos (by omega)]
  · subst e; rfl
  · subst e; rfl
  · subst e; rfl
  · subst e; rfl
  · have := hF s (by rw [goU, if_neg (by omega)]; exact SX.rf)
    rw [goA, if_neg (by omega)] at this
    exact this
theorem seek_ok {b : Int} {F : Int → SM → Prop} (h : SHT s t) (hD : 300 ≤ d) (hF : ∀ w, SX [] [] (seeU s t b) w → F (seeA t b) w) : cm iv L h0 d 106 [vr 307, vi b] s (qi F) := by
  obtain ⟨d, rfl⟩ : ∃ k, d = k + 1 := ⟨d - 1, by omega⟩
  refine B106 (isThere_ok h (by omega) (fun w h1 h2 => ⟨fun e => ?_, fun e => ?_⟩))
  · have hb : b ∈ fl t := Classical.byContradiction fun q => by rw [if_neg q] at e; exact e rfl
    have := hF (us w 16 b) (by rw [seeU, if_pos hb]; exact (SX_lay h1).us)
    rw [seeA, if_pos hb] at this
    exact this
  · have hb : b ∉ fl t := fun q => by rw [if_pos q] at e; cases e
    have := hF w (by rw [seeU, if_neg hb]; exact SX_lay h1)
    rw [seeA, if_neg hb] at this
    exact this
/-- the box -/
def BX (s : SM) : Prop := (0 ≤ s.1 71 ∧ s.1 71 ≤ 8) ∧ ∀ i, 0 ≤ i → i < 8 → 0 ≤ s.2 72 i ∧ s.2 72 i ≤ s.1 8
def boxA (n : Int) : Int := if 8 < n then -1 else if n < 0 then -3 else n
def zbx (s : SM) : SM := (s.1, fun k j => if k = 72 ∧ 0 ≤ j ∧ j < 8 then 0 else s.2 k j)
def boxU (s : SM) (n : Int) : SM := if 8 < n then s else if n < 0 then mtU s 5 else zbx (us s 71 n)
theorem box_ok {c n : Int} {F : Int → SM → Prop} (hc : CM c s) (hn : c ≤ 600) (H : F (boxA n) (boxU s n)) : cm iv L h0 (d + 1) 151 [vr 307, vi n] s (qi F) := by
  unfold boxA boxU at H
  refine B151 ⟨fun a => ⟨fun b => ?_, fun b => meets_ok hc hn (by decide) (by simp only [if_neg (show ¬ 8 < n by omega), if_pos b] at H; exact H)⟩, fun a => by simp only [if_pos a] at H; exact H⟩
  simp only [if_neg (show ¬ 8 < n by omega), if_neg (show ¬ n < 0 by omega)] at H
  have key : ∀ (m : Nat) (k : Int), 0 ≤ k → k ≤ 8 → (8 - k).toNat = m → wm iv L h0 (d + 1) 151 25 [lr 307, li n, li k] [] ((us s 71 n).1, fun y j => if y = 72 ∧ 0 ≤ j ∧ j < k then 0 else s.2 y j) (qi F) := by
    intro m
    induction m with
    | zero =>
      intro k k0 k8 hm
      obtain rfl : k = 8 := by omega
      exact B151_25 ⟨fun _ => H, fun q => by omega⟩
    | succ m ih =>
      intro k k0 k8 hm
      refine B151_25 ⟨fun q => by omega, fun q => ⟨by omega, by omega, ?_⟩⟩
      have := ih (k + 1) (by omega) (by omega) (by omega)
      refine (show ua ((us s 71 n).1, fun y j => if y = 72 ∧ 0 ≤ j ∧ j < k then 0 else s.2 y j) 72 k 0 = ((us s 71 n).1, fun y j => if y = 72 ∧ 0 ≤ j ∧ j < k + 1 then 0 else s.2 y j) from ?_) ▸ this
      unfold ua
      congr 1
      funext y j
      show (if y = 72 ∧ j = k then 0 else if y = 72 ∧ 0 ≤ j ∧ j < k then 0 else s.2 y j) = if y = 72 ∧ 0 ≤ j ∧ j < k + 1 then 0 else s.2 y j
      by_cases e1 : y = 72 ∧ 0 ≤ j ∧ j < k + 1
      · rw [if_pos e1]
        by_cases e2 : y = 72 ∧ j = k
        · rw [if_pos e2]
        · rw [if_neg e2, if_pos (by omega)]
      · rw [if_neg e1, if_neg (by omega), if_neg (by omega)]
  have h3 := key 8 0 (by omega) (by omega) rfl
  refine (show ((us s 71 n).1, fun y j => if y = 72 ∧ 0 ≤ j ∧ j < 0 then 0 else s.2 y j) = us s 71 n from ?_) ▸ h3
  unfold us
  congr 1
  funext y j
  exact if_neg (by omega)
def kepA (s : SM) (t : Term) (i b : Int) : Int := if b ∈ fl t then (if 0 ≤ i ∧ i < s.1 71 then 1 else -3) else -1
def kepU (s : SM) (t : Term) (i b : Int) : SM := if b ∈ fl t then (if 0 ≤ i ∧ i < s.1 71 then ua s 72 i (b + 1) else mtU s 2) else s
theorem keep_ok {c i b : Int} {F : Int → SM → Prop} (h : SHT s t) (hx : BX s) (hc : CM c s) (hn : c ≤ 600) (hD : 300 ≤ d) (hF : ∀ w, SX [] [] (kepU s t i b) w → F (kepA s t i b) w) : cm iv L h0 d 152 [vr 307, vi i, vi b] s (qi F) := by
  obtain ⟨d, rfl⟩ : ∃ k, d = k + 1 := ⟨d - 1, by omega⟩
  refine B152 (isThere_ok h (by omega) (fun w h1 h2 => ⟨fun e => ?_, fun e => ?_⟩))
  · have hb : b ∈ fl t := Classical.byContradiction fun q => by rw [if_neg q] at e; exact e rfl
    have hlt := h.lt hb
    have h71 := hx.1
    have e71 : w.1 71 = s.1 71 := h1.1 71 (by decide)
    rw [e71]
    refine ⟨by omega, fun q => ⟨by omega, by omega, ?_⟩, fun q => meets_ok (hc.x (SX_lay h1) (by decide)) hn (by decide) ?_⟩
    · have := hF (ua w 72 i (b + 1)) (by rw [kepU, if_pos hb, if_pos (by omega)]; exact (SX_lay h1).ua)
      rw [kepA, if_pos hb, if_pos (by omega)] at this
      exact this
    · have := hF (mtU w 2) (by rw [kepU, if_pos hb, if_neg (by omega)]; exact mtU_x (SX_lay h1) (by decide))
      rw [kepA, if_pos hb, if_neg (by omega)] at this
      exact this
  · have hb : b ∉ fl t := fun q => by rw [if_pos q] at e; cases e
    have := hF w (by rw [kepU, if_neg hb]; exact SX_lay h1)
    rw [kepA, if_neg hb] at this
    exact this
/-- what a place of the box lacks -/
def lakA (s : SM) (i k : Int) : Int := if 0 ≤ i ∧ i < s.1 71 then (if s.2 72 i = 0 then 1 else if s.2 9 (s.2 72 i - 1) = k then 0 else 3) else 2
theorem lacks_ok {i k : Int} {F : Int → SM → Prop} (hx : BX s) (h8 : s.1 8 ≤ 3000) (H : F (lakA s i k) s) : cm iv L h0 (d + 1) 153 [vr 307, vi i, vi k] s (qi F) := by
  obtain ⟨x1, x2⟩ := hx
  unfold lakA at H
  refine B153 ⟨by omega, fun q => ?_, fun q => by rw [if_neg (by omega)] at H; exact H⟩
  have := x2 i q.1 (by omega)
  rw [if_pos (by omega)] at H
  refine ⟨by omega, fun e => ?_, fun e => by rw [if_pos e] at H; exact H⟩
  rw [if_neg e] at H
  refine ⟨by omega, by omega, fun e2 => by rw [if_pos e2] at H; exact H, fun e2 => by rw [if_neg e2] at H; exact H⟩
def bxdA (s : SM) (i k : Int) : Int := if k = 1 ∨ k = 3 then (if lakA s i k = 0 then 1 else -3) else -1
def bxdU (s : SM) (i k : Int) : SM := if k = 1 ∨ k = 3 then (if lakA s i k = 0 then us s 73 (s.2 10 (s.2 72 i - 1)) else mtU s (lakA s i k)) else s
theorem lak_0 {i k : Int} (hx : BX s) (h : lakA s i k = 0) : (0 ≤ i ∧ i < s.1 71 ∧ i < 8) ∧ s.2 9 (s.2 72 i - 1) = k ∧ (1 ≤ s.2 72 i ∧ s.2 72 i ≤ s.1 8) := by
  obtain ⟨x1, x2⟩ := hx
  unfold lakA at h
  by_cases a : 0 ≤ i ∧ i < s.1 71
  · rw [if_pos a] at h
    by_cases b : s.2 72 i = 0
    · rw [if_pos b] at h; cases h
    · rw [if_neg b] at h
      by_cases c : s.2 9 (s.2 72 i - 1) = k
      · have := x2 i a.1 (by omega)
        exact ⟨by omega, c, by omega⟩
      · rw [if_neg c] at h; cases h
  · rw [if_neg a] at h; cases h
theorem lak_in {i k : Int} : lakA s i k = 0 ∨ lakA s i k = 1 ∨ lakA s i k = 2 ∨ lakA s i k = 3 := by
  unfold lakA
  split
  · split
    · simp
    · split <;> simp
  · simp
theorem boxed_ok {c i k : Int} {F : Int → SM → Prop} (hx : BX s) (h8 : s.1 8 ≤ 3000) (hc : CM c s) (hn : c ≤ 600) (H : F (bxdA s i k) (bxdU s i k)) : cm iv L h0 (d + 2) 154 [vr 307, vi i, vi k] s (qi F) := by
  have two : (k = 1 ∨ k = 3) → cm iv L h0 (d + 1) 153 [vr 307, vi i, vi k] s (qi fun r2 s1 => ((r2 ≤ 0 → (0 ≤ i ∧ i < 8) ∧ (-2147483648 ≤ (s1.2 72 i) - 1 ∧ (s1.2 72 i) - 1 ≤ 2147483647) ∧ (0 ≤ (s1.2 72 i) - 1 ∧ (s1.2 72 i) - 1 < 3004) ∧ F 1 (us s1 73 (s1.2 10 ((s1.2 72 i) - 1)))) ∧ (0 < r2 → cm iv L h0 (d + 1) 61 [vr 307, vi r2] s1 (qi fun r7 s6 => F r7 s6)))) := fun hk => by
    refine lacks_ok hx h8 ?_
    rw [bxdA, bxdU, if_pos hk, if_pos hk] at H
    have hl := lak_in (s := s) (i := i) (k := k)
    refine ⟨fun q => ?_, fun q => meets_ok hc hn (by omega) ?_⟩
    · have e : lakA s i k = 0 := by omega
      rw [if_pos e, if_pos e] at H
      obtain ⟨l1, l2, l3⟩ := lak_0 hx e
      exact ⟨by omega, by omega, by omega, H⟩
    · rw [if_neg (by omega), if_neg (by omega)] at H
      exact H
  refine B154 ⟨fun e => two (Or.inl e), fun e => ⟨fun e3 => two (Or.inr e3), fun e3 => ?_⟩⟩
  rw [bxdA, bxdU, if_neg (by omega), if_neg (by omega)] at H
  exact H
end

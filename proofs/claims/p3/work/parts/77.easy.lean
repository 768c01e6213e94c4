/-! The reference's smallest methods. -/
/-- how often findings came: not more often than there were calls -/
def CM (n : Int) (s : SM) : Prop := ∀ f, 0 ≤ f → f < 6 → 0 ≤ s.2 1 f ∧ s.2 1 f ≤ n
def mtU (s : SM) (f : Int) : SM := ua (us s 0 f) 1 f (s.2 1 f + 1)
/-- the first kind of this shape and these parts -/
def kfd (ks ka kb : Int → Int) (i a b : Int) : Nat → Int → Int
  | 0, _ => -1
  | n + 1, k => if ks k = i ∧ ka k = a ∧ kb k = b then k else kfd ks ka kb i a b n (k + 1)
def kfs (s : SM) (i a b : Int) : Int := kfd (s.2 4) (s.2 5) (s.2 6) i a b (s.1 2 - 3).toNat 3
def kbad (s : SM) (a b : Int) : Prop := ¬ (0 ≤ a ∧ a < s.1 2) ∨ ¬ (0 ≤ b ∧ b < s.1 2) ∨ 40 < 1 + s.2 7 a + s.2 7 b
def kis (p : Int) : Int := if p = 0 then 3 else 4
def kndA (s : SM) (p a b : Int) : Int := if 0 ≤ kfs s (kis p) a b then kfs s (kis p) a b else if s.1 2 = 40 then -2 else s.1 2
def kndU (s : SM) (p a b : Int) : SM := if 0 ≤ kfs s (kis p) a b then s else if s.1 2 = 40 then s else us (ua (ua (ua (ua s 4 (s.1 2) (kis p)) 5 (s.1 2) a) 6 (s.1 2) b) 7 (s.1 2) (1 + s.2 7 a + s.2 7 b)) 2 (s.1 2 + 1)
theorem vk_le {n m k j : Int} (h : vk n k j) (hk : vk n m k) (hm : 40 ≤ m) : vk n m j := by unfold vk at h hk ⊢; omega
theorem kfd_in {ks ka kb : Int → Int} {i a b : Int} : ∀ (n : Nat) (k : Int), 0 ≤ k → kfd ks ka kb i a b n k = -1 ∨ (k ≤ kfd ks ka kb i a b n k ∧ kfd ks ka kb i a b n k < k + n) := by
  intro n
  induction n with
  | zero => intro k _; exact Or.inl rfl
  | succ n ih =>
    intro k hk
    unfold kfd
    by_cases e : ks k = i ∧ ka k = a ∧ kb k = b
    · rw [if_pos e]; right; omega
    · rw [if_neg e]
      rcases ih (k + 1) (by omega) with h | h
      · exact Or.inl h
      · right; omega
theorem LR_cons {w : SM} {l p m : List Int} {x : Int} (h : LR w l) (e : l = p ++ x :: m) : w.2 17 p.length = x ∧ (p.length : Int) < w.1 18 := by
  refine ⟨h.2 p.length x (by rw [e]; simp), ?_⟩
  rw [h.1, e]
  simp
  omega
theorem LR_nil {w : SM} {l p : List Int} (h : LR w l) (e : l = p ++ []) : w.1 18 ≤ p.length := by
  rw [h.1, e]
  simp
theorem app1 {p m : List Int} {x : Int} : p ++ x :: m = (p ++ [x]) ++ m := by simp
/-- the i-th of those that .. -/
def nthp (P : Int → Bool) : List Int → Int → Int
  | [], _ => -9
  | x :: r, i => if P x then (if i = 0 then x else nthp P r (i - 1)) else nthp P r i
theorem nthp_neg (P : Int → Bool) : ∀ (l : List Int) (i : Int), i < 0 → nthp P l i = -9 := by
  intro l
  induction l with
  | nil => intro i _; rfl
  | cons x r ih =>
    intro i hi
    unfold nthp
    cases P x with
    | true => rw [if_pos rfl, if_neg (by omega)]; exact ih _ (by omega)
    | false => rw [if_neg (by decide)]; exact ih _ hi
def cntp (P : Int → Bool) : List Int → Int
  | [] => 0
  | x :: r => (if P x then 1 else 0) + cntp P r
theorem cntp_in (P : Int → Bool) : ∀ (l : List Int), 0 ≤ cntp P l ∧ cntp P l ≤ l.length := by
  intro l
  induction l with
  | nil => exact ⟨Int.le_refl 0, Int.le_refl 0⟩
  | cons x r ih =>
    unfold cntp
    simp only [List.length_cons]
    cases P x <;> simp <;> omega
/-- the first of those behind c -/
def bhd (P : Int → Bool) (c : Int) : List Int → Bool → Int
  | [], _ => -9
  | x :: r, q => if q && P x then x else bhd P c r (q || decide (x = c))
def isH (s : SM) (x : Int) : Bool := decide (s.2 9 x = 0)
def isF (J : JT) (x : Int) : Bool := decide (0 < J.2.2 x)
/-- a kind's signs -/
def sg : Term → List Int
  | .null => [63]
  | .result => [119]
  | .thrown => [116]
  | .add a b => 102 :: (sg a ++ sg b)
  | .mul a b => 112 :: (sg a ++ sg b)
  | _ => []
def SGR (s t : SM) (l : List Int) : Prop := eqx [23] [22] s t ∧ t.1 23 = s.1 23 + l.length ∧ (∀ (j : Nat) (x : Int), l[j]? = some x → t.2 22 (s.1 23 + j) = x) ∧ ∀ j, j < s.1 23 → t.2 22 j = s.2 22 j
theorem SGR.tr {s t u : SM} {l m : List Int} (h1 : SGR s t l) (h2 : SGR t u m) : SGR s u (l ++ m) := by
  obtain ⟨a1, a2, a3, a4⟩ := h1
  obtain ⟨b1, b2, b3, b4⟩ := h2
  refine ⟨a1.tr b1, by rw [b2, a2, List.length_append]; omega, fun j x h => ?_, fun j hj => by rw [b4 j (by omega), a4 j hj]⟩
  by_cases hj : j < l.length
  · rw [List.getElem?_append_left hj] at h
    rw [b4 _ (by omega)]
    exact a3 j x h
  · rw [List.getElem?_append_right (by omega)] at h
    have h3 := b3 _ x h
    have e : t.1 23 + ((j - l.length : Nat) : Int) = s.1 23 + (j : Int) := by omega
    rw [e] at h3
    exact h3
theorem SGR.one {s : SM} {c : Int} : SGR s (us (ua s 22 (s.1 23) c) 23 (s.1 23 + 1)) [c] := by
  refine ⟨eqx_us (eqx_ua eqx.rf (by decide)) (by decide), rfl, fun j x hj => ?_, fun j hj => ?_⟩
  · cases j with
    | zero =>
      simp at hj
      subst hj
      show (if (22 = 22 ∧ s.1 23 + ((0 : Nat) : Int) = s.1 23) then c else _) = c
      rw [if_pos ⟨rfl, by omega⟩]
    | succ j => simp at hj
  · show (if (22 = 22 ∧ j = s.1 23) then c else s.2 22 j) = s.2 22 j
    rw [if_neg (by omega)]
section
variable {iv : List (Int × Int)} {L : Nat} {h0 : MH} {s : SM} {t : Term} {d : Nat}
theorem meets_ok {n f : Int} {F : Int → SM → Prop} (hc : CM n s) (hn : n ≤ 600) (hf : 0 ≤ f ∧ f < 6) (H : F (-3) (mtU s f)) : cm iv L h0 d 61 [vr 307, vi f] s (qi F) := B61 ⟨hf, by have := hc f hf.1 hf.2; omega, H⟩
theorem findings_ok {f : Int} {F : Int → SM → Prop} (H : F (if 1 ≤ f ∧ f ≤ 5 then s.2 1 f else -1) s) : cm iv L h0 (d + 1) 63 [vr 307, vi f] s (qi F) := by
  refine B63 ⟨fun h => ⟨by omega, ?_⟩, fun h => ?_⟩
  · rw [if_pos h] at H; exact H
  · rw [if_neg (by omega)] at H; exact H
theorem kind_ok {p a b : Int} {F : Int → SM → Prop} (hK : KIs s) (H1 : kbad s a b → F (-1) s) (H2 : ¬ kbad s a b → F (kndA s p a b) (kndU s p a b)) : cm iv L h0 (d + 2) 68 [vr 307, vi p, vi a, vi b] s (qi F) := by
  obtain ⟨k1, k2, k3⟩ := hK
  have sz : ∀ k, 0 ≤ k → k < s.1 2 → 1 ≤ s.2 7 k ∧ s.2 7 k ≤ 40 := fun k q0 q1 => by
    have hKJ : KJs (us s 3 40) := ⟨⟨k1, k2, k3⟩, Int.le_refl 40, fun k k1 k2 => by exfalso; have : k < 40 := k2; omega⟩
    exact (hKJ.at (k := k) (Or.inl ⟨q0, q1⟩)).1
  refine B68 ⟨k1, fun ha => ⟨fun hb => ?_, fun hb => H1 (Or.inr (Or.inl (by omega)))⟩, fun ha => H1 (Or.inl (by omega))⟩
  have sa := sz a ha.1 ha.2
  have sb := sz b hb.1 hb.2
  refine ⟨by omega, by omega, by omega, by omega, fun h40 => ?_, fun h40 => H1 (Or.inr (Or.inr (by omega)))⟩
  have H3 := H2 (fun q => by rcases q with q | q | q <;> omega)
  have key : ∀ (n : Nat) (k : Int), 3 ≤ k → k ≤ s.1 2 → (s.1 2 - k).toNat = n → kfs s (kis p) a b = kfd (s.2 4) (s.2 5) (s.2 6) (kis p) a b n k → wm iv L h0 (d + 2) 68 52 [lr 307, ln, li a, li b, li (kis p), li k] [] s (qi F) := by
    intro n
    induction n with
    | zero =>
      intro k q3 qk qn hf
      have hf : kfs s (kis p) a b = -1 := hf
      refine B68_52 ⟨fun _ => ⟨fun h => ⟨by omega, by omega, by omega, by omega, B66 ⟨by omega, ?_⟩⟩, fun h => ?_⟩, fun h => by omega⟩
      · rw [show kndA s p a b = s.1 2 from by unfold kndA; rw [hf, if_neg (by decide), if_neg h], show kndU s p a b = us (ua (ua (ua (ua s 4 (s.1 2) (kis p)) 5 (s.1 2) a) 6 (s.1 2) b) 7 (s.1 2) (1 + s.2 7 a + s.2 7 b)) 2 (s.1 2 + 1) from by unfold kndU; rw [hf, if_neg (by decide), if_neg h]] at H3
        refine ⟨by show -2147483648 ≤ s.1 2 + 1 ∧ s.1 2 + 1 ≤ 2147483647; omega, by show -2147483648 ≤ s.1 2 + 1 - 1 ∧ s.1 2 + 1 - 1 ≤ 2147483647; omega, ?_⟩
        show F (s.1 2 + 1 - 1) _
        rw [show s.1 2 + 1 - 1 = s.1 2 by omega]
        exact H3
      · rw [show kndA s p a b = -2 from by unfold kndA; rw [hf, if_neg (by decide), if_pos h], show kndU s p a b = s from by unfold kndU; rw [hf, if_neg (by decide), if_pos h]] at H3
        exact H3
    | succ n ih =>
      intro k q3 qk qn hf
      have nx : ¬ (s.2 4 k = kis p ∧ s.2 5 k = a ∧ s.2 6 k = b) → wm iv L h0 (d + 2) 68 52 [lr 307, ln, li a, li b, li (kis p), li (k + 1)] [] s (qi F) := fun e => by
        unfold kfd at hf
        rw [if_neg e] at hf
        exact ih (k + 1) (by omega) (by omega) (by omega) hf
      refine B68_52 ⟨fun h => by omega, fun h => ⟨by omega, fun e => ⟨by omega, nx (fun q => e q.1)⟩, fun e1 => ⟨fun e => ⟨by omega, nx (fun q => e q.2.1)⟩, fun e2 => ⟨fun e => ⟨by omega, nx (fun q => e q.2.2)⟩, fun e3 => ?_⟩⟩⟩⟩
      unfold kfd at hf
      rw [if_pos ⟨e1, e2, e3⟩] at hf
      rw [show kndA s p a b = k from by unfold kndA; rw [hf, if_pos (by omega)], show kndU s p a b = s from by unfold kndU; rw [hf, if_pos (by omega)]] at H3
      exact H3
  refine ⟨fun e => ?_, fun e => ?_⟩
  · have := key _ 3 (by omega) (by omega) rfl rfl
    rw [show kis p = 3 from if_pos e] at this
    exact this
  · have := key _ 3 (by omega) (by omega) rfl rfl
    rw [show kis p = 4 from if_neg e] at this
    exact this
def kofA (s : SM) (k w : Int) : Int := if 0 ≤ k ∧ k < s.1 2 then (if w = 0 then s.2 4 k else if w = 1 then s.2 5 k else if w = 2 then s.2 6 k else if w = 3 then s.2 7 k else -1) else -1
theorem kindOf_ok {k w : Int} {F : Int → SM → Prop} (hK : KIs s) (H : F (kofA s k w) s) : cm iv L h0 (d + 2) 69 [vr 307, vi k, vi w] s (qi F) := by
  obtain ⟨k1, k2, k3⟩ := hK
  unfold kofA at H
  refine B69 ⟨k1, fun h1 => ?_, fun h1 => by rw [if_neg (by omega)] at H; exact H⟩
  rw [if_pos h1] at H
  refine ⟨fun h2 => ⟨fun e0 => ⟨fun e1 => ⟨fun e2 => ⟨by omega, ?_⟩, fun e2 => ⟨by omega, ?_⟩⟩, fun e1 => ⟨by omega, ?_⟩⟩, fun e0 => ⟨by omega, ?_⟩⟩, fun h2 => ?_⟩
  · rw [if_neg e0, if_neg e1, if_neg e2, if_pos (by omega)] at H; exact H
  · rw [if_neg e0, if_neg e1, if_pos e2] at H; exact H
  · rw [if_neg e0, if_pos e1] at H; exact H
  · rw [if_pos e0] at H; exact H
  · rw [if_neg (by omega), if_neg (by omega), if_neg (by omega), if_neg (by omega)] at H; exact H
def metA (s : SM) (a b : Int) : Int := if (0 ≤ a ∧ a < s.1 2) ∧ (0 ≤ b ∧ b < s.1 2) then (if kmt (kks s a) (kks s b) then 1 else 0) else -1
theorem KJ_40 (hK : KIs s) : KJ (s.1 2) 40 (s.2 4) (s.2 5) (s.2 6) (s.2 7) := ⟨hK, Int.le_refl 40, fun k k1 k2 => by exfalso; omega⟩
theorem meet_ok {a b : Int} {F : Int → SM → Prop} (hK : KIs s) (h3 : KJs s ∧ s.1 3 ≤ 6000) (hd : 50 ≤ d) (H : F (metA s a b) s) : cm iv L h0 d 72 [vr 307, vi a, vi b] s (qi F) := by
  obtain ⟨d, rfl⟩ : ∃ k, d = k + 2 := ⟨d - 2, by omega⟩
  unfold metA at H
  refine B72 ⟨hK.1, fun ha => ⟨fun hb => ?_, fun hb => by rw [if_neg (by omega)] at H; exact H⟩, fun ha => by rw [if_neg (by omega)] at H; exact H⟩
  rw [if_pos ⟨ha, hb⟩, kks_told ha, kks_told hb] at H
  refine wci_mono (areMeeting_ok h3.1 h3.2 40 a b (h3.1.at (k := a) (Or.inl ha)).1.2 (Or.inl ha) (Or.inl hb)) (by omega) ?_
  rintro r w ⟨rfl, rfl⟩
  cases h : kmt (kts w a) (kts w b) with
  | true => rw [h] at H; exact ⟨fun q => absurd q (by decide), fun _ => H⟩
  | false => rw [h] at H; exact ⟨fun _ => H, fun q => absurd rfl q⟩
theorem spell_ok : ∀ (q : Nat) (s : SM) (k : Int), KJs s → s.2 7 k ≤ q → vks s k → s.1 3 ≤ 6000 → 0 ≤ s.1 23 → s.1 23 + s.2 7 k ≤ 64 → cm iv L h0 q 96 [vr 307, vi k] s (qv fun w => SGR s w (sg (kts s k)) ∧ ((sg (kts s k)).length : Int) = s.2 7 k) := by
  intro q
  induction q with
  | zero =>
    intro s k hK hq hk
    have := (hK.at hk).1
    omega
  | succ q ih =>
    intro s k hK hq hk h3 hz hl
    obtain ⟨z1, z2, z3, z4⟩ := hK.at hk
    have hlt := hk.lt hK.1.1.2 hK.2.1
    have lf := kt_leaf (k := k) hK
    have nd := kt_node hK hk
    have fin : ∀ c : Int, s.2 4 k < 3 → sg (kts s k) = [c] → (SGR s (us (ua s 22 (s.1 23) c) 23 (s.1 23 + 1)) (sg (kts s k)) ∧ ((sg (kts s k)).length : Int) = s.2 7 k) := fun c c3 e => by
      rw [e]
      exact ⟨SGR.one, by have := (z3 c3).2; simp; omega⟩
    have two : ∀ c : Int, 3 ≤ s.2 4 k → sg (kts s k) = c :: (sg (kts s (s.2 5 k)) ++ sg (kts s (s.2 6 k))) → cm iv L h0 q 96 [vr 307, vi (s.2 5 k)] (us (ua s 22 (s.1 23) c) 23 (s.1 23 + 1)) (qv fun s5 => cm iv L h0 q 96 [vr 307, vi (s5.2 6 k)] s5 (qv fun s6 => SGR s s6 (sg (kts s k)) ∧ ((sg (kts s k)).length : Int) = s.2 7 k)) := fun c c3 e => by
      obtain ⟨y1, y2, y3, y4, y5, y6⟩ := z4 c3
      have hm := hK.2.1
      have y2 : vks s (s.2 5 k) := vk_le y2 hk hm
      have y3 : vks s (s.2 6 k) := vk_le y3 hk hm
      refine wcv_mono (ih (us (ua s 22 (s.1 23) c) 23 (s.1 23 + 1)) (s.2 5 k) hK (by show s.2 7 _ ≤ _; omega) y2 h3 (by show 0 ≤ s.1 23 + 1; omega) (by show s.1 23 + 1 + s.2 7 _ ≤ 64; omega)) (Nat.le_refl _) ?_
      rintro w ⟨w1, w2⟩
      have w1' : SGR (us (ua s 22 (s.1 23) c) 23 (s.1 23 + 1)) w (sg (kts s (s.2 5 k))) := w1
      have w2' : ((sg (kts s (s.2 5 k))).length : Int) = s.2 7 (s.2 5 k) := w2
      have a1 := SGR.one.tr w1'
      have e4 : w.2 4 = s.2 4 := a1.1.2 4 (by decide)
      have e5 : w.2 5 = s.2 5 := a1.1.2 5 (by decide)
      have e6 : w.2 6 = s.2 6 := a1.1.2 6 (by decide)
      have e7 : w.2 7 = s.2 7 := a1.1.2 7 (by decide)
      have g2 : w.1 2 = s.1 2 := a1.1.1 2 (by decide)
      have g3 : w.1 3 = s.1 3 := a1.1.1 3 (by decide)
      have g23 : w.1 23 = s.1 23 + 1 + s.2 7 (s.2 5 k) := by
        have := a1.2.1
        simp at this
        omega
      have hKw : KJs w := by
        show KJ (w.1 2) (w.1 3) (w.2 4) (w.2 5) (w.2 6) (w.2 7)
        rw [e4, e5, e6, e7, g2, g3]; exact hK
      have hkt : ∀ x, kts w x = kts s x := fun x => by
        show kt (w.2 4) (w.2 5) (w.2 6) x = _
        rw [e4, e5, e6]
      rw [e6]
      refine wcv_mono (ih w (s.2 6 k) hKw (by rw [e7]; omega) (by show vk (w.1 2) (w.1 3) _; rw [g2, g3]; exact y3) (by omega) (by omega) (by rw [e7]; omega)) (Nat.le_refl _) ?_
      rintro u ⟨u1, u2⟩
      rw [hkt] at u1 u2
      rw [e7] at u2
      have b1 := a1.tr u1
      rw [e]
      refine ⟨by simpa using b1, ?_⟩
      simp only [List.length_cons, List.length_append]
      omega
    have e8 : w8 112 = 112 ∧ w8 102 = 102 ∧ w8 116 = 116 ∧ w8 119 = 119 ∧ w8 63 = 63 := ⟨rfl, rfl, rfl, rfl, rfl⟩
    refine B96 ⟨by omega, fun n0 => ⟨fun n1 => ⟨fun n2 => ⟨fun n3 => ⟨by omega, by decide, by omega, fun c => by omega, fun c => ?_⟩, fun c3 => ⟨by omega, by decide, by omega, fun c => by omega, fun c => ?_⟩⟩, fun c2 => ⟨by omega, by decide, by omega, fun c => ?_, fun c => by omega⟩⟩, fun c1 => ⟨by omega, by decide, by omega, fun c => ?_, fun c => by omega⟩⟩, fun c0 => ⟨by omega, by decide, by omega, fun c => ?_, fun c => by omega⟩⟩
    · rw [e8.1]
      refine two 112 c ?_
      rw [show kts s k = .mul (kts s (s.2 5 k)) (kts s (s.2 6 k)) from nd.2 (by omega)]
      rfl
    · rw [e8.2.1]
      refine two 102 c ?_
      rw [show kts s k = .add (kts s (s.2 5 k)) (kts s (s.2 6 k)) from nd.1 c3]
      rfl
    · rw [e8.2.2.1]
      refine fin 116 c ?_
      rw [show kts s k = .thrown from lf.2.2 c2]
      rfl
    · rw [e8.2.2.2.1]
      refine fin 119 c ?_
      rw [show kts s k = .result from lf.2.1 c1]
      rfl
    · rw [e8.2.2.2.2]
      refine fin 63 c ?_
      rw [show kts s k = .null from lf.1 c0]
      rfl
end

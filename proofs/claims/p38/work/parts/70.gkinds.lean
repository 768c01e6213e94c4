section
/-! Kinds: what rows of kinds hold, trees of kinds, the reference's methods on them. -/
/-- all numbers but some, all rows but some, are as they were -/
def eqx (ys fs : List Nat) (s t : SM) : Prop := (∀ y, y ∉ ys → t.1 y = s.1 y) ∧ ∀ f, f ∉ fs → t.2 f = s.2 f
theorem eqx.rf {ys fs : List Nat} {s : SM} : eqx ys fs s s := ⟨fun _ _ => rfl, fun _ _ => rfl⟩
theorem eqx.tr {ys fs : List Nat} {s t u : SM} (h1 : eqx ys fs s t) (h2 : eqx ys fs t u) : eqx ys fs s u := ⟨fun y h => (h2.1 y h).trans (h1.1 y h), fun f h => (h2.2 f h).trans (h1.2 f h)⟩
theorem eqx.up {ys fs ys' fs' : List Nat} {s t : SM} (h : eqx ys fs s t) (h1 : ∀ y, y ∈ ys → y ∈ ys') (h2 : ∀ f, f ∈ fs → f ∈ fs') : eqx ys' fs' s t := ⟨fun y q => h.1 y (fun e => q (h1 y e)), fun f q => h.2 f (fun e => q (h2 f e))⟩
theorem eqx_us {ys fs : List Nat} {s t : SM} {y : Nat} {z : Int} (h : eqx ys fs s t) (hy : y ∈ ys) : eqx ys fs s (us t y z) := ⟨fun k hk => by show (if k = y then z else t.1 k) = s.1 k; rw [if_neg (show ¬ k = y from fun e => hk (by rw [e]; exact hy))]; exact h.1 k hk, h.2⟩
theorem eqx_ua {ys fs : List Nat} {s t : SM} {f : Nat} {i z : Int} (h : eqx ys fs s t) (hf : f ∈ fs) : eqx ys fs s (ua t f i z) := ⟨h.1, fun k hk => by rw [← h.2 k hk]; funext j; show (if k = f ∧ j = i then z else t.2 k j) = t.2 k j; rw [if_neg (show ¬ (k = f ∧ j = i) from fun e => hk (by rw [e.1]; exact hf))]⟩
theorem us_1 (s : SM) (y : Nat) (z : Int) (k : Nat) : (us s y z).1 k = if k = y then z else s.1 k := rfl
theorem us_2 (s : SM) (y : Nat) (z : Int) : (us s y z).2 = s.2 := rfl
theorem ua_1 (s : SM) (f : Nat) (i z : Int) : (ua s f i z).1 = s.1 := rfl
theorem ua_2 (s : SM) (f : Nat) (i z : Int) (k : Nat) (j : Int) : (ua s f i z).2 k j = if k = f ∧ j = i then z else s.2 k j := rfl
/-- the kinds that were told: how many, what they are, their parts, their sizes -/
def KI (n : Int) (ks ka kb sz : Int → Int) : Prop := (3 ≤ n ∧ n ≤ 40) ∧ (∀ k, 0 ≤ k → k < 3 → ks k = k ∧ ka k = -9 ∧ kb k = -9 ∧ sz k = 1) ∧ ∀ k, 3 ≤ k → k < n → (ks k = 3 ∨ ks k = 4) ∧ (0 ≤ ka k ∧ ka k < k) ∧ (0 ≤ kb k ∧ kb k < k) ∧ sz k = 1 + sz (ka k) + sz (kb k) ∧ sz k ≤ 40
def vk (n m k : Int) : Prop := (0 ≤ k ∧ k < n) ∨ (40 ≤ k ∧ k < m)
/-- and those that one judging made, from 40 on -/
def KJ (n m : Int) (ks ka kb sz : Int → Int) : Prop := KI n ks ka kb sz ∧ 40 ≤ m ∧ ∀ k, 40 ≤ k → k < m → (ks k = 3 ∨ ks k = 4) ∧ vk n k (ka k) ∧ vk n k (kb k) ∧ sz k = 1 + sz (ka k) + sz (kb k) ∧ sz k ≤ 40
theorem vk.up {n m m' k : Int} (h : vk n m k) (hm : m ≤ m') : vk n m' k := by unfold vk at h ⊢; omega
theorem vk.lt {n m k : Int} (h : vk n m k) (hn : n ≤ 40) (hm : 40 ≤ m) : 0 ≤ k ∧ k < m := by unfold vk at h; omega
/-- all that is known of one kind -/
theorem KJ.at {n m : Int} {ks ka kb sz : Int → Int} (h : KJ n m ks ka kb sz) {k : Int} (hk : vk n m k) : (1 ≤ sz k ∧ sz k ≤ 40) ∧ (0 ≤ ks k ∧ ks k ≤ 4) ∧ (ks k < 3 → ks k = k ∧ sz k = 1) ∧ (3 ≤ ks k → 3 ≤ k ∧ vk n k (ka k) ∧ vk n k (kb k) ∧ sz k = 1 + sz (ka k) + sz (kb k) ∧ 1 ≤ sz (ka k) ∧ 1 ≤ sz (kb k)) := by
  obtain ⟨⟨h1, h2, h3⟩, h4, h5⟩ := h
  have key : ∀ (q : Nat) (k : Int), k.toNat ≤ q → vk n m k → 1 ≤ sz k ∧ sz k ≤ 40 := by
    intro q
    induction q with
    | zero =>
      intro k hq hk
      have : k = 0 := by unfold vk at hk; omega
      subst this
      have := (h2 0 (by omega) (by omega)).2.2.2
      omega
    | succ q ih =>
      intro k hq hk
      rcases hk with hk | hk
      · by_cases h6 : k < 3
        · have := (h2 k hk.1 h6).2.2.2
          omega
        · obtain ⟨-, ⟨a1, a2⟩, ⟨b1, b2⟩, e1, e2⟩ := h3 k (by omega) hk.2
          have i1 := ih (ka k) (by omega) (Or.inl ⟨a1, by omega⟩)
          have i2 := ih (kb k) (by omega) (Or.inl ⟨b1, by omega⟩)
          omega
      · obtain ⟨-, a1, b1, e1, e2⟩ := h5 k hk.1 hk.2
        have i1 := ih (ka k) (by unfold vk at a1; omega) (a1.up (by omega))
        have i2 := ih (kb k) (by unfold vk at b1; omega) (b1.up (by omega))
        omega
  have hs := key k.toNat k (Nat.le_refl _) hk
  refine ⟨hs, ?_⟩
  rcases hk with hk | hk
  · by_cases h6 : k < 3
    · obtain ⟨e1, -, -, e2⟩ := h2 k hk.1 h6
      rw [e1, e2]
      exact ⟨by omega, fun _ => ⟨rfl, rfl⟩, fun h => by omega⟩
    · obtain ⟨e0, ⟨a1, a2⟩, ⟨b1, b2⟩, e1, e2⟩ := h3 k (by omega) hk.2
      have i1 := key _ (ka k) (Nat.le_refl _) (Or.inl ⟨a1, by omega⟩)
      have i2 := key _ (kb k) (Nat.le_refl _) (Or.inl ⟨b1, by omega⟩)
      exact ⟨by omega, fun h => by omega, fun _ => ⟨by omega, Or.inl ⟨a1, by omega⟩, Or.inl ⟨b1, by omega⟩, e1, by omega, by omega⟩⟩
  · obtain ⟨e0, a1, b1, e1, e2⟩ := h5 k hk.1 hk.2
    have i1 := key _ (ka k) (Nat.le_refl _) (a1.up (by omega))
    have i2 := key _ (kb k) (Nat.le_refl _) (b1.up (by omega))
    exact ⟨by omega, fun h => by omega, fun _ => ⟨by omega, a1, b1, e1, by omega, by omega⟩⟩
/-- trees of kinds: UNKNOWN null, WHOLE result, TRUTH thrown, FROM TO add, PAIR OF mul -/
def kd (ks ka kb : Int → Int) : Nat → Int → Term
  | 0, _ => .null
  | n + 1, k => if ks k = 0 then .null else if ks k = 1 then .result else if ks k = 2 then .thrown else if ks k = 3 then .add (kd ks ka kb n (ka k)) (kd ks ka kb n (kb k)) else .mul (kd ks ka kb n (ka k)) (kd ks ka kb n (kb k))
theorem kd_s (ks ka kb : Int → Int) (n : Nat) (k : Int) : kd ks ka kb (n + 1) k = if ks k = 0 then .null else if ks k = 1 then .result else if ks k = 2 then .thrown else if ks k = 3 then .add (kd ks ka kb n (ka k)) (kd ks ka kb n (kb k)) else .mul (kd ks ka kb n (ka k)) (kd ks ka kb n (kb k)) := rfl
def ksz : Term → Int
  | .add a b => 1 + ksz a + ksz b
  | .mul a b => 1 + ksz a + ksz b
  | _ => 1
def kmt : Term → Term → Bool
  | .null, _ => true
  | _, .null => true
  | .result, .result => true
  | .thrown, .thrown => true
  | .add a b, .add c d => kmt a c && kmt b d
  | .mul a b, .mul c d => kmt a c && kmt b d
  | _, _ => false
def kmk (k : Int) (a b : Term) : Term := if 40 < 1 + ksz a + ksz b then .null else if k = 3 then .add a b else .mul a b
def ktg : Term → Term → Term
  | .null, y => y
  | .add a b, y => match y with
    | .null => .add a b
    | .add c d => kmk 3 (ktg a c) (ktg b d)
    | .mul c d => kmk 3 (ktg a c) (ktg b d)
    | _ => .add a b
  | .mul a b, y => match y with
    | .null => .mul a b
    | .mul c d => kmk 4 (ktg a c) (ktg b d)
    | .add c d => kmk 4 (ktg a c) (ktg b d)
    | _ => .mul a b
  | x, _ => x
/-- enough fuel is enough -/
theorem kd_f {n m : Int} {ks ka kb sz : Int → Int} (h : KJ n m ks ka kb sz) : ∀ (q p : Nat) (k : Int), vk n m k → sz k ≤ q → sz k ≤ p → kd ks ka kb q k = kd ks ka kb p k := by
  intro q
  induction q with
  | zero => intro p k hk h1 h2; have := (h.at hk).1; omega
  | succ q ih =>
    intro p k hk h1 h2
    have ha := h.at hk
    obtain ⟨p, rfl⟩ : ∃ p', p = p' + 1 := ⟨p - 1, by omega⟩
    rw [kd_s, kd_s]
    by_cases h3 : ks k < 3
    · by_cases e0 : ks k = 0
      · rw [if_pos e0, if_pos e0]
      · by_cases e1 : ks k = 1
        · rw [if_neg e0, if_neg e0, if_pos e1, if_pos e1]
        · rw [if_neg e0, if_neg e0, if_neg e1, if_neg e1, if_pos (by omega), if_pos (by omega)]
    · obtain ⟨k3, va, vb, e, sa, sb⟩ := ha.2.2.2 (by omega)
      have hm := h.2.1
      have hn := h.1.1
      rw [ih p (ka k) (va.up (by unfold vk at hk; omega)) (by omega) (by omega), ih p (kb k) (vb.up (by unfold vk at hk; omega)) (by omega) (by omega)]
def kt (ks ka kb : Int → Int) (k : Int) : Term := kd ks ka kb 40 k
theorem kt_leaf {n m : Int} {ks ka kb sz : Int → Int} (_ : KJ n m ks ka kb sz) {k : Int} : (ks k = 0 → kt ks ka kb k = .null) ∧ (ks k = 1 → kt ks ka kb k = .result) ∧ (ks k = 2 → kt ks ka kb k = .thrown) := by
  have h1 : kt ks ka kb k = kd ks ka kb (39 + 1) k := rfl
  rw [h1, kd_s]
  exact ⟨fun e => by rw [if_pos e], fun e => by rw [if_neg (by omega), if_pos e], fun e => by rw [if_neg (by omega), if_neg (by omega), if_pos e]⟩
theorem kt_node {n m : Int} {ks ka kb sz : Int → Int} (h : KJ n m ks ka kb sz) {k : Int} (hk : vk n m k) : (ks k = 3 → kt ks ka kb k = .add (kt ks ka kb (ka k)) (kt ks ka kb (kb k))) ∧ (ks k = 4 → kt ks ka kb k = .mul (kt ks ka kb (ka k)) (kt ks ka kb (kb k))) := by
  have ha := h.at hk
  have hm := h.2.1
  have hn := h.1.1
  have step : 3 ≤ ks k → kd ks ka kb 39 (ka k) = kt ks ka kb (ka k) ∧ kd ks ka kb 39 (kb k) = kt ks ka kb (kb k) := fun h3 => by
    obtain ⟨k3, va, vb, e, sa, sb⟩ := ha.2.2.2 h3
    exact ⟨kd_f h 39 40 _ (va.up (by unfold vk at hk; omega)) (by omega) (by omega), kd_f h 39 40 _ (vb.up (by unfold vk at hk; omega)) (by omega) (by omega)⟩
  constructor
  · intro e
    obtain ⟨e1, e2⟩ := step (by omega)
    rw [← e1, ← e2]
    show kd ks ka kb (39 + 1) k = _
    rw [kd_s, if_neg (by omega), if_neg (by omega), if_neg (by omega), if_pos e]
  · intro e
    obtain ⟨e1, e2⟩ := step (by omega)
    rw [← e1, ← e2]
    show kd ks ka kb (39 + 1) k = _
    rw [kd_s, if_neg (by omega), if_neg (by omega), if_neg (by omega), if_neg (by omega)]
theorem kt_size {n m : Int} {ks ka kb sz : Int → Int} (h : KJ n m ks ka kb sz) : ∀ (q : Nat) (k : Int), sz k ≤ q → vk n m k → ksz (kt ks ka kb k) = sz k := by
  intro q
  induction q with
  | zero => intro k h1 hk; have := (h.at hk).1; omega
  | succ q ih =>
    intro k h1 hk
    have ha := h.at hk
    have hm := h.2.1
    have hn := h.1.1
    by_cases h3 : ks k < 3
    · have e := ha.2.2.1 h3
      have hl := kt_leaf h (k := k)
      rcases (show ks k = 0 ∨ ks k = 1 ∨ ks k = 2 by omega) with e0 | e0 | e0
      · rw [hl.1 e0, e.2]; rfl
      · rw [hl.2.1 e0, e.2]; rfl
      · rw [hl.2.2 e0, e.2]; rfl
    · obtain ⟨k3, va, vb, e, sa, sb⟩ := ha.2.2.2 (by omega)
      have i1 := ih (ka k) (by omega) (va.up (by unfold vk at hk; omega))
      have i2 := ih (kb k) (by omega) (vb.up (by unfold vk at hk; omega))
      have hl := kt_node h hk
      rcases (show ks k = 3 ∨ ks k = 4 by omega) with e0 | e0
      · rw [hl.1 e0, e, ← i1, ← i2]; rfl
      · rw [hl.2 e0, e, ← i1, ← i2]; rfl
theorem kt_sz {n m : Int} {ks ka kb sz : Int → Int} (h : KJ n m ks ka kb sz) {k : Int} (hk : vk n m k) : ksz (kt ks ka kb k) = sz k := kt_size h (sz k).toNat k (by omega) hk
/-- rows that grow -/
def kext (s t : SM) : Prop := s.1 2 = t.1 2 ∧ s.1 3 ≤ t.1 3 ∧ ∀ k, k < s.1 3 → t.2 4 k = s.2 4 k ∧ t.2 5 k = s.2 5 k ∧ t.2 6 k = s.2 6 k ∧ t.2 7 k = s.2 7 k
theorem kext.rf {s : SM} : kext s s := ⟨rfl, Int.le_refl _, fun _ _ => ⟨rfl, rfl, rfl, rfl⟩⟩
theorem kext.tr {s t u : SM} (h1 : kext s t) (h2 : kext t u) : kext s u := ⟨h1.1.trans h2.1, Int.le_trans h1.2.1 h2.2.1, fun k hk => by
  obtain ⟨a1, a2, a3, a4⟩ := h1.2.2 k hk
  obtain ⟨b1, b2, b3, b4⟩ := h2.2.2 k (Int.lt_of_lt_of_le hk h1.2.1)
  exact ⟨b1.trans a1, b2.trans a2, b3.trans a3, b4.trans a4⟩⟩
abbrev KJs (s : SM) : Prop := KJ (s.1 2) (s.1 3) (s.2 4) (s.2 5) (s.2 6) (s.2 7)
abbrev vks (s : SM) (k : Int) : Prop := vk (s.1 2) (s.1 3) k
abbrev kts (s : SM) (k : Int) : Term := kt (s.2 4) (s.2 5) (s.2 6) k
theorem kext_vk {s t : SM} (h : kext s t) {k : Int} (hk : vks s k) : vks t k := by
  have := h.1
  have := h.2.1
  unfold vks at hk ⊢
  unfold vk at hk ⊢
  omega
theorem kext_kt {s t : SM} (h : kext s t) (hs : KJs s) {k : Int} (hk : vks s k) : kts t k = kts s k := by
  have key : ∀ (q : Nat) (k : Int), vks s k → kd (t.2 4) (t.2 5) (t.2 6) q k = kd (s.2 4) (s.2 5) (s.2 6) q k := by
    intro q
    induction q with
    | zero => intro k _; rfl
    | succ q ih =>
      intro k hk
      obtain ⟨e1, e2, e3, -⟩ := h.2.2 k (hk.lt hs.1.1.2 hs.2.1).2
      rw [kd_s, kd_s, e1, e2, e3]
      by_cases h3 : s.2 4 k < 3
      · by_cases e0 : s.2 4 k = 0
        · rw [if_pos e0, if_pos e0]
        · by_cases e1 : s.2 4 k = 1
          · rw [if_neg e0, if_neg e0, if_pos e1, if_pos e1]
          · have := (hs.at hk).2.1
            rw [if_neg e0, if_neg e0, if_neg e1, if_neg e1, if_pos (by omega), if_pos (by omega)]
      · obtain ⟨k3, va, vb, -⟩ := (hs.at hk).2.2.2 (by omega)
        have hm := hs.2.1
        have hn := hs.1.1
        have hkl := hk.lt hn.2 hm
        rw [ih _ (va.up (by omega)), ih _ (vb.up (by omega))]
  exact key 40 k hk
section
variable {iv : List (Int × Int)} {L : Nat} {h0 : MH}
theorem thereKind_ok {s : SM} {d : Nat} {i a b : Int} (hm : s.1 3 ≤ 6000) (hn : s.1 2 ≤ 40) : cm iv L h0 d 64 [vr 307, vi i, vi a, vi b] s (qi fun r t => t = s ∧ (r = -9 ∨ (vks s r ∧ s.2 4 r = i ∧ s.2 5 r = a ∧ s.2 6 r = b))) := by
  have key : ∀ (q : Nat) (k : Int), (s.1 3 - k).toNat ≤ q → 0 ≤ k → wm iv L h0 d 64 3 [lr 307, li i, li a, li b, li k] [] s (qi fun r t => t = s ∧ (r = -9 ∨ (vks s r ∧ s.2 4 r = i ∧ s.2 5 r = a ∧ s.2 6 r = b))) := by
    intro q
    induction q with
    | zero => intro k h1 h2; exact B64_3 ⟨fun _ => ⟨rfl, Or.inl rfl⟩, fun h => absurd h (by omega)⟩
    | succ q ih =>
      intro k h1 h2
      have nx : k < s.1 3 → wm iv L h0 d 64 3 [lr 307, li i, li a, li b, li (k + 1)] [] s (qi fun r t => t = s ∧ (r = -9 ∨ (vks s r ∧ s.2 4 r = i ∧ s.2 5 r = a ∧ s.2 6 r = b))) := fun h => ih (k + 1) (by omega) (by omega)
      exact B64_3 ⟨fun _ => ⟨rfl, Or.inl rfl⟩, fun h => ⟨fun h3 => ⟨by omega, fun _ => ⟨by omega, nx h⟩, fun e1 => ⟨fun _ => ⟨by omega, nx h⟩, fun e2 => ⟨fun _ => ⟨by omega, nx h⟩, fun e3 => ⟨rfl, Or.inr ⟨Or.inl ⟨by omega, by omega⟩, e1, e2, e3⟩⟩⟩⟩⟩,
        fun h3 => ⟨fun _ => ⟨by omega, nx h⟩, fun h4 => ⟨by omega, fun _ => ⟨by omega, nx h⟩, fun e1 => ⟨fun _ => ⟨by omega, nx h⟩, fun e2 => ⟨fun _ => ⟨by omega, nx h⟩, fun e3 => ⟨rfl, Or.inr ⟨Or.inr ⟨by omega, by omega⟩, e1, e2, e3⟩⟩⟩⟩⟩⟩⟩⟩
  exact B64 (key _ 0 (Nat.le_refl _) (by omega))
/-- a row more -/
theorem kj_push {s : SM} {i a b : Int} (hs : KJs s) (hi : i = 3 ∨ i = 4) (ha : vks s a) (hb : vks s b) (hz : 1 + s.2 7 a + s.2 7 b ≤ 40) : KJs (us (ua (ua (ua (ua s 4 (s.1 3) i) 5 (s.1 3) a) 6 (s.1 3) b) 7 (s.1 3) (1 + s.2 7 a + s.2 7 b)) 3 (s.1 3 + 1)) ∧ kext s (us (ua (ua (ua (ua s 4 (s.1 3) i) 5 (s.1 3) a) 6 (s.1 3) b) 7 (s.1 3) (1 + s.2 7 a + s.2 7 b)) 3 (s.1 3 + 1)) ∧ kts (us (ua (ua (ua (ua s 4 (s.1 3) i) 5 (s.1 3) a) 6 (s.1 3) b) 7 (s.1 3) (1 + s.2 7 a + s.2 7 b)) 3 (s.1 3 + 1)) (s.1 3) = kmk i (kts s a) (kts s b) := by
  have hm := hs.2.1
  have hn := hs.1.1
  generalize ht : us (ua (ua (ua (ua s 4 (s.1 3) i) 5 (s.1 3) a) 6 (s.1 3) b) 7 (s.1 3) (1 + s.2 7 a + s.2 7 b)) 3 (s.1 3 + 1) = t
  have t2 : t.1 2 = s.1 2 := by rw [← ht]; rfl
  have t3 : t.1 3 = s.1 3 + 1 := by rw [← ht]; rfl
  have r4 : ∀ k, t.2 4 k = if k = s.1 3 then i else s.2 4 k := fun k => by rw [← ht]; simp [us_2, ua_2]
  have r5 : ∀ k, t.2 5 k = if k = s.1 3 then a else s.2 5 k := fun k => by rw [← ht]; simp [us_2, ua_2]
  have r6 : ∀ k, t.2 6 k = if k = s.1 3 then b else s.2 6 k := fun k => by rw [← ht]; simp [us_2, ua_2]
  have r7 : ∀ k, t.2 7 k = if k = s.1 3 then 1 + s.2 7 a + s.2 7 b else s.2 7 k := fun k => by rw [← ht]; simp [us_2, ua_2]
  have hx : kext s t := ⟨t2.symm, by omega, fun k hk => by rw [r4, r5, r6, r7, if_neg (by omega), if_neg (by omega), if_neg (by omega), if_neg (by omega)]; exact ⟨rfl, rfl, rfl, rfl⟩⟩
  have la := (ha.lt hn.2 hm).2
  have lb := (hb.lt hn.2 hm).2
  have hKJ : KJs t := by
    refine ⟨⟨by omega, fun k k0 k3 => ?_, fun k k3 kn => ?_⟩, by omega, fun k k40 km => ?_⟩
    · obtain ⟨e1, e2, e3, e4⟩ := hx.2.2 k (by omega)
      rw [e1, e2, e3, e4]
      exact hs.1.2.1 k k0 k3
    · obtain ⟨e1, e2, e3, e4⟩ := hx.2.2 k (by omega)
      obtain ⟨f1, f2, f3, f4, f5⟩ := hs.1.2.2 k k3 (by omega)
      rw [e1, e2, e3, e4, (hx.2.2 (s.2 5 k) (by omega)).2.2.2, (hx.2.2 (s.2 6 k) (by omega)).2.2.2]
      exact ⟨f1, f2, f3, f4, f5⟩
    · by_cases e : k = s.1 3
      · subst e
        rw [r4, r5, r6, r7, if_pos rfl, if_pos rfl, if_pos rfl, if_pos rfl, (hx.2.2 a la).2.2.2, (hx.2.2 b lb).2.2.2, t2]
        exact ⟨hi, ha, hb, rfl, hz⟩
      · obtain ⟨e1, e2, e3, e4⟩ := hx.2.2 k (by omega)
        obtain ⟨f1, f2, f3, f4, f5⟩ := hs.2.2 k k40 (by omega)
        have l1 := (f2.lt hn.2 (by omega)).2
        have l2 := (f3.lt hn.2 (by omega)).2
        rw [e1, e2, e3, e4, (hx.2.2 (s.2 5 k) (by omega)).2.2.2, (hx.2.2 (s.2 6 k) (by omega)).2.2.2, t2]
        exact ⟨f1, f2, f3, f4, f5⟩
  refine ⟨hKJ, hx, ?_⟩
  have hv : vks t (s.1 3) := Or.inr ⟨hm, by omega⟩
  have hnd : (t.2 4 (s.1 3) = 3 → kts t (s.1 3) = .add (kts t (t.2 5 (s.1 3))) (kts t (t.2 6 (s.1 3)))) ∧ (t.2 4 (s.1 3) = 4 → kts t (s.1 3) = .mul (kts t (t.2 5 (s.1 3))) (kts t (t.2 6 (s.1 3)))) := kt_node hKJ hv
  have q4 : t.2 4 (s.1 3) = i := by rw [r4, if_pos rfl]
  have q5 : t.2 5 (s.1 3) = a := by rw [r5, if_pos rfl]
  have q6 : t.2 6 (s.1 3) = b := by rw [r6, if_pos rfl]
  rw [q4, q5, q6, kext_kt hx hs ha, kext_kt hx hs hb] at hnd
  have za : ksz (kts s a) = s.2 7 a := kt_sz hs ha
  have zb : ksz (kts s b) = s.2 7 b := kt_sz hs hb
  unfold kmk
  rw [za, zb, if_neg (by omega)]
  rcases hi with rfl | rfl
  · rw [if_pos rfl]
    exact hnd.1 rfl
  · rw [if_neg (by decide)]
    exact hnd.2 rfl
theorem makeKind_ok {s : SM} {i a b : Int} (hs : KJs s) (hi : i = 3 ∨ i = 4) (ha : vks s a) (hb : vks s b) (hm : s.1 3 < 6000) : cm iv L h0 1 65 [vr 307, vi i, vi a, vi b] s (qi fun r t => eqx [3] [4, 5, 6, 7] s t ∧ KJs t ∧ kext s t ∧ t.1 3 ≤ s.1 3 + 1 ∧ vks t r ∧ kts t r = kmk i (kts s a) (kts s b)) := by
  have hm0 := hs.2.1
  have hn := hs.1.1
  have za := (hs.at ha).1
  have zb := (hs.at hb).1
  have la := ha.lt hn.2 hm0
  have lb := hb.lt hn.2 hm0
  have za' : ksz (kts s a) = s.2 7 a := kt_sz hs ha
  have zb' : ksz (kts s b) = s.2 7 b := kt_sz hs hb
  refine B65 ⟨by omega, by omega, by omega, by omega, fun h => wci_mono (thereKind_ok (by omega) hn.2) (Nat.le_refl _) ?_, fun h => ⟨eqx.rf, hs, kext.rf, by omega, Or.inl ⟨by omega, by omega⟩, ?_⟩⟩
  · rintro r t ⟨rfl, hr⟩
    refine ⟨fun e => ?_, fun e => B66 ⟨by omega, ⟨by show -2147483648 ≤ t.1 3 + 1 ∧ t.1 3 + 1 ≤ 2147483647; omega, ?_⟩⟩⟩
    · obtain ⟨h1, h2, h3, h4⟩ := hr.resolve_left e
      refine ⟨eqx.rf, hs, kext.rf, by omega, h1, ?_⟩
      have hnd : (t.2 4 r = 3 → kts t r = .add (kts t (t.2 5 r)) (kts t (t.2 6 r))) ∧ (t.2 4 r = 4 → kts t r = .mul (kts t (t.2 5 r)) (kts t (t.2 6 r))) := kt_node hs h1
      rw [h2, h3, h4] at hnd
      unfold kmk
      rw [za', zb', if_neg (by omega)]
      rcases hi with rfl | rfl
      · rw [if_pos rfl]
        exact hnd.1 rfl
      · rw [if_neg (by decide)]
        exact hnd.2 rfl
    · obtain ⟨p1, p2, p3⟩ := kj_push hs hi ha hb (by omega)
      refine ⟨eqx_us (eqx_ua (eqx_ua (eqx_ua (eqx_ua eqx.rf (by decide)) (by decide)) (by decide)) (by decide)) (by decide), p1, p2, ?_, Or.inr ⟨hm0, ?_⟩, p3⟩
      · show t.1 3 + 1 ≤ t.1 3 + 1
        omega
      · show t.1 3 < t.1 3 + 1
        omega
  · unfold kmk
    rw [za', zb', if_pos (by omega)]
    exact (kt_leaf hs).1 (hs.1.2.1 0 (by omega) (by omega)).1
theorem areMeeting_ok {s : SM} (hs : KJs s) (hm6 : s.1 3 ≤ 6000) : ∀ (q : Nat) (a b : Int), s.2 7 a ≤ q → vks s a → vks s b → cm iv L h0 q 70 [vr 307, vi a, vi b] s (qi fun r t => t = s ∧ r = if kmt (kts s a) (kts s b) then 1 else 0) := by
  have hm0 := hs.2.1
  have hn := hs.1.1
  have leaf : ∀ k, (s.2 4 k = 0 → kts s k = .null) ∧ (s.2 4 k = 1 → kts s k = .result) ∧ (s.2 4 k = 2 → kts s k = .thrown) := fun k => kt_leaf hs
  have node : ∀ k, vks s k → (s.2 4 k = 3 → kts s k = .add (kts s (s.2 5 k)) (kts s (s.2 6 k))) ∧ (s.2 4 k = 4 → kts s k = .mul (kts s (s.2 5 k)) (kts s (s.2 6 k))) := fun k hk => kt_node hs hk
  have n0 : kts s 0 = .null := (leaf 0).1 (hs.1.2.1 0 (by omega) (by omega)).1
  have nnl : ∀ x : Term, kmt x .null = true := fun x => by cases x <;> rfl
  intro q
  induction q with
  | zero => intro a b h1 ha hb; have := (hs.at ha).1; omega
  | succ q ih =>
    intro a b h1 ha hb
    have Ha := hs.at ha
    have Hb := hs.at hb
    have la := ha.lt hn.2 hm0
    have lb := hb.lt hn.2 hm0
    refine B70 ⟨fun e => ⟨rfl, by subst e; rw [n0]; rfl⟩, fun e => ⟨fun e2 => ⟨by omega, by omega, fun e3 => ⟨fun e4 => ?_, fun e4 => ?_⟩, fun e3 => ?_⟩, fun e2 => ⟨rfl, by subst e2; rw [n0, nnl]; rfl⟩⟩⟩
    · -- both of one sign
      refine ⟨rfl, ?_⟩
      have ka := (Ha.2.2.1 e4).1
      rcases (show s.2 4 a = 1 ∨ s.2 4 a = 2 by omega) with e5 | e5
      · rw [(leaf a).2.1 e5, (leaf b).2.1 (by omega)]; rfl
      · rw [(leaf a).2.2 e5, (leaf b).2.2 (by omega)]; rfl
    · obtain ⟨a3, va, wa, ea, sa, ta⟩ := Ha.2.2.2 e4
      obtain ⟨b3, vb, wb, eb, sb, tb⟩ := Hb.2.2.2 (by omega)
      have va' : vks s (s.2 5 a) := va.up (by omega)
      have wa' : vks s (s.2 6 a) := wa.up (by omega)
      have vb' : vks s (s.2 5 b) := vb.up (by omega)
      have wb' : vks s (s.2 6 b) := wb.up (by omega)
      have hk : kmt (kts s a) (kts s b) = (kmt (kts s (s.2 5 a)) (kts s (s.2 5 b)) && kmt (kts s (s.2 6 a)) (kts s (s.2 6 b))) := by
        rcases (show s.2 4 a = 3 ∨ s.2 4 a = 4 by omega) with e5 | e5
        · rw [(node a ha).1 e5, (node b hb).1 (by omega)]; rfl
        · rw [(node a ha).2 e5, (node b hb).2 (by omega)]; rfl
      rw [hk]
      refine wci_mono (ih _ _ (by omega) va' vb') (Nat.le_refl _) ?_
      rintro r t ⟨rfl, rfl⟩
      cases hc : kmt (kts t (t.2 5 a)) (kts t (t.2 5 b)) with
      | false => exact ⟨fun _ => ⟨rfl, rfl⟩, fun h => absurd rfl h⟩
      | true =>
        refine ⟨fun h => absurd h (by decide), fun _ => wci_mono (ih _ _ (by omega) wa' wb') (Nat.le_refl _) ?_⟩
        rintro r u ⟨rfl, rfl⟩
        cases hc2 : kmt (kts u (u.2 6 a)) (kts u (u.2 6 b)) with
        | false => exact ⟨fun _ => ⟨rfl, rfl⟩, fun h => absurd rfl h⟩
        | true => exact ⟨fun h => absurd h (by decide), fun _ => ⟨rfl, rfl⟩⟩
    · refine ⟨rfl, ?_⟩
      have z1 : s.2 4 a ≠ 0 := fun h => e (by have := (Ha.2.2.1 (by omega)).1; omega)
      have z2 : s.2 4 b ≠ 0 := fun h => e2 (by have := (Hb.2.2.1 (by omega)).1; omega)
      have : kmt (kts s a) (kts s b) = false := by
        rcases (show s.2 4 a = 1 ∨ s.2 4 a = 2 ∨ s.2 4 a = 3 ∨ s.2 4 a = 4 by omega) with f | f | f | f <;> rcases (show s.2 4 b = 1 ∨ s.2 4 b = 2 ∨ s.2 4 b = 3 ∨ s.2 4 b = 4 by omega) with f2 | f2 | f2 | f2
        all_goals first
          | (exfalso; omega)
          | (rw [(leaf a).2.1 f, (leaf b).2.2 f2]; rfl)
          | (rw [(leaf a).2.1 f, (node b hb).1 f2]; rfl)
          | (rw [(leaf a).2.1 f, (node b hb).2 f2]; rfl)
          | (rw [(leaf a).2.2 f, (leaf b).2.1 f2]; rfl)
          | (rw [(leaf a).2.2 f, (node b hb).1 f2]; rfl)
          | (rw [(leaf a).2.2 f, (node b hb).2 f2]; rfl)
          | (rw [(node a ha).1 f, (leaf b).2.1 f2]; rfl)
          | (rw [(node a ha).1 f, (leaf b).2.2 f2]; rfl)
          | (rw [(node a ha).1 f, (node b hb).2 f2]; rfl)
          | (rw [(node a ha).2 f, (leaf b).2.1 f2]; rfl)
          | (rw [(node a ha).2 f, (leaf b).2.2 f2]; rfl)
          | (rw [(node a ha).2 f, (node b hb).1 f2]; rfl)
      rw [this]
      rfl
theorem together_ok : ∀ (q : Nat) (s : SM) (a b : Int), KJs s → s.2 7 a ≤ q → vks s a → vks s b → kmt (kts s a) (kts s b) = true → s.1 3 + s.2 7 a ≤ 6000 → cm iv L h0 (q + 1) 71 [vr 307, vi a, vi b] s (qi fun r t => eqx [3] [4, 5, 6, 7] s t ∧ KJs t ∧ kext s t ∧ t.1 3 ≤ s.1 3 + s.2 7 a ∧ vks t r ∧ kts t r = ktg (kts s a) (kts s b)) := by
  intro q
  induction q with
  | zero => intro s a b hs h1 ha; have := (hs.at ha).1; omega
  | succ q ih =>
    intro s a b hs h1 ha hb hmt h6
    have hm0 := hs.2.1
    have hn := hs.1.1
    have leaf : ∀ k, (s.2 4 k = 0 → kts s k = .null) ∧ (s.2 4 k = 1 → kts s k = .result) ∧ (s.2 4 k = 2 → kts s k = .thrown) := fun k => kt_leaf hs
    have node : ∀ k, vks s k → (s.2 4 k = 3 → kts s k = .add (kts s (s.2 5 k)) (kts s (s.2 6 k))) ∧ (s.2 4 k = 4 → kts s k = .mul (kts s (s.2 5 k)) (kts s (s.2 6 k))) := fun k hk => kt_node hs hk
    have n0 : kts s 0 = .null := (leaf 0).1 (hs.1.2.1 0 (by omega) (by omega)).1
    have Ha := hs.at ha
    have Hb := hs.at hb
    have la := ha.lt hn.2 hm0
    have lb := hb.lt hn.2 hm0
    refine B71 ⟨fun e => ⟨fun e2 => ⟨eqx.rf, hs, kext.rf, by omega, ha, ?_⟩, fun e2 => ⟨by omega, fun e4 => ⟨by omega, ?_⟩, fun e4 => ⟨eqx.rf, hs, kext.rf, by omega, ha, ?_⟩⟩⟩, fun e => ⟨eqx.rf, hs, kext.rf, by omega, hb, ?_⟩⟩
    · subst e2
      rw [n0]
      cases kts s a <;> rfl
    · -- both have parts
      obtain ⟨a3, va, wa, ea, sa, ta⟩ := Ha.2.2.2 e4
      have z2 : s.2 4 b ≠ 0 := fun h => e2 (by have := (Hb.2.2.1 (by omega)).1; omega)
      have hsame : s.2 4 b = s.2 4 a := by
        rcases (show s.2 4 a = 3 ∨ s.2 4 a = 4 by omega) with f | f <;> rcases (show s.2 4 b = 1 ∨ s.2 4 b = 2 ∨ s.2 4 b = 3 ∨ s.2 4 b = 4 by omega) with f2 | f2 | f2 | f2
        all_goals first
          | omega
          | (exfalso; rw [(node a ha).1 f, (leaf b).2.1 f2] at hmt; exact absurd (show false = true from hmt) (by decide))
          | (exfalso; rw [(node a ha).1 f, (leaf b).2.2 f2] at hmt; exact absurd (show false = true from hmt) (by decide))
          | (exfalso; rw [(node a ha).1 f, (node b hb).2 f2] at hmt; exact absurd (show false = true from hmt) (by decide))
          | (exfalso; rw [(node a ha).2 f, (leaf b).2.1 f2] at hmt; exact absurd (show false = true from hmt) (by decide))
          | (exfalso; rw [(node a ha).2 f, (leaf b).2.2 f2] at hmt; exact absurd (show false = true from hmt) (by decide))
          | (exfalso; rw [(node a ha).2 f, (node b hb).1 f2] at hmt; exact absurd (show false = true from hmt) (by decide))
      obtain ⟨b3, vb, wb, eb, sb, tb⟩ := Hb.2.2.2 (by omega)
      have va' : vks s (s.2 5 a) := va.up (by omega)
      have wa' : vks s (s.2 6 a) := wa.up (by omega)
      have vb' : vks s (s.2 5 b) := vb.up (by omega)
      have wb' : vks s (s.2 6 b) := wb.up (by omega)
      have hk : kmt (kts s (s.2 5 a)) (kts s (s.2 5 b)) = true ∧ kmt (kts s (s.2 6 a)) (kts s (s.2 6 b)) = true := by
        have h := hmt
        rcases (show s.2 4 a = 3 ∨ s.2 4 a = 4 by omega) with f | f
        · rw [(node a ha).1 f, (node b hb).1 (by omega)] at h
          exact Bool.and_eq_true_iff.mp h
        · rw [(node a ha).2 f, (node b hb).2 (by omega)] at h
          exact Bool.and_eq_true_iff.mp h
      have hg : ktg (kts s a) (kts s b) = kmk (s.2 4 a) (ktg (kts s (s.2 5 a)) (kts s (s.2 5 b))) (ktg (kts s (s.2 6 a)) (kts s (s.2 6 b))) := by
        rcases (show s.2 4 a = 3 ∨ s.2 4 a = 4 by omega) with f | f
        · rw [(node a ha).1 f, (node b hb).1 (by omega), f]; rfl
        · rw [(node a ha).2 f, (node b hb).2 (by omega), f]; rfl
      have r5 := s.2 5 a
      refine wci_mono (ih s _ _ hs (by omega) va' vb' hk.1 (by omega)) (Nat.le_refl _) ?_
      rintro r t ⟨q1, q2, q3, q4, q5, q6⟩
      have va2 := kext_vk q3 va'
      have wa2 := kext_vk q3 wa'
      have wb2 := kext_vk q3 wb'
      have ra := q3.2.2 a la.2
      have rb := q3.2.2 b lb.2
      have rwa := q3.2.2 _ (wa'.lt hn.2 hm0).2
      rw [ra.2.2.1, rb.2.2.1]
      refine wci_mono (ih t _ _ q2 (by rw [rwa.2.2.2]; omega) wa2 wb2 (by rw [kext_kt q3 hs wa', kext_kt q3 hs wb']; exact hk.2) (by rw [rwa.2.2.2]; omega)) (Nat.le_refl _) ?_
      rintro r2 u ⟨p1, p2, p3, p4, p5, p6⟩
      rw [rwa.2.2.2] at p4
      refine wci_mono (makeKind_ok p2 (by omega) (kext_vk p3 q5) p5 (by omega)) (by omega) ?_
      rintro r3 w ⟨o1, o2, o3, o4, o5, o6⟩
      refine ⟨(q1.tr p1).tr o1, o2, (q3.tr p3).tr o3, by omega, o5, ?_⟩
      rw [o6, kext_kt p3 q2 q5, q6, p6, kext_kt q3 hs wa', kext_kt q3 hs wb', hg]
    · rcases (show s.2 4 a = 1 ∨ s.2 4 a = 2 by have := Ha.2.2.1 e4; omega) with f | f
      · rw [(leaf a).2.1 f]; cases kts s b <;> rfl
      · rw [(leaf a).2.2 f]; cases kts s b <;> rfl
    · subst e
      rw [n0]
      cases kts s b <;> rfl
end
end
section
/-! Trees of nodes: a node's birth, then its parts one behind another ('add' puts one more part behind). -/
def hd : Term → Int
  | .index n => n
  | .add t _ => hd t
  | _ => 0
/-- how many parts it has by now -/
def na : Term → Int
  | .add t _ => na t + 1
  | _ => 0
/-- the births, from the left -/
def fl : Term → List Int
  | .index n => [(n : Int)]
  | .add t x => fl t ++ fl x
  | _ => []
/-- levels -/
def dpt : Term → Nat
  | .add t x => max (dpt t) (dpt x + 1)
  | _ => 1
def full (so : Int → Int) (t : Term) : Prop := na t = pO (so (hd t))
/-- the rows hold this tree -/
def AT (so pa up pl : Int → Int) (B : Int) : Term → Prop
  | .index n => (n : Int) < B ∧ 0 ≤ so n ∧ so n < 16
  | .add t x => AT so pa up pl B t ∧ AT so pa up pl B x ∧ full so x ∧ na t < pO (so (hd t)) ∧ pa (3 * hd t + na t) = hd x ∧ up (hd x) = hd t ∧ pl (hd x) = na t
  | _ => False
theorem hd_mem {so pa up pl : Int → Int} {B : Int} : ∀ (t : Term), AT so pa up pl B t → hd t ∈ fl t := by
  intro t
  induction t with
  | index n => intro _; exact List.mem_singleton.mpr rfl
  | add t x ih _ => intro h; exact List.mem_append_left _ (ih h.1)
  | _ => intro h; exact h.elim
theorem fl_hd {so pa up pl : Int → Int} {B : Int} : ∀ (t : Term), AT so pa up pl B t → ∃ r, fl t = hd t :: r := by
  intro t
  induction t with
  | index n => intro _; exact ⟨[], rfl⟩
  | add t x ih _ => intro h; obtain ⟨r, e⟩ := ih h.1; exact ⟨r ++ fl x, by show fl t ++ fl x = hd t :: (r ++ fl x); rw [e]; rfl⟩
  | _ => intro h; exact h.elim
theorem na_ge : ∀ (t : Term), 0 ≤ na t := by
  intro t
  induction t with
  | add t x ih _ => show 0 ≤ na t + 1; omega
  | _ => exact Int.le_refl 0
theorem dpt_pos : ∀ (t : Term), 1 ≤ dpt t := by
  intro t
  induction t with
  | add t x ih _ => show 1 ≤ max (dpt t) (dpt x + 1); omega
  | _ => exact Nat.le_refl 1
theorem dpt_len {so pa up pl : Int → Int} {B : Int} : ∀ (t : Term), AT so pa up pl B t → dpt t ≤ (fl t).length := by
  intro t
  induction t with
  | index n => intro _; exact Nat.le_refl 1
  | add t x ih ihx =>
    intro h
    have h1 := ih h.1
    have h2 := ihx h.2.1
    have h3 := dpt_pos t
    show max (dpt t) (dpt x + 1) ≤ (fl t ++ fl x).length
    rw [List.length_append]
    omega
  | _ => intro h; exact h.elim
/-- rows that agree where the tree looks -/
theorem AT_cg {so pa up pl so' pa' up' pl' : Int → Int} {B B' : Int} (hB : B ≤ B') : ∀ (t : Term), AT so pa up pl B t → (fl t).Nodup → (∀ x, x ∈ fl t → so' x = so x ∧ ∀ i, 0 ≤ i → i < pO (so x) → (x = hd t → i < na t) → pa' (3 * x + i) = pa (3 * x + i)) → (∀ x, x ∈ fl t → x ≠ hd t → up' x = up x ∧ pl' x = pl x) → AT so' pa' up' pl' B' t := by
  intro t
  induction t with
  | index n =>
    intro h _ hs _
    obtain ⟨h1, h2⟩ := h
    obtain ⟨e, -⟩ := hs n (List.mem_singleton.mpr rfl)
    exact ⟨by omega, by rw [e]; exact h2⟩
  | add t x ih ihx =>
    intro h hnd hs hu
    obtain ⟨h1, h2, h3, h4, h5, h6, h7⟩ := h
    obtain ⟨d1, d2, d3⟩ := List.nodup_append.mp hnd
    have mt : ∀ y, y ∈ fl t → y ∈ fl (Term.add t x) := fun y hy => List.mem_append_left _ hy
    have mx : ∀ y, y ∈ fl x → y ∈ fl (Term.add t x) := fun y hy => List.mem_append_right _ hy
    have ht := hd_mem t h1
    have hx := hd_mem x h2
    have nx : ∀ y, y ∈ fl x → y ≠ hd t := fun y hy e => d3 _ ht y hy e.symm
    obtain ⟨e1, e2⟩ := hs _ (mt _ ht)
    obtain ⟨e3, -⟩ := hs _ (mx _ hx)
    obtain ⟨e4, e5⟩ := hu _ (mx _ hx) (nx _ hx)
    have hna : na (Term.add t x) = na t + 1 := rfl
    refine ⟨ih h1 d1 (fun y hy => ⟨(hs y (mt y hy)).1, fun i i0 ip hi => (hs y (mt y hy)).2 i i0 ip (fun e => by have := hi e; omega)⟩) (fun y hy hn => hu y (mt y hy) hn), ihx h2 d2 (fun y hy => ⟨(hs y (mx y hy)).1, fun i i0 ip _ => (hs y (mx y hy)).2 i i0 ip (fun e => absurd e (nx y hy))⟩) (fun y hy _ => hu y (mx y hy) (nx y hy)), ?_, ?_, ?_, ?_, ?_⟩
    · unfold full
      rw [e3]
      exact h3
    · rw [e1]; exact h4
    · rw [e2 _ (na_ge t) h4 (fun _ => by omega)]; exact h5
    · rw [e4]; exact h6
    · rw [e5]; exact h7
  | _ => intro h; exact h.elim
/-- what holds of every node -/
theorem AT_mem {so pa up pl : Int → Int} {B : Int} : ∀ (t : Term), AT so pa up pl B t → ∀ x, x ∈ fl t → (0 ≤ x ∧ x < B) ∧ (0 ≤ so x ∧ so x < 16) ∧ (∀ i, 0 ≤ i → i < pO (so x) → (x = hd t → i < na t) → pa (3 * x + i) ∈ fl t ∧ up (pa (3 * x + i)) = x ∧ pl (pa (3 * x + i)) = i) ∧ (x ≠ hd t → up x ∈ fl t ∧ (0 ≤ pl x ∧ pl x < pO (so (up x))) ∧ pa (3 * up x + pl x) = x) := by
  intro t
  induction t with
  | index n =>
    intro h x hx
    have hx := List.mem_singleton.mp hx
    subst hx
    exact ⟨⟨by omega, h.1⟩, h.2, fun i i0 _ hi => absurd (hi rfl) (by show ¬ i < 0; omega), fun e => absurd rfl e⟩
  | add t y ih ihy =>
    intro h x hx
    obtain ⟨h1, h2, h3, h4, h5, h6, h7⟩ := h
    have mt : ∀ z, z ∈ fl t → z ∈ fl (Term.add t y) := fun z hz => List.mem_append_left _ hz
    have my : ∀ z, z ∈ fl y → z ∈ fl (Term.add t y) := fun z hz => List.mem_append_right _ hz
    rcases List.mem_append.mp hx with hx | hx
    · obtain ⟨a1, a2, a3, a4⟩ := ih h1 x hx
      refine ⟨a1, a2, fun i i0 ip hi => ?_, fun e => ?_⟩
      · by_cases e : x = hd t
        · have hi2 : i < na t + 1 := hi e
          by_cases e2 : i = na t
          · subst e
            rw [e2, h5]
            exact ⟨my _ (hd_mem y h2), h6, h7⟩
          · obtain ⟨b1, b2⟩ := a3 i i0 ip (fun _ => by omega)
            exact ⟨mt _ b1, b2⟩
        · obtain ⟨b1, b2⟩ := a3 i i0 ip (fun q => absurd q e)
          exact ⟨mt _ b1, b2⟩
      · obtain ⟨b1, b2⟩ := a4 e
        exact ⟨mt _ b1, b2⟩
    · obtain ⟨a1, a2, a3, a4⟩ := ihy h2 x hx
      refine ⟨a1, a2, fun i i0 ip hi => ?_, fun e => ?_⟩
      · obtain ⟨b1, b2⟩ := a3 i i0 ip (fun q => by rw [h3, ← q]; exact ip)
        exact ⟨my _ b1, b2⟩
      · by_cases q : x = hd y
        · rw [q, h6, h7]
          exact ⟨mt _ (hd_mem t h1), ⟨na_ge t, h4⟩, h5⟩
        · obtain ⟨b1, b2⟩ := a4 q
          exact ⟨my _ b1, b2⟩
  | _ => intro h; exact h.elim
/-- a piece in the place of the node x -/
def rp (x : Int) (u : Term) : Term → Term
  | .add t y => .add (rp x u t) (if hd y = x then u else rp x u y)
  | t => t
theorem rp_hd {x : Int} {u : Term} : ∀ (t : Term), hd (rp x u t) = hd t ∧ na (rp x u t) = na t := by
  intro t
  induction t with
  | add t y ih _ => exact ⟨ih.1, by show na (rp x u t) + 1 = na t + 1; rw [ih.2]⟩
  | _ => exact ⟨rfl, rfl⟩
theorem rp_no {so pa up pl : Int → Int} {B x : Int} {u : Term} : ∀ (t : Term), AT so pa up pl B t → x ∉ fl t → rp x u t = t := by
  intro t
  induction t with
  | add t y ih ihy =>
    intro h hx
    have n1 : x ∉ fl t := fun q => hx (List.mem_append_left _ q)
    have n2 : x ∉ fl y := fun q => hx (List.mem_append_right _ q)
    show Term.add (rp x u t) (if hd y = x then u else rp x u y) = Term.add t y
    rw [ih h.1 n1, if_neg (fun e => n2 (by rw [← e]; exact hd_mem y h.2.1)), ihy h.2.1 n2]
  | _ => intro _ _; rfl
/-- the piece at a node -/
noncomputable def sb (x : Int) : Term → Term
  | .add t y => if hd y = x then y else if x ∈ fl y then sb x y else sb x t
  | t => t
theorem sb_ok {so pa up pl : Int → Int} {B x : Int} : ∀ (t : Term), AT so pa up pl B t → (fl t).Nodup → x ∈ fl t → x ≠ hd t → AT so pa up pl B (sb x t) ∧ full so (sb x t) ∧ hd (sb x t) = x ∧ (∀ y, y ∈ fl (sb x t) → y ∈ fl t) ∧ hd t ∉ fl (sb x t) ∧ dpt (sb x t) < dpt t := by
  intro t
  induction t with
  | index n => intro _ _ hx hn; exact absurd (List.mem_singleton.mp hx) hn
  | add t y ih ihy =>
    intro h hnd hx hn
    obtain ⟨h1, h2, h3, h4, h5, h6, h7⟩ := h
    obtain ⟨d1, d2, d3⟩ := List.nodup_append.mp hnd
    have hdp : dpt (Term.add t y) = max (dpt t) (dpt y + 1) := rfl
    have ht := hd_mem t h1
    by_cases e : hd y = x
    · rw [show sb x (Term.add t y) = y from if_pos e]
      exact ⟨h2, h3, e, fun z hz => List.mem_append_right _ hz, fun q => d3 _ ht _ q rfl, by omega⟩
    · by_cases q : x ∈ fl y
      · rw [show sb x (Term.add t y) = sb x y from by show (if hd y = x then y else if x ∈ fl y then sb x y else sb x t) = _; rw [if_neg e, if_pos q]]
        obtain ⟨b1, b2, b3, b4, b5, b6⟩ := ihy h2 d2 q (Ne.symm e)
        exact ⟨b1, b2, b3, fun z hz => List.mem_append_right _ (b4 z hz), fun w => d3 _ ht _ (b4 _ w) rfl, by omega⟩
      · rw [show sb x (Term.add t y) = sb x t from by show (if hd y = x then y else if x ∈ fl y then sb x y else sb x t) = _; rw [if_neg e, if_neg q]]
        obtain ⟨b1, b2, b3, b4, b5, b6⟩ := ih h1 d1 ((List.mem_append.mp hx).resolve_right q) hn
        exact ⟨b1, b2, b3, fun z hz => List.mem_append_left _ (b4 z hz), b5, by omega⟩
  | _ => intro h; exact h.elim
theorem rp_fl {so pa up pl : Int → Int} {B x : Int} : ∀ (t : Term), AT so pa up pl B t → (fl t).Nodup → x ∈ fl t → x ≠ hd t → ∃ a z : List Int, a ≠ [] ∧ fl t = a ++ (fl (sb x t) ++ z) ∧ ∀ u, fl (rp x u t) = a ++ (fl u ++ z) := by
  intro t
  induction t with
  | index n => intro _ _ hx hn; exact absurd (List.mem_singleton.mp hx) hn
  | add t y ih ihy =>
    intro h hnd hx hn
    obtain ⟨h1, h2, h3, h4, h5, h6, h7⟩ := h
    obtain ⟨d1, d2, d3⟩ := List.nodup_append.mp hnd
    have frp : ∀ u, fl (rp x u (Term.add t y)) = fl (rp x u t) ++ fl (if hd y = x then u else rp x u y) := fun _ => rfl
    have ht := hd_mem t h1
    by_cases e : hd y = x
    · have nt : x ∉ fl t := fun q => d3 x q x (by rw [← e]; exact hd_mem y h2) rfl
      rw [show sb x (Term.add t y) = y from if_pos e]
      refine ⟨fl t, [], (fun q => by rw [q] at ht; exact absurd ht List.not_mem_nil), (by show fl t ++ fl y = _; simp), fun u => ?_⟩
      rw [frp, if_pos e, rp_no t h1 nt]; simp
    · by_cases q : x ∈ fl y
      · have nt : x ∉ fl t := fun w => d3 x w x q rfl
        rw [show sb x (Term.add t y) = sb x y from by show (if hd y = x then y else if x ∈ fl y then sb x y else sb x t) = _; rw [if_neg e, if_pos q]]
        obtain ⟨a, z, b1, b2, b3⟩ := ihy h2 d2 q (Ne.symm e)
        refine ⟨fl t ++ a, z, by simp [b1], by show fl t ++ fl y = _; rw [b2]; simp, fun u => ?_⟩
        rw [frp, if_neg e, b3, rp_no t h1 nt]; simp
      · rw [show sb x (Term.add t y) = sb x t from by show (if hd y = x then y else if x ∈ fl y then sb x y else sb x t) = _; rw [if_neg e, if_neg q]]
        obtain ⟨a, z, b1, b2, b3⟩ := ih h1 d1 ((List.mem_append.mp hx).resolve_right q) hn
        refine ⟨a, z ++ fl y, b1, by show fl t ++ fl y = _; rw [b2]; simp, fun u => ?_⟩
        rw [frp, if_neg e, b3, rp_no y h2 q]; simp
  | _ => intro h; exact h.elim
/-- the tree behind a change of one link -/
theorem AT_rp {so pa up pl so' pa' up' pl' : Int → Int} {B B' x : Int} {u : Term} (hB : B ≤ B') (hu : AT so' pa' up' pl' B' u) (hf : full so' u) : ∀ (t : Term), AT so pa up pl B t → (fl t).Nodup → x ∈ fl t → x ≠ hd t →
    (∀ y, y ∈ fl t → y ∉ fl (sb x t) → so' y = so y ∧ ∀ i, 0 ≤ i → i < pO (so y) → (y = hd t → i < na t) → 3 * y + i ≠ 3 * up x + pl x → pa' (3 * y + i) = pa (3 * y + i)) → (∀ y, y ∈ fl t → y ∉ fl (sb x t) → y ≠ hd t → up' y = up y ∧ pl' y = pl y) → pa' (3 * up x + pl x) = hd u → up' (hd u) = up x → pl' (hd u) = pl x → AT so' pa' up' pl' B' (rp x u t) := by
  intro t
  induction t with
  | index n => intro _ _ hx hn; exact absurd (List.mem_singleton.mp hx) hn
  | add t y ih ihy =>
    intro h hnd hx hn hs hq hp hup hpl
    obtain ⟨h1, h2, h3, h4, h5, h6, h7⟩ := h
    obtain ⟨d1, d2, d3⟩ := List.nodup_append.mp hnd
    have ht := hd_mem t h1
    have hy := hd_mem y h2
    have mt : ∀ z, z ∈ fl t → z ∈ fl (Term.add t y) := fun z hz => List.mem_append_left _ hz
    have my : ∀ z, z ∈ fl y → z ∈ fl (Term.add t y) := fun z hz => List.mem_append_right _ hz
    have hna : na (Term.add t y) = na t + 1 := rfl
    have hhd : hd (Term.add t y) = hd t := rfl
    have pu := pO_in
    by_cases e : hd y = x
    · have es : sb x (Term.add t y) = y := if_pos e
      rw [es] at hs hq
      have ot : ∀ z, z ∈ fl t → z ∉ fl y := fun z hz q => d3 z hz z q rfl
      subst e
      rw [h6, h7] at hs hp
      rw [h6] at hup
      rw [h7] at hpl
      show AT so' pa' up' pl' B' (Term.add (rp (hd y) u t) (if hd y = hd y then u else rp (hd y) u y))
      rw [if_pos rfl, rp_no t h1 (fun q => ot _ q hy)]
      obtain ⟨e1, -⟩ := hs _ (mt _ ht) (ot _ ht)
      refine ⟨AT_cg hB t h1 d1 (fun z hz => ⟨(hs z (mt z hz) (ot z hz)).1, fun i i0 ip hi => (hs z (mt z hz) (ot z hz)).2 i i0 ip (fun q => by have := hi q; omega) ?_⟩) (fun z hz hzn => hq z (mt z hz) (ot z hz) hzn), hu, hf, by rw [e1]; exact h4, hp, hup, hpl⟩
      intro q
      have := pu (so z)
      have := pu (so (hd t))
      have := na_ge t
      have hzt : z = hd t := by omega
      have := hi hzt
      omega
    · by_cases q : x ∈ fl y
      · have es : sb x (Term.add t y) = sb x y := by show (if hd y = x then y else if x ∈ fl y then sb x y else sb x t) = _; rw [if_neg e, if_pos q]
        rw [es] at hs hq
        obtain ⟨b1, b2, b3, b4, b5, b6⟩ := sb_ok y h2 d2 q (Ne.symm e)
        have ot : ∀ z, z ∈ fl t → z ∉ fl (sb x y) := fun z hz w => d3 z hz z (b4 z w) rfl
        have nt : x ∉ fl t := fun w => d3 x w x q rfl
        obtain ⟨u1, u2, u3⟩ := (AT_mem y h2 x q).2.2.2 (Ne.symm e)
        have hne : ∀ z, z ∈ fl t → ∀ i, 0 ≤ i → i < pO (so z) → 3 * z + i ≠ 3 * up x + pl x := fun z hz i i0 ip w => by
          have := pu (so z)
          have := pu (so (up x))
          have : z = up x := by omega
          subst this
          exact d3 _ hz _ u1 rfl
        show AT so' pa' up' pl' B' (Term.add (rp x u t) (if hd y = x then u else rp x u y))
        rw [if_neg e, rp_no t h1 nt]
        obtain ⟨e1, e2⟩ := hs _ (mt _ ht) (ot _ ht)
        obtain ⟨e3, -⟩ := hs _ (my _ hy) b5
        have hyt : hd y ≠ hd t := fun w => d3 _ ht _ hy w.symm
        obtain ⟨e4, e5⟩ := hq _ (my _ hy) b5 hyt
        obtain ⟨r1, r2⟩ := rp_hd (x := x) (u := u) y
        refine ⟨AT_cg hB t h1 d1 (fun z hz => ⟨(hs z (mt z hz) (ot z hz)).1, fun i i0 ip hi => (hs z (mt z hz) (ot z hz)).2 i i0 ip (fun w => by have := hi w; omega) (hne z hz i i0 ip)⟩) (fun z hz hzn => hq z (mt z hz) (ot z hz) hzn), ihy h2 d2 q (Ne.symm e) (fun z hz hzn => ⟨(hs z (my z hz) hzn).1, fun i i0 ip hi w => (hs z (my z hz) hzn).2 i i0 ip (fun v => absurd (v.trans hhd) (fun v => d3 _ ht _ hz v.symm)) w⟩) (fun z hz hzn _ => hq z (my z hz) hzn (fun v => d3 _ ht _ hz (v.trans hhd).symm)) hp hup hpl, ?_, ?_, ?_, ?_, ?_⟩
        · unfold full
          rw [r1, r2, e3]
          exact h3
        · rw [e1]; exact h4
        · rw [r1, e2 _ (na_ge t) h4 (fun _ => by omega) (hne _ ht _ (na_ge t) h4)]
          exact h5
        · rw [r1, e4]; exact h6
        · rw [r1, e5]; exact h7
      · have es : sb x (Term.add t y) = sb x t := by show (if hd y = x then y else if x ∈ fl y then sb x y else sb x t) = _; rw [if_neg e, if_neg q]
        rw [es] at hs hq
        have hxt : x ∈ fl t := (List.mem_append.mp hx).resolve_right q
        obtain ⟨b1, b2, b3, b4, b5, b6⟩ := sb_ok t h1 d1 hxt hn
        have oy : ∀ z, z ∈ fl y → z ∉ fl (sb x t) := fun z hz w => d3 z (b4 z w) z hz rfl
        obtain ⟨u1, u2, u3⟩ := (AT_mem t h1 x hxt).2.2.2 hn
        have hne : ∀ z, z ∈ fl y → ∀ i, 0 ≤ i → i < pO (so z) → 3 * z + i ≠ 3 * up x + pl x := fun z hz i i0 ip w => by
          have := pu (so z)
          have := pu (so (up x))
          have : z = up x := by omega
          subst this
          exact d3 _ u1 _ hz rfl
        show AT so' pa' up' pl' B' (Term.add (rp x u t) (if hd y = x then u else rp x u y))
        rw [if_neg e, rp_no y h2 q]
        obtain ⟨e1, e2⟩ := hs _ (mt _ ht) b5
        obtain ⟨e3, -⟩ := hs _ (my _ hy) (oy _ hy)
        have hyt : hd y ≠ hd t := fun w => d3 _ ht _ hy w.symm
        obtain ⟨e4, e5⟩ := hq _ (my _ hy) (oy _ hy) hyt
        obtain ⟨r1, r2⟩ := rp_hd (x := x) (u := u) t
        refine ⟨ih h1 d1 hxt hn (fun z hz hzn => ⟨(hs z (mt z hz) hzn).1, fun i i0 ip hi w => (hs z (mt z hz) hzn).2 i i0 ip (fun v => by have := hi v; omega) w⟩) (fun z hz hzn hzh => hq z (mt z hz) hzn hzh) hp hup hpl, AT_cg hB y h2 d2 (fun z hz => ⟨(hs z (my z hz) (oy z hz)).1, fun i i0 ip hi => (hs z (my z hz) (oy z hz)).2 i i0 ip (fun v => absurd (v.trans hhd) (fun v => d3 _ ht _ hz v.symm)) (hne z hz i i0 ip)⟩) (fun z hz _ => hq z (my z hz) (oy z hz) (fun v => d3 _ ht _ hz (v.trans hhd).symm)), ?_, ?_, ?_, ?_, ?_⟩
        · unfold full
          rw [e3]
          exact h3
        · rw [r1, r2, e1]; exact h4
        · rw [r1, r2, e2 _ (na_ge t) h4 (fun _ => by omega) (fun w => ?_)]
          · exact h5
          · have := pu (so (hd t))
            have := pu (so (up x))
            have := na_ge t
            have e6 : hd t = up x := by omega
            have e7 : na t = pl x := by omega
            rw [← e6, ← e7, h5] at u3
            exact q (by rw [← u3]; exact hy)
        · rw [r1, e4]; exact h6
        · rw [r2, e5]; exact h7
  | _ => intro h; exact h.elim
abbrev ATs (s : SM) (t : Term) : Prop := AT (s.2 9) (s.2 14) (s.2 12) (s.2 13) (s.1 8) t
/-- a row filled from a place on -/
def RW (s t : SM) (l : List Int) : Prop := eqx [18] [17] s t ∧ t.1 18 = s.1 18 + l.length ∧ (∀ (j : Nat) (x : Int), l[j]? = some x → t.2 17 (s.1 18 + j) = x) ∧ ∀ j, j < s.1 18 → t.2 17 j = s.2 17 j
theorem RW.rf {s : SM} : RW s s [] := ⟨eqx.rf, by simp, fun j x h => by simp at h, fun _ _ => rfl⟩
theorem RW.tr {s t u : SM} {l m : List Int} (h1 : RW s t l) (h2 : RW t u m) : RW s u (l ++ m) := by
  obtain ⟨a1, a2, a3, a4⟩ := h1
  obtain ⟨b1, b2, b3, b4⟩ := h2
  refine ⟨a1.tr b1, by rw [b2, a2, List.length_append]; omega, fun j x h => ?_, fun j hj => by rw [b4 j (by omega), a4 j hj]⟩
  by_cases hj : j < l.length
  · rw [List.getElem?_append_left hj] at h
    rw [b4 _ (by omega)]
    exact a3 j x h
  · rw [List.getElem?_append_right (by omega)] at h
    have h3 := b3 _ x h
    have e : t.1 18 + ((j - l.length : Nat) : Int) = s.1 18 + (j : Int) := by omega
    rw [e] at h3
    exact h3
section
variable {iv : List (Int × Int)} {L : Nat} {h0 : MH}
/-- lay(), part by part -/
theorem lay_part {so pa up pl : Int → Int} {B : Int} (hB : B ≤ 3004) : ∀ (t : Term), AT so pa up pl B t → ∀ (D : Nat) (s : SM) (F : SM → Prop), (s.2 9 = so ∧ s.2 14 = pa) → dpt t ≤ D → 0 ≤ s.1 18 → s.1 18 + (fl t).length ≤ 80 →
    (∀ w, RW s w (fl t) → wm iv L h0 (D + 1) 78 22 [lr 307, li (hd t), li (na t)] [] w (qv F)) → cm iv L h0 (D + 1) 78 [vr 307, vi (hd t)] s (qv F) := by
  intro t
  induction t with
  | index n =>
    intro h D s F hs hD h18 hl hw
    have h1 : (fl (Term.index n)).length = 1 := rfl
    refine B78 ⟨by omega, by omega, hw _ ⟨eqx_us (eqx_ua eqx.rf (by decide)) (by decide), rfl, fun j x hj => ?_, fun j hj => ?_⟩⟩
    · have hj : [(n : Int)][j]? = some x := hj
      cases j with
      | zero =>
        simp at hj
        subst hj
        show (if (17 = 17 ∧ s.1 18 + ((0 : Nat) : Int) = s.1 18) then (n : Int) else _) = n
        rw [if_pos ⟨rfl, by omega⟩]
      | succ j => simp at hj
    · show (if (17 = 17 ∧ j = s.1 18) then (n : Int) else s.2 17 j) = s.2 17 j
      rw [if_neg (by omega)]
  | add t x ih ihx =>
    intro h D s F hs hD h18 hl hw
    obtain ⟨h1, h2, h3, h4, h5, h6, h7⟩ := h
    have hlen : (fl (Term.add t x)).length = (fl t).length + (fl x).length := by show (fl t ++ fl x).length = _; simp
    have hdp : dpt (Term.add t x) = max (dpt t) (dpt x + 1) := rfl
    obtain ⟨D, rfl⟩ : ∃ k, D = k + 1 := ⟨D - 1, by omega⟩
    have m1 := AT_mem t h1 _ (hd_mem t h1)
    have m2 := AT_mem x h2 _ (hd_mem x h2)
    have n1 := na_ge t
    have p1 := pO_in (so (hd t))
    show cm iv L h0 (D + 1 + 1) 78 [vr 307, vi (hd t)] s (qv F)
    refine ih h1 (D + 1) s F hs (by omega) h18 (by omega) (fun w hw1 => ?_)
    have q9 : w.2 9 = so := (hw1.1.2 9 (by decide)).trans hs.1
    have q14 : w.2 14 = pa := (hw1.1.2 14 (by decide)).trans hs.2
    refine B78_22 ⟨by omega, by rw [q9]; exact m1.2.1, fun e => ?_, fun _ => ⟨by omega, by omega, by omega, ?_⟩⟩
    · exfalso
      rw [q9] at e
      omega
    · rw [q14, h5]
      refine ihx h2 D w _ ⟨q9, q14⟩ (by omega) (by rw [hw1.2.1]; omega) (by rw [hw1.2.1]; omega) (fun v hv => ?_)
      have r9 : v.2 9 = so := (hv.1.2 9 (by decide)).trans q9
      refine B78_22 ⟨by omega, by rw [r9]; exact m2.2.1, fun _ => ⟨by omega, hw v (hw1.tr hv)⟩, fun e => ?_⟩
      exfalso
      rw [r9, ← h3] at e
      omega
  | _ => intro h; exact h.elim
theorem lay_ok {s : SM} {t : Term} {D : Nat} (h : ATs s t) (hf : full (s.2 9) t) (hB : s.1 8 ≤ 3004) (hD : dpt t ≤ D) (h18 : 0 ≤ s.1 18) (hl : s.1 18 + (fl t).length ≤ 80) : cm iv L h0 (D + 1) 78 [vr 307, vi (hd t)] s (qv fun w => RW s w (fl t)) := by
  refine lay_part hB t h D s _ ⟨rfl, rfl⟩ hD h18 hl (fun w hw => ?_)
  have q9 : w.2 9 = s.2 9 := hw.1.2 9 (by decide)
  have m := AT_mem t h _ (hd_mem t h)
  refine B78_22 ⟨by omega, by rw [q9]; exact m.2.1, fun _ => hw, fun e => ?_⟩
  exfalso
  rw [q9, ← hf] at e
  omega
end
end
section
/-! Births, links, what binds a letter, what stands within. -/
def nvl (so v : Int) : Int := if so = 1 ∨ so = 2 ∨ so = 3 ∨ so = 8 ∨ so = 10 then v else -9
def kvl (so k : Int) : Int := if so = 8 ∨ so = 15 then k else -9
def setU (s : SM) (b so v k : Int) : SM := ua (ua (ua s 9 b so) 10 b (nvl so v)) 11 b (kvl so k)
def bornU (s : SM) (so v k : Int) : SM := setU (us s 8 (s.1 8 + 1)) (s.1 8) so v k
def partU (s : SM) (b i c : Int) : SM := ua (ua (ua s 14 (3 * b + i) c) 12 c b) 13 c i
def replU (s : SM) (o c : Int) : SM := if s.2 12 o = -9 then ua (ua (us s 15 c) 12 c (-9)) 13 c (-9) else partU s (s.2 12 o) (s.2 13 o) c
def bnd (so nu up pl : Int → Int) : Nat → Int → Int → Int
  | 0, _, _ => -9
  | n + 1, b, x => if up b = -9 then -9 else if (so (up b) = 8 ∨ (so (up b) = 10 ∧ pl b = 1)) ∧ nu (up b) = x then up b else bnd so nu up pl n (up b) x
/-- the top is reached in less than n steps -/
def DP (up : Int → Int) : Nat → Int → Prop
  | 0, _ => False
  | n + 1, b => up b = -9 ∨ ((0 ≤ up b ∧ up b < 3004) ∧ DP up n (up b))
def wth (up : Int → Int) : Nat → Int → Int → Bool
  | 0, _, _ => false
  | n + 1, b, r => if b = r then true else if up b = -9 then false else wth up n (up b) r
theorem DP_up {up : Int → Int} : ∀ (n m : Nat) (b : Int), n ≤ m → DP up n b → DP up m b := by
  intro n
  induction n with
  | zero => intro m b _ h; exact h.elim
  | succ n ih =>
    intro m b hm h
    obtain ⟨m, rfl⟩ : ∃ k, m = k + 1 := ⟨m - 1, by omega⟩
    rcases h with h | ⟨h1, h2⟩
    · exact Or.inl h
    · exact Or.inr ⟨h1, ih m _ (by omega) h2⟩
theorem bnd_f {so nu up pl : Int → Int} : ∀ (n m : Nat) (b x : Int), n ≤ m → DP up n b → bnd so nu up pl m b x = bnd so nu up pl n b x := by
  intro n
  induction n with
  | zero => intro m b x _ h; exact h.elim
  | succ n ih =>
    intro m b x hm h
    obtain ⟨m, rfl⟩ : ∃ k, m = k + 1 := ⟨m - 1, by omega⟩
    unfold bnd
    by_cases e : up b = -9
    · rw [if_pos e, if_pos e]
    · rw [if_neg e, if_neg e]
      obtain ⟨h1, h2⟩ := h.resolve_left e
      rw [ih m _ x (by omega) h2]
theorem wth_f {up : Int → Int} : ∀ (n m : Nat) (b r : Int), n ≤ m → DP up n b → wth up m b r = wth up n b r := by
  intro n
  induction n with
  | zero => intro m b r _ h; exact h.elim
  | succ n ih =>
    intro m b r hm h
    obtain ⟨m, rfl⟩ : ∃ k, m = k + 1 := ⟨m - 1, by omega⟩
    unfold wth
    by_cases e0 : b = r
    · rw [if_pos e0, if_pos e0]
    · rw [if_neg e0, if_neg e0]
      by_cases e : up b = -9
      · rw [if_pos e, if_pos e]
      · rw [if_neg e, if_neg e]
        obtain ⟨h1, h2⟩ := h.resolve_left e
        exact ih m _ r (by omega) h2
/-- the way up from every node -/
theorem AT_DP {so pa up pl : Int → Int} {B : Int} (hB : B ≤ 3004) : ∀ (t : Term) (n : Nat), AT so pa up pl B t → DP up n (hd t) → ∀ y, y ∈ fl t → DP up (n + dpt t) y := by
  intro t
  induction t with
  | index k => intro n h hdp y hy; rw [List.mem_singleton.mp hy]; exact DP_up _ _ _ (by omega) hdp
  | add t x ih ihx =>
    intro n h hdn y hy
    obtain ⟨h1, h2, h3, h4, h5, h6, h7⟩ := h
    have hdp : dpt (Term.add t x) = max (dpt t) (dpt x + 1) := rfl
    rcases List.mem_append.mp hy with hy | hy
    · exact DP_up _ _ _ (by omega) (ih n h1 hdn y hy)
    · have m := (AT_mem t h1 _ (hd_mem t h1)).1
      exact DP_up _ _ _ (by omega) (ihx (n + 1) h2 (Or.inr (by rw [h6]; exact ⟨⟨m.1, by omega⟩, hdn⟩)) y hy)
  | _ => intro n h; exact h.elim
section
variable {iv : List (Int × Int)} {L : Nat} {h0 : MH}
theorem set_ok {s : SM} {d : Nat} {b so v k : Int} {F : SM → Prop} (hb : 0 ≤ b ∧ b < 3004) (h : F (setU s b so v k)) : cm iv L h0 d 75 [vr 307, vi b, vi so, vi v, vi k] s (qv F) := by
  simp only [setU, nvl, kvl] at h
  refine B75 ⟨hb, ?_⟩
  by_cases e1 : so = 1
  · subst e1; simpa using h
  by_cases e2 : so = 2
  · subst e2; simpa using h
  by_cases e3 : so = 3
  · subst e3; simpa using h
  by_cases e8 : so = 8
  · subst e8; simpa using h
  by_cases e10 : so = 10
  · subst e10; simpa using h
  by_cases e15 : so = 15
  · subst e15; simpa using h
  simpa [e1, e2, e3, e8, e10, e15] using h
theorem born_ok {s : SM} {d : Nat} {so v k : Int} {F : Int → SM → Prop} (hb : 0 ≤ s.1 8 ∧ s.1 8 < 3004) (h : F (s.1 8) (bornU s so v k)) : cm iv L h0 (d + 1) 74 [vr 307, vi so, vi v, vi k] s (qi F) :=
  B74 ⟨by omega, set_ok hb h⟩
theorem setPart_ok {s : SM} {d : Nat} {b i c : Int} {F : SM → Prop} (hb : 0 ≤ b ∧ b < 3004) (hi : 0 ≤ i ∧ i < 3) (hc : 0 ≤ c ∧ c < 3004) (h : F (partU s b i c)) : cm iv L h0 d 76 [vr 307, vi b, vi i, vi c] s (qv F) :=
  B76 ⟨by omega, by omega, by omega, hc, h⟩
theorem replace_ok {s : SM} {d : Nat} {o c : Int} {F : SM → Prop} (ho : 0 ≤ o ∧ o < 3004) (hu : s.2 12 o = -9 ∨ ((0 ≤ s.2 12 o ∧ s.2 12 o < 3004) ∧ 0 ≤ s.2 13 o ∧ s.2 13 o < 3)) (hc : 0 ≤ c ∧ c < 3004) (h : F (replU s o c)) : cm iv L h0 (d + 1) 77 [vr 307, vi o, vi c] s (qv F) := by
  refine B77 ⟨ho, fun e => ?_, fun e => ⟨hc, ?_⟩⟩
  · obtain ⟨h1, h2⟩ := hu.resolve_left e
    refine setPart_ok h1 h2 hc ?_
    rw [replU, if_neg e] at h
    exact h
  · rw [replU, if_pos e] at h
    exact h
theorem binderOf_ok {s : SM} {d n : Nat} {b x : Int} {F : Int → SM → Prop} (hb : 0 ≤ b ∧ b < 3004) (hd : DP (s.2 12) n b) (h : F (bnd (s.2 9) (s.2 10) (s.2 12) (s.2 13) n b x) s) : cm iv L h0 d 85 [vr 307, vi b, vi x] s (qi F) := by
  have key : ∀ (n : Nat) (c : Int), (0 ≤ c ∧ c < 3004) → DP (s.2 12) n c → F (bnd (s.2 9) (s.2 10) (s.2 12) (s.2 13) n c x) s → wm iv L h0 d 85 10 [lr 307, ln, li x, li c, li (s.2 12 c)] [] s (qi F) := by
    intro n
    induction n with
    | zero => intro c _ h; exact h.elim
    | succ n ih =>
      intro c hc hd h
      unfold bnd at h
      refine B85_10 ⟨fun e => by rw [if_pos e] at h; exact h, fun e => ?_⟩
      rw [if_neg e] at h
      obtain ⟨h1, h2⟩ := hd.resolve_left e
      have nx : ¬ ((s.2 9 (s.2 12 c) = 8 ∨ (s.2 9 (s.2 12 c) = 10 ∧ s.2 13 c = 1)) ∧ s.2 10 (s.2 12 c) = x) → wm iv L h0 d 85 10 [lr 307, ln, li x, li (s.2 12 c), li (s.2 12 (s.2 12 c))] [] s (qi F) := fun q => ih _ h1 h2 (by rw [if_neg q] at h; exact h)
      have st : ((s.2 9 (s.2 12 c) = 8 ∨ (s.2 9 (s.2 12 c) = 10 ∧ s.2 13 c = 1)) ∧ s.2 10 (s.2 12 c) = x) → F (s.2 12 c) s := fun q => by rw [if_pos q] at h; exact h
      exact ⟨h1, fun e8 => ⟨fun q => nx (fun w => q w.2), fun q => st ⟨Or.inl e8, q⟩⟩, fun e8 => ⟨fun q => nx (fun w => by rcases w.1 with w1 | w1; exact e8 w1; exact q w1.1), fun e10 => ⟨hc, fun q => nx (fun w => by rcases w.1 with w1 | w1; exact e8 w1; exact q w1.2), fun e1 => ⟨fun q => nx (fun w => q w.2), fun q => st ⟨Or.inr ⟨e10, e1⟩, q⟩⟩⟩⟩⟩
  exact B85 ⟨hb, key n b hb hd h⟩
theorem isWithin_ok {s : SM} {d n : Nat} {b r : Int} {F : Int → SM → Prop} (hb : 0 ≤ b ∧ b < 3004) (hr : 0 ≤ r) (hd : DP (s.2 12) n b) (h : F (if wth (s.2 12) n b r then 1 else 0) s) : cm iv L h0 d 84 [vr 307, vi b, vi r] s (qi F) := by
  have key : ∀ (n : Nat) (c : Int), (0 ≤ c ∧ c < 3004) → DP (s.2 12) n c → F (if wth (s.2 12) n c r then 1 else 0) s → wm iv L h0 d 84 2 [lr 307, ln, li r, li c] [] s (qi F) := by
    intro n
    induction n with
    | zero => intro c _ h; exact h.elim
    | succ n ih =>
      intro c hc hd h
      unfold wth at h
      refine B84_2 ⟨fun e => by omega, fun e => ⟨fun e1 => ⟨fun q => absurd e1 q, fun _ => by simpa [e1] using h⟩, fun e1 => ⟨hc, ?_⟩⟩⟩
      rw [if_neg e1] at h
      by_cases e2 : s.2 12 c = -9
      · rw [if_pos e2] at h
        rw [e2]
        exact B84_2 ⟨fun _ => ⟨fun _ => by simpa using h, fun q => by omega⟩, fun q => absurd rfl q⟩
      · rw [if_neg e2] at h
        obtain ⟨h1, h2⟩ := hd.resolve_left e2
        exact ih _ h1 h2 h
  exact B84 (key n b hb hd h)
end
end
section
/-! Judging, as a function of the tree. -/
/-- what nodes made, were asked for (none: freely), their reasons -/
abbrev JT : Type := (Int → Term) × (Int → Option Term) × (Int → Int)
abbrev JF : Type := Option Term → JT → JT × Term
def jsee (J : JT) (b : Int) : Term := if 0 < J.2.2 b then .null else J.1 b
def jsr (J : JT) (b z : Int) : JT := (J.1, J.2.1, fun x => if x = b then z else J.2.2 x)
/-- a reason, if it has none -/
def jsn (J : JT) (b z : Int) : JT := if J.2.2 b = 0 then jsr J b z else J
/-- what is asked of a part where nothing more is known -/
def jask (A : Option Term) : Option Term := match A with
  | some .null => some .null
  | _ => none
/-- what a name makes: what binds it is given -/
def jnm (so td pa : Int → Int) (kk : Int → Term) (u b : Int) (J : JT) : JT × Term := if u = -9 then (jsr J b 1, .null) else if so u = 8 then (J, kk (td u)) else (J, jsee J (pa (3 * u)))
def jdf (r0 : JF) (b : Int) (k : Term) (A : Option Term) (J : JT) : JT × Term := match A with
  | some (.add x y) => (jsr (r0 (some y) J).1 b (if kmt k x then 0 else 4), kmk 3 k (r0 (some y) J).2)
  | A => ((r0 (jask A) J).1, kmk 3 k (r0 (jask A) J).2)
def jus (r0 r1 : JF) (p0 : Int) (J : JT) : JT × Term := match (r0 none J).2 with
  | .add x y => ((r1 (some x) (r0 none J).1).1, y)
  | .null => ((r1 (some .null) (r0 none J).1).1, .null)
  | _ => ((r1 (some .null) (jsn (r0 none J).1 p0 2)).1, .null)
def jpk (r0 r1 r2 : JF) (b : Int) (A : Option Term) (J : JT) : JT × Term := match A with
  | some a => ((r2 A (r1 A (r0 (some .thrown) J).1).1).1, a)
  | none => if kmt (r1 none (r0 (some .thrown) J).1).2 (r2 none (r1 none (r0 (some .thrown) J).1).1).2 then ((r2 none (r1 none (r0 (some .thrown) J).1).1).1, ktg (r1 none (r0 (some .thrown) J).1).2 (r2 none (r1 none (r0 (some .thrown) J).1).1).2) else (jsr (r2 none (r1 none (r0 (some .thrown) J).1).1).1 b 5, .null)
def jpr (r0 r1 : JF) (A : Option Term) (J : JT) : JT × Term := match A with
  | some (.mul x y) => ((r1 (some y) (r0 (some x) J).1).1, kmk 4 (r0 (some x) J).2 (r1 (some y) (r0 (some x) J).1).2)
  | A => ((r1 (jask A) (r0 (jask A) J).1).1, kmk 4 (r0 (jask A) J).2 (r1 (jask A) (r0 (jask A) J).1).2)
def jhf (r0 : JF) (p0 sb : Int) (J : JT) : JT × Term := match (r0 none J).2 with
  | .mul x y => ((r0 none J).1, if sb = 13 then x else y)
  | .null => ((r0 none J).1, .null)
  | _ => (jsn (r0 none J).1 p0 3, .null)
/-- a node's own part of it, ahead of its making and behind it -/
def jin (b : Int) (A : Option Term) (J : JT) : JT := (J.1, fun x => if x = b then A else J.2.1 x, fun x => if x = b then 0 else J.2.2 x)
def jmd (b : Int) (m : Term) (J : JT) : JT := (fun x => if x = b then m else J.1 x, J.2)
def jcl (sb b : Int) (A : Option Term) (m : Term) (J : JT) : JT := match A with
  | none => J
  | some a => if J.2.2 b = 0 ∧ sb ≠ 10 ∧ sb ≠ 11 ∧ kmt a m = false then jsr J b 6 else J
theorem jcl_z {sb b : Int} {T m : Term} {J : JT} (h : ¬ (J.2.2 b = 0 ∧ sb ≠ 10 ∧ sb ≠ 11 ∧ kmt T m = false)) : jcl sb b (some T) m J = J := if_neg h
theorem jcl_y {sb b : Int} {T m : Term} {J : JT} (h : J.2.2 b = 0 ∧ sb ≠ 10 ∧ sb ≠ 11 ∧ kmt T m = false) : jcl sb b (some T) m J = jsr J b 6 := if_pos h
def jen (sb b : Int) (A : Option Term) (M : JT × Term) : JT × Term := (jcl sb b A M.2 (jmd b M.2 M.1), jsee (jcl sb b A M.2 (jmd b M.2 M.1)) b)
def jd (so nu td pa : Int → Int) (kk : Int → Term) (bd : Int → Int → Int) : Term → Option Term → JT → JT × Term
  | .index b, A, J => jen (so b) b A (if so b = 0 then (jin b A J, .null) else if so b = 1 then (jin b A J, .result) else if so b = 2 then (jin b A J, .thrown) else jnm so td pa kk (bd b (nu b)) b (jin b A J))
  | .add (.index b) x, A, J => jen (so b) b A (
      if so b = 8 then jdf (jd so nu td pa kk bd x) b (kk (td b)) A (jin b A J)
      else if so b = 15 then ((jd so nu td pa kk bd x (some (kk (td b))) (jin b A J)).1, kk (td b))
      else jhf (jd so nu td pa kk bd x) (hd x) (so b) (jin b A J))
  | .add (.add (.index b) x) y, A, J => jen (so b) b A (
      if so b = 9 then jus (jd so nu td pa kk bd x) (jd so nu td pa kk bd y) (hd x) (jin b A J)
      else if so b = 10 then jd so nu td pa kk bd y A (jd so nu td pa kk bd x none (jin b A J)).1
      else if so b = 12 then jpr (jd so nu td pa kk bd x) (jd so nu td pa kk bd y) A (jin b A J)
      else ((jd so nu td pa kk bd y (some .result) (jd so nu td pa kk bd x (some .result) (jin b A J)).1).1, if so b = 7 then .thrown else .result))
  | .add (.add (.add (.index b) x) y) z, A, J => jen (so b) b A (jpk (jd so nu td pa kk bd x) (jd so nu td pa kk bd y) (jd so nu td pa kk bd z) b A (jin b A J))
  | _, _, J => (J, .null)
/-- a kind asked for -/
def aK (s : SM) (a : Int) (A : Option Term) : Prop := match A with
  | none => a = -1
  | some t => vks s a ∧ kts s a = t
/-- what the rows hold of nodes that were judged -/
def JR (s : SM) (J : JT) (S : Int → Prop) : Prop := ∀ x, S x → (vks s (s.2 19 x) ∧ kts s (s.2 19 x) = J.1 x) ∧ aK s (s.2 20 x) (J.2.1 x) ∧ (s.2 21 x = J.2.2 x ∧ 0 ≤ J.2.2 x ∧ J.2.2 x ≤ 6)
abbrev bds (s : SM) (b x : Int) : Int := bnd (s.2 9) (s.2 10) (s.2 12) (s.2 13) 70 b x
abbrev ATj (s : SM) (t : Term) : Prop := AT (s.2 9) (s.2 14) (s.2 12) (s.2 13) 3004 t
/-- kinds that were told, as trees -/
def kks (s : SM) (k : Int) : Term := if 0 ≤ k ∧ k < s.1 2 then kts s k else .null
def jds (s : SM) (t : Term) (A : Option Term) (J : JT) : JT × Term := jd (s.2 9) (s.2 10) (s.2 11) (s.2 14) (kks s) (bds s) t A J
/-- what binds a letter there: none, a DEF with its kind, a LET whose first part was judged -/
def BOK (s : SM) (S : Int → Prop) (u : Int) : Prop := u = -9 ∨ ((0 ≤ u ∧ u < 3004) ∧ ((s.2 9 u = 8 ∧ 0 ≤ s.2 11 u ∧ s.2 11 u < s.1 2) ∨ (s.2 9 u = 10 ∧ S (s.2 14 (3 * u)) ∧ 0 ≤ s.2 14 (3 * u) ∧ s.2 14 (3 * u) < 3004)))
/-- what a judging leans on: the tree -/
def PRT (s : SM) (t : Term) : Prop := ATj s t ∧ full (s.2 9) t ∧ (fl t).Nodup ∧ (∀ x, x ∈ fl t → s.2 9 x = 8 ∨ s.2 9 x = 15 → 0 ≤ s.2 11 x ∧ s.2 11 x < s.1 2) ∧ ∀ x, x ∈ fl t → DP (s.2 12) 70 x
/-- .. and what was judged -/
def PRJ (s : SM) (b : Int) (l : List Int) (J : JT) (S : Int → Prop) : Prop := KJs s ∧ (∀ x, BOK s S (bds s b x)) ∧ JR s J S ∧ ∀ x, S x → x ∉ l
/-- what a judging does to the rows -/
def JX (s t : SM) (l : List Int) : Prop := eqx [3] [4, 5, 6, 7, 19, 20, 21] s t ∧ KJs t ∧ kext s t ∧ ∀ x, x ∉ l → t.2 19 x = s.2 19 x ∧ t.2 20 x = s.2 20 x ∧ t.2 21 x = s.2 21 x
def POST (s : SM) (t : Term) (A : Option Term) (J : JT) (S : Int → Prop) (r : Int) (w : SM) : Prop :=
  JX s w (fl t) ∧ w.1 3 ≤ s.1 3 + 41 * (fl t).length ∧ (vks w r ∧ kts w r = (jds s t A J).2) ∧ JR w (jds s t A J).1 (fun x => S x ∨ x ∈ fl t)
def JSP (iv : List (Int × Int)) (L : Nat) (h0 : MH) (n : Nat) : Prop := ∀ (t : Term) (s : SM) (a : Int) (A : Option Term) (J : JT) (S : Int → Prop), dpt t ≤ n → PRT s t → PRJ s (hd t) (fl t) J S → aK s a A → s.1 3 + 41 * (fl t).length ≤ 6000 → cm iv L h0 (3 * n + 45) 88 [vr 307, vi (hd t), vi a] s (qi (POST s t A J S))
theorem JX.rf {s : SM} {l : List Int} (h : KJs s) : JX s s l := ⟨eqx.rf, h, kext.rf, fun _ _ => ⟨rfl, rfl, rfl⟩⟩
theorem JX.tr {s t w : SM} {l : List Int} (h1 : JX s t l) (h2 : JX t w l) : JX s w l := ⟨h1.1.tr h2.1, h2.2.1, h1.2.2.1.tr h2.2.2.1, fun x hx => by
  obtain ⟨a1, a2, a3⟩ := h1.2.2.2 x hx
  obtain ⟨b1, b2, b3⟩ := h2.2.2.2 x hx
  exact ⟨b1.trans a1, b2.trans a2, b3.trans a3⟩⟩
theorem JX.up {s t : SM} {l m : List Int} (h : JX s t l) (hm : ∀ x, x ∈ l → x ∈ m) : JX s t m := ⟨h.1, h.2.1, h.2.2.1, fun x hx => h.2.2.2 x (fun q => hx (hm x q))⟩
/-- kinds only grew, nothing of nodes is written -/
theorem JX.kx {s t : SM} {l : List Int} (h : eqx [3] [4, 5, 6, 7] s t) (h1 : KJs t) (h2 : kext s t) : JX s t l := ⟨h.up (fun _ q => q) (fun f q => by simp at q ⊢; omega), h1, h2, fun x _ => by rw [h.2 19 (by decide), h.2 20 (by decide), h.2 21 (by decide)]; exact ⟨rfl, rfl, rfl⟩⟩
theorem kks_x {s t : SM} (h : kext s t) (hs : KJs s) : kks t = kks s := by
  funext k
  unfold kks
  rw [h.1]
  by_cases hk : 0 ≤ k ∧ k < t.1 2
  · rw [if_pos hk, if_pos hk]
    exact kext_kt h hs (Or.inl ⟨hk.1, by rw [h.1]; exact hk.2⟩)
  · rw [if_neg hk, if_neg hk]
theorem bds_x {s t : SM} {l : List Int} (h : JX s t l) : bds t = bds s := by
  funext b x
  show bnd _ _ _ _ 70 b x = bnd _ _ _ _ 70 b x
  rw [h.1.2 9 (by decide), h.1.2 10 (by decide), h.1.2 12 (by decide), h.1.2 13 (by decide)]
theorem jds_x {s t : SM} {l : List Int} (h : JX s t l) (hs : KJs s) : jds t = jds s := by
  funext u A J
  unfold jds
  rw [kks_x h.2.2.1 hs, bds_x h, h.1.2 9 (by decide), h.1.2 10 (by decide), h.1.2 11 (by decide), h.1.2 14 (by decide)]
theorem PRT_x {s t : SM} {l : List Int} {u : Term} (h : JX s t l) (hp : PRT s u) : PRT t u := by
  unfold PRT at hp ⊢
  rw [h.1.2 9 (by decide), h.1.2 11 (by decide), h.1.2 12 (by decide), ← h.2.2.1.1]
  unfold ATj at hp ⊢
  rw [h.1.2 9 (by decide), h.1.2 12 (by decide), h.1.2 13 (by decide), h.1.2 14 (by decide)]
  exact hp
theorem aK_x {s t : SM} {a : Int} {A : Option Term} (h : kext s t) (hs : KJs s) (ha : aK s a A) : aK t a A := by
  cases A with
  | none => exact ha
  | some T => exact ⟨kext_vk h ha.1, (kext_kt h hs ha.1).trans ha.2⟩
theorem JR_x {s t : SM} {l : List Int} {J : JT} {S : Int → Prop} (h : JX s t l) (hs : KJs s) (hj : JR s J S) (hS : ∀ x, S x → x ∉ l) : JR t J S := fun x hx => by
  obtain ⟨⟨a1, a2⟩, a3, a4⟩ := hj x hx
  obtain ⟨e1, e2, e3⟩ := h.2.2.2 x (hS x hx)
  rw [e1, e2, e3]
  exact ⟨⟨kext_vk h.2.2.1 a1, (kext_kt h.2.2.1 hs a1).trans a2⟩, aK_x h.2.2.1 hs a3, a4⟩
theorem JR_mono {s : SM} {J : JT} {S S' : Int → Prop} (h : JR s J S) (hS : ∀ x, S' x → S x) : JR s J S' := fun x hx => h x (hS x hx)
theorem BOK_x {s t : SM} {l : List Int} {S : Int → Prop} {u : Int} (h : JX s t l) (hb : BOK s S u) : BOK t S u := by
  unfold BOK at hb ⊢
  rw [h.1.2 9 (by decide), h.1.2 11 (by decide), h.1.2 14 (by decide), ← h.2.2.1.1]
  exact hb
theorem BOK_mono {s : SM} {S S' : Int → Prop} {u : Int} (hb : BOK s S u) (h : ∀ x, S x → S' x) : BOK s S' u := by
  rcases hb with hb | ⟨h1, hb | ⟨h2, h3, h4⟩⟩
  · exact Or.inl hb
  · exact Or.inr ⟨h1, Or.inl hb⟩
  · exact Or.inr ⟨h1, Or.inr ⟨h2, h _ h3, h4⟩⟩
theorem kks_told {s : SM} {k : Int} (h : 0 ≤ k ∧ k < s.1 2) : kks s k = kts s k := if_pos h
/-- a part of a node: what its judging leans on -/
theorem kid_T {s : SM} {t y : Term} (h : ATj s (.add t y)) (hd1 : (fl (.add t y)).Nodup) (ht : ∀ x, x ∈ fl (.add t y) → s.2 9 x = 8 ∨ s.2 9 x = 15 → 0 ≤ s.2 11 x ∧ s.2 11 x < s.1 2) (hD : ∀ x, x ∈ fl (.add t y) → DP (s.2 12) 70 x) : PRT s y := by
  obtain ⟨h1, h2, h3, h4, h5, h6, h7⟩ := h
  obtain ⟨d1, d2, d3⟩ := List.nodup_append.mp hd1
  exact ⟨h2, h3, d2, fun x hx => ht x (List.mem_append_right _ hx), fun x hx => hD x (List.mem_append_right _ hx)⟩
theorem kid_B {s : SM} {t y : Term} {S S' : Int → Prop} (h : ATj s (.add t y)) (ht : s.2 9 (hd t) = 8 → 0 ≤ s.2 11 (hd t) ∧ s.2 11 (hd t) < s.1 2) (hD : DP (s.2 12) 69 (hd t)) (hb : ∀ x, BOK s S (bds s (hd t) x)) (hS : ∀ x, S x → S' x)
    (hL : s.2 9 (hd t) = 10 → na t = 1 → S' (s.2 14 (3 * hd t)) ∧ 0 ≤ s.2 14 (3 * hd t) ∧ s.2 14 (3 * hd t) < 3004) : ∀ x, BOK s S' (bds s (hd y) x) := by
  intro x
  obtain ⟨h1, h2, h3, h4, h5, h6, h7⟩ := h
  have m := (AT_mem t h1 _ (hd_mem t h1)).1
  have e : bds s (hd y) x = if (s.2 9 (hd t) = 8 ∨ (s.2 9 (hd t) = 10 ∧ na t = 1)) ∧ s.2 10 (hd t) = x then hd t else bds s (hd t) x := by
    show bnd (s.2 9) (s.2 10) (s.2 12) (s.2 13) (69 + 1) (hd y) x = _
    unfold bnd
    rw [h6, h7, if_neg (by omega)]
    by_cases q : (s.2 9 (hd t) = 8 ∨ (s.2 9 (hd t) = 10 ∧ na t = 1)) ∧ s.2 10 (hd t) = x
    · rw [if_pos q, if_pos q]
    · rw [if_neg q, if_neg q]
      exact (bnd_f 69 70 (hd t) x (by decide) hD).symm
  rw [e]
  by_cases q : (s.2 9 (hd t) = 8 ∨ (s.2 9 (hd t) = 10 ∧ na t = 1)) ∧ s.2 10 (hd t) = x
  · rw [if_pos q]
    refine Or.inr ⟨m, ?_⟩
    rcases q.1 with q1 | q1
    · exact Or.inl ⟨q1, ht q1⟩
    · exact Or.inr ⟨q1.1, hL q1.1 q1.2⟩
  · rw [if_neg q]
    exact BOK_mono (hb x) hS
section
variable {iv : List (Int × Int)} {L : Nat} {h0 : MH}
theorem seenAs_ok {s : SM} {d : Nat} {b : Int} {F : Int → SM → Prop} (hb : 0 ≤ b ∧ b < 3004) (h : F (if 0 < s.2 21 b then 0 else s.2 19 b) s) : cm iv L h0 d 87 [vr 307, vi b] s (qi F) := by
  refine B87 ⟨hb, fun e => ?_, fun e => ?_⟩
  · rw [if_neg (by omega)] at h
    exact h
  · rw [if_pos e] at h
    exact h
/-- make() as a spec: what it comes to, the node's own kind left out -/
def MPOST (s : SM) (t : Term) (A : Option Term) (M : JT × Term) (S : Int → Prop) (r : Int) (w : SM) : Prop :=
  JX s w (fl t) ∧ w.1 3 ≤ s.1 3 + 41 * (fl t).length ∧ (vks w r ∧ kts w r = M.2) ∧ JR w M.1 (fun x => S x ∨ (x ∈ fl t ∧ x ≠ hd t)) ∧ (aK w (w.2 20 (hd t)) A ∧ M.1.2.1 (hd t) = A) ∧ (w.2 21 (hd t) = M.1.2.2 (hd t) ∧ 0 ≤ M.1.2.2 (hd t) ∧ M.1.2.2 (hd t) ≤ 6)
theorem judge_of_make {s : SM} {t : Term} {a : Int} {A : Option Term} {J : JT} {S : Int → Prop} {n : Nat} {M : JT × Term} (hT : PRT s t) (hP : PRJ s (hd t) (fl t) J S) (ha : aK s a A) (hM : jds s t A J = jen (s.2 9 (hd t)) (hd t) A M) (hbd : s.1 3 + 41 * (fl t).length ≤ 6000)
    (hmk : cm iv L h0 (n + 44) 89 [vr 307, vi (hd t), vi a] (ua (ua s 20 (hd t) a) 21 (hd t) 0) (qi (MPOST s t A M S))) : cm iv L h0 (n + 45) 88 [vr 307, vi (hd t), vi a] s (qi (POST s t A J S)) := by
  obtain ⟨hA, hf, hnd, htd, hDP⟩ := hT
  have hb := (AT_mem t hA _ (hd_mem t hA)).1
  have hbm := hd_mem t hA
  obtain ⟨hKJ, hBO, hJR, hSl⟩ := hP
  refine B88 ⟨hb, wci_mono hmk (Nat.le_refl _) ?_⟩
  rintro r w ⟨hX, hk, ⟨hv, hkt⟩, hR, ⟨hak, haA⟩, hr1, hr2, hr3⟩
  have hKw := hX.2.1
  have ha2 := aK_x hX.2.2.1 hKJ ha
  -- the rows behind 'made'
  have fin : ∀ (z : Int), (z = 0 ∨ z = 6) → (z = 6 → w.2 21 (hd t) = 0) → jcl (s.2 9 (hd t)) (hd t) A M.2 (jmd (hd t) M.2 M.1) = (if z = 6 then jsr (jmd (hd t) M.2 M.1) (hd t) 6 else jmd (hd t) M.2 M.1) →
      cm iv L h0 (n + 44) 87 [vr 307, vi (hd t)] (if z = 6 then ua (ua w 19 (hd t) r) 21 (hd t) 6 else ua w 19 (hd t) r) (qi (POST s t A J S)) := by
    intro z hz hz6 hcl
    generalize hv2 : (if z = 6 then ua (ua w 19 (hd t) r) 21 (hd t) 6 else ua w 19 (hd t) r) = v
    have v19 : ∀ x, v.2 19 x = if x = hd t then r else w.2 19 x := fun x => by
      rw [← hv2]
      rcases hz with rfl | rfl
      · simp [ua_2]
      · simp [ua_2]
    have v20 : ∀ x, v.2 20 x = w.2 20 x := fun x => by
      rw [← hv2]
      rcases hz with rfl | rfl
      · simp [ua_2]
      · simp [ua_2]
    have v21 : ∀ x, v.2 21 x = if x = hd t ∧ z = 6 then 6 else w.2 21 x := fun x => by
      rw [← hv2]
      rcases hz with rfl | rfl
      · simp [ua_2]
      · simp [ua_2]
    have ve : eqx [] [19, 21] w v := by
      rw [← hv2]
      rcases hz with rfl | rfl
      · rw [if_neg (by decide)]; exact eqx_ua eqx.rf (by decide)
      · rw [if_pos rfl]; exact eqx_ua (eqx_ua eqx.rf (by decide)) (by decide)
    have vK : KJs v := by
      unfold KJs at hKw ⊢
      rw [ve.1 2 (by decide), ve.1 3 (by decide), ve.2 4 (by decide), ve.2 5 (by decide), ve.2 6 (by decide), ve.2 7 (by decide)]
      exact hKw
    have vx : kext w v := ⟨(ve.1 2 (by decide)).symm, by rw [ve.1 3 (by decide)]; exact Int.le_refl _, fun k _ => by rw [ve.2 4 (by decide), ve.2 5 (by decide), ve.2 6 (by decide), ve.2 7 (by decide)]; exact ⟨rfl, rfl, rfl, rfl⟩⟩
    have vX : JX s v (fl t) := hX.tr ⟨ve.up (fun y q => by cases q) (fun f q => by simp at q ⊢; omega), vK, vx, fun x hx => by
      have hxt : x ≠ hd t := fun e => hx (by rw [e]; exact hbm)
      rw [v19, v20, v21, if_neg hxt, if_neg (fun q => hxt q.1)]
      exact ⟨rfl, rfl, rfl⟩⟩
    have e21 : v.2 21 (hd t) = (jcl (s.2 9 (hd t)) (hd t) A M.2 (jmd (hd t) M.2 M.1)).2.2 (hd t) := by
      rw [v21, hcl]
      rcases hz with rfl | rfl
      · rw [if_neg (fun q => absurd q.2 (by decide)), if_neg (by decide)]; exact hr1
      · rw [if_pos ⟨rfl, rfl⟩, if_pos rfl]
        show (6 : Int) = if hd t = hd t then 6 else _
        rw [if_pos rfl]
    have eo : ∀ x, x ≠ hd t → (jcl (s.2 9 (hd t)) (hd t) A M.2 (jmd (hd t) M.2 M.1)).1 x = M.1.1 x ∧ (jcl (s.2 9 (hd t)) (hd t) A M.2 (jmd (hd t) M.2 M.1)).2.1 x = M.1.2.1 x ∧ (jcl (s.2 9 (hd t)) (hd t) A M.2 (jmd (hd t) M.2 M.1)).2.2 x = M.1.2.2 x := fun x hx => by
      rw [hcl]
      rcases hz with rfl | rfl
      · rw [if_neg (by decide)]
        exact ⟨if_neg hx, rfl, rfl⟩
      · rw [if_pos rfl]
        exact ⟨if_neg hx, rfl, if_neg hx⟩
    have ebm : (jcl (s.2 9 (hd t)) (hd t) A M.2 (jmd (hd t) M.2 M.1)).1 (hd t) = M.2 ∧ (jcl (s.2 9 (hd t)) (hd t) A M.2 (jmd (hd t) M.2 M.1)).2.1 (hd t) = M.1.2.1 (hd t) := by
      rw [hcl]
      rcases hz with rfl | rfl
      · rw [if_neg (by decide)]
        exact ⟨if_pos rfl, rfl⟩
      · rw [if_pos rfl]
        exact ⟨if_pos rfl, rfl⟩
    have r6 : 0 ≤ (jcl (s.2 9 (hd t)) (hd t) A M.2 (jmd (hd t) M.2 M.1)).2.2 (hd t) ∧ (jcl (s.2 9 (hd t)) (hd t) A M.2 (jmd (hd t) M.2 M.1)).2.2 (hd t) ≤ 6 := by
      rw [← e21, v21]
      split
      · omega
      · omega
    have n0 : kts v 0 = .null := (kt_leaf vK).1 (vK.1.2.1 0 (by omega) (by omega)).1
    have hv2' := kext_vk vx hv
    have hkt2 := kext_kt vx hKw hv
    refine seenAs_ok hb ⟨vX, by rw [ve.1 3 (by decide)]; exact hk, ?_, ?_⟩
    · rw [hM]
      show vks v (if 0 < v.2 21 (hd t) then 0 else v.2 19 (hd t)) ∧ kts v (if 0 < v.2 21 (hd t) then 0 else v.2 19 (hd t)) = jsee (jcl (s.2 9 (hd t)) (hd t) A M.2 (jmd (hd t) M.2 M.1)) (hd t)
      unfold jsee
      rw [← e21, ebm.1]
      by_cases hp : 0 < v.2 21 (hd t)
      · rw [if_pos hp, if_pos hp]
        exact ⟨Or.inl ⟨by omega, by have := vK.1.1; omega⟩, n0⟩
      · rw [if_neg hp, if_neg hp, v19, if_pos rfl]
        exact ⟨hv2', hkt2.trans hkt⟩
    · rw [hM]
      show JR v (jcl (s.2 9 (hd t)) (hd t) A M.2 (jmd (hd t) M.2 M.1)) (fun x => S x ∨ x ∈ fl t)
      intro x hx
      by_cases e : x = hd t
      · subst e
        rw [ebm.1, ebm.2, ← e21, v19, if_pos rfl, v20]
        exact ⟨⟨hv2', hkt2.trans hkt⟩, by rw [haA]; exact aK_x vx hKw hak, rfl, by rw [e21]; exact r6⟩
      · obtain ⟨o1, o2, o3⟩ := eo x e
        obtain ⟨⟨a1, a2⟩, a3, a4⟩ := hR x (hx.imp id (fun q => ⟨q, e⟩))
        rw [o1, o2, o3, v19, if_neg e, v20, v21, if_neg (fun q => e q.1)]
        exact ⟨⟨kext_vk vx a1, (kext_kt vx hKw a1).trans a2⟩, aK_x vx hKw a3, a4⟩
  have noc : jcl (s.2 9 (hd t)) (hd t) A M.2 (jmd (hd t) M.2 M.1) = jmd (hd t) M.2 M.1 → cm iv L h0 (n + 44) 87 [vr 307, vi (hd t)] (ua w 19 (hd t) r) (qi (POST s t A J S)) := fun h => by
    have := fin 0 (Or.inl rfl) (fun q => absurd q (by decide)) (by rw [if_neg (by decide)]; exact h)
    rwa [if_neg (by decide)] at this
  have hw9 : w.2 9 = s.2 9 := hX.1.2 9 (by decide)
  refine ⟨fun e => noc ?_, fun e => ⟨fun e2 => noc ?_, fun e2 => ⟨fun e3 => noc ?_, fun e3 => ⟨fun e4 => noc ?_, fun e4 => ?_⟩⟩⟩⟩
  · cases A with
    | none => rfl
    | some T =>
      exfalso
      have := ha.1.lt hKJ.1.1.2 hKJ.2.1
      omega
  · cases A with
    | none => rfl
    | some T =>
      exact jcl_z (fun q => e2 (by rw [hr1]; exact q.1))
  · cases A with
    | none => rfl
    | some T =>
      exact jcl_z (fun q => q.2.1 (by rw [← hw9]; exact e3))
  · cases A with
    | none => rfl
    | some T =>
      exact jcl_z (fun q => q.2.2.1 (by rw [← hw9]; exact e4))
  · cases A with
    | none => exact absurd ha e
    | some T =>
      obtain ⟨ha3, ha4⟩ := ha2
      have v19 : (ua w 19 (hd t) r).2 19 (hd t) = r := by show (if 19 = 19 ∧ hd t = hd t then r else _) = r; rw [if_pos ⟨rfl, rfl⟩]
      have hz1 := (hKw.at ha3).1
      rw [v19]
      have hK2 : KJs (ua w 19 (hd t) r) := hKw
      refine wci_mono (areMeeting_ok hK2 (by show w.1 3 ≤ 6000; omega) 40 a r hz1.2 ha3 hv) (by omega) ?_
      rintro q u ⟨rfl, rfl⟩
      have e5 : kmt (kts (ua w 19 (hd t) r) a) (kts (ua w 19 (hd t) r) r) = kmt T M.2 := by
        show kmt (kts w a) (kts w r) = _
        rw [ha4, hkt]
      rw [e5]
      cases hm : kmt T M.2 with
      | true =>
        refine ⟨fun _ => noc ?_, fun h => absurd h (by decide)⟩
        exact jcl_z (fun q => by rw [hm] at q; exact absurd q.2.2.2 (by decide))
      | false =>
        refine ⟨fun h => absurd rfl h, fun _ => ?_⟩
        have := fin 6 (Or.inr rfl) (fun _ => e2) (by
          rw [if_pos rfl]
          exact jcl_y ⟨hr1.symm.trans e2, by rw [← hw9]; exact e3, by rw [← hw9]; exact e4, hm⟩)
        rwa [if_pos rfl] at this
end
end
section
/-! What a judging leaves alone; the parts of a node one behind another. -/
def AG (J K : JT) (x : Int) : Prop := J.1 x = K.1 x ∧ J.2.1 x = K.2.1 x ∧ J.2.2 x = K.2.2 x
theorem AG.rf {J : JT} {x : Int} : AG J J x := ⟨rfl, rfl, rfl⟩
theorem AG.tr {J K M : JT} {x : Int} (h1 : AG J K x) (h2 : AG K M x) : AG J M x := ⟨h1.1.trans h2.1, h1.2.1.trans h2.2.1, h1.2.2.trans h2.2.2⟩
theorem AG_jsr {J : JT} {b z x : Int} (h : x ≠ b) : AG (jsr J b z) J x := ⟨rfl, rfl, if_neg h⟩
theorem AG_jsn {J : JT} {b z x : Int} (h : x ≠ b) : AG (jsn J b z) J x := by
  unfold jsn
  split
  · exact AG_jsr h
  · exact AG.rf
theorem AG_jin {J : JT} {b x : Int} {A : Option Term} (h : x ≠ b) : AG (jin b A J) J x := ⟨rfl, if_neg h, if_neg h⟩
theorem AG_jen {M : JT × Term} {J : JT} {sb b x : Int} {A : Option Term} (h : x ≠ b) (hM : AG M.1 J x) : AG (jen sb b A M).1 J x := by
  have h1 : AG (jmd b M.2 M.1) M.1 x := ⟨if_neg h, rfl, rfl⟩
  refine AG.tr ?_ (h1.tr hM)
  show AG (jcl sb b A M.2 (jmd b M.2 M.1)) _ x
  cases A with
  | none => exact AG.rf
  | some a =>
    unfold jcl
    simp only
    split
    · exact AG_jsr h
    · exact AG.rf
def JFO (f : JF) (l : List Int) : Prop := ∀ (A : Option Term) (J : JT) (x : Int), x ∉ l → AG (f A J).1 J x
theorem AG_jdf {r0 : JF} {l0 : List Int} (h0 : JFO r0 l0) {b x : Int} {k : Term} {A : Option Term} {J : JT} (hb : x ≠ b) (hx : x ∉ l0) : AG (jdf r0 b k A J).1 J x := by
  unfold jdf
  split
  · exact (AG_jsr hb).tr (h0 _ _ x hx)
  · exact h0 _ _ x hx
theorem AG_jus {r0 r1 : JF} {l0 l1 : List Int} (h0 : JFO r0 l0) (h1 : JFO r1 l1) {p0 x : Int} {J : JT} (hp : p0 ∈ l0) (hx0 : x ∉ l0) (hx1 : x ∉ l1) : AG (jus r0 r1 p0 J).1 J x := by
  unfold jus
  split
  · exact (h1 _ _ x hx1).tr (h0 _ _ x hx0)
  · exact (h1 _ _ x hx1).tr (h0 _ _ x hx0)
  · exact (h1 _ _ x hx1).tr ((AG_jsn (fun e => hx0 (by rw [e]; exact hp))).tr (h0 _ _ x hx0))
theorem AG_jpk {r0 r1 r2 : JF} {l0 l1 l2 : List Int} (h0 : JFO r0 l0) (h1 : JFO r1 l1) (h2 : JFO r2 l2) {b x : Int} {A : Option Term} {J : JT} (hb : x ≠ b) (hx0 : x ∉ l0) (hx1 : x ∉ l1) (hx2 : x ∉ l2) : AG (jpk r0 r1 r2 b A J).1 J x := by
  unfold jpk
  split
  · exact (h2 _ _ x hx2).tr ((h1 _ _ x hx1).tr (h0 _ _ x hx0))
  · split
    · exact (h2 _ _ x hx2).tr ((h1 _ _ x hx1).tr (h0 _ _ x hx0))
    · exact (AG_jsr hb).tr ((h2 _ _ x hx2).tr ((h1 _ _ x hx1).tr (h0 _ _ x hx0)))
theorem AG_jpr {r0 r1 : JF} {l0 l1 : List Int} (h0 : JFO r0 l0) (h1 : JFO r1 l1) {x : Int} {A : Option Term} {J : JT} (hx0 : x ∉ l0) (hx1 : x ∉ l1) : AG (jpr r0 r1 A J).1 J x := by
  unfold jpr
  split
  · exact (h1 _ _ x hx1).tr (h0 _ _ x hx0)
  · exact (h1 _ _ x hx1).tr (h0 _ _ x hx0)
theorem AG_jhf {r0 : JF} {l0 : List Int} (h0 : JFO r0 l0) {p0 sb x : Int} {J : JT} (hp : p0 ∈ l0) (hx0 : x ∉ l0) : AG (jhf r0 p0 sb J).1 J x := by
  unfold jhf
  split
  · exact h0 _ _ x hx0
  · exact h0 _ _ x hx0
  · exact (AG_jsn (fun e => hx0 (by rw [e]; exact hp))).tr (h0 _ _ x hx0)
theorem jd_out {so nu td pa up pl : Int → Int} {kk : Int → Term} {bd : Int → Int → Int} {B : Int} : ∀ (n : Nat) (t : Term), dpt t ≤ n → AT so pa up pl B t → JFO (jd so nu td pa kk bd t) (fl t) := by
  intro n
  induction n with
  | zero => intro t h; have := dpt_pos t; omega
  | succ n ih =>
    intro t hn hA A J x hx
    have key0 : ∀ b : Nat, x ∉ fl (Term.index b) → AG (jd so nu td pa kk bd (Term.index b) A J).1 J x := fun b hx => by
      have hb : x ≠ (b : Int) := fun e => hx (List.mem_singleton.mpr e)
      refine AG_jen hb ?_
      split
      · exact AG_jin hb
      · split
        · exact AG_jin hb
        · split
          · exact AG_jin hb
          · unfold jnm
            split
            · exact (AG_jsr hb).tr (AG_jin hb)
            · split
              · exact AG_jin hb
              · exact AG_jin hb
    cases t with
    | index b => exact key0 b hx
    | add t1 y =>
      have hy := hA.2.1
      have hd1 : dpt (Term.add t1 y) = max (dpt t1) (dpt y + 1) := rfl
      have hxy : x ∉ fl y := fun q => hx (List.mem_append_right _ q)
      have fy := ih y (by omega) hy
      cases t1 with
      | index b =>
        have hb : x ≠ (b : Int) := fun e => hx (List.mem_append_left _ (List.mem_singleton.mpr e))
        refine AG_jen hb ?_
        split
        · exact (AG_jdf fy hb hxy).tr (AG_jin hb)
        · split
          · exact (fy _ _ x hxy).tr (AG_jin hb)
          · exact (AG_jhf fy (hd_mem y hy) hxy).tr (AG_jin hb)
      | add t2 z =>
        have hz := hA.1.2.1
        have hd2 : dpt (Term.add t2 z) = max (dpt t2) (dpt z + 1) := rfl
        have hxz : x ∉ fl z := fun q => hx (List.mem_append_left _ (List.mem_append_right _ q))
        have fz := ih z (by omega) hz
        cases t2 with
        | index b =>
          have hb : x ≠ (b : Int) := fun e => hx (List.mem_append_left _ (List.mem_append_left _ (List.mem_singleton.mpr e)))
          refine AG_jen hb ?_
          split
          · exact (AG_jus fz fy (hd_mem z hz) hxz hxy).tr (AG_jin hb)
          · split
            · exact (fy _ _ x hxy).tr ((fz _ _ x hxz).tr (AG_jin hb))
            · split
              · exact (AG_jpr fz fy hxz hxy).tr (AG_jin hb)
              · exact (fy _ _ x hxy).tr ((fz _ _ x hxz).tr (AG_jin hb))
        | add t3 v =>
          have hv := hA.1.1.2.1
          have hd3 : dpt (Term.add t3 v) = max (dpt t3) (dpt v + 1) := rfl
          have hxv : x ∉ fl v := fun q => hx (List.mem_append_left _ (List.mem_append_left _ (List.mem_append_right _ q)))
          have fv := ih v (by omega) hv
          cases t3 with
          | index b =>
            have hb : x ≠ (b : Int) := fun e => hx (List.mem_append_left _ (List.mem_append_left _ (List.mem_append_left _ (List.mem_singleton.mpr e))))
            refine AG_jen hb ?_
            exact (AG_jpk fv fz fy hb hxv hxz hxy).tr (AG_jin hb)
          | _ => exact AG.rf
        | _ => exact AG.rf
      | _ => exact AG.rf
    | _ => exact AG.rf
/-- trees by their parts -/
theorem AT_0 {so pa up pl : Int → Int} {B : Int} {t : Term} (h : AT so pa up pl B t) (hn : na t = 0) : ∃ b : Nat, t = .index b := by
  cases t with
  | index b => exact ⟨b, rfl⟩
  | add t x => exfalso; have := na_ge t; have hn : na t + 1 = 0 := hn; omega
  | _ => exact h.elim
theorem AT_1 {so pa up pl : Int → Int} {B : Int} {t : Term} (h : AT so pa up pl B t) (hn : na t = 1) : ∃ (b : Nat) (x : Term), t = .add (.index b) x := by
  cases t with
  | index b => exact absurd hn (by show ¬ ((0 : Int) = 1); decide)
  | add t x =>
    have hn : na t + 1 = 1 := hn
    obtain ⟨b, rfl⟩ := AT_0 h.1 (by omega)
    exact ⟨b, x, rfl⟩
  | _ => exact h.elim
theorem AT_2 {so pa up pl : Int → Int} {B : Int} {t : Term} (h : AT so pa up pl B t) (hn : na t = 2) : ∃ (b : Nat) (x y : Term), t = .add (.add (.index b) x) y := by
  cases t with
  | index b => exact absurd hn (by show ¬ ((0 : Int) = 2); decide)
  | add t x =>
    have hn : na t + 1 = 2 := hn
    obtain ⟨b, y, rfl⟩ := AT_1 h.1 (by omega)
    exact ⟨b, y, x, rfl⟩
  | _ => exact h.elim
theorem AT_3 {so pa up pl : Int → Int} {B : Int} {t : Term} (h : AT so pa up pl B t) (hn : na t = 3) : ∃ (b : Nat) (x y z : Term), t = .add (.add (.add (.index b) x) y) z := by
  cases t with
  | index b => exact absurd hn (by show ¬ ((0 : Int) = 3); decide)
  | add t x =>
    have hn : na t + 1 = 3 := hn
    obtain ⟨b, y, z, rfl⟩ := AT_2 h.1 (by omega)
    exact ⟨b, y, z, x, rfl⟩
  | _ => exact h.elim
/-- a node, some of its parts judged -/
def SJ (s : SM) (t : Term) (a : Int) (A : Option Term) (S : Int → Prop) (dn : List Int) (J : JT) (w : SM) : Prop :=
  JX s w (fl t) ∧ JR w J (fun x => S x ∨ x ∈ dn) ∧ (w.2 20 (hd t) = a ∧ J.2.1 (hd t) = A) ∧ (w.2 21 (hd t) = 0 ∧ J.2.2 (hd t) = 0) ∧ w.1 3 ≤ s.1 3 + 41 * dn.length
theorem ST_0 {s : SM} {t : Term} {a : Int} {A : Option Term} {J : JT} {S : Int → Prop} (hT : PRT s t) (hP : PRJ s (hd t) (fl t) J S) : SJ s t a A S [] (jin (hd t) A J) (ua (ua s 20 (hd t) a) 21 (hd t) 0) := by
  obtain ⟨hA, hf, hnd, htd, hDP⟩ := hT
  obtain ⟨hKJ, hBO, hJR, hSl⟩ := hP
  have hbm := hd_mem t hA
  have hX : JX s (ua (ua s 20 (hd t) a) 21 (hd t) 0) (fl t) := ⟨eqx_ua (eqx_ua eqx.rf (by decide)) (by decide), hKJ, ⟨rfl, Int.le_refl _, fun _ _ => ⟨rfl, rfl, rfl, rfl⟩⟩, fun x hx => by
    have hxt : x ≠ hd t := fun e => hx (by rw [e]; exact hbm)
    simp [ua_2, hxt]⟩
  refine ⟨hX, fun x hx => ?_, ⟨by simp [ua_2], if_pos rfl⟩, ⟨by simp [ua_2], if_pos rfl⟩, by show s.1 3 ≤ _; simp⟩
  have hx : S x := hx.resolve_right (fun q => by cases q)
  have hxt : x ≠ hd t := fun e => hSl x hx (by rw [e]; exact hbm)
  obtain ⟨g1, g2, g3⟩ := AG_jin (J := J) (A := A) hxt
  rw [g1, g2, g3]
  exact JR_x hX hKJ hJR hSl x hx
section
variable {iv : List (Int × Int)} {L : Nat} {h0 : MH}
/-- one part more -/
theorem ST_1 {n : Nat} (hn : JSP iv L h0 n) {s w : SM} {t u y : Term} {a a' : Int} {A A' : Option Term} {J J' : JT} {S : Int → Prop} {dn : List Int} {d : Nat} {F : Int → SM → Prop} (hT : PRT s t) (hP : PRJ s (hd t) (fl t) J S) (hst : SJ s t a A S dn J' w)
    (hA : ATj s (.add u y)) (hsub : ∃ r, fl t = fl (.add u y) ++ r) (hhd : hd u = hd t) (hdn : ∀ x, x ∈ dn → x ∈ fl u) (hL : s.2 9 (hd t) = 10 → na u = 1 → s.2 14 (3 * hd t) ∈ dn) (hdp : dpt y ≤ n) (hbd : s.1 3 + 41 * (dn.length + (fl y).length : Nat) ≤ 6000) (ha : aK w a' A') (hd1 : 3 * n + 45 ≤ d)
    (hgo : ∀ r v, SJ s t a A S (dn ++ fl y) (jds s y A' J').1 v → kext w v → vks v r → kts v r = (jds s y A' J').2 → F r v) : cm iv L h0 d 88 [vr 307, vi (hd y), vi a'] w (qi F) := by
  obtain ⟨hX, hR, ⟨hk1, hk2⟩, ⟨hr1, hr2⟩, hb⟩ := hst
  obtain ⟨hTA, hf, hnd, htd, hDP⟩ := hT
  obtain ⟨hKJ, hBO, hJR, hSl⟩ := hP
  obtain ⟨r0, hr0⟩ := hsub
  have hndy : (fl (.add u y)).Nodup := by rw [hr0] at hnd; exact (List.nodup_append.mp hnd).1
  have hmem : ∀ x, x ∈ fl (.add u y) → x ∈ fl t := fun x hx => by rw [hr0]; exact List.mem_append_left _ hx
  have hym : ∀ x, x ∈ fl y → x ∈ fl t := fun x hx => hmem x (List.mem_append_right _ hx)
  obtain ⟨d1, d2, d3⟩ := List.nodup_append.mp hndy
  have huy : ∀ x, x ∈ fl u → x ∉ fl y := fun x hx q => d3 x hx x q rfl
  have hbu : hd t ∈ fl u := by rw [← hhd]; exact hd_mem u hA.1
  have hby : hd t ∉ fl y := huy _ hbu
  have hKw := hX.2.1
  have hPy : PRT s y := kid_T hA hndy (fun x hx => htd x (hmem x hx)) (fun x hx => hDP x (hmem x hx))
  have hBy : ∀ x, BOK w (fun x => S x ∨ x ∈ dn) (bds w (hd y) x) := fun x => by
    rw [bds_x hX]
    refine BOK_x hX (kid_B (S := S) (S' := fun x => S x ∨ x ∈ dn) hA (by rw [hhd]; exact fun e => htd _ (hmem _ (List.mem_append_left _ hbu)) (Or.inl e)) ?_ (by rw [hhd]; exact hBO) (fun x q => Or.inl q) ?_ x)
    · rw [hhd]
      have h70 := hDP (hd y) (hym _ (hd_mem y hA.2.1))
      obtain ⟨-, -, -, -, -, e6, -⟩ := hA
      have h71 : s.2 12 (hd y) = -9 ∨ ((0 ≤ s.2 12 (hd y) ∧ s.2 12 (hd y) < 3004) ∧ DP (s.2 12) 69 (s.2 12 (hd y))) := h70
      rw [e6, hhd] at h71
      rcases h71 with q | q
      · have := (AT_mem t hTA _ (hd_mem t hTA)).1
        omega
      · exact q.2
    · rw [hhd]
      intro e10 e1
      have hm := hL e10 e1
      have hm2 := (AT_mem t hTA _ (hmem _ (List.mem_append_left _ (hdn _ hm)))).1
      exact ⟨Or.inr hm, hm2⟩
  have hSy : ∀ x, (S x ∨ x ∈ dn) → x ∉ fl y := fun x hx => hx.elim (fun q w => hSl x q (hym x w)) (fun q => huy x (hdn x q))
  have spec := hn y w a' A' J' (fun x => S x ∨ x ∈ dn) hdp (PRT_x hX hPy) ⟨hKw, hBy, hR, hSy⟩ ha (by push_cast at hbd; omega)
  refine wci_mono spec hd1 ?_
  rintro r v ⟨p1, p2, ⟨p3, p4⟩, p5⟩
  rw [jds_x hX hKJ] at p4 p5
  have out := jd_out (so := s.2 9) (nu := s.2 10) (td := s.2 11) (pa := s.2 14) (kk := kks s) (bd := bds s) (dpt y) y (Nat.le_refl _) hA.2.1 A' J' (hd t) hby
  obtain ⟨o1, o2, o3⟩ := p1.2.2.2 (hd t) hby
  refine hgo r v ⟨hX.tr (p1.up hym), JR_mono p5 (fun x hx => ?_), ⟨by rw [o2]; exact hk1, ?_⟩, ⟨by rw [o3]; exact hr1, ?_⟩, ?_⟩ p1.2.2.1 p3 p4
  · rcases hx with q | q
    · exact Or.inl (Or.inl q)
    · rcases List.mem_append.mp q with q | q
      · exact Or.inl (Or.inr q)
      · exact Or.inr q
  · exact out.2.1.trans hk2
  · exact out.2.2.trans hr2
  · rw [List.length_append]; push_cast; omega
end
/-- all parts judged: what the making comes to -/
theorem MP_0 {s w : SM} {t : Term} {a r : Int} {A : Option Term} {S : Int → Prop} {dn : List Int} {J : JT} {m : Term} (hst : SJ s t a A S dn J w) (hnd : (fl t).Nodup) (ha : aK s a A) (hKJ : KJs s) (hdn : ∀ x, x ∈ fl t → x ≠ hd t → x ∈ dn) (hlen : dn.length + 1 ≤ (fl t).length) {w' : SM} (hX : JX w w' []) (hb : w'.1 3 ≤ w.1 3 + 41) (hv : vks w' r) (hk : kts w' r = m) : MPOST s t A (J, m) S r w' := by
  obtain ⟨h1, h2, ⟨h3, h4⟩, ⟨h5, h6⟩, h7⟩ := hst
  obtain ⟨o1, o2, o3⟩ := hX.2.2.2 (hd t) (by simp)
  refine ⟨h1.tr (hX.up (fun x q => by cases q)), by omega, ⟨hv, hk⟩, JR_mono (JR_x hX h1.2.1 h2 (fun x _ q => by cases q)) (fun x hx => hx.imp id (fun q => hdn x q.1 q.2)), ⟨?_, h4⟩, ?_⟩
  · rw [o2, h3]
    exact aK_x hX.2.2.1 h1.2.1 (aK_x h1.2.2.1 hKJ ha)
  · show w'.2 21 (hd t) = J.2.2 (hd t) ∧ 0 ≤ J.2.2 (hd t) ∧ J.2.2 (hd t) ≤ 6
    rw [o3, h5, h6]
    omega
/-- .. with a reason of its own -/
theorem MP_r {s w : SM} {t : Term} {a r z : Int} {A : Option Term} {S : Int → Prop} {dn : List Int} {J : JT} {m : Term} (hst : SJ s t a A S dn J w) (hnd : (fl t).Nodup) (ha : aK s a A) (hKJ : KJs s) (hSl : ∀ x, S x → x ∉ fl t) (hb0 : hd t ∈ fl t) (hbd : hd t ∉ dn) (hz : 0 ≤ z ∧ z ≤ 6) (hdn : ∀ x, x ∈ fl t → x ≠ hd t → x ∈ dn) (hlen : dn.length + 1 ≤ (fl t).length) {w' : SM} (hX : JX (ua w 21 (hd t) z) w' []) (hb : w'.1 3 ≤ w.1 3 + 41) (hv : vks w' r) (hk : kts w' r = m) : MPOST s t A (jsr J (hd t) z, m) S r w' := by
  obtain ⟨h1, h2, ⟨h3, h4⟩, ⟨h5, h6⟩, h7⟩ := hst
  have hX0 : JX w (ua w 21 (hd t) z) (fl t) := ⟨eqx_ua eqx.rf (by decide), h1.2.1, ⟨rfl, Int.le_refl _, fun _ _ => ⟨rfl, rfl, rfl, rfl⟩⟩, fun x hx => by
    have hxt : x ≠ hd t := fun e => hx (by rw [e]; exact hb0)
    simp [ua_2, hxt]⟩
  have hX2 : JX w w' (fl t) := hX0.tr (hX.up (fun x q => by cases q))
  obtain ⟨o1, o2, o3⟩ := hX.2.2.2 (hd t) (by simp)
  have e20 : (ua w 21 (hd t) z).2 20 (hd t) = w.2 20 (hd t) := by simp [ua_2]
  have e21 : (ua w 21 (hd t) z).2 21 (hd t) = z := by simp [ua_2]
  refine ⟨h1.tr hX2, by omega, ⟨hv, hk⟩, fun x hx => ?_, ⟨?_, h4⟩, ?_⟩
  · have hxb : x ≠ hd t := by
      rcases hx with q | q
      · exact fun e => hSl x q (by rw [e]; exact hb0)
      · exact q.2
    obtain ⟨⟨a1, a2⟩, a3, a4⟩ := h2 x (hx.imp id (fun q => hdn x q.1 q.2))
    obtain ⟨b1, b2, b3⟩ := hX.2.2.2 x (by simp)
    have c1 : (ua w 21 (hd t) z).2 19 x = w.2 19 x := by simp [ua_2]
    have c2 : (ua w 21 (hd t) z).2 20 x = w.2 20 x := by simp [ua_2]
    have c3 : (ua w 21 (hd t) z).2 21 x = w.2 21 x := by simp [ua_2, hxb]
    obtain ⟨g1, g2, g3⟩ := AG_jsr (J := J) (z := z) hxb
    rw [b1, b2, b3, c1, c2, c3, g1, g2, g3]
    exact ⟨⟨kext_vk hX2.2.2.1 a1, (kext_kt hX2.2.2.1 h1.2.1 a1).trans a2⟩, aK_x hX2.2.2.1 h1.2.1 a3, a4⟩
  · rw [o2, e20, h3]
    exact aK_x hX2.2.2.1 h1.2.1 (aK_x h1.2.2.1 hKJ ha)
  · show w'.2 21 (hd t) = (if hd t = hd t then z else _) ∧ 0 ≤ (if hd t = hd t then z else _) ∧ (if hd t = hd t then z else _) ≤ 6
    rw [if_pos rfl, o3, e21]
    exact ⟨rfl, hz⟩
/-- a part gets a reason, if it has none -/
theorem ST_n {s w w' : SM} {t : Term} {a z p : Int} {A : Option Term} {S : Int → Prop} {dn : List Int} {J : JT} (hst : SJ s t a A S dn J w) (hp : p ∈ dn) (hpt : p ∈ fl t) (hpb : p ≠ hd t) (hz : 0 ≤ z ∧ z ≤ 6) (hw : (w.2 21 p = 0 ∧ w' = ua w 21 p z) ∨ (w.2 21 p ≠ 0 ∧ (w' = w ∨ w' = ua w 21 p (w.2 21 p)))) : SJ s t a A S dn (jsn J p z) w' ∧ kext w w' := by
  obtain ⟨h1, h2, ⟨h3, h4⟩, ⟨h5, h6⟩, h7⟩ := hst
  have hj := (h2 p (Or.inr hp)).2.2.1
  have v21 : ∀ x, w'.2 21 x = if x = p ∧ w.2 21 p = 0 then z else w.2 21 x := fun x => by
    rcases hw with ⟨e, rfl⟩ | ⟨e, rfl | rfl⟩
    · simp [ua_2, e]
    · simp [e]
    · by_cases q : x = p
      · simp [ua_2, q, e]
      · simp [ua_2, q]
  have ve : eqx [] [21] w w' := by
    rcases hw with ⟨e, rfl⟩ | ⟨e, rfl | rfl⟩
    · exact eqx_ua eqx.rf (by decide)
    · exact eqx.rf
    · exact eqx_ua eqx.rf (by decide)
  have v3 := ve.1 3 (by decide)
  have v2 := ve.1 2 (by decide)
  have vK : KJs w' := by
    have := h1.2.1
    unfold KJs at this ⊢
    rw [v2, v3, ve.2 4 (by decide), ve.2 5 (by decide), ve.2 6 (by decide), ve.2 7 (by decide)]
    exact this
  have vx : kext w w' := ⟨v2.symm, by omega, fun k _ => by rw [ve.2 4 (by decide), ve.2 5 (by decide), ve.2 6 (by decide), ve.2 7 (by decide)]; exact ⟨rfl, rfl, rfl, rfl⟩⟩
  have v19 : w'.2 19 = w.2 19 := ve.2 19 (by decide)
  have v20 : w'.2 20 = w.2 20 := ve.2 20 (by decide)
  have jn : ∀ x, (jsn J p z).2.2 x = if x = p ∧ J.2.2 p = 0 then z else J.2.2 x := fun x => by
    unfold jsn
    by_cases e : J.2.2 p = 0
    · rw [if_pos e]
      show (if x = p then z else J.2.2 x) = _
      simp [e]
    · rw [if_neg e, if_neg (fun q => e q.2)]
  have j1 : (jsn J p z).1 = J.1 ∧ (jsn J p z).2.1 = J.2.1 := by
    unfold jsn
    split
    · exact ⟨rfl, rfl⟩
    · exact ⟨rfl, rfl⟩
  refine ⟨⟨h1.tr ⟨ve.up (fun y q => by cases q) (fun f q => by simp at q ⊢; omega), vK, vx, fun x hx => ?_⟩, fun x hx => ?_, ⟨by rw [v20]; exact h3, by rw [j1.2]; exact h4⟩, ⟨by rw [v21, if_neg (fun q => hpb q.1.symm)]; exact h5, by rw [jn, if_neg (fun q => hpb q.1.symm)]; exact h6⟩, by omega⟩, vx⟩
  · have hxp : x ≠ p := fun e => hx (by rw [e]; exact hpt)
    rw [v19, v20, v21, if_neg (fun q => hxp q.1)]
    exact ⟨rfl, rfl, rfl⟩
  · obtain ⟨⟨a1, a2⟩, a3, a4⟩ := h2 x hx
    rw [j1.1, j1.2, jn, v19, v20, v21, hj]
    refine ⟨⟨kext_vk vx a1, (kext_kt vx h1.2.1 a1).trans a2⟩, aK_x vx h1.2.1 a3, ?_⟩
    split
    · exact ⟨rfl, hz⟩
    · exact a4
end
section
/-! make(), a sort at a time (printed by wip/gen2/wrap.py). -/
theorem mk_0 {iv : List (Int × Int)} {L : Nat} {h0 : MH} {d : Nat} {s : SM} {a1 : Int} {a2 : Int} {F : Int → SM → Prop} (hb : 0 ≤ a1 ∧ a1 < 3004) (e : s.2 9 a1 = 0) (H : F 0 s) : cm iv L h0 (d + 1) 89 [vr 307, vi a1, vi a2] s (qi F) :=
  B89 ⟨by omega, by omega, by omega, by omega, by omega, by omega, by omega, fun _ => H, fun q => by exfalso; omega, fun q => by exfalso; omega, fun q => by exfalso; omega, fun q => by exfalso; omega, fun q => by exfalso; omega, fun q => by exfalso; omega, fun q => by exfalso; omega, fun q => by exfalso; omega, fun q => by exfalso; omega, fun q => by exfalso; omega, fun q => by exfalso; omega⟩
theorem mk_1 {iv : List (Int × Int)} {L : Nat} {h0 : MH} {d : Nat} {s : SM} {a1 : Int} {a2 : Int} {F : Int → SM → Prop} (hb : 0 ≤ a1 ∧ a1 < 3004) (e : s.2 9 a1 = 1) (H : F 1 s) : cm iv L h0 (d + 1) 89 [vr 307, vi a1, vi a2] s (qi F) :=
  B89 ⟨by omega, by omega, by omega, by omega, by omega, by omega, by omega, fun q => by exfalso; omega, fun _ => H, fun q => by exfalso; omega, fun q => by exfalso; omega, fun q => by exfalso; omega, fun q => by exfalso; omega, fun q => by exfalso; omega, fun q => by exfalso; omega, fun q => by exfalso; omega, fun q => by exfalso; omega, fun q => by exfalso; omega, fun q => by exfalso; omega⟩
theorem mk_2 {iv : List (Int × Int)} {L : Nat} {h0 : MH} {d : Nat} {s : SM} {a1 : Int} {a2 : Int} {F : Int → SM → Prop} (hb : 0 ≤ a1 ∧ a1 < 3004) (e : s.2 9 a1 = 2) (H : F 2 s) : cm iv L h0 (d + 1) 89 [vr 307, vi a1, vi a2] s (qi F) :=
  B89 ⟨by omega, by omega, by omega, by omega, by omega, by omega, by omega, fun q => by exfalso; omega, fun q => by exfalso; omega, fun _ => H, fun q => by exfalso; omega, fun q => by exfalso; omega, fun q => by exfalso; omega, fun q => by exfalso; omega, fun q => by exfalso; omega, fun q => by exfalso; omega, fun q => by exfalso; omega, fun q => by exfalso; omega, fun q => by exfalso; omega⟩
theorem mk_3 {iv : List (Int × Int)} {L : Nat} {h0 : MH} {d : Nat} {s : SM} {a1 : Int} {a2 : Int} {F : Int → SM → Prop} (hb : 0 ≤ a1 ∧ a1 < 3004) (e : s.2 9 a1 = 3) (H : cm iv L h0 d 85 [vr 307, vi a1, vi (s.2 10 a1)] s (qi fun r9 s8 => ((r9 ≠ (-9) → (0 ≤ r9 ∧ r9 < 3004) ∧ ((s8.2 9 r9 ≠ 8 → (-2147483648 ≤ 3 * r9 ∧ 3 * r9 ≤ 2147483647) ∧ (0 ≤ 3 * r9 ∧ 3 * r9 < 9012) ∧ cm iv L h0 d 87 [vr 307, vi (s8.2 14 (3 * r9))] s8 (qi fun r14 s13 => F r14 s13)) ∧ (s8.2 9 r9 = 8 → F (s8.2 11 r9) s8))) ∧ (r9 = (-9) → F 0 (ua s8 21 a1 1))))) : cm iv L h0 (d + 1) 89 [vr 307, vi a1, vi a2] s (qi F) :=
  B89 ⟨by omega, by omega, by omega, by omega, by omega, by omega, by omega, fun q => by exfalso; omega, fun q => by exfalso; omega, fun q => by exfalso; omega, fun _ => H, fun q => by exfalso; omega, fun q => by exfalso; omega, fun q => by exfalso; omega, fun q => by exfalso; omega, fun q => by exfalso; omega, fun q => by exfalso; omega, fun q => by exfalso; omega, fun q => by exfalso; omega⟩
theorem mk_4 {iv : List (Int × Int)} {L : Nat} {h0 : MH} {d : Nat} {s : SM} {a1 : Int} {a2 : Int} {F : Int → SM → Prop} (hb : 0 ≤ a1 ∧ a1 < 3004) (e : s.2 9 a1 = 4 ∨ s.2 9 a1 = 5 ∨ s.2 9 a1 = 6 ∨ s.2 9 a1 = 7) (H : cm iv L h0 d 88 [vr 307, vi (s.2 14 (3 * a1)), vi 1] s (qi fun r16 s15 => cm iv L h0 d 88 [vr 307, vi (s.2 14 ((3 * a1) + 1)), vi 1] s15 (qi fun r18 s17 => ((s17.2 9 a1 ≠ 7 → F 1 s17) ∧ (s17.2 9 a1 = 7 → F 2 s17))))) : cm iv L h0 (d + 1) 89 [vr 307, vi a1, vi a2] s (qi F) :=
  B89 ⟨by omega, by omega, by omega, by omega, by omega, by omega, by omega, fun q => by exfalso; omega, fun q => by exfalso; omega, fun q => by exfalso; omega, fun q => by exfalso; omega, fun _ => H, fun q => by exfalso; omega, fun q => by exfalso; omega, fun q => by exfalso; omega, fun q => by exfalso; omega, fun q => by exfalso; omega, fun q => by exfalso; omega, fun q => by exfalso; omega⟩
theorem mk_5 {iv : List (Int × Int)} {L : Nat} {h0 : MH} {d : Nat} {s : SM} {a1 : Int} {a2 : Int} {F : Int → SM → Prop} (hb : 0 ≤ a1 ∧ a1 < 3004) (e : s.2 9 a1 = 8) (H : cm iv L h0 d 90 [vr 307, vi a1, vi a2, vi (s.2 14 (3 * a1))] s (qi fun r20 s19 => F r20 s19)) : cm iv L h0 (d + 1) 89 [vr 307, vi a1, vi a2] s (qi F) :=
  B89 ⟨by omega, by omega, by omega, by omega, by omega, by omega, by omega, fun q => by exfalso; omega, fun q => by exfalso; omega, fun q => by exfalso; omega, fun q => by exfalso; omega, fun q => by exfalso; omega, fun _ => H, fun q => by exfalso; omega, fun q => by exfalso; omega, fun q => by exfalso; omega, fun q => by exfalso; omega, fun q => by exfalso; omega, fun q => by exfalso; omega⟩
theorem mk_6 {iv : List (Int × Int)} {L : Nat} {h0 : MH} {d : Nat} {s : SM} {a1 : Int} {a2 : Int} {F : Int → SM → Prop} (hb : 0 ≤ a1 ∧ a1 < 3004) (e : s.2 9 a1 = 9) (H : cm iv L h0 d 91 [vr 307, vi (s.2 14 (3 * a1)), vi (s.2 14 ((3 * a1) + 1))] s (qi fun r22 s21 => F r22 s21)) : cm iv L h0 (d + 1) 89 [vr 307, vi a1, vi a2] s (qi F) :=
  B89 ⟨by omega, by omega, by omega, by omega, by omega, by omega, by omega, fun q => by exfalso; omega, fun q => by exfalso; omega, fun q => by exfalso; omega, fun q => by exfalso; omega, fun q => by exfalso; omega, fun q => by exfalso; omega, fun _ => H, fun q => by exfalso; omega, fun q => by exfalso; omega, fun q => by exfalso; omega, fun q => by exfalso; omega, fun q => by exfalso; omega⟩
theorem mk_7 {iv : List (Int × Int)} {L : Nat} {h0 : MH} {d : Nat} {s : SM} {a1 : Int} {a2 : Int} {F : Int → SM → Prop} (hb : 0 ≤ a1 ∧ a1 < 3004) (e : s.2 9 a1 = 10) (H : cm iv L h0 d 88 [vr 307, vi (s.2 14 (3 * a1)), vi (-1)] s (qi fun r24 s23 => cm iv L h0 d 88 [vr 307, vi (s.2 14 ((3 * a1) + 1)), vi a2] s23 (qi fun r26 s25 => F r26 s25))) : cm iv L h0 (d + 1) 89 [vr 307, vi a1, vi a2] s (qi F) :=
  B89 ⟨by omega, by omega, by omega, by omega, by omega, by omega, by omega, fun q => by exfalso; omega, fun q => by exfalso; omega, fun q => by exfalso; omega, fun q => by exfalso; omega, fun q => by exfalso; omega, fun q => by exfalso; omega, fun q => by exfalso; omega, fun _ => H, fun q => by exfalso; omega, fun q => by exfalso; omega, fun q => by exfalso; omega, fun q => by exfalso; omega⟩
theorem mk_8 {iv : List (Int × Int)} {L : Nat} {h0 : MH} {d : Nat} {s : SM} {a1 : Int} {a2 : Int} {F : Int → SM → Prop} (hb : 0 ≤ a1 ∧ a1 < 3004) (e : s.2 9 a1 = 11) (H : cm iv L h0 d 92 [vr 307, vi a1, vi a2, vi (s.2 14 (3 * a1)), vi (s.2 14 ((3 * a1) + 1)), vi (s.2 14 ((3 * a1) + 2))] s (qi fun r28 s27 => F r28 s27)) : cm iv L h0 (d + 1) 89 [vr 307, vi a1, vi a2] s (qi F) :=
  B89 ⟨by omega, by omega, by omega, by omega, by omega, by omega, by omega, fun q => by exfalso; omega, fun q => by exfalso; omega, fun q => by exfalso; omega, fun q => by exfalso; omega, fun q => by exfalso; omega, fun q => by exfalso; omega, fun q => by exfalso; omega, fun q => by exfalso; omega, fun _ => H, fun q => by exfalso; omega, fun q => by exfalso; omega, fun q => by exfalso; omega⟩
theorem mk_9 {iv : List (Int × Int)} {L : Nat} {h0 : MH} {d : Nat} {s : SM} {a1 : Int} {a2 : Int} {F : Int → SM → Prop} (hb : 0 ≤ a1 ∧ a1 < 3004) (e : s.2 9 a1 = 12) (H : cm iv L h0 d 93 [vr 307, vi a2, vi (s.2 14 (3 * a1)), vi (s.2 14 ((3 * a1) + 1))] s (qi fun r30 s29 => F r30 s29)) : cm iv L h0 (d + 1) 89 [vr 307, vi a1, vi a2] s (qi F) :=
  B89 ⟨by omega, by omega, by omega, by omega, by omega, by omega, by omega, fun q => by exfalso; omega, fun q => by exfalso; omega, fun q => by exfalso; omega, fun q => by exfalso; omega, fun q => by exfalso; omega, fun q => by exfalso; omega, fun q => by exfalso; omega, fun q => by exfalso; omega, fun q => by exfalso; omega, fun _ => H, fun q => by exfalso; omega, fun q => by exfalso; omega⟩
theorem mk_10 {iv : List (Int × Int)} {L : Nat} {h0 : MH} {d : Nat} {s : SM} {a1 : Int} {a2 : Int} {F : Int → SM → Prop} (hb : 0 ≤ a1 ∧ a1 < 3004) (e : s.2 9 a1 = 13 ∨ s.2 9 a1 = 14 ∨ s.2 9 a1 < 0 ∨ 15 < s.2 9 a1) (H : cm iv L h0 d 88 [vr 307, vi (s.2 14 (3 * a1)), vi (-1)] s (qi fun r32 s31 => ((r32 ≠ 0 → (0 ≤ r32 ∧ r32 < 6000) ∧ ((s31.2 4 r32 ≠ 4 → (0 ≤ s.2 14 (3 * a1) ∧ s.2 14 (3 * a1) < 3004) ∧ ((s31.2 21 (s.2 14 (3 * a1)) ≠ 0 → F 0 (ua s31 21 (s.2 14 (3 * a1)) (s31.2 21 (s.2 14 (3 * a1))))) ∧ (s31.2 21 (s.2 14 (3 * a1)) = 0 → F 0 (ua s31 21 (s.2 14 (3 * a1)) 3)))) ∧ (s31.2 4 r32 = 4 → ((s31.2 9 a1 ≠ 13 → F (s31.2 6 r32) s31) ∧ (s31.2 9 a1 = 13 → F (s31.2 5 r32) s31))))) ∧ (r32 = 0 → F 0 s31)))) : cm iv L h0 (d + 1) 89 [vr 307, vi a1, vi a2] s (qi F) :=
  B89 ⟨by omega, by omega, by omega, by omega, by omega, by omega, by omega, fun q => by exfalso; omega, fun q => by exfalso; omega, fun q => by exfalso; omega, fun q => by exfalso; omega, fun q => by exfalso; omega, fun q => by exfalso; omega, fun q => by exfalso; omega, fun q => by exfalso; omega, fun q => by exfalso; omega, fun q => by exfalso; omega, fun _ => H, fun q => by exfalso; omega⟩
theorem mk_11 {iv : List (Int × Int)} {L : Nat} {h0 : MH} {d : Nat} {s : SM} {a1 : Int} {a2 : Int} {F : Int → SM → Prop} (hb : 0 ≤ a1 ∧ a1 < 3004) (e : s.2 9 a1 = 15) (H : cm iv L h0 d 88 [vr 307, vi (s.2 14 (3 * a1)), vi (s.2 11 a1)] s (qi fun r36 s35 => F (s35.2 11 a1) s35)) : cm iv L h0 (d + 1) 89 [vr 307, vi a1, vi a2] s (qi F) :=
  B89 ⟨by omega, by omega, by omega, by omega, by omega, by omega, by omega, fun q => by exfalso; omega, fun q => by exfalso; omega, fun q => by exfalso; omega, fun q => by exfalso; omega, fun q => by exfalso; omega, fun q => by exfalso; omega, fun q => by exfalso; omega, fun q => by exfalso; omega, fun q => by exfalso; omega, fun q => by exfalso; omega, fun q => by exfalso; omega, fun _ => H⟩
end
section
/-! The reference judges as the function tells. -/
theorem k_const {s : SM} (h : KJs s) : (vks s 0 ∧ kts s 0 = .null) ∧ (vks s 1 ∧ kts s 1 = .result) ∧ (vks s 2 ∧ kts s 2 = .thrown) := by
  have hn := h.1.1
  have e0 := (h.1.2.1 0 (by omega) (by omega)).1
  have e1 := (h.1.2.1 1 (by omega) (by omega)).1
  have e2 := (h.1.2.1 2 (by omega) (by omega)).1
  exact ⟨⟨Or.inl ⟨by omega, by omega⟩, (kt_leaf h).1 e0⟩, ⟨Or.inl ⟨by omega, by omega⟩, (kt_leaf h).2.1 e1⟩, ⟨Or.inl ⟨by omega, by omega⟩, (kt_leaf h).2.2 e2⟩⟩
theorem kt_cases {s : SM} (h : KJs s) {k : Int} (hk : vks s k) : (s.2 4 k = 0 ∧ k = 0 ∧ kts s k = .null) ∨ (s.2 4 k = 1 ∧ kts s k = .result) ∨ (s.2 4 k = 2 ∧ kts s k = .thrown) ∨ (s.2 4 k = 3 ∧ kts s k = .add (kts s (s.2 5 k)) (kts s (s.2 6 k)) ∧ vks s (s.2 5 k) ∧ vks s (s.2 6 k)) ∨ (s.2 4 k = 4 ∧ kts s k = .mul (kts s (s.2 5 k)) (kts s (s.2 6 k)) ∧ vks s (s.2 5 k) ∧ vks s (s.2 6 k)) := by
  have ha := h.at hk
  have hl := kt_leaf h (k := k)
  have hn := kt_node h hk
  have hkl := hk.lt h.1.1.2 h.2.1
  rcases (show s.2 4 k = 0 ∨ s.2 4 k = 1 ∨ s.2 4 k = 2 ∨ s.2 4 k = 3 ∨ s.2 4 k = 4 by omega) with e | e | e | e | e
  · exact Or.inl ⟨e, by have := (ha.2.2.1 (by omega)).1; omega, hl.1 e⟩
  · exact Or.inr (Or.inl ⟨e, hl.2.1 e⟩)
  · exact Or.inr (Or.inr (Or.inl ⟨e, hl.2.2 e⟩))
  · obtain ⟨k3, va, vb, -⟩ := ha.2.2.2 (by omega)
    exact Or.inr (Or.inr (Or.inr (Or.inl ⟨e, hn.1 e, va.up (by omega), vb.up (by omega)⟩)))
  · obtain ⟨k3, va, vb, -⟩ := ha.2.2.2 (by omega)
    exact Or.inr (Or.inr (Or.inr (Or.inr ⟨e, hn.2 e, va.up (by omega), vb.up (by omega)⟩)))
def CTX (n : Nat) (s : SM) (t : Term) (a : Int) (A : Option Term) (J : JT) (S : Int → Prop) : Prop := dpt t ≤ n + 1 ∧ PRT s t ∧ PRJ s (hd t) (fl t) J S ∧ aK s a A ∧ s.1 3 + 41 * (fl t).length ≤ 6000
section
variable {iv : List (Int × Int)} {L : Nat} {h0 : MH} {n : Nat} {s : SM} {t : Term} {a : Int} {A : Option Term} {J : JT} {S : Int → Prop}
theorem by_make {M : JT × Term} (h : CTX n s t a A J S) (hM : jds s t A J = jen (s.2 9 (hd t)) (hd t) A M) (hmk : ∀ s0, SJ s t a A S [] (jin (hd t) A J) s0 → cm iv L h0 (3 * n + 47) 89 [vr 307, vi (hd t), vi a] s0 (qi (MPOST s t A M S))) : cm iv L h0 (3 * (n + 1) + 45) 88 [vr 307, vi (hd t), vi a] s (qi (POST s t A J S)) := by
  obtain ⟨h1, h2, h3, h4, h5⟩ := h
  exact judge_of_make (n := 3 * n + 3) h2 h3 h4 hM h5 (hmk _ (ST_0 h2 h3))
/-- what stays while parts are judged -/
theorem ST_same {dn : List Int} {J' : JT} {w : SM} (h : SJ s t a A S dn J' w) : w.2 9 = s.2 9 ∧ w.2 10 = s.2 10 ∧ w.2 11 = s.2 11 ∧ w.2 12 = s.2 12 ∧ w.2 13 = s.2 13 ∧ w.2 14 = s.2 14 ∧ w.1 2 = s.1 2 ∧ KJs w ∧ kext s w := ⟨h.1.1.2 9 (by decide), h.1.1.2 10 (by decide), h.1.1.2 11 (by decide), h.1.1.2 12 (by decide), h.1.1.2 13 (by decide), h.1.1.2 14 (by decide), h.1.1.1 2 (by decide), h.1.2.1, h.1.2.2.1⟩
theorem jsp_leaf (h : CTX n s t a A J S) (h3 : s.2 9 (hd t) = 0 ∨ s.2 9 (hd t) = 1 ∨ s.2 9 (hd t) = 2) : cm iv L h0 (3 * (n + 1) + 45) 88 [vr 307, vi (hd t), vi a] s (qi (POST s t A J S)) := by
  obtain ⟨hA, hf, hnd, htd, hDP⟩ := id h.2.1
  have hna : na t = 0 := by
    rw [hf]
    rcases h3 with e | e | e <;> rw [e] <;> rfl
  obtain ⟨b, rfl⟩ := AT_0 hA hna
  have hb := (AT_mem _ hA _ (hd_mem _ hA)).1
  have hdn : ∀ x, x ∈ fl (Term.index b) → x ≠ hd (Term.index b) → x ∈ ([] : List Int) := fun x hx hn => absurd (List.mem_singleton.mp hx) hn
  rcases h3 with e | e | e
  · refine by_make (M := (jin (hd (Term.index b)) A J, .null)) h ?_ (fun s0 st => ?_)
    · have e : s.2 9 (b : Int) = 0 := e
      show jen (s.2 9 b) b A _ = _
      rw [if_pos e]
      rfl
    · obtain ⟨q9, -, -, -, -, -, -, qK, -⟩ := ST_same st
      refine mk_0 hb (by rw [q9]; exact e) ?_
      exact MP_0 st hnd h.2.2.2.1 h.2.2.1.1 hdn (Nat.le_refl 1) (JX.rf qK) (by omega) (k_const qK).1.1 (k_const qK).1.2
  · refine by_make (M := (jin (hd (Term.index b)) A J, .result)) h ?_ (fun s0 st => ?_)
    · have e : s.2 9 (b : Int) = 1 := e
      show jen (s.2 9 b) b A _ = _
      rw [if_neg (by omega), if_pos e]
      rfl
    · obtain ⟨q9, -, -, -, -, -, -, qK, -⟩ := ST_same st
      refine mk_1 hb (by rw [q9]; exact e) ?_
      exact MP_0 st hnd h.2.2.2.1 h.2.2.1.1 hdn (Nat.le_refl 1) (JX.rf qK) (by omega) (k_const qK).2.1.1 (k_const qK).2.1.2
  · refine by_make (M := (jin (hd (Term.index b)) A J, .thrown)) h ?_ (fun s0 st => ?_)
    · have e : s.2 9 (b : Int) = 2 := e
      show jen (s.2 9 b) b A _ = _
      rw [if_neg (by omega), if_neg (by omega), if_pos e]
      rfl
    · obtain ⟨q9, -, -, -, -, -, -, qK, -⟩ := ST_same st
      refine mk_2 hb (by rw [q9]; exact e) ?_
      exact MP_0 st hnd h.2.2.2.1 h.2.2.1.1 hdn (Nat.le_refl 1) (JX.rf qK) (by omega) (k_const qK).2.2.1 (k_const qK).2.2.2
theorem jsp_name (h : CTX n s t a A J S) (e : s.2 9 (hd t) = 3) : cm iv L h0 (3 * (n + 1) + 45) 88 [vr 307, vi (hd t), vi a] s (qi (POST s t A J S)) := by
  obtain ⟨hA, hf, hnd, htd, hDP⟩ := id h.2.1
  obtain ⟨hKJ, hBO, hJR, hSl⟩ := id h.2.2.1
  have hna : na t = 0 := by rw [hf, e]; rfl
  obtain ⟨b, rfl⟩ := AT_0 hA hna
  have hbm := hd_mem _ hA
  have hb := (AT_mem _ hA _ hbm).1
  have hdn : ∀ x, x ∈ fl (Term.index b) → x ≠ hd (Term.index b) → x ∈ ([] : List Int) := fun x hx hn => absurd (List.mem_singleton.mp hx) hn
  refine by_make (M := jnm (s.2 9) (s.2 11) (s.2 14) (kks s) (bds s b (s.2 10 b)) b (jin (hd (Term.index b)) A J)) h ?_ (fun s0 st => ?_)
  · have e : s.2 9 (b : Int) = 3 := e
    show jen (s.2 9 b) b A _ = _
    rw [if_neg (by omega), if_neg (by omega), if_neg (by omega)]
    rfl
  · obtain ⟨q9, q10, q11, q12, q13, q14, q2, qK, qx⟩ := ST_same st
    refine mk_3 hb (by rw [q9]; exact e) (binderOf_ok (n := 70) hb (by rw [q12]; exact hDP _ hbm) ?_)
    rw [q9, q10, q12, q13]
    have hbo := hBO (s.2 10 (hd (Term.index b)))
    generalize hu : bnd (s.2 9) (s.2 10) (s.2 12) (s.2 13) 70 (hd (Term.index b)) (s.2 10 (hd (Term.index b))) = u
    have hu2 : bds s (hd (Term.index b)) (s.2 10 (hd (Term.index b))) = u := hu
    have hu3 : bds s b (s.2 10 b) = u := hu
    rw [hu2] at hbo
    rw [hu3]
    refine ⟨fun hn => ?_, fun hn => ?_⟩
    · obtain ⟨h1, h2⟩ := hbo.resolve_left hn
      refine ⟨h1, fun e8 => ?_, fun e8 => ?_⟩
      · obtain ⟨e10, hSp, hp1, hp2⟩ := h2.resolve_left (fun q => e8 q.1)
        rw [q14]
        refine ⟨by omega, by omega, seenAs_ok ⟨hp1, hp2⟩ ?_⟩
        obtain ⟨⟨a1, a2⟩, a3, a4⟩ := st.2.1 _ (Or.inl hSp)
        have hM : jnm (s.2 9) (s.2 11) (s.2 14) (kks s) u b (jin (hd (Term.index b)) A J) = (jin (hd (Term.index b)) A J, jsee (jin (hd (Term.index b)) A J) (s.2 14 (3 * u))) := by
          unfold jnm
          rw [if_neg hn, if_neg e8]
        rw [hM]
        have key : vks s0 (if 0 < s0.2 21 (s.2 14 (3 * u)) then 0 else s0.2 19 (s.2 14 (3 * u))) ∧ kts s0 (if 0 < s0.2 21 (s.2 14 (3 * u)) then 0 else s0.2 19 (s.2 14 (3 * u))) = jsee (jin (hd (Term.index b)) A J) (s.2 14 (3 * u)) := by
          unfold jsee
          rw [a4.1]
          by_cases hp : 0 < (jin (hd (Term.index b)) A J).2.2 (s.2 14 (3 * u))
          · rw [if_pos hp, if_pos hp]
            exact (k_const qK).1
          · rw [if_neg hp, if_neg hp]
            exact ⟨a1, a2⟩
        exact MP_0 st hnd h.2.2.2.1 hKJ hdn (Nat.le_refl 1) (JX.rf qK) (by omega) key.1 key.2
      · obtain ⟨-, t1, t2⟩ := h2.resolve_right (fun q => by omega)
        have hM : jnm (s.2 9) (s.2 11) (s.2 14) (kks s) u b (jin (hd (Term.index b)) A J) = (jin (hd (Term.index b)) A J, kks s (s.2 11 u)) := by
          unfold jnm
          rw [if_neg hn, if_pos e8]
        rw [hM, q11]
        have hv : vks s (s.2 11 u) := Or.inl ⟨t1, t2⟩
        exact MP_0 st hnd h.2.2.2.1 hKJ hdn (Nat.le_refl 1) (JX.rf qK) (by omega) (kext_vk qx hv) (by rw [kext_kt qx hKJ hv, kks_told ⟨t1, t2⟩])
    · have hM : jnm (s.2 9) (s.2 11) (s.2 14) (kks s) u b (jin (hd (Term.index b)) A J) = (jsr (jin (hd (Term.index b)) A J) (hd (Term.index b)) 1, .null) := by
        unfold jnm
        rw [if_pos hn]
        rfl
      rw [hM]
      have qK' : KJs (ua s0 21 (hd (Term.index b)) 1) := qK
      exact MP_r st hnd h.2.2.2.1 hKJ hSl hbm (by simp) ⟨by omega, by omega⟩ hdn (Nat.le_refl 1) (JX.rf qK') (by show s0.1 3 ≤ s0.1 3 + 41; omega) (k_const qK').1.1 (k_const qK').1.2
/-- one part, two parts, three: what the rows say of them -/
theorem kid1 {b : Nat} {x : Term} (h : ATj s (.add (.index b) x)) : s.2 14 (3 * hd (Term.add (Term.index b) x)) = hd x ∧ ATj s x := by
  have h5 : s.2 14 (3 * hd (Term.index b) + na (Term.index b)) = hd x := h.2.2.2.2.1
  rw [show na (Term.index b) = 0 from rfl, Int.add_zero] at h5
  exact ⟨h5, h.2.1⟩
theorem kid2 {b : Nat} {x y : Term} (h : ATj s (.add (.add (.index b) x) y)) : s.2 14 (3 * hd (Term.add (Term.add (Term.index b) x) y)) = hd x ∧ s.2 14 (3 * hd (Term.add (Term.add (Term.index b) x) y) + 1) = hd y := by
  have h5 : s.2 14 (3 * hd (Term.add (Term.index b) x) + na (Term.add (Term.index b) x)) = hd y := h.2.2.2.2.1
  exact ⟨(kid1 h.1).1, h5⟩
theorem kid3 {b : Nat} {x y z : Term} (h : ATj s (.add (.add (.add (.index b) x) y) z)) : s.2 14 (3 * hd (Term.add (Term.add (Term.add (Term.index b) x) y) z)) = hd x ∧ s.2 14 (3 * hd (Term.add (Term.add (Term.add (Term.index b) x) y) z) + 1) = hd y ∧ s.2 14 (3 * hd (Term.add (Term.add (Term.add (Term.index b) x) y) z) + 2) = hd z := by
  have h5 : s.2 14 (3 * hd (Term.add (Term.add (Term.index b) x) y) + na (Term.add (Term.add (Term.index b) x) y)) = hd z := h.2.2.2.2.1
  exact ⟨(kid2 h.1).1, (kid2 h.1).2, h5⟩
theorem len1 {b : Nat} {x : Term} : (fl (Term.add (Term.index b) x)).length = 1 + (fl x).length := by show ([(b : Int)] ++ fl x).length = _; simp; omega
theorem len2 {b : Nat} {x y : Term} : (fl (Term.add (Term.add (Term.index b) x) y)).length = 1 + (fl x).length + (fl y).length := by show (([(b : Int)] ++ fl x) ++ fl y).length = _; simp; omega
theorem len3 {b : Nat} {x y z : Term} : (fl (Term.add (Term.add (Term.add (Term.index b) x) y) z)).length = 1 + (fl x).length + (fl y).length + (fl z).length := by show ((([(b : Int)] ++ fl x) ++ fl y) ++ fl z).length = _; simp; omega
theorem dn1 {b : Nat} {x : Term} : ∀ v, v ∈ fl (Term.add (Term.index b) x) → v ≠ hd (Term.add (Term.index b) x) → v ∈ [] ++ fl x := fun v hv hn => by
  rcases List.mem_append.mp hv with q | q
  · exact absurd (List.mem_singleton.mp q) hn
  · exact q
theorem dn2 {b : Nat} {x y : Term} : ∀ v, v ∈ fl (Term.add (Term.add (Term.index b) x) y) → v ≠ hd (Term.add (Term.add (Term.index b) x) y) → v ∈ ([] ++ fl x) ++ fl y := fun v hv hn => by
  rcases List.mem_append.mp hv with q | q
  · exact List.mem_append_left _ (dn1 v q hn)
  · exact List.mem_append_right _ q
theorem dn3 {b : Nat} {x y z : Term} : ∀ v, v ∈ fl (Term.add (Term.add (Term.add (Term.index b) x) y) z) → v ≠ hd (Term.add (Term.add (Term.add (Term.index b) x) y) z) → v ∈ (([] ++ fl x) ++ fl y) ++ fl z := fun v hv hn => by
  rcases List.mem_append.mp hv with q | q
  · exact List.mem_append_left _ (dn2 v q hn)
  · exact List.mem_append_right _ q
/-- the first part of any -/
theorem ST_a (hn : JSP iv L h0 n) (h : CTX n s t a A J S) {b : Nat} {x : Term} {w : SM} {a' : Int} {A' : Option Term} {J' : JT} {d : Nat} {F : Int → SM → Prop} (hT1 : ATj s (.add (.index b) x)) (hsub : ∃ r, fl t = fl (.add (.index b) x) ++ r) (hhd : (b : Int) = hd t) (hdp : dpt x ≤ n) (hst : SJ s t a A S [] J' w) (ha : aK w a' A') (hd1 : 3 * n + 45 ≤ d)
    (hgo : ∀ r v, SJ s t a A S ([] ++ fl x) (jds s x A' J').1 v → kext w v → vks v r → kts v r = (jds s x A' J').2 → F r v) : cm iv L h0 d 88 [vr 307, vi (hd x), vi a'] w (qi F) := by
  obtain ⟨r0, hr0⟩ := hsub
  refine ST_1 hn h.2.1 h.2.2.1 hst hT1 ⟨r0, hr0⟩ hhd (fun x q => by cases q) (fun _ q => absurd q (by show ¬ ((0 : Int) = 1); decide)) hdp ?_ ha hd1 hgo
  have h5 := h.2.2.2.2
  have := len1 (b := b) (x := x)
  rw [hr0, List.length_append] at h5
  push_cast at h5 ⊢
  simp only [List.length_nil]
  omega
theorem jsp_told (hn : JSP iv L h0 n) (h : CTX n s t a A J S) (e : s.2 9 (hd t) = 15) : cm iv L h0 (3 * (n + 1) + 45) 88 [vr 307, vi (hd t), vi a] s (qi (POST s t A J S)) := by
  obtain ⟨hA, hf, hnd, htd, hDP⟩ := id h.2.1
  obtain ⟨hKJ, hBO, hJR, hSl⟩ := id h.2.2.1
  have hna : na t = 1 := by rw [hf, e]; rfl
  obtain ⟨b, x, rfl⟩ := AT_1 hA hna
  have hbm := hd_mem _ hA
  have hb := (AT_mem _ hA _ hbm).1
  have hdx : dpt x ≤ n := by have := h.1; have e : dpt (Term.add (Term.index b) x) = max 1 (dpt x + 1) := rfl; omega
  have htt := htd _ hbm (Or.inr e)
  have e' : s.2 9 (b : Int) = 15 := e
  refine by_make (M := ((jds s x (some (kks s (s.2 11 b))) (jin (hd (Term.add (Term.index b) x)) A J)).1, kks s (s.2 11 b))) h ?_ (fun s0 st => ?_)
  · show jen (s.2 9 b) b A _ = _
    rw [if_neg (by omega), if_pos e']
    rfl
  · obtain ⟨q9, q10, q11, q12, q13, q14, q2, qK, qx⟩ := ST_same st
    have hv : vks s (s.2 11 (hd (Term.add (Term.index b) x))) := Or.inl htt
    refine mk_11 hb (by rw [q9]; exact e) ?_
    rw [q14, (kid1 hA).1, q11]
    refine ST_a hn h hA ⟨[], by simp⟩ rfl hdx st (A' := some (kks s (s.2 11 b))) ⟨kext_vk qx hv, by rw [kext_kt qx hKJ hv]; exact (kks_told htt).symm⟩ (by omega) (fun r v st1 hx1 hv1 hk1 => ?_)
    obtain ⟨r9, r10, r11, r12, r13, r14, r2, rK, rx⟩ := ST_same st1
    rw [r11]
    exact MP_0 st1 hnd h.2.2.2.1 hKJ dn1 (by rw [len1]; simp; omega) (JX.rf rK) (by omega) (kext_vk rx hv) (by rw [kext_kt rx hKJ hv]; exact (kks_told htt).symm)
theorem jsp_half (hn : JSP iv L h0 n) (h : CTX n s t a A J S) (e : s.2 9 (hd t) = 13 ∨ s.2 9 (hd t) = 14) : cm iv L h0 (3 * (n + 1) + 45) 88 [vr 307, vi (hd t), vi a] s (qi (POST s t A J S)) := by
  obtain ⟨hA, hf, hnd, htd, hDP⟩ := id h.2.1
  obtain ⟨hKJ, hBO, hJR, hSl⟩ := id h.2.2.1
  have hna : na t = 1 := by rw [hf]; rcases e with e | e <;> rw [e] <;> rfl
  obtain ⟨b, x, rfl⟩ := AT_1 hA hna
  have hbm := hd_mem _ hA
  have hb := (AT_mem _ hA _ hbm).1
  have hdx : dpt x ≤ n := by have := h.1; have e : dpt (Term.add (Term.index b) x) = max 1 (dpt x + 1) := rfl; omega
  have e' : s.2 9 (b : Int) = 13 ∨ s.2 9 (b : Int) = 14 := e
  have hxm := hd_mem x hA.2.1
  have hxt : hd x ∈ fl (Term.add (Term.index b) x) := List.mem_append_right _ hxm
  have hp := (AT_mem _ hA _ hxt).1
  have hpb : hd x ≠ hd (Term.add (Term.index b) x) := fun q => (List.nodup_append.mp hnd).2.2 _ (List.mem_singleton.mpr rfl) _ hxm q.symm
  refine by_make (M := jhf (jds s x) (hd x) (s.2 9 b) (jin (hd (Term.add (Term.index b) x)) A J)) h ?_ (fun s0 st => ?_)
  · show jen (s.2 9 b) b A _ = _
    rw [if_neg (by omega), if_neg (by omega)]
    rfl
  · obtain ⟨q9, q10, q11, q12, q13, q14, q2, qK, qx⟩ := ST_same st
    refine mk_10 hb (by rw [q9]; omega) ?_
    rw [q14, (kid1 hA).1]
    refine ST_a hn h hA ⟨[], by simp⟩ rfl hdx st (A' := none) rfl (by omega) (fun r v st1 hx1 hv1 hk1 => ?_)
    obtain ⟨r9, r10, r11, r12, r13, r14, r2, rK, rx⟩ := ST_same st1
    have rl := hv1.lt rK.1.1.2 rK.2.1
    have rb := st1.2.2.2.2
    have h5 := h.2.2.2.2
    rw [len1] at h5
    rw [List.nil_append] at rb
    have hst0 := st1
    rw [r9]
    generalize hj : jds s x none (jin (hd (Term.add (Term.index b) x)) A J) = jj at *
    have fin : ∀ (m : Term) (J2 : JT) (r2 : Int) (v2 : SM), SJ s (Term.add (Term.index b) x) a A S ([] ++ fl x) J2 v2 → v2.1 3 ≤ v.1 3 → jhf (jds s x) (hd x) (s.2 9 b) (jin (hd (Term.add (Term.index b) x)) A J) = (J2, m) → vks v2 r2 → kts v2 r2 = m → MPOST s (Term.add (Term.index b) x) A (jhf (jds s x) (hd x) (s.2 9 b) (jin (hd (Term.add (Term.index b) x)) A J)) S r2 v2 := fun m J2 r2 v2 st2 hb2 hM hv2 hk2 => by
      rw [hM]
      exact MP_0 st2 hnd h.2.2.2.1 hKJ dn1 (by rw [len1]; simp; omega) (JX.rf (ST_same st2).2.2.2.2.2.2.2.1) (by omega) hv2 hk2
    have other : ∀ w', (v.2 21 (hd x) = 0 ∧ w' = ua v 21 (hd x) 3) ∨ (v.2 21 (hd x) ≠ 0 ∧ (w' = v ∨ w' = ua v 21 (hd x) (v.2 21 (hd x)))) → kts v r ≠ .null → (∀ p q, kts v r ≠ .mul p q) → MPOST s (Term.add (Term.index b) x) A (jhf (jds s x) (hd x) (s.2 9 b) (jin (hd (Term.add (Term.index b) x)) A J)) S 0 w' := fun w' hw hn0 hnm => by
      obtain ⟨st2, vx⟩ := ST_n (z := 3) hst0 hxm hxt hpb ⟨by omega, by omega⟩ hw
      refine fin .null _ 0 w' st2 (by rcases hw with ⟨-, rfl⟩ | ⟨-, rfl | rfl⟩ <;> exact Int.le_refl _) ?_ (k_const (ST_same st2).2.2.2.2.2.2.2.1).1.1 (k_const (ST_same st2).2.2.2.2.2.2.2.1).1.2
      unfold jhf
      rw [hj]
      rw [hk1] at hn0 hnm
      cases h2 : jj.2 with
      | null => exact absurd h2 hn0
      | mul p q => exact absurd h2 (hnm p q)
      | _ => rfl
    rcases kt_cases rK hv1 with ⟨k4, kr, kk⟩ | ⟨k4, kk⟩ | ⟨k4, kk⟩ | ⟨k4, kk, va, vb⟩ | ⟨k4, kk, va, vb⟩
    · refine ⟨fun q => absurd kr q, fun _ => fin .null jj.1 0 v hst0 (Int.le_refl _) ?_ (k_const rK).1.1 (k_const rK).1.2⟩
      unfold jhf
      rw [hj]
      rw [hk1] at kk
      rw [kk]
    · refine ⟨fun _ => ⟨by omega, fun _ => ⟨hp, fun q => other _ (Or.inr ⟨q, Or.inr rfl⟩) (by rw [kk]; intro c; cases c) (by rw [kk]; intro p q c; cases c), fun q => other _ (Or.inl ⟨q, rfl⟩) (by rw [kk]; intro c; cases c) (by rw [kk]; intro p q c; cases c)⟩, fun q => by omega⟩, fun q => ?_⟩
      have := (k_const rK).1.2
      rw [q, this] at kk
      cases kk
    · refine ⟨fun _ => ⟨by omega, fun _ => ⟨hp, fun q => other _ (Or.inr ⟨q, Or.inr rfl⟩) (by rw [kk]; intro c; cases c) (by rw [kk]; intro p q c; cases c), fun q => other _ (Or.inl ⟨q, rfl⟩) (by rw [kk]; intro c; cases c) (by rw [kk]; intro p q c; cases c)⟩, fun q => by omega⟩, fun q => ?_⟩
      have := (k_const rK).1.2
      rw [q, this] at kk
      cases kk
    · refine ⟨fun _ => ⟨by omega, fun _ => ⟨hp, fun q => other _ (Or.inr ⟨q, Or.inr rfl⟩) (by rw [kk]; intro c; cases c) (by rw [kk]; intro p q c; cases c), fun q => other _ (Or.inl ⟨q, rfl⟩) (by rw [kk]; intro c; cases c) (by rw [kk]; intro p q c; cases c)⟩, fun q => by omega⟩, fun q => ?_⟩
      have := (k_const rK).1.2
      rw [q, this] at kk
      cases kk
    · have hM : jhf (jds s x) (hd x) (s.2 9 b) (jin (hd (Term.add (Term.index b) x)) A J) = (jj.1, if s.2 9 b = 13 then kts v (v.2 5 r) else kts v (v.2 6 r)) := by
        unfold jhf
        rw [hj]
        rw [hk1] at kk
        rw [kk]
      refine ⟨fun _ => ⟨by omega, fun q => absurd k4 q, fun _ => ⟨fun q => ?_, fun q => ?_⟩⟩, fun q => ?_⟩
      · exact fin _ jj.1 _ v hst0 (Int.le_refl _) hM vb (by rw [if_neg (show ¬ s.2 9 (b : Int) = 13 from q)])
      · exact fin _ jj.1 _ v hst0 (Int.le_refl _) hM va (by rw [if_pos (show s.2 9 (b : Int) = 13 from q)])
      · have := (k_const rK).1.2
        rw [q, this] at kk
        cases kk
end
end
section
/-! Nodes of two parts, of three. -/
section
variable {iv : List (Int × Int)} {L : Nat} {h0 : MH} {n : Nat} {s : SM} {t : Term} {a : Int} {A : Option Term} {J : JT} {S : Int → Prop}
/-- the second part -/
theorem ST_b (hn : JSP iv L h0 n) (h : CTX n s t a A J S) {b : Nat} {x y : Term} {w : SM} {a' : Int} {A' : Option Term} {J' : JT} {d : Nat} {F : Int → SM → Prop} (hT1 : ATj s (.add (.add (.index b) x) y)) (hsub : ∃ r, fl t = fl (.add (.add (.index b) x) y) ++ r) (hhd : (b : Int) = hd t) (hdp : dpt y ≤ n) (hst : SJ s t a A S ([] ++ fl x) J' w) (ha : aK w a' A') (hd1 : 3 * n + 45 ≤ d)
    (hgo : ∀ r v, SJ s t a A S (([] ++ fl x) ++ fl y) (jds s y A' J').1 v → kext w v → vks v r → kts v r = (jds s y A' J').2 → F r v) : cm iv L h0 d 88 [vr 307, vi (hd y), vi a'] w (qi F) := by
  obtain ⟨r0, hr0⟩ := hsub
  refine ST_1 hn h.2.1 h.2.2.1 hst hT1 ⟨r0, hr0⟩ hhd (fun v q => List.mem_append_right _ q) (fun _ _ => ?_) hdp ?_ ha hd1 hgo
  · have := (kid1 hT1.1).1
    have e : hd (Term.add (Term.index b) x) = hd t := hhd
    rw [e] at this
    rw [this]
    exact hd_mem x hT1.1.2.1
  · have h5 := h.2.2.2.2
    have := len2 (b := b) (x := x) (y := y)
    rw [hr0, List.length_append] at h5
    push_cast at h5 ⊢
    simp only [List.nil_append]
    omega
/-- the third part -/
theorem ST_c (hn : JSP iv L h0 n) (h : CTX n s t a A J S) {b : Nat} {x y z : Term} {w : SM} {a' : Int} {A' : Option Term} {J' : JT} {d : Nat} {F : Int → SM → Prop} (hT1 : ATj s (.add (.add (.add (.index b) x) y) z)) (hsub : ∃ r, fl t = fl (.add (.add (.add (.index b) x) y) z) ++ r) (hhd : (b : Int) = hd t) (hdp : dpt z ≤ n) (hst : SJ s t a A S (([] ++ fl x) ++ fl y) J' w) (ha : aK w a' A') (hd1 : 3 * n + 45 ≤ d)
    (hgo : ∀ r v, SJ s t a A S ((([] ++ fl x) ++ fl y) ++ fl z) (jds s z A' J').1 v → kext w v → vks v r → kts v r = (jds s z A' J').2 → F r v) : cm iv L h0 d 88 [vr 307, vi (hd z), vi a'] w (qi F) := by
  obtain ⟨r0, hr0⟩ := hsub
  refine ST_1 hn h.2.1 h.2.2.1 hst hT1 ⟨r0, hr0⟩ hhd (fun v q => ?_) (fun _ q => absurd q (by show ¬ ((0 : Int) + 1 + 1 = 1); decide)) hdp ?_ ha hd1 hgo
  · rcases List.mem_append.mp q with q | q
    · exact List.mem_append_left _ (List.mem_append_right _ q)
    · exact List.mem_append_right _ q
  · have h5 := h.2.2.2.2
    have := len3 (b := b) (x := x) (y := y) (z := z)
    rw [hr0, List.length_append] at h5
    push_cast at h5 ⊢
    simp only [List.nil_append, List.length_append]
    omega
theorem dpt2 {b : Nat} {x y : Term} (h : dpt (Term.add (Term.add (Term.index b) x) y) ≤ n + 1) : dpt x ≤ n ∧ dpt y ≤ n := by
  have e : dpt (Term.add (Term.add (Term.index b) x) y) = max (max 1 (dpt x + 1)) (dpt y + 1) := rfl
  omega
theorem dpt3 {b : Nat} {x y z : Term} (h : dpt (Term.add (Term.add (Term.add (Term.index b) x) y) z) ≤ n + 1) : dpt x ≤ n ∧ dpt y ≤ n ∧ dpt z ≤ n := by
  have e : dpt (Term.add (Term.add (Term.add (Term.index b) x) y) z) = max (max (max 1 (dpt x + 1)) (dpt y + 1)) (dpt z + 1) := rfl
  omega
theorem jsp_reck (hn : JSP iv L h0 n) (h : CTX n s t a A J S) (e : s.2 9 (hd t) = 4 ∨ s.2 9 (hd t) = 5 ∨ s.2 9 (hd t) = 6 ∨ s.2 9 (hd t) = 7) : cm iv L h0 (3 * (n + 1) + 45) 88 [vr 307, vi (hd t), vi a] s (qi (POST s t A J S)) := by
  obtain ⟨hA, hf, hnd, htd, hDP⟩ := id h.2.1
  obtain ⟨hKJ, hBO, hJR, hSl⟩ := id h.2.2.1
  have hna : na t = 2 := by rw [hf]; rcases e with e | e | e | e <;> rw [e] <;> rfl
  obtain ⟨b, x, y, rfl⟩ := AT_2 hA hna
  have hbm := hd_mem _ hA
  have hb := (AT_mem _ hA _ hbm).1
  obtain ⟨hdx, hdy⟩ := dpt2 h.1
  have e' : s.2 9 (b : Int) = 4 ∨ s.2 9 (b : Int) = 5 ∨ s.2 9 (b : Int) = 6 ∨ s.2 9 (b : Int) = 7 := e
  refine by_make (M := ((jds s y (some .result) (jds s x (some .result) (jin (hd (Term.add (Term.add (Term.index b) x) y)) A J)).1).1, if s.2 9 b = 7 then .thrown else .result)) h ?_ (fun s0 st => ?_)
  · show jen (s.2 9 b) b A _ = _
    rw [if_neg (by omega), if_neg (by omega), if_neg (by omega)]
    rfl
  · obtain ⟨q9, q10, q11, q12, q13, q14, q2, qK, qx⟩ := ST_same st
    refine mk_4 hb (by rw [q9]; exact e) ?_
    rw [q14, (kid2 hA).1, (kid2 hA).2]
    refine ST_a hn h hA.1 ⟨_, rfl⟩ rfl hdx st (A' := some .result) (k_const qK).2.1 (by omega) (fun r v st1 hx1 hv1 hk1 => ?_)
    obtain ⟨r9, r10, r11, r12, r13, r14, r2, rK, rx⟩ := ST_same st1
    refine ST_b hn h hA ⟨[], by simp⟩ rfl hdy st1 (A' := some .result) (k_const rK).2.1 (by omega) (fun r' u st2 hx2 hv2 hk2 => ?_)
    obtain ⟨u9, u10, u11, u12, u13, u14, u2, uK, ux⟩ := ST_same st2
    rw [u9]
    refine ⟨fun q => ?_, fun q => ?_⟩
    · rw [if_neg (show ¬ s.2 9 (b : Int) = 7 from q)]
      exact MP_0 st2 hnd h.2.2.2.1 hKJ dn2 (by rw [len2]; simp; omega) (JX.rf uK) (by omega) (k_const uK).2.1.1 (k_const uK).2.1.2
    · rw [if_pos (show s.2 9 (b : Int) = 7 from q)]
      exact MP_0 st2 hnd h.2.2.2.1 hKJ dn2 (by rw [len2]; simp; omega) (JX.rf uK) (by omega) (k_const uK).2.2.1 (k_const uK).2.2.2
theorem jsp_let (hn : JSP iv L h0 n) (h : CTX n s t a A J S) (e : s.2 9 (hd t) = 10) : cm iv L h0 (3 * (n + 1) + 45) 88 [vr 307, vi (hd t), vi a] s (qi (POST s t A J S)) := by
  obtain ⟨hA, hf, hnd, htd, hDP⟩ := id h.2.1
  obtain ⟨hKJ, hBO, hJR, hSl⟩ := id h.2.2.1
  have hna : na t = 2 := by rw [hf, e]; rfl
  obtain ⟨b, x, y, rfl⟩ := AT_2 hA hna
  have hbm := hd_mem _ hA
  have hb := (AT_mem _ hA _ hbm).1
  obtain ⟨hdx, hdy⟩ := dpt2 h.1
  have e' : s.2 9 (b : Int) = 10 := e
  refine by_make (M := jds s y A (jds s x none (jin (hd (Term.add (Term.add (Term.index b) x) y)) A J)).1) h ?_ (fun s0 st => ?_)
  · show jen (s.2 9 b) b A _ = _
    rw [if_neg (by omega), if_pos e']
    rfl
  · obtain ⟨q9, q10, q11, q12, q13, q14, q2, qK, qx⟩ := ST_same st
    refine mk_7 hb (by rw [q9]; exact e) ?_
    rw [q14, (kid2 hA).1, (kid2 hA).2]
    refine ST_a hn h hA.1 ⟨_, rfl⟩ rfl hdx st (A' := none) rfl (by omega) (fun r v st1 hx1 hv1 hk1 => ?_)
    obtain ⟨r9, r10, r11, r12, r13, r14, r2, rK, rx⟩ := ST_same st1
    refine ST_b hn h hA ⟨[], by simp⟩ rfl hdy st1 (A' := A) (aK_x rx hKJ h.2.2.2.1) (by omega) (fun r' u st2 hx2 hv2 hk2 => ?_)
    obtain ⟨u9, u10, u11, u12, u13, u14, u2, uK, ux⟩ := ST_same st2
    exact MP_0 st2 hnd h.2.2.2.1 hKJ dn2 (by rw [len2]; simp; omega) (JX.rf uK) (by omega) hv2 hk2
theorem jsp_use (hn : JSP iv L h0 n) (h : CTX n s t a A J S) (e : s.2 9 (hd t) = 9) : cm iv L h0 (3 * (n + 1) + 45) 88 [vr 307, vi (hd t), vi a] s (qi (POST s t A J S)) := by
  obtain ⟨hA, hf, hnd, htd, hDP⟩ := id h.2.1
  obtain ⟨hKJ, hBO, hJR, hSl⟩ := id h.2.2.1
  have hna : na t = 2 := by rw [hf, e]; rfl
  obtain ⟨b, x, y, rfl⟩ := AT_2 hA hna
  have hbm := hd_mem _ hA
  have hb := (AT_mem _ hA _ hbm).1
  obtain ⟨hdx, hdy⟩ := dpt2 h.1
  have e' : s.2 9 (b : Int) = 9 := e
  have hxm := hd_mem x hA.1.2.1
  have hxt : hd x ∈ fl (Term.add (Term.add (Term.index b) x) y) := List.mem_append_left _ (List.mem_append_right _ hxm)
  have hp := (AT_mem _ hA _ hxt).1
  have hnd1 := (List.nodup_append.mp hnd).1
  have hpb : hd x ≠ hd (Term.add (Term.add (Term.index b) x) y) := fun q => (List.nodup_append.mp hnd1).2.2 _ (List.mem_singleton.mpr rfl) _ hxm q.symm
  refine by_make (M := jus (jds s x) (jds s y) (hd x) (jin (hd (Term.add (Term.add (Term.index b) x) y)) A J)) h ?_ (fun s0 st => ?_)
  · show jen (s.2 9 b) b A _ = _
    rw [if_pos e']
    rfl
  · obtain ⟨q9, q10, q11, q12, q13, q14, q2, qK, qx⟩ := ST_same st
    refine mk_6 hb (by rw [q9]; exact e) ?_
    rw [q14, (kid2 hA).1, (kid2 hA).2]
    refine B91 (ST_a hn h hA.1 ⟨_, rfl⟩ rfl hdx st (A' := none) rfl (by omega) (fun r v st1 hx1 hv1 hk1 => ?_))
    obtain ⟨r9, r10, r11, r12, r13, r14, r2, rK, rx⟩ := ST_same st1
    have rl := hv1.lt rK.1.1.2 rK.2.1
    generalize hj : jds s x none (jin (hd (Term.add (Term.add (Term.index b) x) y)) A J) = jj at *
    -- the second part asked for UNKNOWN
    have unk : ∀ (J2 : JT) (v2 : SM), SJ s (Term.add (Term.add (Term.index b) x) y) a A S ([] ++ fl x) J2 v2 → jus (jds s x) (jds s y) (hd x) (jin (hd (Term.add (Term.add (Term.index b) x) y)) A J) = ((jds s y (some .null) J2).1, .null) → cm iv L h0 (3 * n + 45) 88 [vr 307, vi (hd y), vi 0] v2 (qi fun _ w => MPOST s (Term.add (Term.add (Term.index b) x) y) A (jus (jds s x) (jds s y) (hd x) (jin (hd (Term.add (Term.add (Term.index b) x) y)) A J)) S 0 w) := fun J2 v2 st2 hM => by
      refine ST_b hn h hA ⟨[], by simp⟩ rfl hdy st2 (A' := some .null) (k_const (ST_same st2).2.2.2.2.2.2.2.1).1 (Nat.le_refl _) (fun r' u st3 hx3 hv3 hk3 => ?_)
      obtain ⟨u9, u10, u11, u12, u13, u14, u2, uK, ux⟩ := ST_same st3
      rw [hM]
      exact MP_0 st3 hnd h.2.2.2.1 hKJ dn2 (by rw [len2]; simp; omega) (JX.rf uK) (by omega) (k_const uK).1.1 (k_const uK).1.2
    have other : ∀ w', (v.2 21 (hd x) = 0 ∧ w' = ua v 21 (hd x) 2) ∨ (v.2 21 (hd x) ≠ 0 ∧ (w' = v ∨ w' = ua v 21 (hd x) (v.2 21 (hd x)))) → kts v r ≠ .null → (∀ p q, kts v r ≠ .add p q) → cm iv L h0 (3 * n + 45) 88 [vr 307, vi (hd y), vi 0] w' (qi fun _ w => MPOST s (Term.add (Term.add (Term.index b) x) y) A (jus (jds s x) (jds s y) (hd x) (jin (hd (Term.add (Term.add (Term.index b) x) y)) A J)) S 0 w) := fun w' hw hn0 hnm => by
      obtain ⟨st2, vx⟩ := ST_n (z := 2) st1 hxm hxt hpb ⟨by omega, by omega⟩ hw
      refine unk _ w' st2 ?_
      unfold jus
      rw [hj]
      rw [hk1] at hn0 hnm
      cases h2 : jj.2 with
      | null => exact absurd h2 hn0
      | add p q => exact absurd h2 (hnm p q)
      | _ => rfl
    have rb := st1.2.2.2.2
    have h5 := h.2.2.2.2
    rw [len2] at h5
    rw [List.nil_append] at rb
    have hM0 := (k_const rK).1.2
    rcases kt_cases rK hv1 with ⟨k4, kr, kk⟩ | ⟨k4, kk⟩ | ⟨k4, kk⟩ | ⟨k4, kk, va, vb⟩ | ⟨k4, kk, va, vb⟩
    · refine ⟨fun _ => ⟨fun _ => unk jj.1 v st1 ?_, fun q => absurd kr q⟩, fun q => absurd kr q⟩
      unfold jus
      rw [hj]
      rw [hk1] at kk
      rw [kk]
    · have hr0 : r ≠ 0 := fun q => by rw [q, hM0] at kk; cases kk
      exact ⟨fun q => absurd q hr0, fun _ => ⟨by omega, fun _ => ⟨fun q => absurd q hr0, fun _ => ⟨hp, fun q => other v (Or.inr ⟨q, Or.inl rfl⟩) (by rw [kk]; intro c; cases c) (by rw [kk]; intro p q c; cases c), fun q => other _ (Or.inl ⟨q, rfl⟩) (by rw [kk]; intro c; cases c) (by rw [kk]; intro p q c; cases c)⟩⟩, fun q => by omega⟩⟩
    · have hr0 : r ≠ 0 := fun q => by rw [q, hM0] at kk; cases kk
      exact ⟨fun q => absurd q hr0, fun _ => ⟨by omega, fun _ => ⟨fun q => absurd q hr0, fun _ => ⟨hp, fun q => other v (Or.inr ⟨q, Or.inl rfl⟩) (by rw [kk]; intro c; cases c) (by rw [kk]; intro p q c; cases c), fun q => other _ (Or.inl ⟨q, rfl⟩) (by rw [kk]; intro c; cases c) (by rw [kk]; intro p q c; cases c)⟩⟩, fun q => by omega⟩⟩
    · have hr0 : r ≠ 0 := fun q => by rw [q, hM0] at kk; cases kk
      refine ⟨fun q => absurd q hr0, fun _ => ⟨by omega, fun q => absurd k4 q, fun _ => ST_b hn h hA ⟨[], by simp⟩ rfl hdy st1 (A' := some (kts v (v.2 5 r))) ⟨va, rfl⟩ (Nat.le_refl _) (fun r' u st2 hx2 hv2 hk2 => ?_)⟩⟩
      obtain ⟨u9, u10, u11, u12, u13, u14, u2, uK, ux⟩ := ST_same st2
      have hM : jus (jds s x) (jds s y) (hd x) (jin (hd (Term.add (Term.add (Term.index b) x) y)) A J) = ((jds s y (some (kts v (v.2 5 r))) jj.1).1, kts v (v.2 6 r)) := by
        unfold jus
        rw [hj]
        rw [hk1] at kk
        rw [kk]
      rw [hM, (hx2.2.2 r rl.2).2.2.1]
      exact MP_0 st2 hnd h.2.2.2.1 hKJ dn2 (by rw [len2]; simp; omega) (JX.rf uK) (by omega) (kext_vk hx2 vb) (kext_kt hx2 rK vb)
    · have hr0 : r ≠ 0 := fun q => by rw [q, hM0] at kk; cases kk
      exact ⟨fun q => absurd q hr0, fun _ => ⟨by omega, fun _ => ⟨fun q => absurd q hr0, fun _ => ⟨hp, fun q => other v (Or.inr ⟨q, Or.inl rfl⟩) (by rw [kk]; intro c; cases c) (by rw [kk]; intro p q c; cases c), fun q => other _ (Or.inl ⟨q, rfl⟩) (by rw [kk]; intro c; cases c) (by rw [kk]; intro p q c; cases c)⟩⟩, fun q => by omega⟩⟩
end
end
section
/-! DEF, PAIR, PICK; then every tree. -/
section
variable {iv : List (Int × Int)} {L : Nat} {h0 : MH} {n : Nat} {s : SM} {t : Term} {a : Int} {A : Option Term} {J : JT} {S : Int → Prop}
theorem jsp_def (hn : JSP iv L h0 n) (h : CTX n s t a A J S) (e : s.2 9 (hd t) = 8) : cm iv L h0 (3 * (n + 1) + 45) 88 [vr 307, vi (hd t), vi a] s (qi (POST s t A J S)) := by
  obtain ⟨hA, hf, hnd, htd, hDP⟩ := id h.2.1
  obtain ⟨hKJ, hBO, hJR, hSl⟩ := id h.2.2.1
  have hna : na t = 1 := by rw [hf, e]; rfl
  obtain ⟨b, x, rfl⟩ := AT_1 hA hna
  have hbm := hd_mem _ hA
  have hb := (AT_mem _ hA _ hbm).1
  have hdx : dpt x ≤ n := by have := h.1; have e : dpt (Term.add (Term.index b) x) = max 1 (dpt x + 1) := rfl; omega
  have htt := htd _ hbm (Or.inl e)
  have e' : s.2 9 (b : Int) = 8 := e
  have hbx : hd (Term.add (Term.index b) x) ∉ [] ++ fl x := fun q => (List.nodup_append.mp hnd).2.2 _ (List.mem_singleton.mpr rfl) _ q rfl
  have h5 := h.2.2.2.2
  rw [len1] at h5
  refine by_make (M := jdf (jds s x) b (kks s (s.2 11 b)) A (jin (hd (Term.add (Term.index b) x)) A J)) h ?_ (fun s0 st => ?_)
  · show jen (s.2 9 b) b A _ = _
    rw [if_pos e']
    rfl
  · obtain ⟨q9, q10, q11, q12, q13, q14, q2, qK, qx⟩ := ST_same st
    have hv : vks s (s.2 11 (hd (Term.add (Term.index b) x))) := Or.inl htt
    have hk0 : kks s (s.2 11 b) = kts s (s.2 11 (hd (Term.add (Term.index b) x))) := kks_told htt
    refine mk_5 hb (by rw [q9]; exact e) ?_
    rw [q14, (kid1 hA).1]
    have plain : ∀ (a' : Int) (A' : Option Term), aK s0 a' A' → jdf (jds s x) b (kks s (s.2 11 b)) A (jin (hd (Term.add (Term.index b) x)) A J) = ((jds s x A' (jin (hd (Term.add (Term.index b) x)) A J)).1, kmk 3 (kks s (s.2 11 b)) (jds s x A' (jin (hd (Term.add (Term.index b) x)) A J)).2) →
        cm iv L h0 (3 * n + 45) 88 [vr 307, vi (hd x), vi a'] s0 (qi fun r v => cm iv L h0 (3 * n + 45) 65 [vr 307, vi 3, vi (s0.2 11 (hd (Term.add (Term.index b) x))), vi r] v (qi fun r2 w => MPOST s (Term.add (Term.index b) x) A (jdf (jds s x) b (kks s (s.2 11 b)) A (jin (hd (Term.add (Term.index b) x)) A J)) S r2 w)) := fun a' A' ha' hM => by
      refine ST_a hn h hA ⟨[], by simp⟩ rfl hdx st ha' (Nat.le_refl _) (fun r v st1 hx1 hv1 hk1 => ?_)
      obtain ⟨r9, r10, r11, r12, r13, r14, r2, rK, rx⟩ := ST_same st1
      have rb := st1.2.2.2.2
      rw [List.nil_append] at rb
      rw [q11]
      refine wci_mono (makeKind_ok rK (Or.inl rfl) (kext_vk rx hv) hv1 (by omega)) (by omega) ?_
      rintro r2 w ⟨w1, w2, w3, w4, w5, w6⟩
      rw [hM]
      exact MP_0 st1 hnd h.2.2.2.1 hKJ dn1 (by rw [len1]; simp; omega) (JX.kx w1 w2 w3) (by omega) w5 (by rw [w6, kext_kt rx hKJ hv, ← hk0, hk1])
    refine B90 ⟨hb, fun ha1 => ?_, fun ha1 => ?_⟩
    · cases A with
      | none => exact ⟨fun _ => plain _ none rfl rfl, fun q => by omega⟩
      | some T =>
        exfalso
        have := h.2.2.2.1.1.lt hKJ.1.1.2 hKJ.2.1
        omega
    · cases A with
      | none => exact absurd h.2.2.2.1 ha1
      | some T =>
        obtain ⟨av, ak⟩ := id h.2.2.2.1
        have av0 := kext_vk qx av
        have al := av0.lt qK.1.1.2 qK.2.1
        have eT : kts s0 a = T := (kext_kt qx hKJ av).trans ak
        have hM0 := (k_const qK).1.2
        have h03 := st.2.2.2.2
        simp only [List.length_nil] at h03
        refine ⟨by omega, fun k3 => ?_, fun k3 => ?_⟩
        · rcases kt_cases qK av0 with ⟨k4, kr, kk⟩ | ⟨k4, kk⟩ | ⟨k4, kk⟩ | ⟨k4, kk, va, vb⟩ | ⟨k4, kk, va, vb⟩
          · rw [eT] at kk
            subst kk
            exact ⟨fun q => absurd kr q, fun _ => plain _ (some .null) (k_const qK).1 rfl⟩
          · have hr0 : a ≠ 0 := fun q => by rw [q, hM0] at kk; cases kk
            rw [eT] at kk
            subst kk
            exact ⟨fun _ => plain _ none rfl rfl, fun q => absurd q hr0⟩
          · have hr0 : a ≠ 0 := fun q => by rw [q, hM0] at kk; cases kk
            rw [eT] at kk
            subst kk
            exact ⟨fun _ => plain _ none rfl rfl, fun q => absurd q hr0⟩
          · exact absurd k4 k3
          · have hr0 : a ≠ 0 := fun q => by rw [q, hM0] at kk; cases kk
            rw [eT] at kk
            subst kk
            exact ⟨fun _ => plain _ none rfl rfl, fun q => absurd q hr0⟩
        · rcases kt_cases qK av0 with ⟨k4, kr, kk⟩ | ⟨k4, kk⟩ | ⟨k4, kk⟩ | ⟨k4, kk, va, vb⟩ | ⟨k4, kk, va, vb⟩
          · omega
          · omega
          · omega
          · refine ST_a hn h hA ⟨[], by simp⟩ rfl hdx st (A' := some (kts s0 (s0.2 6 a))) ⟨vb, rfl⟩ (Nat.le_refl _) (fun r v st1 hx1 hv1 hk1 => ?_)
            obtain ⟨r9, r10, r11, r12, r13, r14, r2, rK, rx⟩ := ST_same st1
            have rb := st1.2.2.2.2
            rw [List.nil_append] at rb
            rw [q11, (hx1.2.2 a al.2).2.1]
            have htv := kext_vk rx hv
            refine wci_mono (areMeeting_ok rK (by omega) 40 _ _ (rK.at htv).1.2 htv (kext_vk hx1 va)) (by omega) ?_
            rintro r22 w ⟨rfl, rfl⟩
            rw [kext_kt rx hKJ hv, kext_kt hx1 qK va, ← hk0]
            have mk : ∀ (z : Int), (0 ≤ z ∧ z ≤ 6) → jdf (jds s x) b (kks s (s.2 11 b)) (some T) (jin (hd (Term.add (Term.index b) x)) (some T) J) = (jsr (jds s x (some (kts s0 (s0.2 6 a))) (jin (hd (Term.add (Term.index b) x)) (some T) J)).1 (hd (Term.add (Term.index b) x)) z, kmk 3 (kks s (s.2 11 b)) (jds s x (some (kts s0 (s0.2 6 a))) (jin (hd (Term.add (Term.index b) x)) (some T) J)).2) →
                cm iv L h0 (3 * n + 45) 65 [vr 307, vi 3, vi (s.2 11 (hd (Term.add (Term.index b) x))), vi r] (ua w 21 (hd (Term.add (Term.index b) x)) z) (qi fun r2 u => MPOST s (Term.add (Term.index b) x) (some T) (jdf (jds s x) b (kks s (s.2 11 b)) (some T) (jin (hd (Term.add (Term.index b) x)) (some T) J)) S r2 u) := fun z hz hM => by
              have rK' : KJs (ua w 21 (hd (Term.add (Term.index b) x)) z) := rK
              refine wci_mono (makeKind_ok rK' (Or.inl rfl) htv hv1 (by show w.1 3 < 6000; omega)) (by omega) ?_
              rintro r2 u ⟨w1, w2, w3, w4, w5, w6⟩
              have w4 : u.1 3 ≤ w.1 3 + 1 := w4
              have w6 : kts u r2 = kmk 3 (kts w (s.2 11 (hd (Term.add (Term.index b) x)))) (kts w r) := w6
              rw [hM]
              exact MP_r st1 hnd h.2.2.2.1 hKJ hSl hbm hbx hz dn1 (by rw [len1]; simp; omega) (JX.kx w1 w2 w3) (by omega) w5 (by rw [w6, kext_kt rx hKJ hv, ← hk0, hk1])
            have hT : T = .add (kts s0 (s0.2 5 a)) (kts s0 (s0.2 6 a)) := eT.symm.trans kk
            cases hm : kmt (kks s (s.2 11 b)) (kts s0 (s0.2 5 a)) with
            | true =>
              refine ⟨fun q => absurd q (by decide), fun _ => mk 0 ⟨by omega, by omega⟩ ?_⟩
              rw [hT]
              unfold jdf
              simp only [hm]
              rfl
            | false =>
              refine ⟨fun _ => mk 4 ⟨by omega, by omega⟩ ?_, fun q => absurd rfl q⟩
              rw [hT]
              unfold jdf
              simp only [hm]
              rfl
          · omega
theorem jsp_pair (hn : JSP iv L h0 n) (h : CTX n s t a A J S) (e : s.2 9 (hd t) = 12) : cm iv L h0 (3 * (n + 1) + 45) 88 [vr 307, vi (hd t), vi a] s (qi (POST s t A J S)) := by
  obtain ⟨hA, hf, hnd, htd, hDP⟩ := id h.2.1
  obtain ⟨hKJ, hBO, hJR, hSl⟩ := id h.2.2.1
  have hna : na t = 2 := by rw [hf, e]; rfl
  obtain ⟨b, x, y, rfl⟩ := AT_2 hA hna
  have hbm := hd_mem _ hA
  have hb := (AT_mem _ hA _ hbm).1
  obtain ⟨hdx, hdy⟩ := dpt2 h.1
  have e' : s.2 9 (b : Int) = 12 := e
  have h5 := h.2.2.2.2
  rw [len2] at h5
  refine by_make (M := jpr (jds s x) (jds s y) A (jin (hd (Term.add (Term.add (Term.index b) x) y)) A J)) h ?_ (fun s0 st => ?_)
  · show jen (s.2 9 b) b A _ = _
    rw [if_neg (by omega), if_neg (by omega), if_pos e']
    rfl
  · obtain ⟨q9, q10, q11, q12, q13, q14, q2, qK, qx⟩ := ST_same st
    refine mk_9 hb (by rw [q9]; exact e) ?_
    rw [q14, (kid2 hA).1, (kid2 hA).2]
    have plain : ∀ (a1 : Int) (A1 : Option Term) (a2 : Int) (A2 : Option Term), aK s0 a1 A1 → aK s0 a2 A2 → jpr (jds s x) (jds s y) A (jin (hd (Term.add (Term.add (Term.index b) x) y)) A J) = ((jds s y A2 (jds s x A1 (jin (hd (Term.add (Term.add (Term.index b) x) y)) A J)).1).1, kmk 4 (jds s x A1 (jin (hd (Term.add (Term.add (Term.index b) x) y)) A J)).2 (jds s y A2 (jds s x A1 (jin (hd (Term.add (Term.add (Term.index b) x) y)) A J)).1).2) →
        cm iv L h0 (3 * n + 45) 88 [vr 307, vi (hd x), vi a1] s0 (qi fun r v => cm iv L h0 (3 * n + 45) 88 [vr 307, vi (hd y), vi a2] v (qi fun r' u => cm iv L h0 (3 * n + 45) 65 [vr 307, vi 4, vi r, vi r'] u (qi fun r2 w => MPOST s (Term.add (Term.add (Term.index b) x) y) A (jpr (jds s x) (jds s y) A (jin (hd (Term.add (Term.add (Term.index b) x) y)) A J)) S r2 w))) := fun a1 A1 a2 A2 ha1 ha2 hM => by
      refine ST_a hn h hA.1 ⟨_, rfl⟩ rfl hdx st ha1 (Nat.le_refl _) (fun r v st1 hx1 hv1 hk1 => ?_)
      obtain ⟨r9, r10, r11, r12, r13, r14, r2, rK, rx⟩ := ST_same st1
      refine ST_b hn h hA ⟨[], by simp⟩ rfl hdy st1 (aK_x hx1 qK ha2) (Nat.le_refl _) (fun r' u st2 hx2 hv2 hk2 => ?_)
      obtain ⟨u9, u10, u11, u12, u13, u14, u2, uK, ux⟩ := ST_same st2
      have rb := st2.2.2.2.2
      rw [List.nil_append, List.length_append] at rb
      refine wci_mono (makeKind_ok uK (Or.inr rfl) (kext_vk hx2 hv1) hv2 (by omega)) (by omega) ?_
      rintro r2 w ⟨w1, w2, w3, w4, w5, w6⟩
      rw [hM]
      exact MP_0 st2 hnd h.2.2.2.1 hKJ dn2 (by rw [len2]; simp; omega) (JX.kx w1 w2 w3) (by omega) w5 (by rw [w6, kext_kt hx2 rK hv1, hk1, hk2])
    refine B93 ⟨fun ha1 => ?_, fun ha1 => ?_⟩
    · cases A with
      | none => exact ⟨fun _ => ⟨fun _ => plain _ none _ none rfl rfl rfl, fun q => by omega⟩, fun q => by omega⟩
      | some T =>
        exfalso
        have := h.2.2.2.1.1.lt hKJ.1.1.2 hKJ.2.1
        omega
    · cases A with
      | none => exact absurd h.2.2.2.1 ha1
      | some T =>
        obtain ⟨av, ak⟩ := id h.2.2.2.1
        have av0 := kext_vk qx av
        have al := av0.lt qK.1.1.2 qK.2.1
        have eT : kts s0 a = T := (kext_kt qx hKJ av).trans ak
        have hM0 := (k_const qK).1.2
        have h03 := st.2.2.2.2
        simp only [List.length_nil] at h03
        refine ⟨by omega, fun k3 => ?_, fun k3 => ?_⟩
        · rcases kt_cases qK av0 with ⟨k4, kr, kk⟩ | ⟨k4, kk⟩ | ⟨k4, kk⟩ | ⟨k4, kk, va, vb⟩ | ⟨k4, kk, va, vb⟩
          · rw [eT] at kk
            subst kk
            exact ⟨fun q => absurd kr q, fun _ => ⟨fun q => absurd kr q, fun _ => plain _ (some .null) _ (some .null) (k_const qK).1 (k_const qK).1 rfl⟩⟩
          · have hr0 : a ≠ 0 := fun q => by rw [q, hM0] at kk; cases kk
            rw [eT] at kk
            subst kk
            exact ⟨fun _ => ⟨fun _ => plain _ none _ none rfl rfl rfl, fun q => absurd q hr0⟩, fun q => absurd q hr0⟩
          · have hr0 : a ≠ 0 := fun q => by rw [q, hM0] at kk; cases kk
            rw [eT] at kk
            subst kk
            exact ⟨fun _ => ⟨fun _ => plain _ none _ none rfl rfl rfl, fun q => absurd q hr0⟩, fun q => absurd q hr0⟩
          · have hr0 : a ≠ 0 := fun q => by rw [q, hM0] at kk; cases kk
            rw [eT] at kk
            subst kk
            exact ⟨fun _ => ⟨fun _ => plain _ none _ none rfl rfl rfl, fun q => absurd q hr0⟩, fun q => absurd q hr0⟩
          · exact absurd k4 k3
        · rcases kt_cases qK av0 with ⟨k4, kr, kk⟩ | ⟨k4, kk⟩ | ⟨k4, kk⟩ | ⟨k4, kk, va, vb⟩ | ⟨k4, kk, va, vb⟩
          · omega
          · omega
          · omega
          · omega
          · have hT : T = .mul (kts s0 (s0.2 5 a)) (kts s0 (s0.2 6 a)) := eT.symm.trans kk
            have key := plain (s0.2 5 a) (some (kts s0 (s0.2 5 a))) (s0.2 6 a) (some (kts s0 (s0.2 6 a))) ⟨va, rfl⟩ ⟨vb, rfl⟩ (by rw [hT]; rfl)
            exact key
theorem jsp_pick (hn : JSP iv L h0 n) (h : CTX n s t a A J S) (e : s.2 9 (hd t) = 11) : cm iv L h0 (3 * (n + 1) + 45) 88 [vr 307, vi (hd t), vi a] s (qi (POST s t A J S)) := by
  obtain ⟨hA, hf, hnd, htd, hDP⟩ := id h.2.1
  obtain ⟨hKJ, hBO, hJR, hSl⟩ := id h.2.2.1
  have hna : na t = 3 := by rw [hf, e]; rfl
  obtain ⟨b, x, y, z, rfl⟩ := AT_3 hA hna
  have hbm := hd_mem _ hA
  have hb := (AT_mem _ hA _ hbm).1
  obtain ⟨hdx, hdy, hdz⟩ := dpt3 h.1
  have e' : s.2 9 (b : Int) = 11 := e
  have h5 := h.2.2.2.2
  rw [len3] at h5
  have hbx : hd (Term.add (Term.add (Term.add (Term.index b) x) y) z) ∉ (([] ++ fl x) ++ fl y) ++ fl z := fun q => by
    have hnd1 : ((([(b : Int)] ++ fl x) ++ fl y) ++ fl z).Nodup := hnd
    have q : (b : Int) ∈ ((fl x ++ fl y) ++ fl z) := q
    rw [List.append_assoc, List.append_assoc] at hnd1
    rw [List.append_assoc] at q
    exact (List.nodup_append.mp hnd1).2.2 _ (List.mem_singleton.mpr rfl) _ q rfl
  refine by_make (M := jpk (jds s x) (jds s y) (jds s z) b A (jin (hd (Term.add (Term.add (Term.add (Term.index b) x) y) z)) A J)) h rfl (fun s0 st => ?_)
  obtain ⟨q9, q10, q11, q12, q13, q14, q2, qK, qx⟩ := ST_same st
  refine mk_8 hb (by rw [q9]; exact e) ?_
  rw [q14, (kid3 hA).1, (kid3 hA).2.1, (kid3 hA).2.2]
  refine B92 (ST_a hn h hA.1.1 ⟨fl y ++ fl z, List.append_assoc (fl (.add (.index b) x)) (fl y) (fl z)⟩ rfl hdx st (A' := some .thrown) (k_const qK).2.2 (Nat.le_refl _) (fun r v st1 hx1 hv1 hk1 => ?_))
  obtain ⟨r9, r10, r11, r12, r13, r14, r2, rK, rx⟩ := ST_same st1
  refine ST_b hn h hA.1 ⟨_, rfl⟩ rfl hdy st1 (A' := A) (aK_x rx hKJ h.2.2.2.1) (Nat.le_refl _) (fun r' u st2 hx2 hv2 hk2 => ?_)
  obtain ⟨u9, u10, u11, u12, u13, u14, u2, uK, ux⟩ := ST_same st2
  refine ST_c hn h hA ⟨[], by simp⟩ rfl hdz st2 (A' := A) (aK_x ux hKJ h.2.2.2.1) (Nat.le_refl _) (fun r'' w st3 hx3 hv3 hk3 => ?_)
  obtain ⟨w9, w10, w11, w12, w13, w14, w2, wK, wx⟩ := ST_same st3
  have rb := st3.2.2.2.2
  rw [List.nil_append, List.length_append, List.length_append] at rb
  have hv2' := kext_vk hx3 hv2
  have hk2' := (kext_kt hx3 uK hv2).trans hk2
  cases A with
  | none =>
    refine ⟨fun _ => ?_, fun q => absurd h.2.2.2.1 q⟩
    have s2 := (wK.at hv2').1.2
    refine wci_mono (areMeeting_ok wK (by omega) 40 _ _ s2 hv2' hv3) (by omega) ?_
    rintro r22 w' ⟨rfl, rfl⟩
    rw [hk2', hk3]
    cases hm : kmt (jds s y none (jds s x (some .thrown) (jin (hd (Term.add (Term.add (Term.add (Term.index b) x) y) z)) none J)).1).2 (jds s z none (jds s y none (jds s x (some .thrown) (jin (hd (Term.add (Term.add (Term.add (Term.index b) x) y) z)) none J)).1).1).2 with
    | true =>
      refine ⟨fun q => absurd q (by decide), fun _ => ?_⟩
      refine wci_mono (together_ok 40 _ _ _ wK s2 hv2' hv3 (by rw [hk2', hk3]; exact hm) (by omega)) (by omega) ?_
      rintro r2 m ⟨m1, m2, m3, m4, m5, m6⟩
      have hM : jpk (jds s x) (jds s y) (jds s z) b none (jin (hd (Term.add (Term.add (Term.add (Term.index b) x) y) z)) none J) = (_, _) := if_pos hm
      rw [hM]
      exact MP_0 st3 hnd h.2.2.2.1 hKJ dn3 (by rw [len3]; simp; omega) (JX.kx m1 m2 m3) (by omega) m5 (by rw [m6, hk2', hk3])
    | false =>
      refine ⟨fun _ => ⟨hb, ?_⟩, fun q => absurd rfl q⟩
      have hM : jpk (jds s x) (jds s y) (jds s z) b none (jin (hd (Term.add (Term.add (Term.add (Term.index b) x) y) z)) none J) = (jsr _ (hd (Term.add (Term.add (Term.add (Term.index b) x) y) z)) 5, .null) := if_neg (by rw [hm]; decide)
      rw [hM]
      have wK' : KJs (ua w' 21 (hd (Term.add (Term.add (Term.add (Term.index b) x) y) z)) 5) := wK
      exact MP_r st3 hnd h.2.2.2.1 hKJ hSl hbm hbx ⟨by omega, by omega⟩ dn3 (by rw [len3]; simp; omega) (JX.rf wK') (by show w'.1 3 ≤ w'.1 3 + 41; omega) (k_const wK').1.1 (k_const wK').1.2
  | some T =>
    obtain ⟨av, ak⟩ := id h.2.2.2.1
    have al := av.lt hKJ.1.1.2 hKJ.2.1
    refine ⟨fun q => by omega, fun _ => ?_⟩
    exact MP_0 st3 hnd h.2.2.2.1 hKJ dn3 (by rw [len3]; simp; omega) (JX.rf wK) (by omega) (kext_vk wx av) (by rw [kext_kt wx hKJ av]; exact ak)
/-- every tree -/
theorem jsp_all : ∀ n, JSP iv L h0 n := by
  intro n
  induction n with
  | zero => intro t s a A J S h; have := dpt_pos t; omega
  | succ n ih =>
    intro t s a A J S h1 h2 h3 h4 h5
    have hc : CTX n s t a A J S := ⟨h1, h2, h3, h4, h5⟩
    have hm := (AT_mem t h2.1 _ (hd_mem t h2.1)).2.1
    rcases (show s.2 9 (hd t) = 0 ∨ s.2 9 (hd t) = 1 ∨ s.2 9 (hd t) = 2 ∨ s.2 9 (hd t) = 3 ∨ s.2 9 (hd t) = 4 ∨ s.2 9 (hd t) = 5 ∨ s.2 9 (hd t) = 6 ∨ s.2 9 (hd t) = 7 ∨ s.2 9 (hd t) = 8 ∨ s.2 9 (hd t) = 9 ∨ s.2 9 (hd t) = 10 ∨ s.2 9 (hd t) = 11 ∨ s.2 9 (hd t) = 12 ∨ s.2 9 (hd t) = 13 ∨ s.2 9 (hd t) = 14 ∨ s.2 9 (hd t) = 15 by omega) with e | e | e | e | e | e | e | e | e | e | e | e | e | e | e | e
    · exact jsp_leaf hc (by omega)
    · exact jsp_leaf hc (by omega)
    · exact jsp_leaf hc (by omega)
    · exact jsp_name hc e
    · exact jsp_reck ih hc (by omega)
    · exact jsp_reck ih hc (by omega)
    · exact jsp_reck ih hc (by omega)
    · exact jsp_reck ih hc (by omega)
    · exact jsp_def ih hc e
    · exact jsp_use ih hc e
    · exact jsp_let ih hc e
    · exact jsp_pick ih hc e
    · exact jsp_pair ih hc e
    · exact jsp_half ih hc (by omega)
    · exact jsp_half ih hc (by omega)
    · exact jsp_told ih hc e
end
end

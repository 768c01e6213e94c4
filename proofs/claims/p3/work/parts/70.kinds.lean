/-! Kinds: what rows of kinds hold, trees of kinds, the reference's methods on them. -/
/-- all numbers but some, all rows but some, are as they were -/
def eqx (ys fs : List Nat) (s t : SM) : Prop := (∀ y, y ∉ ys → t.1 y = s.1 y) ∧ ∀ f, f ∉ fs → t.2 f = s.2 f
theorem eqx.rf {ys fs : List Nat} {s : SM} : eqx ys fs s s := ⟨fun _ _ => rfl, fun _ _ => rfl⟩
theorem eqx.tr {ys fs : List Nat} {s t u : SM} (h1 : eqx ys fs s t) (h2 : eqx ys fs t u) : eqx ys fs s u := ⟨fun y h => (h2.1 y h).trans (h1.1 y h), fun f h => (h2.2 f h).trans (h1.2 f h)⟩
theorem eqx.up {ys fs ys' fs' : List Nat} {s t : SM} (h : eqx ys fs s t) (h1 : ∀ y, y ∈ ys → y ∈ ys') (h2 : ∀ f, f ∈ fs → f ∈ fs') : eqx ys' fs' s t := ⟨fun y q => h.1 y (fun e => q (h1 y e)), fun f q => h.2 f (fun e => q (h2 f e))⟩
theorem eqx_us {ys fs : List Nat} {s t : SM} {y : Nat} {z : Int} (h : eqx ys fs s t) (hy : y ∈ ys) : eqx ys fs s (us t y z) := ⟨fun k hk => by show (if k = y then z else t.1 k) = s.1 k; rw [if_neg (show ¬ k = y from fun e => hk (by rw [e]; exact hy))]; exact h.1 k hk, h.2⟩
theorem eqx_ua {ys fs : List Nat} {s t : SM} {f : Nat} {i z : Int} (h : eqx ys fs s t) (hf : f ∈ fs) : eqx ys fs s (ua t f i z) := ⟨h.1, fun k hk => by rw [← h.2 k hk]; funext j; show (if k = f ∧ j = i then z else t.2 k j) = t.2 k j; rw [if_neg (show ¬ (k = f ∧ j = i) from fun e => hk (by rw [e.1]; exact hf))]⟩
theorem us_1 (s : SM) (y : Nat) (z : Int) (k : Nat) : (us s y z).1 k = if k = y then z else s.1 k := rfl
theorem us_2 (s : SM) (y : Nat) (z : Int) : (us s y z).2 = s.2 := rfl
theorem ua_1 (s : SM) (f : Nat) (i z : Int) : (ua s f i z).1 = s.1 := rfl
theorem ua_2 (s : SM) (f : Nat) (i z : Int) (k : Nat) (j : Int) : (ua s f i z).2 k j = if k = f ∧ j = i then z else s.2 k j := rfl
/-- the kinds that were told: how many, what they are, their parts, their sizes -/
def KI (n : Int) (ks ka kb sz : Int → Int) : Prop := (3 ≤ n ∧ n ≤ 40) ∧ (∀ k, 0 ≤ k → k < 3 → ks k = k ∧ ka k = -9 ∧ kb k = -9 ∧ sz k = 1) ∧ ∀ k, 3 ≤ k → k < n → (ks k = 3 ∨ ks k = 4) ∧ (0 ≤ ka k ∧ ka k < k) ∧ (0 ≤ kb k ∧ kb k < k) ∧ sz k = 1 + sz (ka k) + sz (kb k) ∧ sz k ≤ 40
def vk (n m k : Int) : Prop := (0 ≤ k ∧ k < n) ∨ (40 ≤ k ∧ k < m)
/-- and those that one judging made, from 40 on -/
def KJ (n m : Int) (ks ka kb sz : Int → Int) : Prop := KI n ks ka kb sz ∧ 40 ≤ m ∧ ∀ k, 40 ≤ k → k < m → (ks k = 3 ∨ ks k = 4) ∧ vk n k (ka k) ∧ vk n k (kb k) ∧ sz k = 1 + sz (ka k) + sz (kb k) ∧ sz k ≤ 40
theorem vk.up {n m m' k : Int} (h : vk n m k) (hm : m ≤ m') : vk n m' k := by unfold vk at h ⊢; omega
theorem vk.lt {n m k : Int} (h : vk n m k) (hn : n ≤ 40) (hm : 40 ≤ m) : 0 ≤ k ∧ k < m := by unfold vk at h; omega
/-- all that is known of one kind -/
theorem KJ.at {n m : Int} {ks ka kb sz : Int → Int} (h : KJ n m ks ka kb sz) {k : Int} (hk : vk n m k) : (1 ≤ sz k ∧ sz k ≤ 40) ∧ (0 ≤ ks k ∧ ks k ≤ 4) ∧ (ks k < 3 → ks k = k ∧ sz k = 1) ∧ (3 ≤ ks k → 3 ≤ k ∧ vk n k (ka k) ∧ vk n k (kb k) ∧ sz k = 1 + sz (ka k) + sz (kb k) ∧ 1 ≤ sz (ka k) ∧ 1 ≤ sz (kb k)) := by
  obtain ⟨⟨h1, h2, h3⟩, h4, h5⟩ := h
  have key : ∀ (q : Nat) (k : Int), k.toNat ≤ q → vk n m k → 1 ≤ sz k ∧ sz k ≤ 40 := by
    intro q
    induction q with
    | zero =>
      intro k hq hk
      have : k = 0 := by unfold vk at hk; omega
      subst this
      have := (h2 0 (by omega) (by omega)).2.2.2
      omega
    | succ q ih =>
      intro k hq hk
      rcases hk with hk | hk
      · by_cases h6 : k < 3
        · have := (h2 k hk.1 h6).2.2.2
          omega
        · obtain ⟨-, ⟨a1, a2⟩, ⟨b1, b2⟩, e1, e2⟩ := h3 k (by omega) hk.2
          have i1 := ih (ka k) (by omega) (Or.inl ⟨a1, by omega⟩)
          have i2 := ih (kb k) (by omega) (Or.inl ⟨b1, by omega⟩)
          omega
      · obtain ⟨-, a1, b1, e1, e2⟩ := h5 k hk.1 hk.2
        have i1 := ih (ka k) (by unfold vk at a1; omega) (a1.up (by omega))
        have i2 := ih (kb k) (by unfold vk at b1; omega) (b1.up (by omega))
        omega
  have hs := key k.toNat k (Nat.le_refl _) hk
  refine ⟨hs, ?_⟩
  rcases hk with hk | hk
  · by_cases h6 : k < 3
    · obtain ⟨e1, -, -, e2⟩ := h2 k hk.1 h6
      rw [e1, e2]
      exact ⟨by omega, fun _ => ⟨rfl, rfl⟩, fun h => by omega⟩
    · obtain ⟨e0, ⟨a1, a2⟩, ⟨b1, b2⟩, e1, e2⟩ := h3 k (by omega) hk.2
      have i1 := key _ (ka k) (Nat.le_refl _) (Or.inl ⟨a1, by omega⟩)
      have i2 := key _ (kb k) (Nat.le_refl _) (Or.inl ⟨b1, by omega⟩)
      exact ⟨by omega, fun h => by omega, fun _ => ⟨by omega, Or.inl ⟨a1, by omega⟩, Or.inl ⟨b1, by omega⟩, e1, by omega, by omega⟩⟩
  · obtain ⟨e0, a1, b1, e1, e2⟩ := h5 k hk.1 hk.2
    have i1 := key _ (ka k) (Nat.le_refl _) (a1.up (by omega))
    have i2 := key _ (kb k) (Nat.le_refl _) (b1.up (by omega))
    exact ⟨by omega, fun h => by omega, fun _ => ⟨by omega, a1, b1, e1, by omega, by omega⟩⟩
/-- trees of kinds: UNKNOWN null, WHOLE result, TRUTH thrown, FROM TO add, PAIR OF mul -/
def kd (ks ka kb : Int → Int) : Nat → Int → Term
  | 0, _ => .null
  | n + 1, k => if ks k = 0 then .null else if ks k = 1 then .result else if ks k = 2 then .thrown else if ks k = 3 then .add (kd ks ka kb n (ka k)) (kd ks ka kb n (kb k)) else .mul (kd ks ka kb n (ka k)) (kd ks ka kb n (kb k))
theorem kd_s (ks ka kb : Int → Int) (n : Nat) (k : Int) : kd ks ka kb (n + 1) k = if ks k = 0 then .null else if ks k = 1 then .result else if ks k = 2 then .thrown else if ks k = 3 then .add (kd ks ka kb n (ka k)) (kd ks ka kb n (kb k)) else .mul (kd ks ka kb n (ka k)) (kd ks ka kb n (kb k)) := rfl
def ksz : Term → Int
  | .add a b => 1 + ksz a + ksz b
  | .mul a b => 1 + ksz a + ksz b
  | _ => 1
def kmt : Term → Term → Bool
  | .null, _ => true
  | _, .null => true
  | .result, .result => true
  | .thrown, .thrown => true
  | .add a b, .add c d => kmt a c && kmt b d
  | .mul a b, .mul c d => kmt a c && kmt b d
  | _, _ => false
def kmk (k : Int) (a b : Term) : Term := if 40 < 1 + ksz a + ksz b then .null else if k = 3 then .add a b else .mul a b
def ktg : Term → Term → Term
  | .null, y => y
  | .add a b, y => match y with
    | .null => .add a b
    | .add c d => kmk 3 (ktg a c) (ktg b d)
    | .mul c d => kmk 3 (ktg a c) (ktg b d)
    | _ => .add a b
  | .mul a b, y => match y with
    | .null => .mul a b
    | .mul c d => kmk 4 (ktg a c) (ktg b d)
    | .add c d => kmk 4 (ktg a c) (ktg b d)
    | _ => .mul a b
  | x, _ => x
/-- enough fuel is enough -/
theorem kd_f {n m : Int} {ks ka kb sz : Int → Int} (h : KJ n m ks ka kb sz) : ∀ (q p : Nat) (k : Int), vk n m k → sz k ≤ q → sz k ≤ p → kd ks ka kb q k = kd ks ka kb p k := by
  intro q
  induction q with
  | zero => intro p k hk h1 h2; have := (h.at hk).1; omega
  | succ q ih =>
    intro p k hk h1 h2
    have ha := h.at hk
    obtain ⟨p, rfl⟩ : ∃ p', p = p' + 1 := ⟨p - 1, by omega⟩
    rw [kd_s, kd_s]
    by_cases h3 : ks k < 3
    · by_cases e0 : ks k = 0
      · rw [if_pos e0, if_pos e0]
      · by_cases e1 : ks k = 1
        · rw [if_neg e0, if_neg e0, if_pos e1, if_pos e1]
        · rw [if_neg e0, if_neg e0, if_neg e1, if_neg e1, if_pos (by omega), if_pos (by omega)]
    · obtain ⟨k3, va, vb, e, sa, sb⟩ := ha.2.2.2 (by omega)
      have hm := h.2.1
      have hn := h.1.1
      rw [ih p (ka k) (va.up (by unfold vk at hk; omega)) (by omega) (by omega), ih p (kb k) (vb.up (by unfold vk at hk; omega)) (by omega) (by omega)]
def kt (ks ka kb : Int → Int) (k : Int) : Term := kd ks ka kb 40 k
theorem kt_leaf {n m : Int} {ks ka kb sz : Int → Int} (_ : KJ n m ks ka kb sz) {k : Int} : (ks k = 0 → kt ks ka kb k = .null) ∧ (ks k = 1 → kt ks ka kb k = .result) ∧ (ks k = 2 → kt ks ka kb k = .thrown) := by
  have h1 : kt ks ka kb k = kd ks ka kb (39 + 1) k := rfl
  rw [h1, kd_s]
  exact ⟨fun e => by rw [if_pos e], fun e => by rw [if_neg (by omega), if_pos e], fun e => by rw [if_neg (by omega), if_neg (by omega), if_pos e]⟩
theorem kt_node {n m : Int} {ks ka kb sz : Int → Int} (h : KJ n m ks ka kb sz) {k : Int} (hk : vk n m k) : (ks k = 3 → kt ks ka kb k = .add (kt ks ka kb (ka k)) (kt ks ka kb (kb k))) ∧ (ks k = 4 → kt ks ka kb k = .mul (kt ks ka kb (ka k)) (kt ks ka kb (kb k))) := by
  have ha := h.at hk
  have hm := h.2.1
  have hn := h.1.1
  have step : 3 ≤ ks k → kd ks ka kb 39 (ka k) = kt ks ka kb (ka k) ∧ kd ks ka kb 39 (kb k) = kt ks ka kb (kb k) := fun h3 => by
    obtain ⟨k3, va, vb, e, sa, sb⟩ := ha.2.2.2 h3
    exact ⟨kd_f h 39 40 _ (va.up (by unfold vk at hk; omega)) (by omega) (by omega), kd_f h 39 40 _ (vb.up (by unfold vk at hk; omega)) (by omega) (by omega)⟩
  constructor
  · intro e
    obtain ⟨e1, e2⟩ := step (by omega)
    rw [← e1, ← e2]
    show kd ks ka kb (39 + 1) k = _
    rw [kd_s, if_neg (by omega), if_neg (by omega), if_neg (by omega), if_pos e]
  · intro e
    obtain ⟨e1, e2⟩ := step (by omega)
    rw [← e1, ← e2]
    show kd ks ka kb (39 + 1) k = _
    rw [kd_s, if_neg (by omega), if_neg (by omega), if_neg (by omega), if_neg (by omega)]
theorem kt_size {n m : Int} {ks ka kb sz : Int → Int} (h : KJ n m ks ka kb sz) : ∀ (q : Nat) (k : Int), sz k ≤ q → vk n m k → ksz (kt ks ka kb k) = sz k := by
  intro q
  induction q with
  | zero => intro k h1 hk; have := (h.at hk).1; omega
  | succ q ih =>
    intro k h1 hk
    have ha := h.at hk
    have hm := h.2.1
    have hn := h.1.1
    by_cases h3 : ks k < 3
    · have e := ha.2.2.1 h3
      have hl := kt_leaf h (k := k)
      rcases (show ks k = 0 ∨ ks k = 1 ∨ ks k = 2 by omega) with e0 | e0 | e0
      · rw [hl.1 e0, e.2]; rfl
      · rw [hl.2.1 e0, e.2]; rfl
      · rw [hl.2.2 e0, e.2]; rfl
    · obtain ⟨k3, va, vb, e, sa, sb⟩ := ha.2.2.2 (by omega)
      have i1 := ih (ka k) (by omega) (va.up (by unfold vk at hk; omega))
      have i2 := ih (kb k) (by omega) (vb.up (by unfold vk at hk; omega))
      have hl := kt_node h hk
      rcases (show ks k = 3 ∨ ks k = 4 by omega) with e0 | e0
      · rw [hl.1 e0, e, ← i1, ← i2]; rfl
      · rw [hl.2 e0, e, ← i1, ← i2]; rfl
theorem kt_sz {n m : Int} {ks ka kb sz : Int → Int} (h : KJ n m ks ka kb sz) {k : Int} (hk : vk n m k) : ksz (kt ks ka kb k) = sz k := kt_size h (sz k).toNat k (by omega) hk
/-- rows that grow -/
def kext (s t : SM) : Prop := s.1 2 = t.1 2 ∧ s.1 3 ≤ t.1 3 ∧ ∀ k, k < s.1 3 → t.2 4 k = s.2 4 k ∧ t.2 5 k = s.2 5 k ∧ t.2 6 k = s.2 6 k ∧ t.2 7 k = s.2 7 k
theorem kext.rf {s : SM} : kext s s := ⟨rfl, Int.le_refl _, fun _ _ => ⟨rfl, rfl, rfl, rfl⟩⟩
theorem kext.tr {s t u : SM} (h1 : kext s t) (h2 : kext t u) : kext s u := ⟨h1.1.trans h2.1, Int.le_trans h1.2.1 h2.2.1, fun k hk => by
  obtain ⟨a1, a2, a3, a4⟩ := h1.2.2 k hk
  obtain ⟨b1, b2, b3, b4⟩ := h2.2.2 k (Int.lt_of_lt_of_le hk h1.2.1)
  exact ⟨b1.trans a1, b2.trans a2, b3.trans a3, b4.trans a4⟩⟩
abbrev KJs (s : SM) : Prop := KJ (s.1 2) (s.1 3) (s.2 4) (s.2 5) (s.2 6) (s.2 7)
abbrev vks (s : SM) (k : Int) : Prop := vk (s.1 2) (s.1 3) k
abbrev kts (s : SM) (k : Int) : Term := kt (s.2 4) (s.2 5) (s.2 6) k
theorem kext_vk {s t : SM} (h : kext s t) {k : Int} (hk : vks s k) : vks t k := by
  have := h.1
  have := h.2.1
  unfold vks at hk ⊢
  unfold vk at hk ⊢
  omega
theorem kext_kt {s t : SM} (h : kext s t) (hs : KJs s) {k : Int} (hk : vks s k) : kts t k = kts s k := by
  have key : ∀ (q : Nat) (k : Int), vks s k → kd (t.2 4) (t.2 5) (t.2 6) q k = kd (s.2 4) (s.2 5) (s.2 6) q k := by
    intro q
    induction q with
    | zero => intro k _; rfl
    | succ q ih =>
      intro k hk
      obtain ⟨e1, e2, e3, -⟩ := h.2.2 k (hk.lt hs.1.1.2 hs.2.1).2
      rw [kd_s, kd_s, e1, e2, e3]
      by_cases h3 : s.2 4 k < 3
      · by_cases e0 : s.2 4 k = 0
        · rw [if_pos e0, if_pos e0]
        · by_cases e1 : s.2 4 k = 1
          · rw [if_neg e0, if_neg e0, if_pos e1, if_pos e1]
          · have := (hs.at hk).2.1
            rw [if_neg e0, if_neg e0, if_neg e1, if_neg e1, if_pos (by omega), if_pos (by omega)]
      · obtain ⟨k3, va, vb, -⟩ := (hs.at hk).2.2.2 (by omega)
        have hm := hs.2.1
        have hn := hs.1.1
        have hkl := hk.lt hn.2 hm
        rw [ih _ (va.up (by omega)), ih _ (vb.up (by omega))]
  exact key 40 k hk
section
variable {iv : List (Int × Int)} {L : Nat} {h0 : MH}
theorem thereKind_ok {s : SM} {d : Nat} {i a b : Int} (hm : s.1 3 ≤ 6000) (hn : s.1 2 ≤ 40) : cm iv L h0 d 64 [vr 307, vi i, vi a, vi b] s (qi fun r t => t = s ∧ (r = -9 ∨ (vks s r ∧ s.2 4 r = i ∧ s.2 5 r = a ∧ s.2 6 r = b))) := by
  have key : ∀ (q : Nat) (k : Int), (s.1 3 - k).toNat ≤ q → 0 ≤ k → wm iv L h0 d 64 3 [lr 307, li i, li a, li b, li k] [] s (qi fun r t => t = s ∧ (r = -9 ∨ (vks s r ∧ s.2 4 r = i ∧ s.2 5 r = a ∧ s.2 6 r = b))) := by
    intro q
    induction q with
    | zero => intro k h1 h2; exact B64_3 ⟨fun _ => ⟨rfl, Or.inl rfl⟩, fun h => absurd h (by omega)⟩
    | succ q ih =>
      intro k h1 h2
      have nx : k < s.1 3 → wm iv L h0 d 64 3 [lr 307, li i, li a, li b, li (k + 1)] [] s (qi fun r t => t = s ∧ (r = -9 ∨ (vks s r ∧ s.2 4 r = i ∧ s.2 5 r = a ∧ s.2 6 r = b))) := fun h => ih (k + 1) (by omega) (by omega)
      exact B64_3 ⟨fun _ => ⟨rfl, Or.inl rfl⟩, fun h => ⟨fun h3 => ⟨by omega, fun _ => ⟨by omega, nx h⟩, fun e1 => ⟨fun _ => ⟨by omega, nx h⟩, fun e2 => ⟨fun _ => ⟨by omega, nx h⟩, fun e3 => ⟨rfl, Or.inr ⟨Or.inl ⟨by omega, by omega⟩, e1, e2, e3⟩⟩⟩⟩⟩,
        fun h3 => ⟨fun _ => ⟨by omega, nx h⟩, fun h4 => ⟨by omega, fun _ => ⟨by omega, nx h⟩, fun e1 => ⟨fun _ => ⟨by omega, nx h⟩, fun e2 => ⟨fun _ => ⟨by omega, nx h⟩, fun e3 => ⟨rfl, Or.inr ⟨Or.inr ⟨by omega, by omega⟩, e1, e2, e3⟩⟩⟩⟩⟩⟩⟩⟩
  exact B64 (key _ 0 (Nat.le_refl _) (by omega))
/-- a row more -/
theorem kj_push {s : SM} {i a b : Int} (hs : KJs s) (hi : i = 3 ∨ i = 4) (ha : vks s a) (hb : vks s b) (hz : 1 + s.2 7 a + s.2 7 b ≤ 40) : KJs (us (ua (ua (ua (ua s 4 (s.1 3) i) 5 (s.1 3) a) 6 (s.1 3) b) 7 (s.1 3) (1 + s.2 7 a + s.2 7 b)) 3 (s.1 3 + 1)) ∧ kext s (us (ua (ua (ua (ua s 4 (s.1 3) i) 5 (s.1 3) a) 6 (s.1 3) b) 7 (s.1 3) (1 + s.2 7 a + s.2 7 b)) 3 (s.1 3 + 1)) ∧ kts (us (ua (ua (ua (ua s 4 (s.1 3) i) 5 (s.1 3) a) 6 (s.1 3) b) 7 (s.1 3) (1 + s.2 7 a + s.2 7 b)) 3 (s.1 3 + 1)) (s.1 3) = kmk i (kts s a) (kts s b) := by
  have hm := hs.2.1
  have hn := hs.1.1
  generalize ht : us (ua (ua (ua (ua s 4 (s.1 3) i) 5 (s.1 3) a) 6 (s.1 3) b) 7 (s.1 3) (1 + s.2 7 a + s.2 7 b)) 3 (s.1 3 + 1) = t
  have t2 : t.1 2 = s.1 2 := by rw [← ht]; rfl
  have t3 : t.1 3 = s.1 3 + 1 := by rw [← ht]; rfl
  have r4 : ∀ k, t.2 4 k = if k = s.1 3 then i else s.2 4 k := fun k => by rw [← ht]; simp [us_2, ua_2]
  have r5 : ∀ k, t.2 5 k = if k = s.1 3 then a else s.2 5 k := fun k => by rw [← ht]; simp [us_2, ua_2]
  have r6 : ∀ k, t.2 6 k = if k = s.1 3 then b else s.2 6 k := fun k => by rw [← ht]; simp [us_2, ua_2]
  have r7 : ∀ k, t.2 7 k = if k = s.1 3 then 1 + s.2 7 a + s.2 7 b else s.2 7 k := fun k => by rw [← ht]; simp [us_2, ua_2]
  have hx : kext s t := ⟨t2.symm, by omega, fun k hk => by rw [r4, r5, r6, r7, if_neg (by omega), if_neg (by omega), if_neg (by omega), if_neg (by omega)]; exact ⟨rfl, rfl, rfl, rfl⟩⟩
  have la := (ha.lt hn.2 hm).2
  have lb := (hb.lt hn.2 hm).2
  have hKJ : KJs t := by
    refine ⟨⟨by omega, fun k k0 k3 => ?_, fun k k3 kn => ?_⟩, by omega, fun k k40 km => ?_⟩
    · obtain ⟨e1, e2, e3, e4⟩ := hx.2.2 k (by omega)
      rw [e1, e2, e3, e4]
      exact hs.1.2.1 k k0 k3
    · obtain ⟨e1, e2, e3, e4⟩ := hx.2.2 k (by omega)
      obtain ⟨f1, f2, f3, f4, f5⟩ := hs.1.2.2 k k3 (by omega)
      rw [e1, e2, e3, e4, (hx.2.2 (s.2 5 k) (by omega)).2.2.2, (hx.2.2 (s.2 6 k) (by omega)).2.2.2]
      exact ⟨f1, f2, f3, f4, f5⟩
    · by_cases e : k = s.1 3
      · subst e
        rw [r4, r5, r6, r7, if_pos rfl, if_pos rfl, if_pos rfl, if_pos rfl, (hx.2.2 a la).2.2.2, (hx.2.2 b lb).2.2.2, t2]
        exact ⟨hi, ha, hb, rfl, hz⟩
      · obtain ⟨e1, e2, e3, e4⟩ := hx.2.2 k (by omega)
        obtain ⟨f1, f2, f3, f4, f5⟩ := hs.2.2 k k40 (by omega)
        have l1 := (f2.lt hn.2 (by omega)).2
        have l2 := (f3.lt hn.2 (by omega)).2
        rw [e1, e2, e3, e4, (hx.2.2 (s.2 5 k) (by omega)).2.2.2, (hx.2.2 (s.2 6 k) (by omega)).2.2.2, t2]
        exact ⟨f1, f2, f3, f4, f5⟩
  refine ⟨hKJ, hx, ?_⟩
  have hv : vks t (s.1 3) := Or.inr ⟨hm, by omega⟩
  have hnd : (t.2 4 (s.1 3) = 3 → kts t (s.1 3) = .add (kts t (t.2 5 (s.1 3))) (kts t (t.2 6 (s.1 3)))) ∧ (t.2 4 (s.1 3) = 4 → kts t (s.1 3) = .mul (kts t (t.2 5 (s.1 3))) (kts t (t.2 6 (s.1 3)))) := kt_node hKJ hv
  have q4 : t.2 4 (s.1 3) = i := by rw [r4, if_pos rfl]
  have q5 : t.2 5 (s.1 3) = a := by rw [r5, if_pos rfl]
  have q6 : t.2 6 (s.1 3) = b := by rw [r6, if_pos rfl]
  rw [q4, q5, q6, kext_kt hx hs ha, kext_kt hx hs hb] at hnd
  have za : ksz (kts s a) = s.2 7 a := kt_sz hs ha
  have zb : ksz (kts s b) = s.2 7 b := kt_sz hs hb
  unfold kmk
  rw [za, zb, if_neg (by omega)]
  rcases hi with rfl | rfl
  · rw [if_pos rfl]
    exact hnd.1 rfl
  · rw [if_neg (by decide)]
    exact hnd.2 rfl
theorem makeKind_ok {s : SM} {i a b : Int} (hs : KJs s) (hi : i = 3 ∨ i = 4) (ha : vks s a) (hb : vks s b) (hm : s.1 3 < 6000) : cm iv L h0 1 65 [vr 307, vi i, vi a, vi b] s (qi fun r t => eqx [3] [4, 5, 6, 7] s t ∧ KJs t ∧ kext s t ∧ t.1 3 ≤ s.1 3 + 1 ∧ vks t r ∧ kts t r = kmk i (kts s a) (kts s b)) := by
  have hm0 := hs.2.1
  have hn := hs.1.1
  have za := (hs.at ha).1
  have zb := (hs.at hb).1
  have la := ha.lt hn.2 hm0
  have lb := hb.lt hn.2 hm0
  have za' : ksz (kts s a) = s.2 7 a := kt_sz hs ha
  have zb' : ksz (kts s b) = s.2 7 b := kt_sz hs hb
  refine B65 ⟨by omega, by omega, by omega, by omega, fun h => wci_mono (thereKind_ok (by omega) hn.2) (Nat.le_refl _) ?_, fun h => ⟨eqx.rf, hs, kext.rf, by omega, Or.inl ⟨by omega, by omega⟩, ?_⟩⟩
  · rintro r t ⟨rfl, hr⟩
    refine ⟨fun e => ?_, fun e => B66 ⟨by omega, ⟨by show -2147483648 ≤ t.1 3 + 1 ∧ t.1 3 + 1 ≤ 2147483647; omega, ?_⟩⟩⟩
    · obtain ⟨h1, h2, h3, h4⟩ := hr.resolve_left e
      refine ⟨eqx.rf, hs, kext.rf, by omega, h1, ?_⟩
      have hnd : (t.2 4 r = 3 → kts t r = .add (kts t (t.2 5 r)) (kts t (t.2 6 r))) ∧ (t.2 4 r = 4 → kts t r = .mul (kts t (t.2 5 r)) (kts t (t.2 6 r))) := kt_node hs h1
      rw [h2, h3, h4] at hnd
      unfold kmk
      rw [za', zb', if_neg (by omega)]
      rcases hi with rfl | rfl
      · rw [if_pos rfl]
        exact hnd.1 rfl
      · rw [if_neg (by decide)]
        exact hnd.2 rfl
    · obtain ⟨p1, p2, p3⟩ := kj_push hs hi ha hb (by omega)
      refine ⟨eqx_us (eqx_ua (eqx_ua (eqx_ua (eqx_ua eqx.rf (by decide)) (by decide)) (by decide)) (by decide)) (by decide), p1, p2, ?_, Or.inr ⟨hm0, ?_⟩, p3⟩
      · show t.1 3 + 1 ≤ t.1 3 + 1
        omega
      · show t.1 3 < t.1 3 + 1
        omega
  · unfold kmk
    rw [za', zb', if_pos (by omega)]
    exact (kt_leaf hs).1 (hs.1.2.1 0 (by omega) (by omega)).1
theorem areMeeting_ok {s : SM} (hs : KJs s) (hm6 : s.1 3 ≤ 6000) : ∀ (q : Nat) (a b : Int), s.2 7 a ≤ q → vks s a → vks s b → cm iv L h0 q 70 [vr 307, vi a, vi b] s (qi fun r t => t = s ∧ r = if kmt (kts s a) (kts s b) then 1 else 0) := by
  have hm0 := hs.2.1
  have hn := hs.1.1
  have leaf : ∀ k, (s.2 4 k = 0 → kts s k = .null) ∧ (s.2 4 k = 1 → kts s k = .result) ∧ (s.2 4 k = 2 → kts s k = .thrown) := fun k => kt_leaf hs
  have node : ∀ k, vks s k → (s.2 4 k = 3 → kts s k = .add (kts s (s.2 5 k)) (kts s (s.2 6 k))) ∧ (s.2 4 k = 4 → kts s k = .mul (kts s (s.2 5 k)) (kts s (s.2 6 k))) := fun k hk => kt_node hs hk
  have n0 : kts s 0 = .null := (leaf 0).1 (hs.1.2.1 0 (by omega) (by omega)).1
  have nnl : ∀ x : Term, kmt x .null = true := fun x => by cases x <;> rfl
  intro q
  induction q with
  | zero => intro a b h1 ha hb; have := (hs.at ha).1; omega
  | succ q ih =>
    intro a b h1 ha hb
    have Ha := hs.at ha
    have Hb := hs.at hb
    have la := ha.lt hn.2 hm0
    have lb := hb.lt hn.2 hm0
    refine B70 ⟨fun e => ⟨rfl, by subst e; rw [n0]; rfl⟩, fun e => ⟨fun e2 => ⟨by omega, by omega, fun e3 => ⟨fun e4 => ?_, fun e4 => ?_⟩, fun e3 => ?_⟩, fun e2 => ⟨rfl, by subst e2; rw [n0, nnl]; rfl⟩⟩⟩
    · -- both of one sign
      refine ⟨rfl, ?_⟩
      have ka := (Ha.2.2.1 e4).1
      rcases (show s.2 4 a = 1 ∨ s.2 4 a = 2 by omega) with e5 | e5
      · rw [(leaf a).2.1 e5, (leaf b).2.1 (by omega)]; rfl
      · rw [(leaf a).2.2 e5, (leaf b).2.2 (by omega)]; rfl
    · obtain ⟨a3, va, wa, ea, sa, ta⟩ := Ha.2.2.2 e4
      obtain ⟨b3, vb, wb, eb, sb, tb⟩ := Hb.2.2.2 (by omega)
      have va' : vks s (s.2 5 a) := va.up (by omega)
      have wa' : vks s (s.2 6 a) := wa.up (by omega)
      have vb' : vks s (s.2 5 b) := vb.up (by omega)
      have wb' : vks s (s.2 6 b) := wb.up (by omega)
      have hk : kmt (kts s a) (kts s b) = (kmt (kts s (s.2 5 a)) (kts s (s.2 5 b)) && kmt (kts s (s.2 6 a)) (kts s (s.2 6 b))) := by
        rcases (show s.2 4 a = 3 ∨ s.2 4 a = 4 by omega) with e5 | e5
        · rw [(node a ha).1 e5, (node b hb).1 (by omega)]; rfl
        · rw [(node a ha).2 e5, (node b hb).2 (by omega)]; rfl
      rw [hk]
      refine wci_mono (ih _ _ (by omega) va' vb') (Nat.le_refl _) ?_
      rintro r t ⟨rfl, rfl⟩
      cases hc : kmt (kts t (t.2 5 a)) (kts t (t.2 5 b)) with
      | false => exact ⟨fun _ => ⟨rfl, rfl⟩, fun h => absurd rfl h⟩
      | true =>
        refine ⟨fun h => absurd h (by decide), fun _ => wci_mono (ih _ _ (by omega) wa' wb') (Nat.le_refl _) ?_⟩
        rintro r u ⟨rfl, rfl⟩
        cases hc2 : kmt (kts u (u.2 6 a)) (kts u (u.2 6 b)) with
        | false => exact ⟨fun _ => ⟨rfl, rfl⟩, fun h => absurd rfl h⟩
        | true => exact ⟨fun h => absurd h (by decide), fun _ => ⟨rfl, rfl⟩⟩
    · refine ⟨rfl, ?_⟩
      have z1 : s.2 4 a ≠ 0 := fun h => e (by have := (Ha.2.2.1 (by omega)).1; omega)
      have z2 : s.2 4 b ≠ 0 := fun h => e2 (by have := (Hb.2.2.1 (by omega)).1; omega)
      have : kmt (kts s a) (kts s b) = false := by
        rcases (show s.2 4 a = 1 ∨ s.2 4 a = 2 ∨ s.2 4 a = 3 ∨ s.2 4 a = 4 by omega) with f | f | f | f <;> rcases (show s.2 4 b = 1 ∨ s.2 4 b = 2 ∨ s.2 4 b = 3 ∨ s.2 4 b = 4 by omega) with f2 | f2 | f2 | f2
        all_goals first
          | (exfalso; omega)
          | (rw [(leaf a).2.1 f, (leaf b).2.2 f2]; rfl)
          | (rw [(leaf a).2.1 f, (node b hb).1 f2]; rfl)
          | (rw [(leaf a).2.1 f, (node b hb).2 f2]; rfl)
          | (rw [(leaf a).2.2 f, (leaf b).2.1 f2]; rfl)
          | (rw [(leaf a).2.2 f, (node b hb).1 f2]; rfl)
          | (rw [(leaf a).2.2 f, (node b hb).2 f2]; rfl)
          | (rw [(node a ha).1 f, (leaf b).2.1 f2]; rfl)
          | (rw [(node a ha).1 f, (leaf b).2.2 f2]; rfl)
          | (rw [(node a ha).1 f, (node b hb).2 f2]; rfl)
          | (rw [(node a ha).2 f, (leaf b).2.1 f2]; rfl)
          | (rw [(node a ha).2 f, (leaf b).2.2 f2]; rfl)
          | (rw [(node a ha).2 f, (node b hb).1 f2]; rfl)
      rw [this]
      rfl
theorem together_ok : ∀ (q : Nat) (s : SM) (a b : Int), KJs s → s.2 7 a ≤ q → vks s a → vks s b → kmt (kts s a) (kts s b) = true → s.1 3 + s.2 7 a ≤ 6000 → cm iv L h0 (q + 1) 71 [vr 307, vi a, vi b] s (qi fun r t => eqx [3] [4, 5, 6, 7] s t ∧ KJs t ∧ kext s t ∧ t.1 3 ≤ s.1 3 + s.2 7 a ∧ vks t r ∧ kts t r = ktg (kts s a) (kts s b)) := by
  intro q
  induction q with
  | zero => intro s a b hs h1 ha; have := (hs.at ha).1; omega
  | succ q ih =>
    intro s a b hs h1 ha hb hmt h6
    have hm0 := hs.2.1
    have hn := hs.1.1
    have leaf : ∀ k, (s.2 4 k = 0 → kts s k = .null) ∧ (s.2 4 k = 1 → kts s k = .result) ∧ (s.2 4 k = 2 → kts s k = .thrown) := fun k => kt_leaf hs
    have node : ∀ k, vks s k → (s.2 4 k = 3 → kts s k = .add (kts s (s.2 5 k)) (kts s (s.2 6 k))) ∧ (s.2 4 k = 4 → kts s k = .mul (kts s (s.2 5 k)) (kts s (s.2 6 k))) := fun k hk => kt_node hs hk
    have n0 : kts s 0 = .null := (leaf 0).1 (hs.1.2.1 0 (by omega) (by omega)).1
    have Ha := hs.at ha
    have Hb := hs.at hb
    have la := ha.lt hn.2 hm0
    have lb := hb.lt hn.2 hm0
    refine B71 ⟨fun e => ⟨fun e2 => ⟨eqx.rf, hs, kext.rf, by omega, ha, ?_⟩, fun e2 => ⟨by omega, fun e4 => ⟨by omega, ?_⟩, fun e4 => ⟨eqx.rf, hs, kext.rf, by omega, ha, ?_⟩⟩⟩, fun e => ⟨eqx.rf, hs, kext.rf, by omega, hb, ?_⟩⟩
    · subst e2
      rw [n0]
      cases kts s a <;> rfl
    · -- both have parts
      obtain ⟨a3, va, wa, ea, sa, ta⟩ := Ha.2.2.2 e4
      have z2 : s.2 4 b ≠ 0 := fun h => e2 (by have := (Hb.2.2.1 (by omega)).1; omega)
      have hsame : s.2 4 b = s.2 4 a := by
        rcases (show s.2 4 a = 3 ∨ s.2 4 a = 4 by omega) with f | f <;> rcases (show s.2 4 b = 1 ∨ s.2 4 b = 2 ∨ s.2 4 b = 3 ∨ s.2 4 b = 4 by omega) with f2 | f2 | f2 | f2
        all_goals first
          | omega
          | (exfalso; rw [(node a ha).1 f, (leaf b).2.1 f2] at hmt; exact absurd (show false = true from hmt) (by decide))
          | (exfalso; rw [(node a ha).1 f, (leaf b).2.2 f2] at hmt; exact absurd (show false = true from hmt) (by decide))
          | (exfalso; rw [(node a ha).1 f, (node b hb).2 f2] at hmt; exact absurd (show false = true from hmt) (by decide))
          | (exfalso; rw [(node a ha).2 f, (leaf b).2.1 f2] at hmt; exact absurd (show false = true from hmt) (by decide))
          | (exfalso; rw [(node a ha).2 f, (leaf b).2.2 f2] at hmt; exact absurd (show false = true from hmt) (by decide))
          | (exfalso; rw [(node a ha).2 f, (node b hb).1 f2] at hmt; exact absurd (show false = true from hmt) (by decide))
      obtain ⟨b3, vb, wb, eb, sb, tb⟩ := Hb.2.2.2 (by omega)
      have va' : vks s (s.2 5 a) := va.up (by omega)
      have wa' : vks s (s.2 6 a) := wa.up (by omega)
      have vb' : vks s (s.2 5 b) := vb.up (by omega)
      have wb' : vks s (s.2 6 b) := wb.up (by omega)
      have hk : kmt (kts s (s.2 5 a)) (kts s (s.2 5 b)) = true ∧ kmt (kts s (s.2 6 a)) (kts s (s.2 6 b)) = true := by
        have h := hmt
        rcases (show s.2 4 a = 3 ∨ s.2 4 a = 4 by omega) with f | f
        · rw [(node a ha).1 f, (node b hb).1 (by omega)] at h
          exact Bool.and_eq_true_iff.mp h
        · rw [(node a ha).2 f, (node b hb).2 (by omega)] at h
          exact Bool.and_eq_true_iff.mp h
      have hg : ktg (kts s a) (kts s b) = kmk (s.2 4 a) (ktg (kts s (s.2 5 a)) (kts s (s.2 5 b))) (ktg (kts s (s.2 6 a)) (kts s (s.2 6 b))) := by
        rcases (show s.2 4 a = 3 ∨ s.2 4 a = 4 by omega) with f | f
        · rw [(node a ha).1 f, (node b hb).1 (by omega), f]; rfl
        · rw [(node a ha).2 f, (node b hb).2 (by omega), f]; rfl
      have r5 := s.2 5 a
      refine wci_mono (ih s _ _ hs (by omega) va' vb' hk.1 (by omega)) (Nat.le_refl _) ?_
      rintro r t ⟨q1, q2, q3, q4, q5, q6⟩
      have va2 := kext_vk q3 va'
      have wa2 := kext_vk q3 wa'
      have wb2 := kext_vk q3 wb'
      have ra := q3.2.2 a la.2
      have rb := q3.2.2 b lb.2
      have rwa := q3.2.2 _ (wa'.lt hn.2 hm0).2
      rw [ra.2.2.1, rb.2.2.1]
      refine wci_mono (ih t _ _ q2 (by rw [rwa.2.2.2]; omega) wa2 wb2 (by rw [kext_kt q3 hs wa', kext_kt q3 hs wb']; exact hk.2) (by rw [rwa.2.2.2]; omega)) (Nat.le_refl _) ?_
      rintro r2 u ⟨p1, p2, p3, p4, p5, p6⟩
      rw [rwa.2.2.2] at p4
      refine wci_mono (makeKind_ok p2 (by omega) (kext_vk p3 q5) p5 (by omega)) (by omega) ?_
      rintro r3 w ⟨o1, o2, o3, o4, o5, o6⟩
      refine ⟨(q1.tr p1).tr o1, o2, (q3.tr p3).tr o3, by omega, o5, ?_⟩
      rw [o6, kext_kt p3 q2 q5, q6, p6, kext_kt q3 hs wa', kext_kt q3 hs wb', hg]
    · rcases (show s.2 4 a = 1 ∨ s.2 4 a = 2 by have := Ha.2.2.1 e4; omega) with f | f
      · rw [(leaf a).2.1 f]; cases kts s b <;> rfl
      · rw [(leaf a).2.2 f]; cases kts s b <;> rfl
    · subst e
      rw [n0]
      cases kts s b <;> rfl
end

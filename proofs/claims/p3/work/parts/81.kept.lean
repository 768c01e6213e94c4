/-! What the reference keeps for undo(). -/
/-- a tree with what its nodes bore then -/
abbrev Snap : Type := Term × SM
def numOk (so nu : Int) : Prop := ((so = 3 ∨ so = 8 ∨ so = 10) → 0 ≤ nu ∧ nu < 26) ∧ (so = 2 → nu = 0 ∨ nu = 1)
/-- it was a sheet -/
def KP (s : SM) (u : Snap) : Prop := (AT (s.2 9) (u.2.2 14) (u.2.2 12) (u.2.2 13) (s.1 8) u.1 ∧ full (s.2 9) u.1 ∧ (fl u.1).Nodup ∧ (fl u.1).length ≤ 60) ∧ u.2.1 16 ∈ fl u.1 ∧ u.2.2 12 (hd u.1) = -9 ∧ u.2.2 13 (hd u.1) = -9 ∧ ∀ x, x ∈ fl u.1 → numOk (s.2 9 x) (u.2.2 10 x)
/-- what rows hold of it: many, cursor, nodes, numbers, parts, each from a place on -/
def KR (so : Int → Int) (m c : Int) (rn rv rp : Int → Int) (u : Snap) : Prop := m = (fl u.1).length ∧ c = u.2.1 16 ∧ ∀ (k : Nat) (x : Int), (fl u.1)[k]? = some x → rn k = x ∧ rv k = u.2.2 10 x ∧ ∀ j, 0 ≤ j → j < pO (so x) → rp (3 * k + j) = u.2.2 14 (3 * x + j)
def KL (s : SM) (K : List Snap) : Prop := s.1 24 = K.length ∧ K.length ≤ 20 ∧ ∀ (i : Nat) (u : Snap), K[i]? = some u → KR (s.2 9) (s.2 25 i) (s.2 26 i) (fun j => s.2 27 (80 * i + j)) (fun j => s.2 28 (80 * i + j)) (fun j => s.2 29 (240 * i + j)) u ∧ KP s u
/-- what is ahead of an act -/
def AH (w : SM) (u : Snap) : Prop := KR (w.2 9) (w.1 30) (w.1 31) (w.2 32) (w.2 33) (w.2 34) u
def push (K : List Snap) (u : Snap) : List Snap := (if K.length = 20 then K.tail else K) ++ [u]
def sh1 (s : SM) (n : Int) : SM := (s.1, fun k j => if (k = 25 ∨ k = 26) ∧ 0 ≤ j ∧ j < n then s.2 k (j + 1) else s.2 k j)
def sh2 (s : SM) (n : Int) : SM := (s.1, fun k j => if (k = 27 ∨ k = 28) ∧ 0 ≤ j ∧ j < n then s.2 k (j + 80) else s.2 k j)
def sh3 (s : SM) (n : Int) : SM := (s.1, fun k j => if k = 29 ∧ 0 ≤ j ∧ j < n then s.2 k (j + 240) else s.2 k j)
def cp1 (s : SM) (b n : Int) : SM := (s.1, fun k j => if (k = 27 ∨ k = 28) ∧ b ≤ j ∧ j < b + n then s.2 (k + 5) (j - b) else s.2 k j)
def cp2 (s : SM) (b n : Int) : SM := (s.1, fun k j => if k = 29 ∧ b ≤ j ∧ j < b + n then s.2 (k + 5) (j - b) else s.2 k j)
def enS (s : SM) : SM := if s.1 24 = 20 then us (sh3 (sh2 (sh1 s 19) 1520) 4560) 24 19 else s
def en2 (s : SM) (k m c : Int) : SM := cp2 (cp1 (ua (ua s 25 k m) 26 k c) (80 * k) 80) (240 * k) 240
def chg (c a : Int) : Int := if c ≠ 0 then 1 else if a ≠ 0 then 0 else 1
def enU (s : SM) (a : Int) : SM := us (us (en2 (enS s) ((enS s).1 24) (s.1 30) (s.1 31)) 24 ((enS s).1 24 + 1)) 35 (chg (s.1 35) a)
theorem eqS {s w : SM} (h1 : w.1 = s.1) (h2 : ∀ k j, w.2 k j = s.2 k j) : w = s := Prod.ext h1 (funext fun k => funext fun j => h2 k j)
section
variable {iv : List (Int × Int)} {L : Nat} {h0 : MH} {s : SM} {t : Term} {d : Nat}
theorem beginAct_ok {F : SM → Prop} (h : SHT s t) (hD : 70 ≤ d) (hF : ∀ w, eqx [18, 30, 31] [17, 32, 33, 34] s w → LR w (fl t) → AH w (t, s) → F w) : cm iv L h0 d 99 [vr 307] s (qv F) := by
  obtain ⟨d, rfl⟩ : ∃ k, d = k + 1 := ⟨d - 1, by omega⟩
  refine B99 (layAll_ok h (by omega) (fun w h1 w3 => ?_))
  have e10 : w.2 10 = s.2 10 := h1.2 10 (by decide)
  have e14 : w.2 14 = s.2 14 := h1.2 14 (by decide)
  have key : ∀ (m p : List Int) (v : SM), fl t = p ++ m → eqx [30, 31] [32, 33, 34] w v → v.1 30 = w.1 18 → v.1 31 = w.1 16 → (∀ (k : Nat) (x : Int), p[k]? = some x → v.2 32 k = x ∧ v.2 33 k = s.2 10 x ∧ ∀ j, 0 ≤ j → j < 3 → v.2 34 (3 * k + j) = s.2 14 (3 * x + j)) → wm iv L h0 (d + 1) 99 22 [lr 307, li p.length] [] v (qv F) := by
    intro m
    induction m with
    | nil =>
      intro p v e hv v30 v31 hp
      have e18 : v.1 18 = w.1 18 := hv.1 18 (by decide)
      have := LR_nil w3 e
      have ep : p = fl t := by rw [e]; simp
      have es : eqx [18, 30, 31] [17, 32, 33, 34] s v := (h1.up (fun y q => by simp at q ⊢; omega) (fun y q => by simp at q ⊢; omega)).tr (hv.up (fun y q => by simp at q ⊢; omega) (fun y q => by simp at q ⊢; omega))
      refine B99_22 ⟨fun _ => hF v es ⟨by rw [e18]; exact w3.1, fun j x q => by rw [hv.2 17 (by decide)]; exact w3.2 j x q⟩ ⟨by rw [v30]; exact w3.1, by rw [v31]; exact h1.1 16 (by decide), fun k x hk => ?_⟩, fun q => by rw [e18] at q; omega⟩
      obtain ⟨a1, a2, a3⟩ := hp k x (by rw [ep]; exact hk)
      exact ⟨a1, a2, fun j j0 j1 => a3 j j0 (by have := pO_in (v.2 9 x); omega)⟩
    | cons x m ih =>
      intro p v e hv v30 v31 hp
      obtain ⟨c1, c2⟩ := LR_cons w3 e
      obtain ⟨c3, hx⟩ := h.fl80 e
      have hlt := h.lt hx
      have e' := e
      rw [app1] at e'
      have e1 : ((p ++ [x]).length : Int) = p.length + 1 := by simp
      have e18 : v.1 18 = w.1 18 := hv.1 18 (by decide)
      have e17 : v.2 17 = w.2 17 := hv.2 17 (by decide)
      have f10 : v.2 10 = s.2 10 := (hv.2 10 (by decide)).trans e10
      have f14 : v.2 14 = s.2 14 := (hv.2 14 (by decide)).trans e14
      refine B99_22 ⟨fun q => by rw [e18] at q; omega, fun _ => ?_⟩
      rw [e17, c1, f10]
      refine ⟨by omega, by omega, ?_⟩
      refine B99_61 ⟨fun q => by omega, fun _ => ?_⟩
      have g17 : ∀ u, eqx [30, 31] [32, 33, 34] w u → u.2 17 p.length = x := fun u hu => by rw [hu.2 17 (by decide)]; exact c1
      have n1 : eqx [30, 31] [32, 33, 34] w (ua (ua v 32 p.length x) 33 p.length (s.2 10 x)) := eqx_ua (eqx_ua hv (by decide)) (by decide)
      rw [g17 _ n1, show (ua (ua v 32 (p.length : Int) x) 33 p.length (s.2 10 x)).2 14 = s.2 14 from f14]
      refine ⟨by omega, by omega, by omega, by omega, by omega, by omega, by omega, by omega, ?_⟩
      refine B99_61 ⟨fun q => by omega, fun _ => ?_⟩
      have n2 := eqx_ua (f := 34) (i := 3 * (p.length : Int) + 0) (z := s.2 14 (3 * x + 0)) n1 (by decide)
      rw [g17 _ n2, show (ua (ua (ua v 32 (p.length : Int) x) 33 p.length (s.2 10 x)) 34 (3 * p.length + 0) (s.2 14 (3 * x + 0))).2 14 = s.2 14 from f14]
      refine ⟨by omega, by omega, by omega, by omega, by omega, by omega, by omega, by omega, ?_⟩
      refine B99_61 ⟨fun q => by omega, fun _ => ?_⟩
      have n3 := eqx_ua (f := 34) (i := 3 * (p.length : Int) + (0 + 1)) (z := s.2 14 (3 * x + (0 + 1))) n2 (by decide)
      rw [g17 _ n3, show (ua (ua (ua (ua v 32 (p.length : Int) x) 33 p.length (s.2 10 x)) 34 (3 * p.length + 0) (s.2 14 (3 * x + 0))) 34 (3 * p.length + (0 + 1)) (s.2 14 (3 * x + (0 + 1)))).2 14 = s.2 14 from f14]
      refine ⟨by omega, by omega, by omega, by omega, by omega, by omega, by omega, by omega, ?_⟩
      refine B99_61 ⟨fun _ => ⟨by omega, ?_⟩, fun q => by omega⟩
      have n4 := eqx_ua (f := 34) (i := 3 * (p.length : Int) + (0 + 1 + 1)) (z := s.2 14 (3 * x + (0 + 1 + 1))) n3 (by decide)
      have := ih (p ++ [x]) _ e' n4 v30 v31 (fun k y hk => ?_)
      · rw [e1] at this
        exact this
      · simp only [ua_2]
        by_cases hkp : k < p.length
        · rw [List.getElem?_append_left hkp] at hk
          obtain ⟨a1, a2, a3⟩ := hp k y hk
          refine ⟨?_, ?_, fun j j0 j3 => ?_⟩
          · rw [if_neg (by omega), if_neg (by omega), if_neg (by omega), if_neg (by omega), if_neg (by omega)]; exact a1
          · rw [if_neg (by omega), if_neg (by omega), if_neg (by omega), if_neg (by omega)]; exact a2
          · rw [if_neg (by omega), if_neg (by omega), if_neg (by omega), if_neg (by omega), if_neg (by omega)]; exact a3 j j0 j3
        · rw [List.getElem?_append_right (by omega)] at hk
          have hk0 : k = p.length := by
            have := (List.getElem?_eq_some_iff.mp hk).1
            simp at this
            omega
          subst hk0
          simp at hk
          subst hk
          refine ⟨?_, ?_, fun j j0 j3 => ?_⟩
          · rw [if_neg (by first | omega | simp), if_neg (by first | omega | simp), if_neg (by first | omega | simp), if_neg (by first | omega | simp), if_pos (by first | omega | simp)]
          · rw [if_neg (by first | omega | simp), if_neg (by first | omega | simp), if_neg (by first | omega | simp), if_pos (by first | omega | simp)]
          · have hj : j = 0 ∨ j = 1 ∨ j = 2 := by omega
            rcases hj with rfl | rfl | rfl
            · rw [if_neg (by first | omega | simp), if_neg (by first | omega | simp), if_pos (by first | omega | simp)]
            · rw [if_neg (by first | omega | simp), if_pos (by first | omega | simp)]; rfl
            · rw [if_pos (by first | omega | simp)]; rfl
  exact key (fl t) [] _ rfl (eqx_us (eqx_us eqx.rf (by decide)) (by decide)) rfl rfl (fun k x hk => by simp at hk)
theorem elp1 {F : SM → Prop} {a : Int} (hF : wm iv L h0 d 100 53 [lr 307, li a, li 0] [] (sh1 s 19) (qv F)) : wm iv L h0 d 100 11 [lr 307, li a, li 1] [] s (qv F) := by
  have key : ∀ (m : Nat) (k : Int), 1 ≤ k → k ≤ 20 → (20 - k).toNat = m → wm iv L h0 d 100 11 [lr 307, li a, li k] [] (sh1 s (k - 1)) (qv F) := by
    intro m
    induction m with
    | zero =>
      intro k k0 k1 hm
      obtain rfl : k = 20 := by omega
      exact B100_11 ⟨fun _ => hF, fun q => by omega⟩
    | succ m ih =>
      intro k k0 k1 hm
      refine B100_11 ⟨fun q => by omega, fun q => ⟨by omega, by omega, by omega, by omega, ?_⟩⟩
      have := ih (k + 1) (by omega) (by omega) (by omega)
      refine (eqS (s := _) (w := _) rfl (fun y j => ?_) : ua (ua (sh1 s (k - 1)) 25 (k - 1) ((sh1 s (k - 1)).2 25 k)) 26 (k - 1) ((sh1 s (k - 1)).2 26 k) = sh1 s (k + 1 - 1)) ▸ this
      simp only [ua_2, sh1]
      by_cases c1 : (y = 25 ∨ y = 26) ∧ 0 ≤ j ∧ j < k + 1 - 1
      · rw [if_pos c1]
        by_cases c2 : j = k - 1
        · subst c2
          rcases c1.1 with rfl | rfl
          · rw [if_neg (by omega), if_pos (by omega), if_neg (by omega), show k - 1 + 1 = k by omega]
          · rw [if_pos (by omega), if_neg (by omega), show k - 1 + 1 = k by omega]
        · rw [if_neg (by omega), if_neg (by omega), if_pos (by omega)]
      · rw [if_neg c1, if_neg (by omega), if_neg (by omega), if_neg (by omega)]
  refine (eqS rfl (fun y j => ?_) : sh1 s (1 - 1) = s) ▸ key _ 1 (by omega) (by omega) rfl
  simp only [sh1]
  rw [if_neg (by omega)]
theorem elp2 {F : SM → Prop} {a : Int} (hF : wm iv L h0 d 100 98 [lr 307, li a, li 0] [] (sh2 s 1520) (qv F)) : wm iv L h0 d 100 53 [lr 307, li a, li 0] [] s (qv F) := by
  have key : ∀ (m : Nat) (k : Int), 0 ≤ k → k ≤ 1520 → (1520 - k).toNat = m → wm iv L h0 d 100 53 [lr 307, li a, li k] [] (sh2 s k) (qv F) := by
    intro m
    induction m with
    | zero =>
      intro k k0 k1 hm
      obtain rfl : k = 1520 := by omega
      exact B100_53 ⟨fun _ => hF, fun q => by omega⟩
    | succ m ih =>
      intro k k0 k1 hm
      refine B100_53 ⟨fun q => by omega, fun q => ⟨by omega, by omega, by omega, by omega, ?_⟩⟩
      have := ih (k + 1) (by omega) (by omega) (by omega)
      refine (eqS rfl (fun y j => ?_) : ua (ua (sh2 s k) 27 k ((sh2 s k).2 27 (k + 80))) 28 k ((sh2 s k).2 28 (k + 80)) = sh2 s (k + 1)) ▸ this
      simp only [ua_2, sh2]
      by_cases c1 : (y = 27 ∨ y = 28) ∧ 0 ≤ j ∧ j < k + 1
      · rw [if_pos c1]
        by_cases c2 : j = k
        · subst c2
          rcases c1.1 with rfl | rfl
          · rw [if_neg (by omega), if_pos (by omega), if_neg (by omega)]
          · rw [if_pos (by omega), if_neg (by omega)]
        · rw [if_neg (by omega), if_neg (by omega), if_pos (by omega)]
      · rw [if_neg c1, if_neg (by omega), if_neg (by omega), if_neg (by omega)]
  refine (eqS rfl (fun y j => ?_) : sh2 s 0 = s) ▸ key _ 0 (by omega) (by omega) rfl
  simp only [sh2]
  rw [if_neg (by omega)]
theorem elp3 {F : SM → Prop} {a : Int} (h24 : s.1 24 = 20) (hF : wm iv L h0 d 100 165 [lr 307, li a, li 0] [] (ua (ua (us (sh3 s 4560) 24 19) 25 19 (s.1 30)) 26 19 (s.1 31)) (qv F)) : wm iv L h0 d 100 98 [lr 307, li a, li 0] [] s (qv F) := by
  have key : ∀ (m : Nat) (k : Int), 0 ≤ k → k ≤ 4560 → (4560 - k).toNat = m → wm iv L h0 d 100 98 [lr 307, li a, li k] [] (sh3 s k) (qv F) := by
    intro m
    induction m with
    | zero =>
      intro k k0 k1 hm
      obtain rfl : k = 4560 := by omega
      have e : (sh3 s 4560).1 24 - 1 = 19 := by show s.1 24 - 1 = 19; omega
      refine B100_98 ⟨fun _ => ?_, fun q => by omega⟩
      rw [e]
      exact ⟨by omega, by omega, hF⟩
    | succ m ih =>
      intro k k0 k1 hm
      refine B100_98 ⟨fun q => by omega, fun q => ⟨by omega, by omega, by omega, by omega, ?_⟩⟩
      have := ih (k + 1) (by omega) (by omega) (by omega)
      refine (eqS rfl (fun y j => ?_) : ua (sh3 s k) 29 k ((sh3 s k).2 29 (k + 240)) = sh3 s (k + 1)) ▸ this
      simp only [ua_2, sh3]
      by_cases c1 : y = 29 ∧ 0 ≤ j ∧ j < k + 1
      · rw [if_pos c1]
        by_cases c2 : j = k
        · rw [if_pos ⟨c1.1, c2⟩, if_neg (by omega), c1.1, c2]
        · rw [if_neg (by omega), if_pos (by omega)]
      · rw [if_neg c1, if_neg (by omega), if_neg (by omega)]
  refine (eqS rfl (fun y j => ?_) : sh3 s 0 = s) ▸ key _ 0 (by omega) (by omega) rfl
  simp only [sh3]
  rw [if_neg (by omega)]
theorem elp5 {F : SM → Prop} {a : Int} (hk : 0 ≤ s.1 24 ∧ s.1 24 < 20) (hF : F (us (us (cp2 s (240 * s.1 24) 240) 24 (s.1 24 + 1)) 35 (chg (s.1 35) a))) : wm iv L h0 d 100 219 [lr 307, li a, li 0] [] s (qv F) := by
  have key : ∀ (m : Nat) (k : Int), 0 ≤ k → k ≤ 240 → (240 - k).toNat = m → wm iv L h0 d 100 219 [lr 307, li a, li k] [] (cp2 s (240 * s.1 24) k) (qv F) := by
    intro m
    induction m with
    | zero =>
      intro k k0 k1 hm
      obtain rfl : k = 240 := by omega
      unfold chg at hF
      refine B100_219 ⟨fun _ => ⟨by show -2147483648 ≤ s.1 24 + 1 ∧ s.1 24 + 1 ≤ 2147483647; omega, fun q => ?_, fun q => ⟨fun q2 => ?_, fun q2 => ?_⟩⟩, fun q => by omega⟩
      · rw [if_pos (show s.1 35 ≠ 0 from q)] at hF; exact hF
      · rw [if_neg (show ¬ s.1 35 ≠ 0 from fun c => c q), if_pos q2] at hF; exact hF
      · rw [if_neg (show ¬ s.1 35 ≠ 0 from fun c => c q), if_neg (fun c => c q2)] at hF; exact hF
    | succ m ih =>
      intro k k0 k1 hm
      have e24 : (cp2 s (240 * s.1 24) k).1 24 = s.1 24 := rfl
      refine B100_219 ⟨fun q => by omega, fun q => ?_⟩
      rw [e24]
      refine ⟨by omega, by omega, by omega, by omega, by omega, ?_⟩
      have := ih (k + 1) (by omega) (by omega) (by omega)
      refine (eqS rfl (fun y j => ?_) : ua (cp2 s (240 * s.1 24) k) 29 (240 * s.1 24 + k) ((cp2 s (240 * s.1 24) k).2 34 k) = cp2 s (240 * s.1 24) (k + 1)) ▸ this
      simp only [ua_2, cp2]
      by_cases c1 : y = 29 ∧ 240 * s.1 24 ≤ j ∧ j < 240 * s.1 24 + (k + 1)
      · rw [if_pos c1]
        by_cases c2 : j = 240 * s.1 24 + k
        · rw [if_pos ⟨c1.1, c2⟩, if_neg (by omega), c1.1, c2, show 240 * s.1 24 + k - 240 * s.1 24 = k by omega]
        · rw [if_neg (by omega), if_pos (by omega)]
      · rw [if_neg c1, if_neg (by omega), if_neg (by omega)]
  refine (eqS rfl (fun y j => ?_) : cp2 s (240 * s.1 24) 0 = s) ▸ key _ 0 (by omega) (by omega) rfl
  simp only [cp2]
  rw [if_neg (by omega)]
theorem elp4 {F : SM → Prop} {a : Int} (hk : 0 ≤ s.1 24 ∧ s.1 24 < 20) (hF : wm iv L h0 d 100 219 [lr 307, li a, li 0] [] (cp1 s (80 * s.1 24) 80) (qv F)) : wm iv L h0 d 100 165 [lr 307, li a, li 0] [] s (qv F) := by
  have key : ∀ (m : Nat) (k : Int), 0 ≤ k → k ≤ 80 → (80 - k).toNat = m → wm iv L h0 d 100 165 [lr 307, li a, li k] [] (cp1 s (80 * s.1 24) k) (qv F) := by
    intro m
    induction m with
    | zero =>
      intro k k0 k1 hm
      obtain rfl : k = 80 := by omega
      exact B100_165 ⟨fun _ => hF, fun q => by omega⟩
    | succ m ih =>
      intro k k0 k1 hm
      have e24 : (cp1 s (80 * s.1 24) k).1 24 = s.1 24 := rfl
      refine B100_165 ⟨fun q => by omega, fun q => ?_⟩
      rw [e24]
      refine ⟨by omega, by omega, by omega, by omega, by omega, ?_⟩
      have := ih (k + 1) (by omega) (by omega) (by omega)
      refine (eqS rfl (fun y j => ?_) : ua (ua (cp1 s (80 * s.1 24) k) 27 (80 * s.1 24 + k) ((cp1 s (80 * s.1 24) k).2 32 k)) 28 (80 * s.1 24 + k) ((cp1 s (80 * s.1 24) k).2 33 k) = cp1 s (80 * s.1 24) (k + 1)) ▸ this
      simp only [ua_2, cp1]
      by_cases c1 : (y = 27 ∨ y = 28) ∧ 80 * s.1 24 ≤ j ∧ j < 80 * s.1 24 + (k + 1)
      · rw [if_pos c1]
        by_cases c2 : j = 80 * s.1 24 + k
        · rcases c1.1 with e | e
          · rw [if_neg (by omega), if_pos ⟨e, c2⟩, if_neg (by omega), e, c2, show 80 * s.1 24 + k - 80 * s.1 24 = k by omega]
          · rw [if_pos ⟨e, c2⟩, if_neg (by omega), e, c2, show 80 * s.1 24 + k - 80 * s.1 24 = k by omega]
        · rw [if_neg (by omega), if_neg (by omega), if_pos (by omega)]
      · rw [if_neg c1, if_neg (by omega), if_neg (by omega), if_neg (by omega)]
  refine (eqS rfl (fun y j => ?_) : cp1 s (80 * s.1 24) 0 = s) ▸ key _ 0 (by omega) (by omega) rfl
  simp only [cp1]
  rw [if_neg (by omega)]
theorem endAct_ok {F : SM → Prop} {a : Int} (hk : 0 ≤ s.1 24 ∧ s.1 24 ≤ 20) (hF : F (enU s a)) : cm iv L h0 d 100 [vr 307, vi a] s (qv F) := by
  unfold enU at hF
  refine B100 ⟨fun e => ⟨by omega, elp4 (by show 0 ≤ s.1 24 ∧ s.1 24 < 20; omega) (elp5 (by show 0 ≤ s.1 24 ∧ s.1 24 < 20; omega) ?_)⟩, fun e => elp1 (elp2 (elp3 e (elp4 (by show (0 : Int) ≤ 19 ∧ (19 : Int) < 20; decide) (elp5 (by show (0 : Int) ≤ 19 ∧ (19 : Int) < 20; decide) ?_))))⟩
  · rw [show enS s = s from if_neg e] at hF
    exact hF
  · rw [show enS s = us (sh3 (sh2 (sh1 s 19) 1520) 4560) 24 19 from if_pos e] at hF
    exact hF
end

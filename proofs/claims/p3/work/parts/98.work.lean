/-! The reference works as evw says: what leads there. -/
def vkd : Term → Int
  | .int _ => 0
  | .arg _ => 1
  | .sub _ _ => 2
  | .add _ _ => 3
  | .div _ _ => 4
  | .index _ => 5
  | .length _ => 6
  | _ => 7
theorem VR_kind {s : SM} {lo hi elo ehi : Int} {V : Term} {v : Int} (hv : isV V = true) (h : VR s lo hi elo ehi V v) : s.2 46 v = vkd V ∧ (lo ≤ v ∧ v < hi) ∧ s.2 51 v = if hsL V = true then 1 else 0 := by
  cases V with
  | int z => obtain ⟨h1, h2, _, _, _, _, h3⟩ := h; exact ⟨h2, h1, h3⟩
  | arg z => obtain ⟨h1, h2, _, _, _, _, h3⟩ := h; exact ⟨h2, h1, h3⟩
  | index z => obtain ⟨h1, h2, _, _, _, _, h3⟩ := h; exact ⟨h2, h1, h3⟩
  | sub d E =>
    cases d with
    | index d => obtain ⟨e, ⟨h1, h2, _, _, _, _, h3⟩, _⟩ := h; exact ⟨h2, h1, h3⟩
    | _ => cases hv
  | add A B => obtain ⟨a, b, ⟨h1, h2, _, _, _, _, h3⟩, _⟩ := h; exact ⟨h2, h1, h3⟩
  | div d E =>
    cases d with
    | index d => obtain ⟨e, ⟨h1, h2, _, _, _, _, h3⟩, _⟩ := h; exact ⟨h2, h1, h3⟩
    | _ => cases hv
  | length A => obtain ⟨a, ⟨h1, h2, _, _, _, _, h3⟩, _⟩ := h; exact ⟨h2, h1, h3⟩
  | rem d q =>
    cases d with
    | index d =>
      cases q with
      | elem A q =>
        cases q with
        | elem B E => obtain ⟨a, b, e, ⟨h1, h2, _, _, _, _, h3⟩, _⟩ := h; exact ⟨h2, h1, h3⟩
        | _ => cases hv
      | _ => cases hv
    | _ => cases hv
  | _ => cases hv
theorem isW_kd {V : Term} (hv : isV V = true) : isW V = decide (4 ≤ vkd V) := by
  cases V with
  | _ => first | rfl | (cases hv)
/-- cells outside of those made since stay -/
def FRM (s w : SM) : Prop := eqx [52, 54, 56, 58, 59, 60] [46, 47, 48, 49, 50, 51, 53] s w ∧ (∀ f v, (f = 46 ∨ f = 47 ∨ f = 48 ∨ f = 49 ∨ f = 50 ∨ f = 51) → (v < s.1 52 ∨ w.1 52 ≤ v) → w.2 f v = s.2 f v) ∧ ∀ j, (j < 26 * s.1 54 ∨ 26 * w.1 54 ≤ j) → w.2 53 j = s.2 53 j
theorem FRM.rf {s : SM} : FRM s s := ⟨eqx.rf, fun _ _ _ _ => rfl, fun _ _ => rfl⟩
theorem FRM.tr {s w v : SM} (h1 : FRM s w) (h2 : FRM w v) (a1 : s.1 52 ≤ w.1 52 ∧ w.1 52 ≤ v.1 52) (a2 : s.1 54 ≤ w.1 54 ∧ w.1 54 ≤ v.1 54) : FRM s v :=
  ⟨h1.1.tr h2.1, fun f x hf hx => (h2.2.1 f x hf (by omega)).trans (h1.2.1 f x hf (by omega)), fun j hj => (h2.2.2 j (by omega)).trans (h1.2.2 j (by omega))⟩
theorem FRM.keep {s w : SM} {lo hi elo ehi : Int} (h : FRM s w) (h1 : hi ≤ s.1 52 ∨ w.1 52 ≤ lo) (h2 : ehi ≤ s.1 54 ∨ w.1 54 ≤ elo) : KEEP s w lo hi elo ehi :=
  ⟨fun f v hf v0 v1 => h.2.1 f v hf (by omega), fun j j0 j1 => h.2.2 j (by omega)⟩
/-- what working does: at most so many values and envs for each step, and some more -/
def WP (B C : Int) (kv ke : Int) (s : SM) (st : Int) (R : RS) (r : Int) (w : SM) : Prop := FRM s w ∧ (s.1 52 ≤ w.1 52 ∧ w.1 52 ≤ s.1 52 + 2 * (R.1 - st) + kv) ∧ (s.1 54 ≤ w.1 54 ∧ w.1 54 ≤ s.1 54 + 2 * (R.1 - st) + ke) ∧ (w.1 56 = R.1 ∧ w.1 58 = s.1 58 ∧ w.1 59 = R.2.1 ∧ w.1 60 = R.2.2.1) ∧ (R.2.1 = 0 → VR w B (w.1 52) C (w.1 54) R.2.2.2 r)
theorem WP.up {B C kv ke kv' ke' st r : Int} {s w : SM} {R : RS} (h : WP B C kv ke s st R r w) (h1 : kv ≤ kv') (h2 : ke ≤ ke') : WP B C kv' ke' s st R r w := by
  obtain ⟨a1, a2, a3, a4, a5⟩ := h
  exact ⟨a1, ⟨a2.1, by omega⟩, ⟨a3.1, by omega⟩, a4, a5⟩
theorem WP.st {B C kv ke st r r' : Int} {s w : SM} {R : RS} (h : WP B C kv ke s st R r w) (hR : R.2.1 ≠ 0) : WP B C kv ke s st R r' w := by
  obtain ⟨a1, a2, a3, a4, a5⟩ := h
  exact ⟨a1, a2, a3, a4, fun q => absurd q hR⟩
theorem WP.tr {B C kv ke kv' ke' st r r' : Int} {s w v : SM} {R R' : RS} (h : WP B C kv ke s st R r w) (h' : WP B C kv' ke' w R.1 R' r' v) : WP B C (kv + kv') (ke + ke') s st R' r' v := by
  obtain ⟨a1, a2, a3, a4, a5⟩ := h
  obtain ⟨b1, b2, b3, b4, b5⟩ := h'
  exact ⟨a1.tr b1 ⟨a2.1, b2.1⟩ ⟨a3.1, b3.1⟩, ⟨by omega, by omega⟩, ⟨by omega, by omega⟩, ⟨b4.1, b4.2.1.trans a4.2.1, b4.2.2⟩, b5⟩
/-- a state in the midst of working: so many levels may be begun, so many steps are done, so much room is left over -/
def WS (σ : SM) (most B C : Int) (n : Nat) (st k : Int) (s : SM) : Prop := eqx [52, 54, 56, 58, 59, 60] [46, 47, 48, 49, 50, 51, 53] σ s ∧ (s.1 56 = st ∧ s.1 58 = 60 - n ∧ s.1 59 = 0 ∧ s.1 60 = -9) ∧ (0 ≤ st ∧ st ≤ most) ∧ (B ≤ s.1 52 ∧ s.1 52 + 2 * (most - st) + k ≤ 1300 * σ.1 55 + 610) ∧ C ≤ s.1 54 ∧ s.1 54 + 2 * (most - st) + k ≤ 640 * σ.1 55 + 610
theorem WS.up {σ s : SM} {most B C st k k' : Int} {n : Nat} (h : WS σ most B C n st k s) (hk : k' ≤ k) : WS σ most B C n st k' s := by
  obtain ⟨a1, a2, a3, a4, a5⟩ := h
  exact ⟨a1, a2, a3, by omega, by omega⟩
theorem WS.nx {σ s w : SM} {most B C st k kv ke k' r : Int} {n : Nat} {R : RS} (h : WS σ most B C n st k s) (hw : WP B C kv ke s st R r w) (h1 : st ≤ R.1 ∧ R.1 ≤ most) (h2 : R.2.1 = 0 ∧ R.2.2.1 = -9) (hk : kv + k' ≤ k ∧ ke + k' ≤ k) : WS σ most B C n R.1 k' w := by
  obtain ⟨a1, a2, a3, a4, a5⟩ := h
  obtain ⟨b1, b2, b3, b4, b5⟩ := hw
  exact ⟨a1.tr b1.1, ⟨b4.1, by omega, by omega, by omega⟩, by omega, by omega, by omega⟩
/-- the ground of a working -/
def WCX (σ : SM) (t : Term) (most B C : Int) : Prop := (SHT σ t ∧ NB σ ∧ RSN σ t) ∧ σ.1 57 = most ∧ (0 ≤ most ∧ most ≤ 300) ∧ ((σ.1 55 = 0 ∨ σ.1 55 = 1) ∧ 1300 * σ.1 55 ≤ B ∧ 640 * σ.1 55 ≤ C) ∧ ∀ b, 0 ≤ b → b < σ.1 8 → σ.2 42 b = 0 ∨ (b < σ.2 42 b - 1 ∧ σ.2 42 b - 1 < σ.1 8)
/-- the other half -/
def OLDH (σ : SM) (lo hi elo ehi : Int) : Prop := (0 ≤ lo ∧ hi ≤ 2600 ∧ 0 ≤ elo ∧ ehi ≤ 1280) ∧ (hi ≤ 1300 * σ.1 55 ∨ 1300 * σ.1 55 + 1300 ≤ lo) ∧ (ehi ≤ 640 * σ.1 55 ∨ 640 * σ.1 55 + 640 ≤ elo)
section
variable {iv : List (Int × Int)} {L : Nat} {h0 : MH} {σ s : SM} {t : Term} {d n : Nat} {most B C st k : Int}
theorem WCX.bc (h : WCX σ t most B C) : (0 ≤ most ∧ most ≤ 300) ∧ ((σ.1 55 = 0 ∨ σ.1 55 = 1) ∧ 1300 * σ.1 55 ≤ B ∧ 640 * σ.1 55 ≤ C) := ⟨h.2.2.1, h.2.2.2.1⟩
/-- a new value -/
theorem wp_new {kk nn a b e : Int} {V : Term} {F : Int → SM → Prop} (hX : WCX σ t most B C) (hS : WS σ most B C n st k s) (hk : 0 ≤ k) (hab : kk = 3 → a ≠ -9 → b ≠ -9 → (0 ≤ a ∧ a < 2600) ∧ 0 ≤ b ∧ b < 2600) (hV : ∀ w, VAL s w kk nn a b e → KEEP s w B (s.1 52) C (s.1 54) → (B ≤ s.1 52 ∧ s.1 52 < w.1 52) → w.1 54 = s.1 54 → VR w B (w.1 52) C (w.1 54) V (s.1 52)) (hF : ∀ w, WP B C 1 0 s st (rok st V) (s.1 52) w → F (s.1 52) w) : cm iv L h0 d 121 [vr 307, vi kk, vi nn, vi a, vi b, vi e] s (qi F) := by
  obtain ⟨m1, m2⟩ := hX.bc
  obtain ⟨a1, a2, a3, a4, a5⟩ := hS
  refine val_ok (by omega) hab (fun w hw => hF w ?_)
  obtain ⟨w1, w2, w3, w4⟩ := id hw
  have w54 : w.1 54 = s.1 54 := w1.1 54 (by decide)
  have fr : FRM s w := ⟨w1.up (by decide) (by decide), fun f v hf hv => w3 f v hf (by omega), fun j _ => by rw [w1.2 53 (by decide)]⟩
  refine ⟨fr, ⟨by omega, by show w.1 52 ≤ s.1 52 + 2 * (st - st) + 1; omega⟩, ⟨by omega, by show w.1 54 ≤ s.1 54 + 2 * (st - st) + 0; omega⟩, ⟨?_, w1.1 58 (by decide), ?_, ?_⟩, fun _ => hV w hw (fr.keep (Or.inl (Int.le_refl _)) (Or.inl (Int.le_refl _))) ⟨a4.1, by omega⟩ w54⟩
  · rw [w1.1 56 (by decide)]; exact a2.1
  · rw [w1.1 59 (by decide)]; exact a2.2.2.1
  · rw [w1.1 60 (by decide)]; exact a2.2.2.2
theorem vcel {s w : SM} {kk nn a b e h : Int} (hw : VAL s w kk nn a b e) (hlo : B ≤ s.1 52 ∧ s.1 52 < w.1 52) (hh : h = if 4 ≤ kk ∨ (kk = 3 ∧ a ≠ -9 ∧ b ≠ -9 ∧ (s.2 51 a ≠ 0 ∨ s.2 51 b ≠ 0)) then 1 else 0) : cel w B (w.1 52) (s.1 52) kk nn a b e h := by
  obtain ⟨w1, w2, w3, w4, w5, w6, w7, w8, w9⟩ := hw
  exact ⟨hlo, w4, w5, w6, w7, w8, by rw [hh]; exact w9⟩
/-- it stopped -/
theorem wp_stop {how b : Int} {F : Int → SM → Prop} (hS : WS σ most B C n st k s) (hF : ∀ w, WP B C 0 0 s st (rst st how b) (-9) w → F (-9) w) (hh : how ≠ 0) : cm iv L h0 d 124 [vr 307, vi how, vi b] s (qi F) := by
  obtain ⟨a1, a2, a3, a4, a5⟩ := hS
  refine B124 (hF _ ⟨⟨eqx_us (eqx_us eqx.rf (by decide)) (by decide), fun _ _ _ _ => rfl, fun _ _ => rfl⟩, ⟨Int.le_refl _, by show s.1 52 ≤ s.1 52 + 2 * (st - st) + 0; omega⟩, ⟨Int.le_refl _, by show s.1 54 ≤ s.1 54 + 2 * (st - st) + 0; omega⟩, ⟨a2.1, rfl, rfl, rfl⟩, fun q => absurd q hh⟩)
theorem isLeft_ok {V : Term} {v lo hi elo ehi : Int} {F : Int → SM → Prop} (hv : isV V = true) (h : VR s lo hi elo ehi V v) (h0' : 0 ≤ lo ∧ hi ≤ 2600) (hF : F (if isW V = true then 1 else 0) s) : cm iv L h0 d 125 [vr 307, vi v] s (qi F) := by
  obtain ⟨h1, h2, h3⟩ := VR_kind hv h
  rw [isW_kd hv] at hF
  refine B125 ⟨by omega, fun q => ?_, fun q => ?_⟩
  · rw [decide_eq_false (by omega), if_neg (by decide)] at hF; exact hF
  · rw [decide_eq_true (by omega), if_pos rfl] at hF; exact hF
/-- what is LEFT of an act, or a clash -/
theorem wp_lft {b x y e : Int} {X Y E : Term} {F : Int → SM → Prop} (hX : WCX σ t most B C) (hS : WS σ most B C n st k s) (hk : 0 ≤ k) (hb : 0 ≤ b) (hx : isV X = true ∧ VR s B (s.1 52) C (s.1 54) X x) (hy : (Y = .null ∧ y = -9) ∨ (Y ≠ .null ∧ VR s B (s.1 52) C (s.1 54) Y y)) (he : (E = .null ∧ e = -9) ∨ (E ≠ .null ∧ VR s B (s.1 52) C (s.1 54) E e)) (hF : ∀ w, WP B C 1 0 s st (rok st (.rem (.index b.toNat) (.elem X (.elem Y E)))) (s.1 52) w → F (s.1 52) w) : cm iv L h0 d 121 [vr 307, vi 7, vi b, vi x, vi y, vi e] s (qi F) := by
  refine wp_new hX hS hk (fun q => by omega) (fun w hw hkp hlo h54 => ?_) hF
  have e54 : s.1 54 ≤ w.1 54 := by omega
  have h52 : s.1 52 ≤ w.1 52 := by omega
  refine ⟨x, y, e, ?_, VR_k hx.2 hkp h52 e54, hy.imp id (fun q => ⟨q.1, VR_k q.2 hkp h52 e54⟩), he.imp id (fun q => ⟨q.1, VR_k q.2 hkp h52 e54⟩)⟩
  rw [show ((b.toNat : Nat) : Int) = b by omega]
  exact vcel hw hlo (by rw [if_pos (Or.inl (by decide))])
theorem filling_ok {b : Int} {F : Int → SM → Prop} (hX : WCX σ t most B C) (hs : s.2 42 = σ.2 42) (hb : 0 ≤ b ∧ b < σ.1 8) (hF : F (if fllF (σ.2 42) b = b then -9 else fllF (σ.2 42) b) s) : cm iv L h0 d 130 [vr 307, vi b] s (qi F) := by
  have h8 := hX.1.1.2.2.2.2.1
  have fb := hX.2.2.2.2
  have key : ∀ (n : Nat) (c : Int), 0 ≤ c → c < σ.1 8 → σ.1 8 - c ≤ n → F (if fllN (σ.2 42) n c = b then -9 else fllN (σ.2 42) n c) s → wm iv L h0 d 130 2 [lr 307, li b, li c] [] s (qi F) := by
    intro n
    induction n with
    | zero => intro c c0 c1 hn; omega
    | succ n ih =>
      intro c c0 c1 hn hF
      rw [show fllN (σ.2 42) (n + 1) c = if 0 < σ.2 42 c then fllN (σ.2 42) n (σ.2 42 c - 1) else c from rfl] at hF
      refine B130_2 ⟨by omega, fun q => ?_, fun q => ?_⟩
      · rw [hs] at q
        simp only [if_neg (show ¬ 0 < σ.2 42 c by omega)] at hF
        refine ⟨fun q2 => ?_, fun q2 => ?_⟩
        · rw [if_neg q2] at hF; exact hF
        · rw [if_pos q2] at hF; exact hF
      · rw [hs] at q ⊢
        simp only [if_pos q] at hF
        have := fb c c0 c1
        exact ⟨by omega, ih _ (by omega) (by omega) (by omega) hF⟩
  exact B130 (key 3004 b hb.1 hb.2 (by omega) hF)
/-- a new env: one with a letter more -/
theorem wp_env {a : Int} {E : Term} {F : Int → SM → Prop} (hX : WCX σ t most B C) (hS : WS σ most B C n st k s) (hk : 1 ≤ k) (hE : isE 26 E) (ha : VR s B (s.1 52) C (s.1 54) E a) (hF : ∀ w, WP B C 0 1 s st (rok st E) (s.1 54) w → w.1 54 = s.1 54 + 1 → w.1 52 = s.1 52 → w.2 10 = s.2 10 → w.2 14 = s.2 14 → (∀ y, 0 ≤ y → y < 26 → EL w B (s.1 52) C (s.1 54) E (s.1 54) y) → KEEP s w B (s.1 52) C (s.1 54) → F (s.1 54) w) : cm iv L h0 d 122 [vr 307, vi a] s (qi F) := by
  obtain ⟨m1, m2⟩ := hX.bc
  obtain ⟨a1, a2, a3, a4, a5⟩ := hS
  obtain ⟨c1, c2⟩ := (VR_E 26 E a hE (Nat.le_refl _)).mp ha
  refine newEnv_ok (by omega) (Or.inr (Or.inl ⟨by omega, c1.2⟩)) (fun w hw => ?_)
  obtain ⟨w1, w2, w3, w4⟩ := hw
  have w52 : w.1 52 = s.1 52 := w1.1 52 (by decide)
  have fr : FRM s w := ⟨w1.up (by decide) (by decide), fun f v hf _ => by rw [w1.2 f (by simp; omega)], fun j hj => w3 j (by omega)⟩
  have hkp := fr.keep (lo := B) (elo := C) (Or.inl (Int.le_refl _)) (Or.inl (Int.le_refl _))
  have el : ∀ y, 0 ≤ y → y < 26 → EL w B (s.1 52) C (s.1 54) E (s.1 54) y := fun y y0 y1 => by
    have e := w4 y y0 y1
    rw [if_neg (by omega)] at e
    unfold EL
    rw [e]
    exact (c2 y y0 y1).imp id (fun q => ⟨q.1, VR_k q.2 hkp (Int.le_refl _) (Int.le_refl _)⟩)
  refine hF w ⟨fr, ⟨by omega, by show w.1 52 ≤ s.1 52 + 2 * (st - st) + 0; omega⟩, ⟨by omega, by show w.1 54 ≤ s.1 54 + 2 * (st - st) + 1; omega⟩, ⟨?_, w1.1 58 (by decide), ?_, ?_⟩, fun _ => (VR_E 26 E _ hE (Nat.le_refl _)).mpr ⟨by omega, fun x x0 x1 => ?_⟩⟩ w2 w52 (w1.2 10 (by decide)) (w1.2 14 (by decide)) el hkp
  · rw [w1.1 56 (by decide)]; exact a2.1
  · rw [w1.1 59 (by decide)]; exact a2.2.2.1
  · rw [w1.1 60 (by decide)]; exact a2.2.2.2
  · exact (el x x0 x1).imp id (fun q => ⟨q.1, VR_k q.2 ⟨fun _ _ _ _ _ => rfl, fun _ _ _ => rfl⟩ (by omega) (by omega)⟩)
/-- a letter of the newest env is bound -/
theorem env_put {s w : SM} {x v : Int} {V E : Term} {e : Int} (hw : w = ua s 53 (26 * e + x) v) (hE : isE 26 E) (hx : 0 ≤ x ∧ x < 26) (he : s.1 54 = e + 1) (hV : isV V = true ∧ VR s B (s.1 52) C e V v) (h : ∀ y, 0 ≤ y → y < 26 → EL s B (s.1 52) C e E e y) (hC : C ≤ e) : VR w B (w.1 52) C (w.1 54) (upE E x V) e := by
  subst hw
  have k0 : KEEP s (ua s 53 (26 * e + x) v) B (s.1 52) C e := ⟨fun f u hf _ _ => by rw [ua_2, if_neg (by omega)], fun j j0 j1 => by rw [ua_2, if_neg (by omega)]⟩
  have w54 : (ua s 53 (26 * e + x) v).1 54 = e + 1 := he
  refine (VR_E 26 _ e (upE_is 26 E x V hE) (Nat.le_refl _)).mpr ⟨by omega, fun y y0 y1 => ?_⟩
  unfold EL
  rw [lkE_up 26 E x V y hE hx.1 hx.2, ua_2]
  by_cases q : y = x
  · rw [if_pos q, if_pos ⟨rfl, by omega⟩]
    exact Or.inr ⟨isV_nn hV.1, VR_k hV.2 k0 (Int.le_refl _) (by omega)⟩
  · rw [if_neg q, if_neg (by omega)]
    exact (h y y0 y1).imp id (fun q => ⟨q.1, VR_k q.2 k0 (Int.le_refl _) (by omega)⟩)
/-- a new env with a letter bound -/
theorem wp_bind {a x v : Int} {E V : Term} {F : Int → SM → Prop} (hX : WCX σ t most B C) (hS : WS σ most B C n st k s) (hk : 1 ≤ k) (hE : isE 26 E) (hx : 0 ≤ x ∧ x < 26) (ha : VR s B (s.1 52) C (s.1 54) E a) (hV : isV V = true ∧ VR s B (s.1 52) C (s.1 54) V v) (hF : ∀ w, w.2 10 = s.2 10 → w.2 14 = s.2 14 → WP B C 0 1 s st (rok st (upE E x V)) (s.1 54) (ua w 53 (26 * s.1 54 + x) v) → F (s.1 54) w) : cm iv L h0 d 122 [vr 307, vi a] s (qi F) := by
  have hC := hS.2.2.2.2.1
  refine wp_env hX hS hk hE ha (fun w hw w54 w52 w10 w14 el hkp => hF w w10 w14 ?_)
  obtain ⟨b1, b2, b3, b4, b5⟩ := hw
  refine ⟨⟨b1.1.tr (eqx_ua eqx.rf (by decide)), fun f u hf hu => ?_, fun j hj => ?_⟩, b2, b3, b4, fun _ => ?_⟩
  · rw [ua_2, if_neg (by omega)]; exact b1.2.1 f u hf hu
  · have hj : j < 26 * s.1 54 ∨ 26 * w.1 54 ≤ j := hj
    rw [ua_2, if_neg (by omega)]; exact b1.2.2 j hj
  · exact env_put rfl hE hx w54 ⟨hV.1, by rw [w52]; exact VR_k hV.2 hkp (Int.le_refl _) (Int.le_refl _)⟩ (fun y y0 y1 => by rw [w52]; exact el y y0 y1) hC
end

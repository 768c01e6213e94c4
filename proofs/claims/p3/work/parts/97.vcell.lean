/-! The reference's rows of values and of what is seen. -/
def cel (s : SM) (lo hi v k n a b e h : Int) : Prop := (lo ≤ v ∧ v < hi) ∧ s.2 46 v = k ∧ s.2 47 v = n ∧ s.2 48 v = a ∧ s.2 49 v = b ∧ s.2 50 v = e ∧ s.2 51 v = h
/-- the row v (of an env: e) holds it -/
def VR (s : SM) (lo hi elo ehi : Int) : Term → Int → Prop
  | .int z, v => cel s lo hi v 0 z.toInt (-9) (-9) (-9) 0
  | .arg n, v => cel s lo hi v 1 n (-9) (-9) (-9) 0
  | .index x, v => cel s lo hi v 5 x (-9) (-9) (-9) 1
  | .sub (.index d) E, v => ∃ e, cel s lo hi v 2 d (-9) (-9) e 0 ∧ VR s lo hi elo ehi E e
  | .add A B, v => ∃ a b, cel s lo hi v 3 (-9) a b (-9) (if (hsL A || hsL B) = true then 1 else 0) ∧ VR s lo hi elo ehi A a ∧ VR s lo hi elo ehi B b
  | .div (.index b) E, v => ∃ e, cel s lo hi v 4 b (-9) (-9) e 1 ∧ VR s lo hi elo ehi E e
  | .length A, v => ∃ a, cel s lo hi v 6 (-9) a (-9) (-9) 1 ∧ VR s lo hi elo ehi A a
  | .rem (.index n) (.elem A (.elem B E)), v => ∃ a b e, cel s lo hi v 7 n a b e 1 ∧ VR s lo hi elo ehi A a ∧ ((B = .null ∧ b = -9) ∨ (B ≠ .null ∧ VR s lo hi elo ehi B b)) ∧ ((E = .null ∧ e = -9) ∨ (E ≠ .null ∧ VR s lo hi elo ehi E e))
  | .mul r x, e => (mlen r < 26 ∧ elo ≤ e ∧ e < ehi) ∧ VR s lo hi elo ehi r e ∧ ((x = .null ∧ s.2 53 (26 * e + mlen r) = -9) ∨ (x ≠ .null ∧ VR s lo hi elo ehi x (s.2 53 (26 * e + mlen r))))
  | .null, e => elo ≤ e ∧ e < ehi
  | _, _ => False
/-- cells from lo to hi stay -/
def KEEP (s w : SM) (lo hi elo ehi : Int) : Prop := (∀ f v, (f = 46 ∨ f = 47 ∨ f = 48 ∨ f = 49 ∨ f = 50 ∨ f = 51) → lo ≤ v → v < hi → w.2 f v = s.2 f v) ∧ ∀ j, 26 * elo ≤ j → j < 26 * ehi → w.2 53 j = s.2 53 j
theorem cel_k {s w : SM} {lo hi lo' hi' v k n a b e h elo ehi : Int} (hc : cel s lo hi v k n a b e h) (hk : KEEP s w lo hi elo ehi) (hl : lo' ≤ lo) (hh : hi ≤ hi') : cel w lo' hi' v k n a b e h := by
  obtain ⟨⟨h1, h2⟩, h3, h4, h5, h6, h7, h8⟩ := hc
  refine ⟨⟨by omega, by omega⟩, ?_, ?_, ?_, ?_, ?_, ?_⟩
  · rw [hk.1 46 v (by decide) h1 h2]; exact h3
  · rw [hk.1 47 v (by decide) h1 h2]; exact h4
  · rw [hk.1 48 v (by decide) h1 h2]; exact h5
  · rw [hk.1 49 v (by decide) h1 h2]; exact h6
  · rw [hk.1 50 v (by decide) h1 h2]; exact h7
  · rw [hk.1 51 v (by decide) h1 h2]; exact h8
theorem VR_k0 {s w : SM} {lo hi lo' hi' elo ehi elo' ehi' : Int} (hk : KEEP s w lo hi elo ehi) (hl : lo' ≤ lo) (hh : hi ≤ hi') (hel : elo' ≤ elo) (he : ehi ≤ ehi') : ∀ (n : Nat) (V : Term) (v : Int), SizeOf.sizeOf V < n → VR s lo hi elo ehi V v → VR w lo' hi' elo' ehi' V v := by
  intro n
  induction n with
  | zero => intro V v h; omega
  | succ n ih =>
    intro V v hn h
    have ce : ∀ {k m a b e q : Int}, cel s lo hi v k m a b e q → cel w lo' hi' v k m a b e q := fun h => cel_k h hk hl hh
    cases V with
    | int z => exact ce h
    | arg z => exact ce h
    | index z => exact ce h
    | sub d E =>
      cases d with
      | index d =>
        obtain ⟨e, h1, h2⟩ := h
        exact ⟨e, ce h1, ih E e (by simp at hn; omega) h2⟩
      | _ => exact h.elim
    | add A B =>
      obtain ⟨a, b, h1, h2, h3⟩ := h
      exact ⟨a, b, ce h1, ih A a (by simp at hn; omega) h2, ih B b (by simp at hn; omega) h3⟩
    | div d E =>
      cases d with
      | index d =>
        obtain ⟨e, h1, h2⟩ := h
        exact ⟨e, ce h1, ih E e (by simp at hn; omega) h2⟩
      | _ => exact h.elim
    | length A =>
      obtain ⟨a, h1, h2⟩ := h
      exact ⟨a, ce h1, ih A a (by simp at hn; omega) h2⟩
    | rem d q =>
      cases d with
      | index d =>
        cases q with
        | elem A q =>
          cases q with
          | elem B E =>
            obtain ⟨a, b, e, h1, h2, h3, h4⟩ := h
            refine ⟨a, b, e, ce h1, ih A a (by simp at hn; omega) h2, h3.imp id (fun q => ⟨q.1, ih B b (by simp at hn; omega) q.2⟩), h4.imp id (fun q => ⟨q.1, ih E e (by simp at hn; omega) q.2⟩)⟩
          | _ => exact h.elim
        | _ => exact h.elim
      | _ => exact h.elim
    | mul r x =>
      obtain ⟨⟨h0, h1, h2⟩, h3, h4⟩ := h
      have e53 : w.2 53 (26 * v + mlen r) = s.2 53 (26 * v + mlen r) := hk.2 _ (by omega) (by omega)
      refine ⟨⟨h0, by omega, by omega⟩, ih r v (by simp at hn; omega) h3, ?_⟩
      rw [e53]
      exact h4.imp id (fun q => ⟨q.1, ih x _ (by simp at hn; omega) q.2⟩)
    | null =>
      have h : elo ≤ v ∧ v < ehi := h
      show elo' ≤ v ∧ v < ehi'
      exact ⟨by omega, by omega⟩
    | _ => exact h.elim
theorem VR_k {s w : SM} {lo hi hi' elo ehi ehi' : Int} {V : Term} {v : Int} (h : VR s lo hi elo ehi V v) (hk : KEEP s w lo hi elo ehi) (hh : hi ≤ hi') (he : ehi ≤ ehi') : VR w lo hi' elo ehi' V v := VR_k0 hk (Int.le_refl _) hh (Int.le_refl _) he (SizeOf.sizeOf V + 1) V v (Nat.lt_succ_self _) h
theorem VR_g {s w : SM} {lo hi lo' hi' elo ehi elo' ehi' : Int} {V : Term} {v : Int} (h : VR s lo hi elo ehi V v) (hk : KEEP s w lo hi elo ehi) (hl : lo' ≤ lo) (hh : hi ≤ hi') (hel : elo' ≤ elo) (he : ehi ≤ ehi') : VR w lo' hi' elo' ehi' V v := VR_k0 hk hl hh hel he (SizeOf.sizeOf V + 1) V v (Nat.lt_succ_self _) h
/-- of an env, letter by letter -/
def EL (s : SM) (lo hi elo ehi : Int) (E : Term) (e x : Int) : Prop := (lkE E x = .null ∧ s.2 53 (26 * e + x) = -9) ∨ (lkE E x ≠ .null ∧ VR s lo hi elo ehi (lkE E x) (s.2 53 (26 * e + x)))
theorem VR_E {s : SM} {lo hi elo ehi : Int} : ∀ (n : Nat) (E : Term) (e : Int), isE n E → n ≤ 26 → (VR s lo hi elo ehi E e ↔ ((elo ≤ e ∧ e < ehi) ∧ ∀ x : Int, 0 ≤ x → x < n → EL s lo hi elo ehi E e x)) := by
  intro n
  induction n with
  | zero =>
    intro E e h _
    cases E with
    | null => exact ⟨fun q => ⟨q, fun x x0 x1 => by omega⟩, fun q => q.1⟩
    | _ => exact h.elim
  | succ n ih =>
    intro E e h hn
    cases E with
    | mul r y =>
      have hr : isE n r := h
      have hl := isE_len n r hr
      have i1 := ih r e hr (by omega)
      have lk : ∀ x, lkE (.mul r y) x = if (mlen r : Int) = x then y else lkE r x := fun x => rfl
      constructor
      · rintro ⟨⟨h0, h1, h2⟩, h3, h4⟩
        refine ⟨⟨h1, h2⟩, fun x x0 x1 => ?_⟩
        unfold EL
        rw [lk]
        by_cases q : (mlen r : Int) = x
        · rw [if_pos q, ← q]; exact h4
        · rw [if_neg q]
          exact (i1.mp h3).2 x x0 (by omega)
      · rintro ⟨⟨h1, h2⟩, h3⟩
        refine ⟨⟨by omega, h1, h2⟩, i1.mpr ⟨⟨h1, h2⟩, fun x x0 x1 => ?_⟩, ?_⟩
        · have := h3 x x0 (by omega)
          unfold EL at this ⊢
          rw [lk, if_neg (by omega)] at this
          exact this
        · have := h3 (mlen r) (by omega) (by omega)
          unfold EL at this
          rw [lk, if_pos rfl] at this
          exact this
    | _ => exact h.elim
/-- a new value's cells -/
def VAL (s w : SM) (k n a b e : Int) : Prop := eqx [52] [46, 47, 48, 49, 50, 51] s w ∧ w.1 52 = s.1 52 + 1 ∧ (∀ f v, (f = 46 ∨ f = 47 ∨ f = 48 ∨ f = 49 ∨ f = 50 ∨ f = 51) → v ≠ s.1 52 → w.2 f v = s.2 f v) ∧ w.2 46 (s.1 52) = k ∧ w.2 47 (s.1 52) = n ∧ w.2 48 (s.1 52) = a ∧ w.2 49 (s.1 52) = b ∧ w.2 50 (s.1 52) = e ∧ w.2 51 (s.1 52) = if 4 ≤ k ∨ (k = 3 ∧ a ≠ -9 ∧ b ≠ -9 ∧ (s.2 51 a ≠ 0 ∨ s.2 51 b ≠ 0)) then 1 else 0
section
variable {iv : List (Int × Int)} {L : Nat} {h0 : MH} {s : SM} {t : Term} {d : Nat}
theorem val_ok {k n a b e : Int} {F : Int → SM → Prop} (h52 : 0 ≤ s.1 52 ∧ s.1 52 < 2600) (hab : k = 3 → a ≠ -9 → b ≠ -9 → (0 ≤ a ∧ a < 2600) ∧ 0 ≤ b ∧ b < 2600) (hF : ∀ w, VAL s w k n a b e → F (s.1 52) w) : cm iv L h0 d 121 [vr 307, vi k, vi n, vi a, vi b, vi e] s (qi F) := by
  have fin : ∀ z, z = (if 4 ≤ k ∨ (k = 3 ∧ a ≠ -9 ∧ b ≠ -9 ∧ (s.2 51 a ≠ 0 ∨ s.2 51 b ≠ 0)) then 1 else 0) → F (s.1 52) (ua (ua (ua (ua (ua (ua (us s 52 ((s.1 52) + 1)) 46 (s.1 52) k) 47 (s.1 52) n) 48 (s.1 52) a) 49 (s.1 52) b) 50 (s.1 52) e) 51 (s.1 52) z) := fun z hz => by
    refine hF _ ⟨eqx_ua (eqx_ua (eqx_ua (eqx_ua (eqx_ua (eqx_ua (eqx_us eqx.rf (by decide)) (by decide)) (by decide)) (by decide)) (by decide)) (by decide)) (by decide), rfl, fun f v hf hv => ?_, ?_, ?_, ?_, ?_, ?_, ?_⟩
    · simp [ua_2, us_2, hv]
    · simp [ua_2, us_2]
    · simp [ua_2, us_2]
    · simp [ua_2, us_2]
    · simp [ua_2, us_2]
    · simp [ua_2, us_2]
    · rw [← hz]; simp [ua_2]
  refine B121 ⟨by omega, by omega, fun q => fin 1 ?_, fun q => ⟨fun q2 => fin 0 ?_, fun q2 => ⟨fun q3 => fin 0 ?_, fun q3 => ⟨fun q4 => fin 0 ?_, fun q4 => ?_⟩⟩⟩⟩
  · rw [if_pos (Or.inl q)]
  · rw [if_neg (by omega)]
  · rw [if_neg (by omega)]
  · rw [if_neg (by omega)]
  · obtain ⟨r1, r2⟩ := hab q2 q3 q4
    refine ⟨r1, fun q5 => fin 1 ?_, fun q5 => ⟨r2, fun q6 => fin 0 ?_, fun q6 => fin 1 ?_⟩⟩
    · rw [if_pos (Or.inr ⟨q2, q3, q4, Or.inl q5⟩)]
    · rw [if_neg (by omega)]
    · rw [if_pos (Or.inr ⟨q2, q3, q4, Or.inr q6⟩)]
/-- a new env -/
def NEW (s w : SM) (a : Int) : Prop := eqx [54] [53] s w ∧ w.1 54 = s.1 54 + 1 ∧ (∀ j, j < 26 * s.1 54 ∨ 26 * s.1 54 + 26 ≤ j → w.2 53 j = s.2 53 j) ∧ ∀ x, 0 ≤ x → x < 26 → w.2 53 (26 * s.1 54 + x) = if a = -9 then -9 else s.2 53 (26 * a + x)
theorem newEnv_ok {a : Int} {F : Int → SM → Prop} (h54 : 0 ≤ s.1 54 ∧ s.1 54 < 1280) (ha : a = -9 ∨ (0 ≤ a ∧ a < s.1 54) ∨ (s.1 54 < a ∧ a < 1280)) (hF : ∀ w, NEW s w a → F (s.1 54) w) : cm iv L h0 d 122 [vr 307, vi a] s (qi F) := by
  have key : ∀ (m : Nat) (k : Int) (w : SM), 0 ≤ k → k + m = 26 → eqx [54] [53] s w → w.1 54 = s.1 54 + 1 → (∀ j, j < 26 * s.1 54 ∨ 26 * s.1 54 + k ≤ j → w.2 53 j = s.2 53 j) → (∀ x, 0 ≤ x → x < k → w.2 53 (26 * s.1 54 + x) = if a = -9 then -9 else s.2 53 (26 * a + x)) → wm iv L h0 d 122 17 [lr 307, li a, li (s.1 54), li k] [] w (qi F) := by
    intro m
    induction m with
    | zero =>
      intro k w k0 hk w1 w2 w3 w4
      obtain rfl : k = 26 := by omega
      exact B122_17 ⟨fun _ => hF w ⟨w1, w2, w3, w4⟩, fun q => by omega⟩
    | succ m ih =>
      intro k w k0 hk w1 w2 w3 w4
      have nx : ∀ z, z = (if a = -9 then -9 else s.2 53 (26 * a + k)) → wm iv L h0 d 122 17 [lr 307, li a, li (s.1 54), li (k + 1)] [] (ua w 53 (26 * s.1 54 + k) z) (qi F) := fun z hz => by
        refine ih (k + 1) _ (by omega) (by omega) (eqx_ua w1 (by decide)) w2 (fun j hj => ?_) (fun x x0 x1 => ?_)
        · rw [ua_2, if_neg (by omega)]
          exact w3 j (by omega)
        · rw [ua_2]
          by_cases q : x = k
          · rw [if_pos (by rw [q]; exact ⟨rfl, rfl⟩), q]
            exact hz
          · rw [if_neg (by omega)]
            exact w4 x x0 (by omega)
      refine B122_17 ⟨fun q => by omega, fun _ => ⟨by omega, by omega, fun q => ⟨by omega, by omega, by omega, by omega, by omega, nx _ ?_⟩, fun q => ⟨by omega, by omega, nx _ ?_⟩⟩⟩
      · rw [if_neg q]
        exact w3 _ (by omega)
      · rw [if_pos q]
  exact B122 ⟨by omega, key 26 0 _ (by decide) (by decide) (eqx_us eqx.rf (by decide)) rfl (fun j _ => rfl) (fun x x0 x1 => by omega)⟩
end

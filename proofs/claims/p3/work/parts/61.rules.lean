/-! The rules: an instruction, a row. -/
def rngB (n : Int) : Bool := decide (-2147483648 ≤ n) && decide (n ≤ 2147483647)
theorem rngB_ok {n : Int} (h : rngB n = true) : inR n := by
  unfold rngB at h
  simp only [Bool.and_eq_true, decide_eq_true_eq] at h
  exact h
def wp {S : Type} (iv : List (Int × Int)) (L : Nat) (Rp : S → MH → Prop) (cs : S → Nat × Nat) (d M pc : Nat) (ls : LV) (st : List VV) (s : S) (Q : Option VV → S → Prop) : Prop :=
  okL ls → okS st → ∀ (h : MH) (lc : ML), relL ls lc → Rp s h → ∃ (f : Nat) (v : Option VV) (h' : MH) (k n : Nat) (s' : S), mrun iv (mG L (fun _ => 0)) f d M pc lc (ems st) h 0 0 = some (v.map emb, h', k, n) ∧ (∀ w, v = some w → okV w) ∧ Rp s' h' ∧ (cs s).1 + k = (cs s').1 ∧ (cs s).2 + n = (cs s').2 ∧ Q v s'
/-- what a method comes to, from its entry -/
def wc {S : Type} (iv : List (Int × Int)) (L : Nat) (Rp : S → MH → Prop) (cs : S → Nat × Nat) (d M : Nat) (as : List VV) (s : S) (Q : Option VV → S → Prop) : Prop := wp iv L Rp cs d M 0 (entv as) [] s Q
def qi {S : Type} (F : Int → S → Prop) (v : Option VV) (s : S) : Prop := ∃ z, v = some (vi z) ∧ F z s
def ql {S : Type} (F : Int → S → Prop) (v : Option VV) (s : S) : Prop := ∃ z, v = some (vl z) ∧ F z s
def qa {S : Type} (F : Nat → S → Prop) (v : Option VV) (s : S) : Prop := ∃ a, v = some (vr a) ∧ F a s
def qv {S : Type} (F : S → Prop) (v : Option VV) (s : S) : Prop := v = none ∧ F s
section
variable {S : Type} {iv : List (Int × Int)} {L : Nat} {Rp : S → MH → Prop} {cs : S → Nat × Nat} {d M pc nx x y : Nat} {ls : LV} {st : List VV} {s : S} {Q : Option VV → S → Prop}
theorem wp_mono {d' : Nat} {Q' : Option VV → S → Prop} (h : wp iv L Rp cs d M pc ls st s Q) (hd : d ≤ d') (hq : ∀ v s', Q v s' → Q' v s') : wp iv L Rp cs d' M pc ls st s Q' := by
  intro h1 h2 H lc hl hr
  obtain ⟨f, v, h', k, n, s', q1, q2, q3, q4, q5, q6⟩ := h h1 h2 H lc hl hr
  exact ⟨f, v, h', k, n, s', mrun_f f f d d' _ _ _ _ _ _ _ _ (Nat.le_refl _) hd q1, q2, q3, q4, q5, hq _ _ q6⟩
theorem wc_mono {as : List VV} {d' : Nat} {Q' : Option VV → S → Prop} (h : wc iv L Rp cs d M as s Q) (hd : d ≤ d') (hq : ∀ v s', Q v s' → Q' v s') : wc iv L Rp cs d' M as s Q' := wp_mono h hd hq
theorem wci_mono {as : List VV} {d' : Nat} {F F' : Int → S → Prop} (h : wc iv L Rp cs d M as s (qi F)) (hd : d ≤ d') (hq : ∀ z s', F z s' → F' z s') : wc iv L Rp cs d' M as s (qi F') := wp_mono h hd (fun _ _ ⟨z, e, q⟩ => ⟨z, e, hq _ _ q⟩)
theorem wcv_mono {as : List VV} {d' : Nat} {F F' : S → Prop} (h : wc iv L Rp cs d M as s (qv F)) (hd : d ≤ d') (hq : ∀ s', F s' → F' s') : wc iv L Rp cs d' M as s (qv F') := wp_mono h hd (fun _ _ ⟨e, q⟩ => ⟨e, hq _ q⟩)
theorem wca_mono {as : List VV} {d' : Nat} {F F' : Nat → S → Prop} (h : wc iv L Rp cs d M as s (qa F)) (hd : d ≤ d') (hq : ∀ z s', F z s' → F' z s') : wc iv L Rp cs d' M as s (qa F') := wp_mono h hd (fun _ _ ⟨z, e, q⟩ => ⟨z, e, hq _ _ q⟩)
theorem wp_ls {l2 : LV} (hs : subL ls l2) (h : wp iv L Rp cs d M pc ls st s Q) : wp iv L Rp cs d M pc l2 st s Q := fun h1 h2 H lc hl hr => h (fun i v hv => h1 i v (hs i v hv)) h2 H lc (fun i v hv => hl i v (hs i v hv)) hr
/-- what is known of locals and cells may be used -/
theorem wp_ok (h : okL ls → okS st → (∃ H, Rp s H) → wp iv L Rp cs d M pc ls st s Q) : wp iv L Rp cs d M pc ls st s Q := fun h1 h2 H lc hl hr => h h1 h2 ⟨H, hr⟩ h1 h2 H lc hl hr
theorem ent_mem {v : VV} : ∀ (as : List VV), v ∈ as → ∃ i, lk (entv as) i = some v := by
  intro as
  induction as with
  | nil => intro h; cases h
  | cons w r ih =>
    intro h
    rcases List.mem_cons.mp h with rfl | h
    · exact ⟨0, by rcases v with z | z | z <;> rfl⟩
    · obtain ⟨i, hi⟩ := ih h
      rcases w with z | z | z
      · exact ⟨i + 1, hi⟩
      · exact ⟨i + 2, hi⟩
      · exact ⟨i + 1, hi⟩
theorem wc_ok {as : List VV} (h : okS as → (∃ H, Rp s H) → wc iv L Rp cs d M as s Q) : wc iv L Rp cs d M as s Q := fun h1 h2 H lc hl hr => h (fun v hv => by
  obtain ⟨i, hi⟩ := ent_mem as hv
  exact h1 i v hi) ⟨H, hr⟩ h1 h2 H lc hl hr
/-- one step on, locals too -/
theorem wp_on {i : Instr} {pc' : Nat} {ls' : LV} {st' : List VV} (he : (mG L (fun _ => 0)).1 M pc = some (i, nx, x, y)) (hz : okL ls → okS st → okL ls' ∧ okS st' ∧ ∀ (h : MH) (lc : ML), relL ls lc → ∃ lc', relL ls' lc' ∧ stepI iv (mG L (fun _ => 0)) M pc i nx x y lc (ems st) h = some (.inl (pc', lc', ems st', h, 0, 0)))
    (hw : wp iv L Rp cs d M pc' ls' st' s Q) : wp iv L Rp cs d M pc ls st s Q := by
  intro h1 h2 H lc hl hr
  obtain ⟨h3, h4, h5⟩ := hz h1 h2
  obtain ⟨lc', hl', h6⟩ := h5 H lc hl
  obtain ⟨f, v, h', k, n, s', q1, q2⟩ := hw h3 h4 H lc' hl' hr
  refine ⟨f + 1, v, h', k, n, s', ?_, q2⟩
  rw [mrun_s]
  unfold mstep
  rw [he]
  simp only
  rw [h6]
  exact q1
/-- one step on, the stack alone -/
theorem wp_os {i : Instr} {pc' : Nat} {st' : List VV} (he : (mG L (fun _ => 0)).1 M pc = some (i, nx, x, y)) (hz : okL ls → okS st → okS st' ∧ ∀ (h : MH) (lc : ML), relL ls lc → stepI iv (mG L (fun _ => 0)) M pc i nx x y lc (ems st) h = some (.inl (pc', lc, ems st', h, 0, 0)))
    (hw : wp iv L Rp cs d M pc' ls st' s Q) : wp iv L Rp cs d M pc ls st s Q := wp_on he (fun h1 h2 => ⟨h1, (hz h1 h2).1, fun h lc hl => ⟨lc, hl, (hz h1 h2).2 h lc hl⟩⟩) hw
/-- one step on, cells -/
theorem wp_onh {i : Instr} {pc' : Nat} {st' : List VV} {s1 : S} (he : (mG L (fun _ => 0)).1 M pc = some (i, nx, x, y)) (hz : okS st → ∀ (h : MH) (lc : ML), Rp s h → okS st' ∧ ∃ h1 k1 n1, stepI iv (mG L (fun _ => 0)) M pc i nx x y lc (ems st) h = some (.inl (pc', lc, ems st', h1, k1, n1)) ∧ Rp s1 h1 ∧ (cs s).1 + k1 = (cs s1).1 ∧ (cs s).2 + n1 = (cs s1).2)
    (hw : wp iv L Rp cs d M pc' ls st' s1 Q) : wp iv L Rp cs d M pc ls st s Q := by
  intro h1 h2 H lc hl hr
  obtain ⟨h4, H1, k1, n1, h5, h6, h7, h8⟩ := hz h2 H lc hr
  obtain ⟨f, v, h', k, n, s', q1, q2, q3, q4, q5, q6⟩ := hw h1 h4 H1 lc hl h6
  refine ⟨f + 1, v, h', k1 + k, n1 + n, s', ?_, q2, q3, by omega, by omega, q6⟩
  rw [mrun_s]
  unfold mstep
  rw [he]
  simp only
  rw [h5]
  have q7 := mrun_k _ _ _ _ _ _ _ _ _ _ _ _ _ k1 n1 q1
  simp only [Nat.add_zero, Nat.zero_add] at q7 ⊢
  exact q7
/-- a branch -/
theorem wp_br {i : Instr} {n : Nat} {a b : Int} {st' : List VV} {P : Prop} (he : (mG L (fun _ => 0)).1 M pc = some (i, nx, x, y)) (hz : ∀ (h : MH) (lc : ML), stepI iv (mG L (fun _ => 0)) M pc i nx x y lc (ems st) h = brr n (emb (vi a)) (emb (vi b)) x nx lc (ems st')) (ho : okS st → inR a ∧ inR b ∧ okS st')
    (hp : inR a → inR b → ((ent iv (n, emb (vi a), emb (vi b)) = true ∧ P) ∨ (ent iv (n, emb (vi a), emb (vi b)) = false ∧ ent iv (cno n, emb (vi a), emb (vi b)) = true ∧ ¬ P)))
    (h1 : P → wp iv L Rp cs d M x ls st' s Q) (h2 : ¬ P → wp iv L Rp cs d M nx ls st' s Q) : wp iv L Rp cs d M pc ls st s Q := by
  intro g1 g2 H lc hl hr
  obtain ⟨ha, hb, hs⟩ := ho g2
  rcases hp ha hb with ⟨e1, p1⟩ | ⟨e1, e2, p1⟩
  · obtain ⟨f, v, h', k, n, s', q1, q2⟩ := h1 p1 g1 hs H lc hl hr
    refine ⟨f + 1, v, h', k, n, s', ?_, q2⟩
    rw [mrun_s]
    unfold mstep
    rw [he]
    simp only
    rw [hz H lc]
    unfold brr
    simp only [List.find?_cons, e1]
    exact q1
  · obtain ⟨f, v, h', k, n, s', q1, q2⟩ := h2 p1 g1 hs H lc hl hr
    refine ⟨f + 1, v, h', k, n, s', ?_, q2⟩
    rw [mrun_s]
    unfold mstep
    rw [he]
    simp only
    rw [hz H lc]
    unfold brr
    simp only [List.find?_cons, e1, e2]
    exact q1
theorem okS2 {v w : VV} {st : List VV} (h : okS (v :: w :: st)) : okV w ∧ okV v ∧ okS st := ⟨okS_h (okS_t h), okS_h h, okS_t (okS_t h)⟩
theorem w_icmp_eq {off : Int} {a b : Int} (he : (mG L (fun _ => 0)).1 M pc = some (.if_icmp .eq off, nx, x, y)) (h1 : a = b → wp iv L Rp cs d M x ls st s Q) (h2 : a ≠ b → wp iv L Rp cs d M nx ls st s Q) : wp iv L Rp cs d M pc ls (vi b :: vi a :: st) s Q :=
  wp_br (n := 0) (a := a) (b := b) (st' := st) (P := a = b) he (fun _ _ => rfl) (fun h => okS2 h) (fun ha hb => by
    simp only [ent_i iv _ ha hb, cno, decide_eq_true_eq, decide_eq_false_iff_not]
    omega) h1 (fun h => h2 (by omega))
theorem w_if_eq {off : Int} {a : Int} (he : (mG L (fun _ => 0)).1 M pc = some (.ifCond .eq off, nx, x, y)) (h1 : a = 0 → wp iv L Rp cs d M x ls st s Q) (h2 : a ≠ 0 → wp iv L Rp cs d M nx ls st s Q) : wp iv L Rp cs d M pc ls (vi a :: st) s Q :=
  wp_br (n := 0) (a := a) (b := 0) (st' := st) (P := a = 0) he (fun _ _ => rfl) (fun h => ⟨okS_h h, by unfold inR; omega, okS_t h⟩) (fun ha hb => by
    simp only [ent_i iv _ ha hb, cno, decide_eq_true_eq, decide_eq_false_iff_not]
    omega) h1 (fun h => h2 (by omega))
theorem w_icmp_ne {off : Int} {a b : Int} (he : (mG L (fun _ => 0)).1 M pc = some (.if_icmp .ne off, nx, x, y)) (h1 : a ≠ b → wp iv L Rp cs d M x ls st s Q) (h2 : a = b → wp iv L Rp cs d M nx ls st s Q) : wp iv L Rp cs d M pc ls (vi b :: vi a :: st) s Q :=
  wp_br (n := 1) (a := a) (b := b) (st' := st) (P := a ≠ b) he (fun _ _ => rfl) (fun h => okS2 h) (fun ha hb => by
    simp only [ent_i iv _ ha hb, cno, decide_eq_true_eq, decide_eq_false_iff_not]
    omega) h1 (fun h => h2 (by omega))
theorem w_if_ne {off : Int} {a : Int} (he : (mG L (fun _ => 0)).1 M pc = some (.ifCond .ne off, nx, x, y)) (h1 : a ≠ 0 → wp iv L Rp cs d M x ls st s Q) (h2 : a = 0 → wp iv L Rp cs d M nx ls st s Q) : wp iv L Rp cs d M pc ls (vi a :: st) s Q :=
  wp_br (n := 1) (a := a) (b := 0) (st' := st) (P := a ≠ 0) he (fun _ _ => rfl) (fun h => ⟨okS_h h, by unfold inR; omega, okS_t h⟩) (fun ha hb => by
    simp only [ent_i iv _ ha hb, cno, decide_eq_true_eq, decide_eq_false_iff_not]
    omega) h1 (fun h => h2 (by omega))
theorem w_icmp_lt {off : Int} {a b : Int} (he : (mG L (fun _ => 0)).1 M pc = some (.if_icmp .lt off, nx, x, y)) (h1 : a < b → wp iv L Rp cs d M x ls st s Q) (h2 : b ≤ a → wp iv L Rp cs d M nx ls st s Q) : wp iv L Rp cs d M pc ls (vi b :: vi a :: st) s Q :=
  wp_br (n := 2) (a := a) (b := b) (st' := st) (P := a < b) he (fun _ _ => rfl) (fun h => okS2 h) (fun ha hb => by
    simp only [ent_i iv _ ha hb, cno, decide_eq_true_eq, decide_eq_false_iff_not]
    omega) h1 (fun h => h2 (by omega))
theorem w_if_lt {off : Int} {a : Int} (he : (mG L (fun _ => 0)).1 M pc = some (.ifCond .lt off, nx, x, y)) (h1 : a < 0 → wp iv L Rp cs d M x ls st s Q) (h2 : 0 ≤ a → wp iv L Rp cs d M nx ls st s Q) : wp iv L Rp cs d M pc ls (vi a :: st) s Q :=
  wp_br (n := 2) (a := a) (b := 0) (st' := st) (P := a < 0) he (fun _ _ => rfl) (fun h => ⟨okS_h h, by unfold inR; omega, okS_t h⟩) (fun ha hb => by
    simp only [ent_i iv _ ha hb, cno, decide_eq_true_eq, decide_eq_false_iff_not]
    omega) h1 (fun h => h2 (by omega))
theorem w_icmp_ge {off : Int} {a b : Int} (he : (mG L (fun _ => 0)).1 M pc = some (.if_icmp .ge off, nx, x, y)) (h1 : b ≤ a → wp iv L Rp cs d M x ls st s Q) (h2 : a < b → wp iv L Rp cs d M nx ls st s Q) : wp iv L Rp cs d M pc ls (vi b :: vi a :: st) s Q :=
  wp_br (n := 3) (a := a) (b := b) (st' := st) (P := b ≤ a) he (fun _ _ => rfl) (fun h => okS2 h) (fun ha hb => by
    simp only [ent_i iv _ ha hb, cno, decide_eq_true_eq, decide_eq_false_iff_not]
    omega) h1 (fun h => h2 (by omega))
theorem w_if_ge {off : Int} {a : Int} (he : (mG L (fun _ => 0)).1 M pc = some (.ifCond .ge off, nx, x, y)) (h1 : 0 ≤ a → wp iv L Rp cs d M x ls st s Q) (h2 : a < 0 → wp iv L Rp cs d M nx ls st s Q) : wp iv L Rp cs d M pc ls (vi a :: st) s Q :=
  wp_br (n := 3) (a := a) (b := 0) (st' := st) (P := 0 ≤ a) he (fun _ _ => rfl) (fun h => ⟨okS_h h, by unfold inR; omega, okS_t h⟩) (fun ha hb => by
    simp only [ent_i iv _ ha hb, cno, decide_eq_true_eq, decide_eq_false_iff_not]
    omega) h1 (fun h => h2 (by omega))
theorem w_icmp_gt {off : Int} {a b : Int} (he : (mG L (fun _ => 0)).1 M pc = some (.if_icmp .gt off, nx, x, y)) (h1 : b < a → wp iv L Rp cs d M x ls st s Q) (h2 : a ≤ b → wp iv L Rp cs d M nx ls st s Q) : wp iv L Rp cs d M pc ls (vi b :: vi a :: st) s Q :=
  wp_br (n := 4) (a := a) (b := b) (st' := st) (P := b < a) he (fun _ _ => rfl) (fun h => okS2 h) (fun ha hb => by
    simp only [ent_i iv _ ha hb, cno, decide_eq_true_eq, decide_eq_false_iff_not]
    omega) h1 (fun h => h2 (by omega))
theorem w_if_gt {off : Int} {a : Int} (he : (mG L (fun _ => 0)).1 M pc = some (.ifCond .gt off, nx, x, y)) (h1 : 0 < a → wp iv L Rp cs d M x ls st s Q) (h2 : a ≤ 0 → wp iv L Rp cs d M nx ls st s Q) : wp iv L Rp cs d M pc ls (vi a :: st) s Q :=
  wp_br (n := 4) (a := a) (b := 0) (st' := st) (P := 0 < a) he (fun _ _ => rfl) (fun h => ⟨okS_h h, by unfold inR; omega, okS_t h⟩) (fun ha hb => by
    simp only [ent_i iv _ ha hb, cno, decide_eq_true_eq, decide_eq_false_iff_not]
    omega) h1 (fun h => h2 (by omega))
theorem w_icmp_le {off : Int} {a b : Int} (he : (mG L (fun _ => 0)).1 M pc = some (.if_icmp .le off, nx, x, y)) (h1 : a ≤ b → wp iv L Rp cs d M x ls st s Q) (h2 : b < a → wp iv L Rp cs d M nx ls st s Q) : wp iv L Rp cs d M pc ls (vi b :: vi a :: st) s Q :=
  wp_br (n := 5) (a := a) (b := b) (st' := st) (P := a ≤ b) he (fun _ _ => rfl) (fun h => okS2 h) (fun ha hb => by
    simp only [ent_i iv _ ha hb, cno, decide_eq_true_eq, decide_eq_false_iff_not]
    omega) h1 (fun h => h2 (by omega))
theorem w_if_le {off : Int} {a : Int} (he : (mG L (fun _ => 0)).1 M pc = some (.ifCond .le off, nx, x, y)) (h1 : a ≤ 0 → wp iv L Rp cs d M x ls st s Q) (h2 : 0 < a → wp iv L Rp cs d M nx ls st s Q) : wp iv L Rp cs d M pc ls (vi a :: st) s Q :=
  wp_br (n := 5) (a := a) (b := 0) (st' := st) (P := a ≤ 0) he (fun _ _ => rfl) (fun h => ⟨okS_h h, by unfold inR; omega, okS_t h⟩) (fun ha hb => by
    simp only [ent_i iv _ ha hb, cno, decide_eq_true_eq, decide_eq_false_iff_not]
    omega) h1 (fun h => h2 (by omega))
theorem w_iload_n {k : Fin 4} {z : Int} (he : (mG L (fun _ => 0)).1 M pc = some (.iload_n k, nx, x, y)) (hl : lk ls k.val = some (vi z)) (hw : wp iv L Rp cs d M nx ls (vi z :: st) s Q) : wp iv L Rp cs d M pc ls st s Q :=
  wp_os he (fun h1 h2 => ⟨okS_c (h1 _ _ hl) h2, fun h lc hlc => by
    show stload lc k.val nx (ems st) h isI = _
    unfold stload
    rw [hlc _ _ hl]
    simp only
    rw [if_pos (show isI (emb (vi z)) = true from rfl)]
    rfl⟩) hw
theorem w_iload {k : Nat} {z : Int} (he : (mG L (fun _ => 0)).1 M pc = some (.iload k, nx, x, y)) (hl : lk ls k = some (vi z)) (hw : wp iv L Rp cs d M nx ls (vi z :: st) s Q) : wp iv L Rp cs d M pc ls st s Q :=
  wp_os he (fun h1 h2 => ⟨okS_c (h1 _ _ hl) h2, fun h lc hlc => by
    show stload lc k nx (ems st) h isI = _
    unfold stload
    rw [hlc _ _ hl]
    simp only
    rw [if_pos (show isI (emb (vi z)) = true from rfl)]
    rfl⟩) hw
theorem w_lload_n {k : Fin 4} {z : Int} (he : (mG L (fun _ => 0)).1 M pc = some (.lload_n k, nx, x, y)) (hl : lk ls k.val = some (vl z)) (hw : wp iv L Rp cs d M nx ls (vl z :: st) s Q) : wp iv L Rp cs d M pc ls st s Q :=
  wp_os he (fun h1 h2 => ⟨okS_c (h1 _ _ hl) h2, fun h lc hlc => by
    show stload lc k.val nx (ems st) h isL = _
    unfold stload
    rw [hlc _ _ hl]
    simp only
    rw [if_pos (show isL (emb (vl z)) = true from rfl)]
    rfl⟩) hw
theorem w_lload {k : Nat} {z : Int} (he : (mG L (fun _ => 0)).1 M pc = some (.lload k, nx, x, y)) (hl : lk ls k = some (vl z)) (hw : wp iv L Rp cs d M nx ls (vl z :: st) s Q) : wp iv L Rp cs d M pc ls st s Q :=
  wp_os he (fun h1 h2 => ⟨okS_c (h1 _ _ hl) h2, fun h lc hlc => by
    show stload lc k nx (ems st) h isL = _
    unfold stload
    rw [hlc _ _ hl]
    simp only
    rw [if_pos (show isL (emb (vl z)) = true from rfl)]
    rfl⟩) hw
theorem w_aload_n {k : Fin 4} {z : Nat} (he : (mG L (fun _ => 0)).1 M pc = some (.aload_n k, nx, x, y)) (hl : lk ls k.val = some (vr z)) (hw : wp iv L Rp cs d M nx ls (vr z :: st) s Q) : wp iv L Rp cs d M pc ls st s Q :=
  wp_os he (fun h1 h2 => ⟨okS_c (h1 _ _ hl) h2, fun h lc hlc => by
    show stload lc k.val nx (ems st) h isR = _
    unfold stload
    rw [hlc _ _ hl]
    simp only
    rw [if_pos (show isR (emb (vr z)) = true from isR_em z)]
    rfl⟩) hw
theorem w_aload {k : Nat} {z : Nat} (he : (mG L (fun _ => 0)).1 M pc = some (.aload k, nx, x, y)) (hl : lk ls k = some (vr z)) (hw : wp iv L Rp cs d M nx ls (vr z :: st) s Q) : wp iv L Rp cs d M pc ls st s Q :=
  wp_os he (fun h1 h2 => ⟨okS_c (h1 _ _ hl) h2, fun h lc hlc => by
    show stload lc k nx (ems st) h isR = _
    unfold stload
    rw [hlc _ _ hl]
    simp only
    rw [if_pos (show isR (emb (vr z)) = true from isR_em z)]
    rfl⟩) hw
theorem w_istore_n {k : Fin 4} {z : Int} (he : (mG L (fun _ => 0)).1 M pc = some (.istore_n k, nx, x, y)) (hk : Nat.blt k.val ((mG L (fun _ => 0)).2.1 M) = true) (hw : wp iv L Rp cs d M nx (st1 ls k.val (vi z)) st s Q) : wp iv L Rp cs d M pc ls (vi z :: st) s Q :=
  wp_on he (fun h1 h2 => ⟨okL_1 h1 (okS_h h2), okS_t h2, fun h lc hlc => ⟨_, relL_1 hlc _ _, by
    show (if isI (emb (vi z)) && decide (k.val < (mG L (fun _ => 0)).2.1 M) then okk nx (sto1 lc k.val (emb (vi z))) (ems st) h else none) = _
    rw [if_pos (by rw [show isI (emb (vi z)) = true from rfl, decide_eq_true (show _ < _ from Nat.le_of_ble_eq_true hk)]; rfl)]
    rfl⟩⟩) hw
theorem w_istore {k : Nat} {z : Int} (he : (mG L (fun _ => 0)).1 M pc = some (.istore k, nx, x, y)) (hk : Nat.blt k ((mG L (fun _ => 0)).2.1 M) = true) (hw : wp iv L Rp cs d M nx (st1 ls k (vi z)) st s Q) : wp iv L Rp cs d M pc ls (vi z :: st) s Q :=
  wp_on he (fun h1 h2 => ⟨okL_1 h1 (okS_h h2), okS_t h2, fun h lc hlc => ⟨_, relL_1 hlc _ _, by
    show (if isI (emb (vi z)) && decide (k < (mG L (fun _ => 0)).2.1 M) then okk nx (sto1 lc k (emb (vi z))) (ems st) h else none) = _
    rw [if_pos (by rw [show isI (emb (vi z)) = true from rfl, decide_eq_true (show _ < _ from Nat.le_of_ble_eq_true hk)]; rfl)]
    rfl⟩⟩) hw
theorem w_astore_n {k : Fin 4} {z : Nat} (he : (mG L (fun _ => 0)).1 M pc = some (.astore_n k, nx, x, y)) (hk : Nat.blt k.val ((mG L (fun _ => 0)).2.1 M) = true) (hw : wp iv L Rp cs d M nx (st1 ls k.val (vr z)) st s Q) : wp iv L Rp cs d M pc ls (vr z :: st) s Q :=
  wp_on he (fun h1 h2 => ⟨okL_1 h1 (okS_h h2), okS_t h2, fun h lc hlc => ⟨_, relL_1 hlc _ _, by
    show (if isR (emb (vr z)) && decide (k.val < (mG L (fun _ => 0)).2.1 M) then okk nx (sto1 lc k.val (emb (vr z))) (ems st) h else none) = _
    rw [if_pos (by rw [show isR (emb (vr z)) = true from isR_em z, decide_eq_true (show _ < _ from Nat.le_of_ble_eq_true hk)]; rfl)]
    rfl⟩⟩) hw
theorem w_astore {k : Nat} {z : Nat} (he : (mG L (fun _ => 0)).1 M pc = some (.astore k, nx, x, y)) (hk : Nat.blt k ((mG L (fun _ => 0)).2.1 M) = true) (hw : wp iv L Rp cs d M nx (st1 ls k (vr z)) st s Q) : wp iv L Rp cs d M pc ls (vr z :: st) s Q :=
  wp_on he (fun h1 h2 => ⟨okL_1 h1 (okS_h h2), okS_t h2, fun h lc hlc => ⟨_, relL_1 hlc _ _, by
    show (if isR (emb (vr z)) && decide (k < (mG L (fun _ => 0)).2.1 M) then okk nx (sto1 lc k (emb (vr z))) (ems st) h else none) = _
    rw [if_pos (by rw [show isR (emb (vr z)) = true from isR_em z, decide_eq_true (show _ < _ from Nat.le_of_ble_eq_true hk)]; rfl)]
    rfl⟩⟩) hw
theorem w_lstore_n {k : Fin 4} {z : Int} (he : (mG L (fun _ => 0)).1 M pc = some (.lstore_n k, nx, x, y)) (hk : Nat.blt (k.val + 1) ((mG L (fun _ => 0)).2.1 M) = true) (hw : wp iv L Rp cs d M nx (st2 ls k.val (vl z)) st s Q) : wp iv L Rp cs d M pc ls (vl z :: st) s Q :=
  wp_on he (fun h1 h2 => ⟨okL_2 (v := vl z) h1 trivial, okS_t h2, fun h lc hlc => ⟨_, relL_2 hlc _ _, by
    show (if isL (emb (vl z)) && decide (k.val + 1 < (mG L (fun _ => 0)).2.1 M) then okk nx (sto2 lc k.val (emb (vl z))) (ems st) h else none) = _
    rw [if_pos (by rw [show isL (emb (vl z)) = true from rfl, decide_eq_true (show _ < _ from Nat.le_of_ble_eq_true hk)]; rfl)]
    rfl⟩⟩) hw
theorem w_lstore {k : Nat} {z : Int} (he : (mG L (fun _ => 0)).1 M pc = some (.lstore k, nx, x, y)) (hk : Nat.blt (k + 1) ((mG L (fun _ => 0)).2.1 M) = true) (hw : wp iv L Rp cs d M nx (st2 ls k (vl z)) st s Q) : wp iv L Rp cs d M pc ls (vl z :: st) s Q :=
  wp_on he (fun h1 h2 => ⟨okL_2 (v := vl z) h1 trivial, okS_t h2, fun h lc hlc => ⟨_, relL_2 hlc _ _, by
    show (if isL (emb (vl z)) && decide (k + 1 < (mG L (fun _ => 0)).2.1 M) then okk nx (sto2 lc k (emb (vl z))) (ems st) h else none) = _
    rw [if_pos (by rw [show isL (emb (vl z)) = true from rfl, decide_eq_true (show _ < _ from Nat.le_of_ble_eq_true hk)]; rfl)]
    rfl⟩⟩) hw
theorem w_iconst {n : Int} (he : (mG L (fun _ => 0)).1 M pc = some (.iconst n, nx, x, y)) (hn : rngB n = true) (hw : wp iv L Rp cs d M nx ls (vi n :: st) s Q) : wp iv L Rp cs d M pc ls (st) s Q :=
  wp_os he (fun h1 h2 => ⟨okS_ci (rngB_ok hn) h2, fun h lc _ => rfl⟩) hw
theorem w_bipush {n : Int} (he : (mG L (fun _ => 0)).1 M pc = some (.bipush n, nx, x, y)) (hn : (Int8.ofInt n).toInt32 = Int32.ofInt n) (hr : rngB n = true) (hw : wp iv L Rp cs d M nx ls (vi n :: st) s Q) : wp iv L Rp cs d M pc ls st s Q :=
  wp_os he (fun h1 h2 => ⟨okS_ci (rngB_ok hr) h2, fun h lc _ => by
    show okk nx (lc) (.int (Int8.ofInt n).toInt32 :: ems st) h = _
    rw [hn]
    rfl⟩) hw
theorem w_sipush {n : Int} (he : (mG L (fun _ => 0)).1 M pc = some (.sipush n, nx, x, y)) (hn : (Int16.ofInt n).toInt32 = Int32.ofInt n) (hr : rngB n = true) (hw : wp iv L Rp cs d M nx ls (vi n :: st) s Q) : wp iv L Rp cs d M pc ls st s Q :=
  wp_os he (fun h1 h2 => ⟨okS_ci (rngB_ok hr) h2, fun h lc _ => by
    show okk nx (lc) (.int (Int16.ofInt n).toInt32 :: ems st) h = _
    rw [hn]
    rfl⟩) hw
theorem w_lconst {n : Fin 2} {z : Int} (he : (mG L (fun _ => 0)).1 M pc = some (.lconst n, nx, x, y)) (hn : Int64.ofNat (n : Nat) = Int64.ofInt z) (hw : wp iv L Rp cs d M nx ls (vl z :: st) s Q) : wp iv L Rp cs d M pc ls (st) s Q :=
  wp_os he (fun h1 h2 => ⟨okS_c (by exact trivial) h2, fun h lc _ => by show okk nx (lc) (.long (Int64.ofNat (n : Nat)) :: ems st) h = _; rw [hn]; rfl⟩) hw
theorem w_null  (he : (mG L (fun _ => 0)).1 M pc = some (.aconst_null, nx, x, y)) (hw : wp iv L Rp cs d M nx ls (vr 2 :: st) s Q) : wp iv L Rp cs d M pc ls (st) s Q :=
  wp_os he (fun h1 h2 => ⟨okS_c (by exact trivial) h2, fun h lc _ => rfl⟩) hw
theorem w_ldc {n : Nat} {z : Int} (he : (mG L (fun _ => 0)).1 M pc = some (.ldc n, nx, x, y)) (hy : y = 0) (hn : Int32.ofNat x = Int32.ofInt z) (hr : rngB z = true) (hw : wp iv L Rp cs d M nx ls (vi z :: st) s Q) : wp iv L Rp cs d M pc ls (st) s Q :=
  wp_os he (fun h1 h2 => ⟨okS_ci (rngB_ok hr) h2, fun h lc _ => by subst hy; show okk nx (lc) (.int (Int32.ofNat x) :: ems st) h = _; rw [hn]; rfl⟩) hw
theorem w_ldc_w {n : Nat} {z : Int} (he : (mG L (fun _ => 0)).1 M pc = some (.ldc_w n, nx, x, y)) (hy : y = 0) (hn : Int32.ofNat x = Int32.ofInt z) (hr : rngB z = true) (hw : wp iv L Rp cs d M nx ls (vi z :: st) s Q) : wp iv L Rp cs d M pc ls (st) s Q :=
  wp_os he (fun h1 h2 => ⟨okS_ci (rngB_ok hr) h2, fun h lc _ => by subst hy; show okk nx lc (.int (Int32.ofNat x) :: ems st) h = _; rw [hn]; rfl⟩) hw
theorem w_ldcws {n : Nat} (he : (mG L (fun _ => 0)).1 M pc = some (.ldc_w n, nx, x, y)) (hy : y = 1) (hx : x ≠ 2) (hw : wp iv L Rp cs d M nx ls (vr x :: st) s Q) : wp iv L Rp cs d M pc ls (st) s Q :=
  wp_os he (fun h1 h2 => ⟨okS_c (by exact trivial) h2, fun h lc _ => by subst hy; show okk nx lc (.ref x :: ems st) h = _; show _ = some (Sum.inl (nx, lc, emb (vr x) :: ems st, h, 0, 0)); unfold emb; simp only [if_neg hx]; rfl⟩) hw
theorem w_ldcs {n : Nat} (he : (mG L (fun _ => 0)).1 M pc = some (.ldc n, nx, x, y)) (hy : y = 1) (hx : x ≠ 2) (hw : wp iv L Rp cs d M nx ls (vr x :: st) s Q) : wp iv L Rp cs d M pc ls (st) s Q :=
  wp_os he (fun h1 h2 => ⟨okS_c (by exact trivial) h2, fun h lc _ => by subst hy; show okk nx (lc) (.ref x :: ems st) h = _; show _ = some (Sum.inl (nx, lc, emb (vr x) :: ems st, h, 0, 0)); unfold emb; simp only [if_neg hx]; rfl⟩) hw
theorem w_ldc2 {n : Nat} {z : Int} (he : (mG L (fun _ => 0)).1 M pc = some (.ldc2_w n, nx, x, y)) (hn : Int64.ofNat x = Int64.ofInt z) (hw : wp iv L Rp cs d M nx ls (vl z :: st) s Q) : wp iv L Rp cs d M pc ls (st) s Q :=
  wp_os he (fun h1 h2 => ⟨okS_c (by exact trivial) h2, fun h lc _ => by show okk nx (lc) (.long (Int64.ofNat x) :: ems st) h = _; rw [hn]; rfl⟩) hw
theorem w_getst {n : Nat} (he : (mG L (fun _ => 0)).1 M pc = some (.getstatic n, nx, x, y)) (hx : x ≠ 2) (hw : wp iv L Rp cs d M nx ls (vr x :: st) s Q) : wp iv L Rp cs d M pc ls (st) s Q :=
  wp_os he (fun h1 h2 => ⟨okS_c (by exact trivial) h2, fun h lc _ => by show okk nx (lc) (.ref x :: ems st) h = _; show _ = some (Sum.inl (nx, lc, emb (vr x) :: ems st, h, 0, 0)); unfold emb; simp only [if_neg hx]; rfl⟩) hw
theorem w_iadd {a b : Int} (he : (mG L (fun _ => 0)).1 M pc = some (.iadd, nx, x, y)) (hr : inR (a + b)) (hw : wp iv L Rp cs d M nx ls (vi (a + b) :: st) s Q) : wp iv L Rp cs d M pc ls (vi b :: vi a :: st) s Q :=
  wp_os he (fun h1 h2 => ⟨okS_ci hr (okS_t (okS_t h2)), fun h lc _ => by show okk nx (lc) (.int (Int32.ofInt a + Int32.ofInt b) :: ems st) h = _; rw [← Int32.ofInt_add]; rfl⟩) hw
theorem w_iaddw {a b : Int} (he : (mG L (fun _ => 0)).1 M pc = some (.iadd, nx, x, y)) (hw : wp iv L Rp cs d M nx ls (vi (w32 (a + b)) :: st) s Q) : wp iv L Rp cs d M pc ls (vi b :: vi a :: st) s Q :=
  wp_os he (fun h1 h2 => ⟨okS_ci (w32_in _) (okS_t (okS_t h2)), fun h lc _ => by show okk nx (lc) (.int (Int32.ofInt a + Int32.ofInt b) :: ems st) h = some (Sum.inl (nx, lc, .int (Int32.ofInt (w32 (a + b))) :: ems st, h, 0, 0)); rw [← Int32.ofInt_add, w32_of]; rfl⟩) hw
theorem w_isub {a b : Int} (he : (mG L (fun _ => 0)).1 M pc = some (.isub, nx, x, y)) (hr : inR (a - b)) (hw : wp iv L Rp cs d M nx ls (vi (a - b) :: st) s Q) : wp iv L Rp cs d M pc ls (vi b :: vi a :: st) s Q :=
  wp_os he (fun h1 h2 => ⟨okS_ci hr (okS_t (okS_t h2)), fun h lc _ => by show okk nx (lc) (.int (Int32.ofInt a - Int32.ofInt b) :: ems st) h = _; rw [← Int32.ofInt_sub]; rfl⟩) hw
theorem w_isubw {a b : Int} (he : (mG L (fun _ => 0)).1 M pc = some (.isub, nx, x, y)) (hw : wp iv L Rp cs d M nx ls (vi (w32 (a - b)) :: st) s Q) : wp iv L Rp cs d M pc ls (vi b :: vi a :: st) s Q :=
  wp_os he (fun h1 h2 => ⟨okS_ci (w32_in _) (okS_t (okS_t h2)), fun h lc _ => by show okk nx (lc) (.int (Int32.ofInt a - Int32.ofInt b) :: ems st) h = some (Sum.inl (nx, lc, .int (Int32.ofInt (w32 (a - b))) :: ems st, h, 0, 0)); rw [← Int32.ofInt_sub, w32_of]; rfl⟩) hw
theorem w_imul {a b : Int} (he : (mG L (fun _ => 0)).1 M pc = some (.imul, nx, x, y)) (hr : inR (a * b)) (hw : wp iv L Rp cs d M nx ls (vi (a * b) :: st) s Q) : wp iv L Rp cs d M pc ls (vi b :: vi a :: st) s Q :=
  wp_os he (fun h1 h2 => ⟨okS_ci hr (okS_t (okS_t h2)), fun h lc _ => by show okk nx (lc) (.int (Int32.ofInt a * Int32.ofInt b) :: ems st) h = _; rw [← Int32.ofInt_mul]; rfl⟩) hw
theorem w_imulw {a b : Int} (he : (mG L (fun _ => 0)).1 M pc = some (.imul, nx, x, y)) (hw : wp iv L Rp cs d M nx ls (vi (w32 (a * b)) :: st) s Q) : wp iv L Rp cs d M pc ls (vi b :: vi a :: st) s Q :=
  wp_os he (fun h1 h2 => ⟨okS_ci (w32_in _) (okS_t (okS_t h2)), fun h lc _ => by show okk nx (lc) (.int (Int32.ofInt a * Int32.ofInt b) :: ems st) h = some (Sum.inl (nx, lc, .int (Int32.ofInt (w32 (a * b))) :: ems st, h, 0, 0)); rw [← Int32.ofInt_mul, w32_of]; rfl⟩) hw
theorem w_ineg {a : Int} (he : (mG L (fun _ => 0)).1 M pc = some (.ineg, nx, x, y)) (hr : inR (-a)) (hw : wp iv L Rp cs d M nx ls (vi (-a) :: st) s Q) : wp iv L Rp cs d M pc ls (vi a :: st) s Q :=
  wp_os he (fun h1 h2 => ⟨okS_ci hr (okS_t h2), fun h lc _ => by show okk nx (lc) (.int (-Int32.ofInt a) :: ems st) h = _; rw [← Int32.ofInt_neg]; rfl⟩) hw
theorem w_inegw {a : Int} (he : (mG L (fun _ => 0)).1 M pc = some (.ineg, nx, x, y)) (hw : wp iv L Rp cs d M nx ls (vi (w32 (-a)) :: st) s Q) : wp iv L Rp cs d M pc ls (vi a :: st) s Q :=
  wp_os he (fun h1 h2 => ⟨okS_ci (w32_in _) (okS_t h2), fun h lc _ => by show okk nx (lc) (.int (-Int32.ofInt a) :: ems st) h = some (Sum.inl (nx, lc, .int (Int32.ofInt (w32 (-a))) :: ems st, h, 0, 0)); rw [← Int32.ofInt_neg, w32_of]; rfl⟩) hw
theorem i_div {a b : Int} (ha : inR a) (hb : inR b) (hr : inR (a.tdiv b)) : Int32.ofInt a / Int32.ofInt b = Int32.ofInt (a.tdiv b) := by
  apply Int32.toInt.inj
  rw [Int32.toInt_div, i_to ha, i_to hb, i_to hr]
  have h := i_to hr
  rw [Int32.toInt_ofInt] at h
  exact h
theorem i_nz {b : Int} (hb : inR b) (h : b ≠ 0) : ¬ Int32.ofInt b = 0 := fun q => h ((i_eq hb (by unfold inR; omega)).mp q)
theorem w_idiv {a b : Int} (he : (mG L (fun _ => 0)).1 M pc = some (.idiv, nx, x, y)) (hb : b ≠ 0) (hr : inR (a.tdiv b)) (hw : wp iv L Rp cs d M nx ls (vi (a.tdiv b) :: st) s Q) : wp iv L Rp cs d M pc ls (vi b :: vi a :: st) s Q :=
  wp_os he (fun h1 h2 => ⟨okS_ci hr (okS_t (okS_t h2)), fun h lc _ => by show (if Int32.ofInt b = 0 then none else okk nx (lc) (.int (Int32.ofInt a / Int32.ofInt b) :: ems st) h) = _; rw [if_neg (i_nz (okS_h h2) hb), i_div (okS_h (okS_t h2)) (okS_h h2) hr]; rfl⟩) hw
theorem w_irem {a b : Int} (he : (mG L (fun _ => 0)).1 M pc = some (.irem, nx, x, y)) (hb : b ≠ 0) (hq : inR (a.tdiv b)) (hr : inR (a - a.tdiv b * b)) (hw : wp iv L Rp cs d M nx ls (vi (a - a.tdiv b * b) :: st) s Q) : wp iv L Rp cs d M pc ls (vi b :: vi a :: st) s Q :=
  wp_os he (fun h1 h2 => ⟨okS_ci hr (okS_t (okS_t h2)), fun h lc _ => by show (if Int32.ofInt b = 0 then none else okk nx (lc) (.int (Int32.ofInt a - Int32.ofInt a / Int32.ofInt b * Int32.ofInt b) :: ems st) h) = _; rw [if_neg (i_nz (okS_h h2) hb), i_div (okS_h (okS_t h2)) (okS_h h2) hq, ← Int32.ofInt_mul, ← Int32.ofInt_sub]; rfl⟩) hw
theorem w_i2l {a : Int} (he : (mG L (fun _ => 0)).1 M pc = some (.i2l, nx, x, y)) (hw : wp iv L Rp cs d M nx ls (vl a :: st) s Q) : wp iv L Rp cs d M pc ls (vi a :: st) s Q :=
  wp_os he (fun h1 h2 => ⟨okS_c (by exact trivial) (okS_t h2), fun h lc _ => by show okk nx (lc) (.long (Int32.ofInt a).toInt64 :: ems st) h = _; rw [show (Int32.ofInt a).toInt64 = Int64.ofInt a from by rw [← Int64.ofInt_int32ToInt, i_to (okS_h h2)]]; rfl⟩) hw
theorem w_i2b {a : Int} (he : (mG L (fun _ => 0)).1 M pc = some (.i2b, nx, x, y)) (hw : wp iv L Rp cs d M nx ls (vi (w8 a) :: st) s Q) : wp iv L Rp cs d M pc ls (vi a :: st) s Q :=
  wp_os he (fun h1 h2 => ⟨okS_ci (w8_in _) (okS_t h2), fun h lc _ => by show okk nx (lc) (.int (Int32.ofInt a).toInt8.toInt32 :: ems st) h = some (Sum.inl (nx, lc, .int (Int32.ofInt (w8 a)) :: ems st, h, 0, 0)); unfold w8; rw [Int32.ofInt_int8ToInt, Int32.toInt8_ofInt]; rfl⟩) hw
theorem w_l2i {a : Int} (he : (mG L (fun _ => 0)).1 M pc = some (.l2i, nx, x, y)) (hw : wp iv L Rp cs d M nx ls (vi (w32 a) :: st) s Q) : wp iv L Rp cs d M pc ls (vl a :: st) s Q :=
  wp_os he (fun h1 h2 => ⟨okS_ci (w32_in _) (okS_t h2), fun h lc _ => by show okk nx (lc) (.int (Int64.ofInt a).toInt32 :: ems st) h = some (Sum.inl (nx, lc, .int (Int32.ofInt (w32 a)) :: ems st, h, 0, 0)); rw [w32_of, Int64.toInt32_ofInt]; rfl⟩) hw
theorem w_ladd {a b : Int} (he : (mG L (fun _ => 0)).1 M pc = some (.ladd, nx, x, y)) (hw : wp iv L Rp cs d M nx ls (vl (a + b) :: st) s Q) : wp iv L Rp cs d M pc ls (vl b :: vl a :: st) s Q :=
  wp_os he (fun h1 h2 => ⟨okS_c (by exact trivial) (okS_t (okS_t h2)), fun h lc _ => by show okk nx (lc) (.long (Int64.ofInt a + Int64.ofInt b) :: ems st) h = _; rw [← Int64.ofInt_add]; rfl⟩) hw
theorem w_lmul {a b : Int} (he : (mG L (fun _ => 0)).1 M pc = some (.lmul, nx, x, y)) (hw : wp iv L Rp cs d M nx ls (vl (a * b) :: st) s Q) : wp iv L Rp cs d M pc ls (vl b :: vl a :: st) s Q :=
  wp_os he (fun h1 h2 => ⟨okS_c (by exact trivial) (okS_t (okS_t h2)), fun h lc _ => by show okk nx (lc) (.long (Int64.ofInt a * Int64.ofInt b) :: ems st) h = _; rw [← Int64.ofInt_mul]; rfl⟩) hw
theorem w_lneg {a : Int} (he : (mG L (fun _ => 0)).1 M pc = some (.lneg, nx, x, y)) (hw : wp iv L Rp cs d M nx ls (vl (-a) :: st) s Q) : wp iv L Rp cs d M pc ls (vl a :: st) s Q :=
  wp_os he (fun h1 h2 => ⟨okS_c (by exact trivial) (okS_t h2), fun h lc _ => by show okk nx (lc) (.long (-Int64.ofInt a) :: ems st) h = _; rw [← Int64.ofInt_neg]; rfl⟩) hw
theorem l_eq {a b : Int} (ha : inL a) (hb : inL b) : (Int64.ofInt a = Int64.ofInt b) ↔ a = b := ⟨fun h => by rw [← l_to ha, h, l_to hb], fun h => by rw [h]⟩
theorem l_nz {b : Int} (hb : inL b) (h : b ≠ 0) : ¬ Int64.ofInt b = 0 := fun q => h ((l_eq hb (by unfold inL; omega)).mp q)
theorem l_div {a b : Int} (ha : inL a) (hb : inL b) (hr : inL (a.tdiv b)) : Int64.ofInt a / Int64.ofInt b = Int64.ofInt (a.tdiv b) := by
  apply Int64.toInt.inj
  rw [Int64.toInt_div, l_to ha, l_to hb, l_to hr]
  have h := l_to hr
  rw [Int64.toInt_ofInt] at h
  exact h
def lcp (a b : Int) : Int := if b < a then 1 else if a = b then 0 else -1
theorem lcp_ok {a b : Int} (ha : inL a) (hb : inL b) : lg_cmp (Int64.ofInt a) (Int64.ofInt b) = Int32.ofInt (lcp a b) := by
  unfold lg_cmp lcp
  have e1 : (Int64.ofInt a > Int64.ofInt b) ↔ b < a := by rw [gt_iff_lt, Int64.lt_iff_toInt_lt, l_to ha, l_to hb]
  have e2 := l_eq ha hb
  by_cases h1 : b < a
  · rw [if_pos (e1.mpr h1), if_pos h1]; rfl
  · rw [if_neg (fun q => h1 (e1.mp q)), if_neg h1]
    by_cases h2 : a = b
    · simp [h2]
    · have h3 : ¬ Int64.ofInt a = Int64.ofInt b := fun q => h2 (e2.mp q)
      simp [h2, h3]
theorem lcp_in (a b : Int) : inR (lcp a b) := by
  unfold lcp inR
  split
  · omega
  · split <;> omega
theorem w_ldiv {a b : Int} (he : (mG L (fun _ => 0)).1 M pc = some (.ldiv, nx, x, y)) (ha : inL a) (hl : inL b) (hb : b ≠ 0) (hr : inL (a.tdiv b)) (hw : wp iv L Rp cs d M nx ls (vl (a.tdiv b) :: st) s Q) : wp iv L Rp cs d M pc ls (vl b :: vl a :: st) s Q :=
  wp_os he (fun h1 h2 => ⟨okS_c (by exact trivial) (okS_t (okS_t h2)), fun h lc _ => by show (if Int64.ofInt b = 0 then none else okk nx (lc) (.long (Int64.ofInt a / Int64.ofInt b) :: ems st) h) = _; rw [if_neg (l_nz hl hb), l_div ha hl hr]; rfl⟩) hw
theorem w_lrem {a b : Int} (he : (mG L (fun _ => 0)).1 M pc = some (.lrem, nx, x, y)) (ha : inL a) (hl : inL b) (hb : b ≠ 0) (hr : inL (a.tdiv b)) (hw : wp iv L Rp cs d M nx ls (vl (a - a.tdiv b * b) :: st) s Q) : wp iv L Rp cs d M pc ls (vl b :: vl a :: st) s Q :=
  wp_os he (fun h1 h2 => ⟨okS_c (by exact trivial) (okS_t (okS_t h2)), fun h lc _ => by show (if Int64.ofInt b = 0 then none else okk nx (lc) (.long (Int64.ofInt a - Int64.ofInt a / Int64.ofInt b * Int64.ofInt b) :: ems st) h) = _; rw [if_neg (l_nz hl hb), l_div ha hl hr, ← Int64.ofInt_mul, ← Int64.ofInt_sub]; rfl⟩) hw
theorem w_lcmp {a b : Int} (he : (mG L (fun _ => 0)).1 M pc = some (.lcmp, nx, x, y)) (ha : inL a) (hb : inL b) (hw : wp iv L Rp cs d M nx ls (vi (lcp a b) :: st) s Q) : wp iv L Rp cs d M pc ls (vl b :: vl a :: st) s Q :=
  wp_os he (fun h1 h2 => ⟨okS_ci (lcp_in _ _) (okS_t (okS_t h2)), fun h lc _ => by show okk nx (lc) (.int (lg_cmp (Int64.ofInt a) (Int64.ofInt b)) :: ems st) h = _; rw [lcp_ok ha hb]; rfl⟩) hw
theorem cat1_i (z : Int) : cat1 (emb (vi z)) = true := rfl
theorem cat1_a (z : Nat) : cat1 (emb (vr z)) = true := by
  unfold emb
  by_cases h : z = 2
  · simp only [if_pos h]; rfl
  · simp only [if_neg h]; rfl
def is1 (v : VV) : Bool := match v with
  | .inr (.inl _) => false
  | _ => true
theorem cat1_v {v : VV} (h : is1 v = true) : cat1 (emb v) = true := by
  rcases v with z | z | a
  · rfl
  · cases h
  · exact cat1_a a
theorem w_dup {v : VV} (he : (mG L (fun _ => 0)).1 M pc = some (.dup, nx, x, y)) (hv : is1 v = true) (hw : wp iv L Rp cs d M nx ls (v :: v :: st) s Q) : wp iv L Rp cs d M pc ls (v :: st) s Q :=
  wp_os he (fun h1 h2 => ⟨okS_c (okS_h h2) h2, fun h lc _ => by show (if cat1 (emb v) then okk nx (lc) (emb v :: emb v :: ems st) h else none) = _; rw [if_pos (cat1_v hv)]; rfl⟩) hw
theorem w_pop {v : VV} (he : (mG L (fun _ => 0)).1 M pc = some (.pop, nx, x, y)) (hv : is1 v = true) (hw : wp iv L Rp cs d M nx ls (st) s Q) : wp iv L Rp cs d M pc ls (v :: st) s Q :=
  wp_os he (fun h1 h2 => ⟨okS_t h2, fun h lc _ => by show (if cat1 (emb v) then okk nx (lc) (ems st) h else none) = _; rw [if_pos (cat1_v hv)]; rfl⟩) hw
theorem w_dup_x1 {v w : VV} (he : (mG L (fun _ => 0)).1 M pc = some (.dup_x1, nx, x, y)) (hv : is1 v = true) (hw1 : is1 w = true) (hw : wp iv L Rp cs d M nx ls (v :: w :: v :: st) s Q) : wp iv L Rp cs d M pc ls (v :: w :: st) s Q :=
  wp_os he (fun h1 h2 => ⟨okS_c (okS_h h2) (okS_c (okS_h (okS_t h2)) (okS_c (okS_h h2) (okS_t (okS_t h2)))), fun h lc _ => by show (if cat1 (emb v) && cat1 (emb w) then okk nx (lc) (emb v :: emb w :: emb v :: ems st) h else none) = _; rw [cat1_v hv, cat1_v hw1]; rfl⟩) hw
theorem w_dup2 {v w : VV} (he : (mG L (fun _ => 0)).1 M pc = some (.dup2, nx, x, y)) (hv : is1 v = true) (hw1 : is1 w = true) (hw : wp iv L Rp cs d M nx ls (v :: w :: v :: w :: st) s Q) : wp iv L Rp cs d M pc ls (v :: w :: st) s Q :=
  wp_os he (fun h1 h2 => ⟨okS_c (okS_h h2) (okS_c (okS_h (okS_t h2)) h2), fun h lc _ => by show (if cat1 (emb v) && cat1 (emb w) then okk nx (lc) (emb v :: emb w :: emb v :: emb w :: ems st) h else none) = _; rw [cat1_v hv, cat1_v hw1]; rfl⟩) hw
theorem w_goto {n : Int} (he : (mG L (fun _ => 0)).1 M pc = some (.goto n, nx, x, y)) (hw : wp iv L Rp cs d M x ls st s Q) : wp iv L Rp cs d M pc ls st s Q :=
  wp_os he (fun h1 h2 => ⟨h2, fun h lc _ => rfl⟩) hw
theorem w_iinc {k : Nat} {n z : Int} (he : (mG L (fun _ => 0)).1 M pc = some (.iinc k n, nx, x, y)) (hl : lk ls k = some (vi z)) (hk : Nat.blt k ((mG L (fun _ => 0)).2.1 M) = true) (hr : inR (z + n)) (hw : wp iv L Rp cs d M nx (st1 ls k (vi (z + n))) st s Q) : wp iv L Rp cs d M pc ls st s Q :=
  wp_on he (fun h1 h2 => ⟨okL_1 (v := vi _) h1 hr, h2, fun h lc hlc => ⟨_, relL_1 hlc _ _, by
    show (match lkl lc k with
      | some (.int a) => if k < (mG L (fun _ => 0)).2.1 M then okk nx (sto1 lc k (.int (a + Int32.ofInt n))) (ems st) h else none
      | some (.retAddr j) => if decide (k < (mG L (fun _ => 0)).2.1 M) && (decide (j < 4) && (decide (n = -1) && decide (iv.length ≤ 5))) then okk nx (sto1 lc k (.retAddr (j + 8))) (ems st) h else none
      | _ => none) = _
    rw [hlc _ _ hl]
    show (if k < (mG L (fun _ => 0)).2.1 M then okk nx (sto1 lc k (.int (Int32.ofInt z + Int32.ofInt n))) (ems st) h else none) = _
    rw [if_pos (show k < _ from Nat.le_of_ble_eq_true hk), ← Int32.ofInt_add]
    rfl⟩⟩) hw
theorem wp_end {i : Instr} {v : Option VV} (he : (mG L (fun _ => 0)).1 M pc = some (i, nx, x, y)) (hz : ∀ (h : MH) (lc : ML), stepI iv (mG L (fun _ => 0)) M pc i nx x y lc (ems st) h = some (Sum.inr (Sum.inr (Sum.inl (v.map emb))))) (ho : okS st → ∀ w, v = some w → okV w) (hq : Q v s) : wp iv L Rp cs d M pc ls st s Q := by
  intro h1 h2 H lc hl hr
  refine ⟨1, v, H, 0, 0, s, ?_, ho h2, hr, rfl, rfl, hq⟩
  rw [mrun_s]
  unfold mstep
  rw [he]
  simp only
  rw [hz H lc]
theorem w_iret {z : Int} (he : (mG L (fun _ => 0)).1 M pc = some (.ireturn, nx, x, y)) (hty : (mG L (fun _ => 0)).2.2.2.2.2.1 M = some .int) (hq : Q (some (vi z)) s) : wp iv L Rp cs d M pc ls [vi z] s Q :=
  wp_end (v := some (vi z)) he (fun h lc => by
    show (if isI (emb (vi z)) && (match (mG L (fun _ => 0)).2.2.2.2.2.1 M with
      | some ty => fitB ty (emb (vi z))
      | none => false) then some (Sum.inr (Sum.inr (Sum.inl (some (emb (vi z)))))) else none) = _
    rw [hty]
    rfl) (fun h2 w hw => by cases hw; exact okS_h h2) hq
theorem w_iretz {z : Int} (he : (mG L (fun _ => 0)).1 M pc = some (.ireturn, nx, x, y)) (hty : (mG L (fun _ => 0)).2.2.2.2.2.1 M = some .boolean) (hz : z = 0 ∨ z = 1) (hq : Q (some (vi z)) s) : wp iv L Rp cs d M pc ls [vi z] s Q :=
  wp_end (v := some (vi z)) he (fun h lc => by
    show (if isI (emb (vi z)) && (match (mG L (fun _ => 0)).2.2.2.2.2.1 M with
      | some ty => fitB ty (emb (vi z))
      | none => false) then some (Sum.inr (Sum.inr (Sum.inl (some (emb (vi z)))))) else none) = _
    rw [hty]
    rcases hz with rfl | rfl
    · rfl
    · rfl) (fun h2 w hw => by cases hw; exact okS_h h2) hq
theorem w_lret {z : Int} (he : (mG L (fun _ => 0)).1 M pc = some (.lreturn, nx, x, y)) (hty : (mG L (fun _ => 0)).2.2.2.2.2.1 M = some .long) (hq : Q (some (vl z)) s) : wp iv L Rp cs d M pc ls [vl z] s Q :=
  wp_end (v := some (vl z)) he (fun h lc => by
    show (if isL (emb (vl z)) && decide ((mG L (fun _ => 0)).2.2.2.2.2.1 M = some .long) then some (Sum.inr (Sum.inr (Sum.inl (some (emb (vl z)))))) else none) = _
    rw [hty]
    rfl) (fun h2 w hw => by cases hw; exact trivial) hq
theorem w_aret {a : Nat} {C : String} (he : (mG L (fun _ => 0)).1 M pc = some (.areturn, nx, x, y)) (hty : (mG L (fun _ => 0)).2.2.2.2.2.1 M = some (.object C)) (hq : Q (some (vr a)) s) : wp iv L Rp cs d M pc ls [vr a] s Q :=
  wp_end (v := some (vr a)) he (fun h lc => by
    show (if isR (emb (vr a)) && (match (mG L (fun _ => 0)).2.2.2.2.2.1 M with
      | some (.object _) => true
      | _ => false) then some (Sum.inr (Sum.inr (Sum.inl (some (emb (vr a)))))) else none) = _
    rw [hty, isR_em]
    rfl) (fun h2 w hw => by cases hw; exact trivial) hq
theorem w_ret (he : (mG L (fun _ => 0)).1 M pc = some (.return_, nx, x, y)) (hty : (mG L (fun _ => 0)).2.2.2.2.2.1 M = none) (hq : Q none s) : wp iv L Rp cs d M pc ls [] s Q :=
  wp_end (v := none) he (fun h lc => by
    show (if decide ((mG L (fun _ => 0)).2.2.2.2.2.1 M = none) && ([] : List Value).isEmpty then some (Sum.inr (Sum.inr (Sum.inl none))) else none) = _
    rw [hty]
    rfl) (fun _ w hw => by cases hw) hq
theorem mwid_em (st : List VV) : mwid (ems st) = (st.map cat2).sum := by
  unfold mwid ems
  rw [List.map_map]
  congr 1
  exact List.map_congr_left fun v _ => cat_em v
theorem wp_call {i : Instr} {as r : List VV} {cy pc' : Nat} (he : (mG L (fun _ => 0)).1 M pc = some (i, nx, x, y)) (hz : ∀ (h : MH) (lc : ML), Rp s h → stepI iv (mG L (fun _ => 0)) M pc i nx x y lc (ems st) h = some (.inr (.inl (cy, ems as, ems r, pc')))) (ho : okS st → okS as ∧ okS r) (hm : (Nat.ble (r.map cat2).sum 8 && (Nat.ble (as.map cat2).sum ((mG L (fun _ => 0)).2.1 cy) && Nat.ble ((mG L (fun _ => 0)).2.1 cy) 21)) = true)
    (hw : wc iv L Rp cs d cy as s (fun v s' => wp iv L Rp cs (d + 1) M pc' ls (v.toList ++ r) s' Q)) : wp iv L Rp cs (d + 1) M pc ls st s Q := by
  intro h1 h2 H lc hl hr
  obtain ⟨h3, h4⟩ := ho h2
  obtain ⟨f, v, h', k, n, s', q1, q2, q3, q4, q5, q6⟩ := hw (okL_ent as h3) (fun _ h => by cases h) H (ment 0 (ems as)) (fun i v h => by have := relL_ent as 0 i v h; rwa [Nat.zero_add] at this) hr
  have h5 : okS (v.toList ++ r) := fun w hw => by
    rcases List.mem_append.mp hw with h | h
    · exact q2 w (by cases v with
        | none => cases h
        | some u => rw [List.mem_singleton.mp h])
    · exact h4 w h
  have q1 : mrun iv (mG L (fun _ => 0)) f d cy 0 (ment 0 (ems as)) [] H 0 0 = some (v.map emb, h', k, n) := q1
  obtain ⟨f2, v2, h2', k2, n2, s2, p1, p2, p3, p4, p5, p6⟩ := q6 h1 h5 h' lc hl q3
  simp only [Bool.and_eq_true] at hm
  refine ⟨max f f2 + 1, v2, h2', k + k2, n + n2, s2, ?_, p2, p3, by omega, by omega, p6⟩
  rw [mrun_s]
  unfold mstep
  rw [he]
  simp only
  rw [hz H lc hr]
  simp only
  rw [if_pos (by rw [mwid_em, mwid_em]; simp only [Bool.and_eq_true, decide_eq_true_eq]; exact ⟨Nat.le_of_ble_eq_true hm.1, Nat.le_of_ble_eq_true hm.2.1, Nat.le_of_ble_eq_true hm.2.2⟩)]
  rw [mrun_f f (max f f2) d d _ _ _ _ _ _ _ _ (Nat.le_max_left ..) (Nat.le_refl _) q1]
  have p7 := mrun_k _ _ _ _ _ _ _ _ _ _ _ _ _ k n (mrun_f f2 (max f f2) (d + 1) (d + 1) _ _ _ _ _ _ _ _ (Nat.le_max_right ..) (Nat.le_refl _) p1)
  simp only [Nat.add_zero, Nat.zero_add] at p7 ⊢
  rw [← p7]
  congr 1
  unfold ems
  cases v <;> rfl
theorem w_static {n : Nat} {as r : List VV} (he : (mG L (fun _ => 0)).1 M pc = some (.invokestatic n, nx, x, y)) (hx : Nat.beq x 9000 = false) (hs : st = as.reverse ++ r) (hy : y = as.length) (hm : (Nat.ble (r.map cat2).sum 8 && (Nat.ble (as.map cat2).sum ((mG L (fun _ => 0)).2.1 x) && Nat.ble ((mG L (fun _ => 0)).2.1 x) 21)) = true)
    (hw : wc iv L Rp cs d x as s (fun v s' => wp iv L Rp cs (d + 1) M nx ls (v.toList ++ r) s' Q)) : wp iv L Rp cs (d + 1) M pc ls st s Q := by
  subst hs
  subst hy
  refine wp_call he (fun h lc _ => ?_) (fun h => ⟨fun w hw => h w (List.mem_append_left _ (List.mem_reverse.mpr hw)), fun w hw => h w (List.mem_append_right _ hw)⟩) hm hw
  show (if x = 9000 then _ else if as.length ≤ (ems (as.reverse ++ r)).length then some (Sum.inr (Sum.inl (x, ((ems (as.reverse ++ r)).take as.length).reverse, (ems (as.reverse ++ r)).drop as.length, nx))) else none) = _
  have hl : (ems as.reverse).length = as.length := by simp [ems]
  rw [if_neg (by intro h; rw [h] at hx; cases hx), show ems (as.reverse ++ r) = ems as.reverse ++ ems r from List.map_append, if_pos (by rw [List.length_append, hl]; omega), ← hl, List.take_left, List.drop_left]
  simp [ems]
/-! switches -/
def swA (W : Nat → Prop) (a lo : Int) (ts : List Nat) : Prop := match ts with
  | [] => True
  | t :: r => (a = lo → W t) ∧ swA W a (lo + 1) r
theorem swA_at {W : Nat → Prop} {a : Int} : ∀ (ts : List Nat) (lo : Int) (k t : Nat), swA W a lo ts → ts[k]? = some t → a = lo + k → W t := by
  intro ts
  induction ts with
  | nil => intro lo k t _ h _; cases h
  | cons u r ih =>
    intro lo k t h1 h2 h3
    cases k with
    | zero => cases h2; exact h1.1 (by omega)
    | succ k => exact ih (lo + 1) k t h1.2 h2 (by omega)
theorem swA_n {W : Nat → Prop} {a lo : Int} : swA W a lo [] := trivial
theorem swA_c {W : Nat → Prop} {a lo : Int} {t : Nat} {r : List Nat} (h1 : a = lo → W t) (h2 : swA W a (lo + 1) r) : swA W a lo (t :: r) := ⟨h1, h2⟩
theorem swAlts_find (iv : List (Int × Int)) {a : Int} (ha : inR a) : ∀ (ts : List Nat) (lo : Int) (k t : Nat), ts[k]? = some t → a = lo + k → -2147483648 ≤ lo → lo + ts.length ≤ 2147483648 → ∃ c, (swAlts (emb (vi a)) lo ts).find? (fun q => ent iv q.1) = some (c, t) := by
  intro ts
  induction ts with
  | nil => intro lo k t h; cases h
  | cons u r ih =>
    intro lo k t h1 h2 h3 h4
    have h5 : (u :: r).length = r.length + 1 := rfl
    have hlo : inR lo := by unfold inR; omega
    have he : ent iv (0, emb (vi a), Value.int (Int32.ofInt lo)) = decide (a = lo) := ent_i iv 0 ha hlo
    show ∃ c, (((0, emb (vi a), Value.int (Int32.ofInt lo)), u) :: swAlts (emb (vi a)) (lo + 1) r).find? _ = _
    cases k with
    | zero =>
      cases h1
      have h7 : a = lo := by omega
      exact ⟨_, List.find?_cons_of_pos (by show ent iv (0, emb (vi a), Value.int (Int32.ofInt lo)) = true; rw [he, decide_eq_true h7])⟩
    | succ k =>
      have h7 : ¬ a = lo := by omega
      rw [List.find?_cons_of_neg (by show ¬ ent iv (0, emb (vi a), Value.int (Int32.ofInt lo)) = true; rw [he, decide_eq_false h7]; decide)]
      exact ih (lo + 1) k t h1 (by omega) (by omega) (by omega)
theorem w_tsw {dd lo hi : Int} {offs : Array Int} {a : Int} {ts : List Nat} {td : Nat} (he : (mG L (fun _ => 0)).1 M pc = some (.tableswitch dd lo hi offs, nx, x, y)) (h1 : (decide (-2147483648 ≤ lo) && decide (hi ≤ 2147483647)) = true) (h2 : natI ((pc : Int) + dd) = td) (h3 : (offs.toList.map fun o => natI ((pc : Int) + o)) = ts) (h4 : decide (lo + ts.length = hi + 1) = true) (h5 : decide (lo ≤ hi) = true)
    (hd : a < lo ∨ hi < a → wp iv L Rp cs d M td ls st s Q) (hc : swA (fun t => wp iv L Rp cs d M t ls st s Q) a lo ts) : wp iv L Rp cs d M pc ls (vi a :: st) s Q := by
  intro g1 g2 H lc hl hr
  have ha := okS_h g2
  have hg := okS_t g2
  have h1' := h1
  simp only [Bool.and_eq_true, decide_eq_true_eq] at h1'
  have h4 := of_decide_eq_true h4
  have h5 := of_decide_eq_true h5
  have e1 : ent iv (2, emb (vi a), Value.int (Int32.ofInt lo)) = decide (a < lo) := ent_i iv 2 ha (by unfold inR; omega)
  have e2 : ent iv (4, emb (vi a), Value.int (Int32.ofInt hi)) = decide (hi < a) := ent_i iv 4 ha (by unfold inR; omega)
  have key : ∃ (t : Nat) (c : CD), wp iv L Rp cs d M t ls st s Q ∧ (((2, emb (vi a), Value.int (Int32.ofInt lo)), natI ((pc : Int) + dd)) :: ((4, emb (vi a), Value.int (Int32.ofInt hi)), natI ((pc : Int) + dd)) :: swAlts (emb (vi a)) lo (offs.toList.map fun o => natI ((pc : Int) + o))).find? (fun q => ent iv q.1) = some (c, t) := by
    by_cases c1 : a < lo
    · refine ⟨td, (2, emb (vi a), Value.int (Int32.ofInt lo)), hd (Or.inl c1), ?_⟩
      rw [List.find?_cons_of_pos (by show ent iv (2, emb (vi a), Value.int (Int32.ofInt lo)) = true; rw [e1, decide_eq_true c1]), h2]
    · rw [List.find?_cons_of_neg (by show ¬ ent iv (2, emb (vi a), Value.int (Int32.ofInt lo)) = true; rw [e1, decide_eq_false c1]; decide)]
      by_cases c2 : hi < a
      · refine ⟨td, (4, emb (vi a), Value.int (Int32.ofInt hi)), hd (Or.inr c2), ?_⟩
        rw [List.find?_cons_of_pos (by show ent iv (4, emb (vi a), Value.int (Int32.ofInt hi)) = true; rw [e2, decide_eq_true c2]), h2]
      · rw [List.find?_cons_of_neg (by show ¬ ent iv (4, emb (vi a), Value.int (Int32.ofInt hi)) = true; rw [e2, decide_eq_false c2]; decide), h3]
        have hk : (a - lo).toNat < ts.length := by omega
        obtain ⟨c, hf⟩ := swAlts_find iv ha ts lo (a - lo).toNat _ (List.getElem?_eq_getElem hk) (by omega) h1'.1 (by omega)
        exact ⟨_, c, swA_at ts lo (a - lo).toNat _ hc (List.getElem?_eq_getElem hk) (by omega), hf⟩
  obtain ⟨t, c, hw, hf⟩ := key
  obtain ⟨f, v, h', k, n, s', q1, q2⟩ := hw g1 hg H lc hl hr
  refine ⟨f + 1, v, h', k, n, s', ?_, q2⟩
  rw [mrun_s]
  unfold mstep
  rw [he]
  have hz : stepI iv (mG L (fun _ => 0)) M pc (.tableswitch dd lo hi offs) nx x y lc (ems (vi a :: st)) H = some (Sum.inr (Sum.inr (Sum.inr (((2, emb (vi a), Value.int (Int32.ofInt lo)), natI ((pc : Int) + dd)) :: ((4, emb (vi a), Value.int (Int32.ofInt hi)), natI ((pc : Int) + dd)) :: swAlts (emb (vi a)) lo (offs.toList.map fun o => natI ((pc : Int) + o)), lc, ems st)))) := by
    show (if decide (-2147483648 ≤ lo) && decide (hi ≤ 2147483647) then some (Sum.inr (Sum.inr (Sum.inr (((2, emb (vi a), Value.int (Int32.ofInt lo)), natI ((pc : Int) + dd)) :: ((4, emb (vi a), Value.int (Int32.ofInt hi)), natI ((pc : Int) + dd)) :: swAlts (emb (vi a)) lo (offs.toList.map fun o => natI ((pc : Int) + o)), lc, ems st)))) else none) = _
    rw [if_pos h1]
  simp only
  rw [hz]
  simp only
  rw [hf]
  exact q1
/-! texts, the row of parts -/
def strT (a : Nat) : List Int32 := (sstr[a - 8]?).getD []
def slen (a : Nat) : Int := ((strT a).length : Int)
def scat (a : Nat) (i : Int) : Int := ((strT a).getD i.toNat 0).toInt
theorem ns_le : NS0 ≤ sstr.length := by decide
theorem sstr_le : ∀ r ∈ sstr, r.length ≤ 100 := by decide
theorem str_at {a : Nat} (h : 8 ≤ a ∧ a < 8 + NS0) : mext L (fun _ => 0) a = some ((strT a).length, fun j => (strT a).getD j 0) ∧ (strT a).length ≤ 100 := by
  have h1 := ns_le
  have h2 : a - 8 < sstr.length := by omega
  have h3 : strT a = sstr[a - 8] := by unfold strT; rw [List.getElem?_eq_getElem h2]; rfl
  refine ⟨?_, by rw [h3]; exact sstr_le _ (List.getElem_mem h2)⟩
  unfold mext
  rw [if_neg (by omega), if_neg (by omega), if_neg (by omega), h3, List.getElem?_eq_getElem h2]
theorem w_slen {n a : Nat} (he : (mG L (fun _ => 0)).1 M pc = some (.invokevirtual n, nx, 9002, y)) (ha : 8 ≤ a ∧ a < 8 + NS0) (h8 : Nat.ble (st.map cat2).sum 8 = true) (hw : wp iv L Rp cs d M nx ls (vi (slen a) :: st) s Q) : wp iv L Rp cs d M pc ls (vr a :: st) s Q :=
  wp_os he (fun h1 h2 => ⟨okS_c (by have := (str_at (L := L) ha).2; unfold slen okV inR; simp only; omega) (okS_t h2), fun h lc _ => by
    show s1r (emb (vr a) :: ems st) (fun a r => if 8 ≤ a ∧ a < 8 + NS0 then (match (mG L (fun _ => 0)).2.2.1 a with
      | some (n, _) => if mwid r ≤ 8 then okk nx lc (.int (Int32.ofNat n) :: r) h else none
      | none => none) else none) = _
    unfold emb
    simp only [if_neg (show ¬ a = 2 by omega)]
    show (if 8 ≤ a ∧ a < 8 + NS0 then (match mext L (fun _ => 0) a with
      | some (n, _) => if mwid (ems st) ≤ 8 then okk nx lc (.int (Int32.ofNat n) :: ems st) h else none
      | none => none) else none) = _
    rw [if_pos ha, (str_at (L := L) ha).1]
    simp only
    rw [mwid_em, if_pos (Nat.le_of_ble_eq_true h8)]
    show okk nx lc (.int (Int32.ofNat (strT a).length) :: ems st) h = some (Sum.inl (nx, lc, .int (Int32.ofInt (slen a)) :: ems st, h, 0, 0))
    unfold slen
    rw [Int32.ofInt_eq_ofNat]
    rfl⟩) hw
theorem w_sat {n a : Nat} {i : Int} (he : (mG L (fun _ => 0)).1 M pc = some (.invokevirtual n, nx, 9001, y)) (ha : 8 ≤ a ∧ a < 8 + NS0) (hi : 0 ≤ i ∧ i < slen a) (h8 : Nat.ble (st.map cat2).sum 8 = true) (hw : wp iv L Rp cs d M nx ls (vi (scat a i) :: st) s Q) : wp iv L Rp cs d M pc ls (vi i :: vr a :: st) s Q :=
  wp_os he (fun h1 h2 => ⟨okS_c (by
      have h1 := ((strT a).getD i.toNat 0).toInt_lt
      have h2 := ((strT a).getD i.toNat 0).le_toInt
      unfold scat okV inR
      simp only
      omega) (okS_t (okS_t h2)), fun h lc _ => by
    have hr := okS_h h2
    show s1i (.int (Int32.ofInt i) :: emb (vr a) :: ems st) (fun i r => s1r r fun a r => if 8 ≤ a ∧ a < 8 + NS0 then (match (mG L (fun _ => 0)).2.2.1 a with
      | some (n, f) => if vin i n && decide (mwid r ≤ 8) then okk nx lc (.int (f i.toNatClampNeg) :: r) h else none
      | none => none) else none) = _
    unfold emb
    simp only [if_neg (show ¬ a = 2 by omega)]
    show (if 8 ≤ a ∧ a < 8 + NS0 then (match mext L (fun _ => 0) a with
      | some (n, f) => if vin (Int32.ofInt i) n && decide (mwid (ems st) ≤ 8) then okk nx lc (.int (f (Int32.ofInt i).toNatClampNeg) :: ems st) h else none
      | none => none) else none) = _
    rw [if_pos ha, (str_at (L := L) ha).1]
    simp only
    rw [i_vin hr hi.1 hi.2, mwid_em, decide_eq_true (Nat.le_of_ble_eq_true h8), i_cl hr]
    show okk nx lc (.int ((strT a).getD i.toNat 0) :: ems st) h = some (Sum.inl (nx, lc, .int (Int32.ofInt (scat a i)) :: ems st, h, 0, 0))
    unfold scat
    rw [Int32.ofInt_toInt]
    rfl⟩) hw
end

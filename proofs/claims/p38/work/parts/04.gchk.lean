section
/-! The tables of the small machine agree with the claim's bytes and words: a program's check, and that it suffices. -/
/-- a method's bytes, the check of an instruction beside the bytes from there on -/
abbrev CE : Type := List UInt8 × (Nat → EN → List UInt8 → Bool)
def chkS (f : Nat → EN → List UInt8 → Bool) : Nat → List EN → List UInt8 → Bool
  | _, [], _ => true
  | pc, w :: r, l => f pc w l && chkS f (pc + 1) r l.tail
theorem chkS_at {f : Nat → EN → List UInt8 → Bool} : ∀ (ws : List EN) (pc : Nat) (l : List UInt8) (k : Nat) (w : EN), chkS f pc ws l = true → ws[k]? = some w → f (pc + k) w (l.drop k) = true := by
  intro ws
  induction ws with
  | nil => intro pc l k w _ h; cases h
  | cons v r ih =>
    intro pc l k w h hk
    unfold chkS at h
    simp only [Bool.and_eq_true] at h
    cases k with
    | zero =>
      cases hk
      exact h.1
    | succ k =>
      have := ih (pc + 1) l.tail k w h.2 hk
      rw [List.drop_tail] at this
      rwa [show pc + (k + 1) = pc + 1 + k by omega]
def rowB (f : CE) (t : List (List EN)) (a : Nat) : Bool := match t[a]? with
  | some r => chkS f.2 (16 * a) r (f.1.drop (16 * a))
  | none => true
def chkT (f : CE) (t : List (List EN)) : Bool := (List.range t.length).all (rowB f t)
theorem chkT_at {f : CE} {t : List (List EN)} (h : chkT f t = true) {pc : Nat} {w : EN} (hw : l2 t pc = some w) : f.2 pc w (f.1.drop pc) = true := by
  unfold l2 at hw
  cases hr : t[pc / 16]? with
  | none => rw [hr] at hw; cases hw
  | some r =>
    rw [hr] at hw
    have hw : r[pc % 16]? = some w := hw
    have h1 := List.all_eq_true.mp h (pc / 16) (List.mem_range.mpr (List.getElem?_eq_some_iff.mp hr).1)
    unfold rowB at h1
    rw [hr] at h1
    have h2 := chkS_at r (16 * (pc / 16)) _ (pc % 16) w h1 hw
    rw [List.drop_drop, Nat.div_add_mod] at h2
    exact h2
def chkTs (f : CE) (t : List (List EN)) (a0 k : Nat) : Bool := (List.range k).all fun a => rowB f t (a0 + a)
theorem chkTs_at {f : CE} {t : List (List EN)} {a0 k : Nat} (h : chkTs f t a0 k = true) (a : Nat) (h1 : a0 ≤ a) (h2 : a < a0 + k) : rowB f t a = true := by
  have h3 := List.all_eq_true.mp h (a - a0) (List.mem_range.mpr (by omega))
  rwa [show a0 + (a - a0) = a by omega] at h3
theorem chkT_of {f : CE} {t : List (List EN)} {n : Nat} (hn : t.length = n) (h : ∀ a, a < n → rowB f t a = true) : chkT f t = true := List.all_eq_true.mpr fun a ha => h a (by rw [← hn]; exact List.mem_range.mp ha)
def isSw (i : Instr) : Bool := match i with
  | .tableswitch _ _ _ _ => true
  | _ => false
set_option maxRecDepth 16384 in
theorem by_at {bs : ByteArray} {p : Nat} {u : UInt8} {r : List UInt8} (h : bs.data.toList.drop p = u :: r) : ∃ h : p < bs.size, bs[p] = u := by
  have h1 : bs.data.toList[p]? = some u := by rw [← List.head?_drop, h]; rfl
  obtain ⟨h2, h3⟩ := List.getElem?_eq_some_iff.mp h1
  exact ⟨h2, h3⟩
set_option maxRecDepth 16384 in
theorem by_dr {bs : ByteArray} {p : Nat} {u : UInt8} {r : List UInt8} (h : bs.data.toList.drop p = u :: r) : bs.data.toList.drop (p + 1) = r := by
  rw [← List.drop_drop, h]; rfl
set_option maxRecDepth 16384 in
theorem rd1 {α : Type} {f : Nat → Decoder α} {bs : ByteArray} {p : Nat} {u : UInt8} {r : List UInt8} (h : bs.data.toList.drop p = u :: r) : (Reader.u1 >>= f : Decoder α) bs p = f u.toNat bs (p + 1) := by
  obtain ⟨h1, h2⟩ := by_at h
  show ((Reader.u1 : Decoder Nat) bs p >>= fun q => f q.1 bs q.2) = _
  have e : (Reader.u1 : Decoder Nat) bs p = .ok (u.toNat, p + 1) := by
    unfold Reader.u1
    simp only [bind, ReaderT.bind, StateT.bind, Except.bind, MonadReader.read, readThe, MonadReaderOf.read, ReaderT.read, MonadState.get, getThe, MonadStateOf.get, liftM, monadLift, MonadLift.monadLift, StateT.get, Pure.pure, StateT.pure, ReaderT.pure, Except.pure, dif_pos h1, h2]
    rfl
  rw [e]
  rfl
set_option maxRecDepth 16384 in
theorem rd2 {α : Type} {f : Nat → Decoder α} {bs : ByteArray} {p : Nat} {u v : UInt8} {r : List UInt8} (h : bs.data.toList.drop p = u :: v :: r) : (Reader.u2 >>= f : Decoder α) bs p = f (u.toNat * 256 + v.toNat) bs (p + 2) := by
  have e : (Reader.u2 >>= f : Decoder α) bs p = (Reader.u1 >>= fun hi => Reader.u1 >>= fun lo => f (hi * 256 + lo) : Decoder α) bs p := by
    unfold Reader.u2
    simp only [LawfulMonad.bind_assoc, LawfulMonad.pure_bind]
  rw [e, rd1 h, rd1 (by_dr h)]
set_option maxRecDepth 16384 in
theorem rds2 {α : Type} {f : Int → Decoder α} {bs : ByteArray} {p : Nat} {u v : UInt8} {r : List UInt8} (h : bs.data.toList.drop p = u :: v :: r) : (Reader.s2 >>= f : Decoder α) bs p = f (Reader.signed 16 (u.toNat * 256 + v.toNat)) bs (p + 2) := by
  have e : (Reader.s2 >>= f : Decoder α) = (Reader.u2 >>= fun x => f (Reader.signed 16 x) : Decoder α) := by
    unfold Reader.s2
    rw [_root_.bind_map_left]
  rw [e, rd2 h]
set_option maxRecDepth 16384 in
theorem rds1 {α : Type} {f : Int → Decoder α} {bs : ByteArray} {p : Nat} {u : UInt8} {r : List UInt8} (h : bs.data.toList.drop p = u :: r) : (Reader.s1 >>= f : Decoder α) bs p = f (Reader.signed 8 u.toNat) bs (p + 1) := by
  have e : (Reader.s1 >>= f : Decoder α) = (Reader.u1 >>= fun x => f (Reader.signed 8 x) : Decoder α) := by
    unfold Reader.s1
    rw [_root_.bind_map_left]
  rw [e, rd1 h]
set_option maxRecDepth 16384 in
theorem dec_of {bs : ByteArray} {pc k : Nat} {i : Instr} (h : Decoder.instr pc bs pc = .ok (i, pc + k)) : decode bs pc = .ok (i, k) := by
  show (Decoder.instr pc bs pc >>= fun q => .ok (q.1, q.2 - pc)) = _
  rw [h]
  show Except.ok (i, pc + k - pc) = _
  rw [Nat.add_sub_cancel_left]
def q0 (l : List UInt8) (op : Nat) : Bool := match l with
  | u :: _ => Nat.beq u.toNat op
  | _ => false
def q1 (l : List UInt8) (op : Nat) (g : Nat → Bool) : Bool := match l with
  | u :: v :: _ => Nat.beq u.toNat op && g v.toNat
  | _ => false
def q2 (l : List UInt8) (op : Nat) (g : Nat → Bool) : Bool := match l with
  | u :: v :: w :: _ => Nat.beq u.toNat op && g (v.toNat * 256 + w.toNat)
  | _ => false
set_option maxRecDepth 16384 in
theorem q0_ok {l : List UInt8} {op : Nat} (h : q0 l op = true) : ∃ u r, l = u :: r ∧ u.toNat = op := by
  unfold q0 at h
  split at h
  · exact ⟨_, _, rfl, Nat.eq_of_beq_eq_true h⟩
  · cases h
set_option maxRecDepth 16384 in
theorem q1_ok {l : List UInt8} {op : Nat} {g : Nat → Bool} (h : q1 l op g = true) : ∃ u v r, l = u :: v :: r ∧ u.toNat = op ∧ g v.toNat = true := by
  unfold q1 at h
  split at h
  · simp only [Bool.and_eq_true] at h
    exact ⟨_, _, _, rfl, Nat.eq_of_beq_eq_true h.1, h.2⟩
  · cases h
set_option maxRecDepth 16384 in
theorem q2_ok {l : List UInt8} {op : Nat} {g : Nat → Bool} (h : q2 l op g = true) : ∃ u v w r, l = u :: v :: w :: r ∧ u.toNat = op ∧ g (v.toNat * 256 + w.toNat) = true := by
  unfold q2 at h
  split at h
  · simp only [Bool.and_eq_true] at h
    exact ⟨_, _, _, _, rfl, Nat.eq_of_beq_eq_true h.1, h.2⟩
  · cases h
set_option maxRecDepth 16384 in
theorem dq_aconst_null {bs : ByteArray} {pc : Nat} (h : q0 (bs.data.toList.drop pc) 1 = true) : decode bs pc = .ok (.aconst_null, 1) := by
  obtain ⟨u, r, hl, hu⟩ := q0_ok h
  refine dec_of ?_
  unfold Decoder.instr
  rw [rd1 hl, hu]
  rfl
set_option maxRecDepth 16384 in
theorem dq_iaload {bs : ByteArray} {pc : Nat} (h : q0 (bs.data.toList.drop pc) 46 = true) : decode bs pc = .ok (.iaload, 1) := by
  obtain ⟨u, r, hl, hu⟩ := q0_ok h
  refine dec_of ?_
  unfold Decoder.instr
  rw [rd1 hl, hu]
  rfl
set_option maxRecDepth 16384 in
theorem dq_aaload {bs : ByteArray} {pc : Nat} (h : q0 (bs.data.toList.drop pc) 50 = true) : decode bs pc = .ok (.aaload, 1) := by
  obtain ⟨u, r, hl, hu⟩ := q0_ok h
  refine dec_of ?_
  unfold Decoder.instr
  rw [rd1 hl, hu]
  rfl
set_option maxRecDepth 16384 in
theorem dq_baload {bs : ByteArray} {pc : Nat} (h : q0 (bs.data.toList.drop pc) 51 = true) : decode bs pc = .ok (.baload, 1) := by
  obtain ⟨u, r, hl, hu⟩ := q0_ok h
  refine dec_of ?_
  unfold Decoder.instr
  rw [rd1 hl, hu]
  rfl
set_option maxRecDepth 16384 in
theorem dq_iastore {bs : ByteArray} {pc : Nat} (h : q0 (bs.data.toList.drop pc) 79 = true) : decode bs pc = .ok (.iastore, 1) := by
  obtain ⟨u, r, hl, hu⟩ := q0_ok h
  refine dec_of ?_
  unfold Decoder.instr
  rw [rd1 hl, hu]
  rfl
set_option maxRecDepth 16384 in
theorem dq_aastore {bs : ByteArray} {pc : Nat} (h : q0 (bs.data.toList.drop pc) 83 = true) : decode bs pc = .ok (.aastore, 1) := by
  obtain ⟨u, r, hl, hu⟩ := q0_ok h
  refine dec_of ?_
  unfold Decoder.instr
  rw [rd1 hl, hu]
  rfl
set_option maxRecDepth 16384 in
theorem dq_bastore {bs : ByteArray} {pc : Nat} (h : q0 (bs.data.toList.drop pc) 84 = true) : decode bs pc = .ok (.bastore, 1) := by
  obtain ⟨u, r, hl, hu⟩ := q0_ok h
  refine dec_of ?_
  unfold Decoder.instr
  rw [rd1 hl, hu]
  rfl
set_option maxRecDepth 16384 in
theorem dq_pop {bs : ByteArray} {pc : Nat} (h : q0 (bs.data.toList.drop pc) 87 = true) : decode bs pc = .ok (.pop, 1) := by
  obtain ⟨u, r, hl, hu⟩ := q0_ok h
  refine dec_of ?_
  unfold Decoder.instr
  rw [rd1 hl, hu]
  rfl
set_option maxRecDepth 16384 in
theorem dq_pop2 {bs : ByteArray} {pc : Nat} (h : q0 (bs.data.toList.drop pc) 88 = true) : decode bs pc = .ok (.pop2, 1) := by
  obtain ⟨u, r, hl, hu⟩ := q0_ok h
  refine dec_of ?_
  unfold Decoder.instr
  rw [rd1 hl, hu]
  rfl
set_option maxRecDepth 16384 in
theorem dq_dup {bs : ByteArray} {pc : Nat} (h : q0 (bs.data.toList.drop pc) 89 = true) : decode bs pc = .ok (.dup, 1) := by
  obtain ⟨u, r, hl, hu⟩ := q0_ok h
  refine dec_of ?_
  unfold Decoder.instr
  rw [rd1 hl, hu]
  rfl
set_option maxRecDepth 16384 in
theorem dq_dup_x1 {bs : ByteArray} {pc : Nat} (h : q0 (bs.data.toList.drop pc) 90 = true) : decode bs pc = .ok (.dup_x1, 1) := by
  obtain ⟨u, r, hl, hu⟩ := q0_ok h
  refine dec_of ?_
  unfold Decoder.instr
  rw [rd1 hl, hu]
  rfl
set_option maxRecDepth 16384 in
theorem dq_dup2 {bs : ByteArray} {pc : Nat} (h : q0 (bs.data.toList.drop pc) 92 = true) : decode bs pc = .ok (.dup2, 1) := by
  obtain ⟨u, r, hl, hu⟩ := q0_ok h
  refine dec_of ?_
  unfold Decoder.instr
  rw [rd1 hl, hu]
  rfl
set_option maxRecDepth 16384 in
theorem dq_iadd {bs : ByteArray} {pc : Nat} (h : q0 (bs.data.toList.drop pc) 96 = true) : decode bs pc = .ok (.iadd, 1) := by
  obtain ⟨u, r, hl, hu⟩ := q0_ok h
  refine dec_of ?_
  unfold Decoder.instr
  rw [rd1 hl, hu]
  rfl
set_option maxRecDepth 16384 in
theorem dq_ladd {bs : ByteArray} {pc : Nat} (h : q0 (bs.data.toList.drop pc) 97 = true) : decode bs pc = .ok (.ladd, 1) := by
  obtain ⟨u, r, hl, hu⟩ := q0_ok h
  refine dec_of ?_
  unfold Decoder.instr
  rw [rd1 hl, hu]
  rfl
set_option maxRecDepth 16384 in
theorem dq_isub {bs : ByteArray} {pc : Nat} (h : q0 (bs.data.toList.drop pc) 100 = true) : decode bs pc = .ok (.isub, 1) := by
  obtain ⟨u, r, hl, hu⟩ := q0_ok h
  refine dec_of ?_
  unfold Decoder.instr
  rw [rd1 hl, hu]
  rfl
set_option maxRecDepth 16384 in
theorem dq_imul {bs : ByteArray} {pc : Nat} (h : q0 (bs.data.toList.drop pc) 104 = true) : decode bs pc = .ok (.imul, 1) := by
  obtain ⟨u, r, hl, hu⟩ := q0_ok h
  refine dec_of ?_
  unfold Decoder.instr
  rw [rd1 hl, hu]
  rfl
set_option maxRecDepth 16384 in
theorem dq_lmul {bs : ByteArray} {pc : Nat} (h : q0 (bs.data.toList.drop pc) 105 = true) : decode bs pc = .ok (.lmul, 1) := by
  obtain ⟨u, r, hl, hu⟩ := q0_ok h
  refine dec_of ?_
  unfold Decoder.instr
  rw [rd1 hl, hu]
  rfl
set_option maxRecDepth 16384 in
theorem dq_idiv {bs : ByteArray} {pc : Nat} (h : q0 (bs.data.toList.drop pc) 108 = true) : decode bs pc = .ok (.idiv, 1) := by
  obtain ⟨u, r, hl, hu⟩ := q0_ok h
  refine dec_of ?_
  unfold Decoder.instr
  rw [rd1 hl, hu]
  rfl
set_option maxRecDepth 16384 in
theorem dq_ldiv {bs : ByteArray} {pc : Nat} (h : q0 (bs.data.toList.drop pc) 109 = true) : decode bs pc = .ok (.ldiv, 1) := by
  obtain ⟨u, r, hl, hu⟩ := q0_ok h
  refine dec_of ?_
  unfold Decoder.instr
  rw [rd1 hl, hu]
  rfl
set_option maxRecDepth 16384 in
theorem dq_irem {bs : ByteArray} {pc : Nat} (h : q0 (bs.data.toList.drop pc) 112 = true) : decode bs pc = .ok (.irem, 1) := by
  obtain ⟨u, r, hl, hu⟩ := q0_ok h
  refine dec_of ?_
  unfold Decoder.instr
  rw [rd1 hl, hu]
  rfl
set_option maxRecDepth 16384 in
theorem dq_lrem {bs : ByteArray} {pc : Nat} (h : q0 (bs.data.toList.drop pc) 113 = true) : decode bs pc = .ok (.lrem, 1) := by
  obtain ⟨u, r, hl, hu⟩ := q0_ok h
  refine dec_of ?_
  unfold Decoder.instr
  rw [rd1 hl, hu]
  rfl
set_option maxRecDepth 16384 in
theorem dq_ineg {bs : ByteArray} {pc : Nat} (h : q0 (bs.data.toList.drop pc) 116 = true) : decode bs pc = .ok (.ineg, 1) := by
  obtain ⟨u, r, hl, hu⟩ := q0_ok h
  refine dec_of ?_
  unfold Decoder.instr
  rw [rd1 hl, hu]
  rfl
set_option maxRecDepth 16384 in
theorem dq_lneg {bs : ByteArray} {pc : Nat} (h : q0 (bs.data.toList.drop pc) 117 = true) : decode bs pc = .ok (.lneg, 1) := by
  obtain ⟨u, r, hl, hu⟩ := q0_ok h
  refine dec_of ?_
  unfold Decoder.instr
  rw [rd1 hl, hu]
  rfl
set_option maxRecDepth 16384 in
theorem dq_iand {bs : ByteArray} {pc : Nat} (h : q0 (bs.data.toList.drop pc) 126 = true) : decode bs pc = .ok (.iand, 1) := by
  obtain ⟨u, r, hl, hu⟩ := q0_ok h
  refine dec_of ?_
  unfold Decoder.instr
  rw [rd1 hl, hu]
  rfl
set_option maxRecDepth 16384 in
theorem dq_i2l {bs : ByteArray} {pc : Nat} (h : q0 (bs.data.toList.drop pc) 133 = true) : decode bs pc = .ok (.i2l, 1) := by
  obtain ⟨u, r, hl, hu⟩ := q0_ok h
  refine dec_of ?_
  unfold Decoder.instr
  rw [rd1 hl, hu]
  rfl
set_option maxRecDepth 16384 in
theorem dq_l2i {bs : ByteArray} {pc : Nat} (h : q0 (bs.data.toList.drop pc) 136 = true) : decode bs pc = .ok (.l2i, 1) := by
  obtain ⟨u, r, hl, hu⟩ := q0_ok h
  refine dec_of ?_
  unfold Decoder.instr
  rw [rd1 hl, hu]
  rfl
set_option maxRecDepth 16384 in
theorem dq_i2b {bs : ByteArray} {pc : Nat} (h : q0 (bs.data.toList.drop pc) 145 = true) : decode bs pc = .ok (.i2b, 1) := by
  obtain ⟨u, r, hl, hu⟩ := q0_ok h
  refine dec_of ?_
  unfold Decoder.instr
  rw [rd1 hl, hu]
  rfl
set_option maxRecDepth 16384 in
theorem dq_lcmp {bs : ByteArray} {pc : Nat} (h : q0 (bs.data.toList.drop pc) 148 = true) : decode bs pc = .ok (.lcmp, 1) := by
  obtain ⟨u, r, hl, hu⟩ := q0_ok h
  refine dec_of ?_
  unfold Decoder.instr
  rw [rd1 hl, hu]
  rfl
set_option maxRecDepth 16384 in
theorem dq_ireturn {bs : ByteArray} {pc : Nat} (h : q0 (bs.data.toList.drop pc) 172 = true) : decode bs pc = .ok (.ireturn, 1) := by
  obtain ⟨u, r, hl, hu⟩ := q0_ok h
  refine dec_of ?_
  unfold Decoder.instr
  rw [rd1 hl, hu]
  rfl
set_option maxRecDepth 16384 in
theorem dq_lreturn {bs : ByteArray} {pc : Nat} (h : q0 (bs.data.toList.drop pc) 173 = true) : decode bs pc = .ok (.lreturn, 1) := by
  obtain ⟨u, r, hl, hu⟩ := q0_ok h
  refine dec_of ?_
  unfold Decoder.instr
  rw [rd1 hl, hu]
  rfl
set_option maxRecDepth 16384 in
theorem dq_areturn {bs : ByteArray} {pc : Nat} (h : q0 (bs.data.toList.drop pc) 176 = true) : decode bs pc = .ok (.areturn, 1) := by
  obtain ⟨u, r, hl, hu⟩ := q0_ok h
  refine dec_of ?_
  unfold Decoder.instr
  rw [rd1 hl, hu]
  rfl
set_option maxRecDepth 16384 in
theorem dq_return_ {bs : ByteArray} {pc : Nat} (h : q0 (bs.data.toList.drop pc) 177 = true) : decode bs pc = .ok (.return_, 1) := by
  obtain ⟨u, r, hl, hu⟩ := q0_ok h
  refine dec_of ?_
  unfold Decoder.instr
  rw [rd1 hl, hu]
  rfl
set_option maxRecDepth 16384 in
theorem dq_arraylength {bs : ByteArray} {pc : Nat} (h : q0 (bs.data.toList.drop pc) 190 = true) : decode bs pc = .ok (.arraylength, 1) := by
  obtain ⟨u, r, hl, hu⟩ := q0_ok h
  refine dec_of ?_
  unfold Decoder.instr
  rw [rd1 hl, hu]
  rfl
set_option maxRecDepth 16384 in
theorem dq_iconst0 {bs : ByteArray} {pc : Nat} (h : q0 (bs.data.toList.drop pc) 2 = true) : decode bs pc = .ok (.iconst (-1), 1) := by
  obtain ⟨u, r, hl, hu⟩ := q0_ok h
  refine dec_of ?_
  unfold Decoder.instr
  rw [rd1 hl, hu]
  rfl
set_option maxRecDepth 16384 in
theorem dq_iconst1 {bs : ByteArray} {pc : Nat} (h : q0 (bs.data.toList.drop pc) 3 = true) : decode bs pc = .ok (.iconst 0, 1) := by
  obtain ⟨u, r, hl, hu⟩ := q0_ok h
  refine dec_of ?_
  unfold Decoder.instr
  rw [rd1 hl, hu]
  rfl
set_option maxRecDepth 16384 in
theorem dq_iconst2 {bs : ByteArray} {pc : Nat} (h : q0 (bs.data.toList.drop pc) 4 = true) : decode bs pc = .ok (.iconst 1, 1) := by
  obtain ⟨u, r, hl, hu⟩ := q0_ok h
  refine dec_of ?_
  unfold Decoder.instr
  rw [rd1 hl, hu]
  rfl
set_option maxRecDepth 16384 in
theorem dq_iconst3 {bs : ByteArray} {pc : Nat} (h : q0 (bs.data.toList.drop pc) 5 = true) : decode bs pc = .ok (.iconst 2, 1) := by
  obtain ⟨u, r, hl, hu⟩ := q0_ok h
  refine dec_of ?_
  unfold Decoder.instr
  rw [rd1 hl, hu]
  rfl
set_option maxRecDepth 16384 in
theorem dq_iconst4 {bs : ByteArray} {pc : Nat} (h : q0 (bs.data.toList.drop pc) 6 = true) : decode bs pc = .ok (.iconst 3, 1) := by
  obtain ⟨u, r, hl, hu⟩ := q0_ok h
  refine dec_of ?_
  unfold Decoder.instr
  rw [rd1 hl, hu]
  rfl
set_option maxRecDepth 16384 in
theorem dq_iconst5 {bs : ByteArray} {pc : Nat} (h : q0 (bs.data.toList.drop pc) 7 = true) : decode bs pc = .ok (.iconst 4, 1) := by
  obtain ⟨u, r, hl, hu⟩ := q0_ok h
  refine dec_of ?_
  unfold Decoder.instr
  rw [rd1 hl, hu]
  rfl
set_option maxRecDepth 16384 in
theorem dq_iconst6 {bs : ByteArray} {pc : Nat} (h : q0 (bs.data.toList.drop pc) 8 = true) : decode bs pc = .ok (.iconst 5, 1) := by
  obtain ⟨u, r, hl, hu⟩ := q0_ok h
  refine dec_of ?_
  unfold Decoder.instr
  rw [rd1 hl, hu]
  rfl
set_option maxRecDepth 16384 in
theorem dq_lconst0 {bs : ByteArray} {pc : Nat} (h : q0 (bs.data.toList.drop pc) 9 = true) : decode bs pc = .ok (.lconst 0, 1) := by
  obtain ⟨u, r, hl, hu⟩ := q0_ok h
  refine dec_of ?_
  unfold Decoder.instr
  rw [rd1 hl, hu]
  rfl
set_option maxRecDepth 16384 in
theorem dq_lconst1 {bs : ByteArray} {pc : Nat} (h : q0 (bs.data.toList.drop pc) 10 = true) : decode bs pc = .ok (.lconst 1, 1) := by
  obtain ⟨u, r, hl, hu⟩ := q0_ok h
  refine dec_of ?_
  unfold Decoder.instr
  rw [rd1 hl, hu]
  rfl
set_option maxRecDepth 16384 in
theorem dq_iload_n0 {bs : ByteArray} {pc : Nat} (h : q0 (bs.data.toList.drop pc) 26 = true) : decode bs pc = .ok (.iload_n 0, 1) := by
  obtain ⟨u, r, hl, hu⟩ := q0_ok h
  refine dec_of ?_
  unfold Decoder.instr
  rw [rd1 hl, hu]
  rfl
set_option maxRecDepth 16384 in
theorem dq_iload_n1 {bs : ByteArray} {pc : Nat} (h : q0 (bs.data.toList.drop pc) 27 = true) : decode bs pc = .ok (.iload_n 1, 1) := by
  obtain ⟨u, r, hl, hu⟩ := q0_ok h
  refine dec_of ?_
  unfold Decoder.instr
  rw [rd1 hl, hu]
  rfl
set_option maxRecDepth 16384 in
theorem dq_iload_n2 {bs : ByteArray} {pc : Nat} (h : q0 (bs.data.toList.drop pc) 28 = true) : decode bs pc = .ok (.iload_n 2, 1) := by
  obtain ⟨u, r, hl, hu⟩ := q0_ok h
  refine dec_of ?_
  unfold Decoder.instr
  rw [rd1 hl, hu]
  rfl
set_option maxRecDepth 16384 in
theorem dq_iload_n3 {bs : ByteArray} {pc : Nat} (h : q0 (bs.data.toList.drop pc) 29 = true) : decode bs pc = .ok (.iload_n 3, 1) := by
  obtain ⟨u, r, hl, hu⟩ := q0_ok h
  refine dec_of ?_
  unfold Decoder.instr
  rw [rd1 hl, hu]
  rfl
set_option maxRecDepth 16384 in
theorem dq_lload_n0 {bs : ByteArray} {pc : Nat} (h : q0 (bs.data.toList.drop pc) 30 = true) : decode bs pc = .ok (.lload_n 0, 1) := by
  obtain ⟨u, r, hl, hu⟩ := q0_ok h
  refine dec_of ?_
  unfold Decoder.instr
  rw [rd1 hl, hu]
  rfl
set_option maxRecDepth 16384 in
theorem dq_lload_n1 {bs : ByteArray} {pc : Nat} (h : q0 (bs.data.toList.drop pc) 31 = true) : decode bs pc = .ok (.lload_n 1, 1) := by
  obtain ⟨u, r, hl, hu⟩ := q0_ok h
  refine dec_of ?_
  unfold Decoder.instr
  rw [rd1 hl, hu]
  rfl
set_option maxRecDepth 16384 in
theorem dq_lload_n2 {bs : ByteArray} {pc : Nat} (h : q0 (bs.data.toList.drop pc) 32 = true) : decode bs pc = .ok (.lload_n 2, 1) := by
  obtain ⟨u, r, hl, hu⟩ := q0_ok h
  refine dec_of ?_
  unfold Decoder.instr
  rw [rd1 hl, hu]
  rfl
set_option maxRecDepth 16384 in
theorem dq_lload_n3 {bs : ByteArray} {pc : Nat} (h : q0 (bs.data.toList.drop pc) 33 = true) : decode bs pc = .ok (.lload_n 3, 1) := by
  obtain ⟨u, r, hl, hu⟩ := q0_ok h
  refine dec_of ?_
  unfold Decoder.instr
  rw [rd1 hl, hu]
  rfl
set_option maxRecDepth 16384 in
theorem dq_aload_n0 {bs : ByteArray} {pc : Nat} (h : q0 (bs.data.toList.drop pc) 42 = true) : decode bs pc = .ok (.aload_n 0, 1) := by
  obtain ⟨u, r, hl, hu⟩ := q0_ok h
  refine dec_of ?_
  unfold Decoder.instr
  rw [rd1 hl, hu]
  rfl
set_option maxRecDepth 16384 in
theorem dq_aload_n1 {bs : ByteArray} {pc : Nat} (h : q0 (bs.data.toList.drop pc) 43 = true) : decode bs pc = .ok (.aload_n 1, 1) := by
  obtain ⟨u, r, hl, hu⟩ := q0_ok h
  refine dec_of ?_
  unfold Decoder.instr
  rw [rd1 hl, hu]
  rfl
set_option maxRecDepth 16384 in
theorem dq_aload_n2 {bs : ByteArray} {pc : Nat} (h : q0 (bs.data.toList.drop pc) 44 = true) : decode bs pc = .ok (.aload_n 2, 1) := by
  obtain ⟨u, r, hl, hu⟩ := q0_ok h
  refine dec_of ?_
  unfold Decoder.instr
  rw [rd1 hl, hu]
  rfl
set_option maxRecDepth 16384 in
theorem dq_aload_n3 {bs : ByteArray} {pc : Nat} (h : q0 (bs.data.toList.drop pc) 45 = true) : decode bs pc = .ok (.aload_n 3, 1) := by
  obtain ⟨u, r, hl, hu⟩ := q0_ok h
  refine dec_of ?_
  unfold Decoder.instr
  rw [rd1 hl, hu]
  rfl
set_option maxRecDepth 16384 in
theorem dq_istore_n0 {bs : ByteArray} {pc : Nat} (h : q0 (bs.data.toList.drop pc) 59 = true) : decode bs pc = .ok (.istore_n 0, 1) := by
  obtain ⟨u, r, hl, hu⟩ := q0_ok h
  refine dec_of ?_
  unfold Decoder.instr
  rw [rd1 hl, hu]
  rfl
set_option maxRecDepth 16384 in
theorem dq_istore_n1 {bs : ByteArray} {pc : Nat} (h : q0 (bs.data.toList.drop pc) 60 = true) : decode bs pc = .ok (.istore_n 1, 1) := by
  obtain ⟨u, r, hl, hu⟩ := q0_ok h
  refine dec_of ?_
  unfold Decoder.instr
  rw [rd1 hl, hu]
  rfl
set_option maxRecDepth 16384 in
theorem dq_istore_n2 {bs : ByteArray} {pc : Nat} (h : q0 (bs.data.toList.drop pc) 61 = true) : decode bs pc = .ok (.istore_n 2, 1) := by
  obtain ⟨u, r, hl, hu⟩ := q0_ok h
  refine dec_of ?_
  unfold Decoder.instr
  rw [rd1 hl, hu]
  rfl
set_option maxRecDepth 16384 in
theorem dq_istore_n3 {bs : ByteArray} {pc : Nat} (h : q0 (bs.data.toList.drop pc) 62 = true) : decode bs pc = .ok (.istore_n 3, 1) := by
  obtain ⟨u, r, hl, hu⟩ := q0_ok h
  refine dec_of ?_
  unfold Decoder.instr
  rw [rd1 hl, hu]
  rfl
set_option maxRecDepth 16384 in
theorem dq_lstore_n0 {bs : ByteArray} {pc : Nat} (h : q0 (bs.data.toList.drop pc) 63 = true) : decode bs pc = .ok (.lstore_n 0, 1) := by
  obtain ⟨u, r, hl, hu⟩ := q0_ok h
  refine dec_of ?_
  unfold Decoder.instr
  rw [rd1 hl, hu]
  rfl
set_option maxRecDepth 16384 in
theorem dq_lstore_n1 {bs : ByteArray} {pc : Nat} (h : q0 (bs.data.toList.drop pc) 64 = true) : decode bs pc = .ok (.lstore_n 1, 1) := by
  obtain ⟨u, r, hl, hu⟩ := q0_ok h
  refine dec_of ?_
  unfold Decoder.instr
  rw [rd1 hl, hu]
  rfl
set_option maxRecDepth 16384 in
theorem dq_lstore_n2 {bs : ByteArray} {pc : Nat} (h : q0 (bs.data.toList.drop pc) 65 = true) : decode bs pc = .ok (.lstore_n 2, 1) := by
  obtain ⟨u, r, hl, hu⟩ := q0_ok h
  refine dec_of ?_
  unfold Decoder.instr
  rw [rd1 hl, hu]
  rfl
set_option maxRecDepth 16384 in
theorem dq_lstore_n3 {bs : ByteArray} {pc : Nat} (h : q0 (bs.data.toList.drop pc) 66 = true) : decode bs pc = .ok (.lstore_n 3, 1) := by
  obtain ⟨u, r, hl, hu⟩ := q0_ok h
  refine dec_of ?_
  unfold Decoder.instr
  rw [rd1 hl, hu]
  rfl
set_option maxRecDepth 16384 in
theorem dq_astore_n0 {bs : ByteArray} {pc : Nat} (h : q0 (bs.data.toList.drop pc) 75 = true) : decode bs pc = .ok (.astore_n 0, 1) := by
  obtain ⟨u, r, hl, hu⟩ := q0_ok h
  refine dec_of ?_
  unfold Decoder.instr
  rw [rd1 hl, hu]
  rfl
set_option maxRecDepth 16384 in
theorem dq_astore_n1 {bs : ByteArray} {pc : Nat} (h : q0 (bs.data.toList.drop pc) 76 = true) : decode bs pc = .ok (.astore_n 1, 1) := by
  obtain ⟨u, r, hl, hu⟩ := q0_ok h
  refine dec_of ?_
  unfold Decoder.instr
  rw [rd1 hl, hu]
  rfl
set_option maxRecDepth 16384 in
theorem dq_astore_n2 {bs : ByteArray} {pc : Nat} (h : q0 (bs.data.toList.drop pc) 77 = true) : decode bs pc = .ok (.astore_n 2, 1) := by
  obtain ⟨u, r, hl, hu⟩ := q0_ok h
  refine dec_of ?_
  unfold Decoder.instr
  rw [rd1 hl, hu]
  rfl
set_option maxRecDepth 16384 in
theorem dq_astore_n3 {bs : ByteArray} {pc : Nat} (h : q0 (bs.data.toList.drop pc) 78 = true) : decode bs pc = .ok (.astore_n 3, 1) := by
  obtain ⟨u, r, hl, hu⟩ := q0_ok h
  refine dec_of ?_
  unfold Decoder.instr
  rw [rd1 hl, hu]
  rfl
set_option maxRecDepth 16384 in
theorem dq_ldc {bs : ByteArray} {pc : Nat} {n : Nat} (h : q1 (bs.data.toList.drop pc) 18 (fun v => Nat.beq n v) = true) : decode bs pc = .ok (.ldc n, 2) := by
  obtain ⟨u, v, r, hl, hu, hn⟩ := q1_ok h
  obtain rfl := Nat.eq_of_beq_eq_true hn
  refine dec_of ?_
  unfold Decoder.instr
  rw [rd1 hl, hu]
  exact rd1 (f := fun x => Pure.pure (Instr.ldc x)) (by_dr hl)
set_option maxRecDepth 16384 in
theorem dq_iload {bs : ByteArray} {pc : Nat} {n : Nat} (h : q1 (bs.data.toList.drop pc) 21 (fun v => Nat.beq n v) = true) : decode bs pc = .ok (.iload n, 2) := by
  obtain ⟨u, v, r, hl, hu, hn⟩ := q1_ok h
  obtain rfl := Nat.eq_of_beq_eq_true hn
  refine dec_of ?_
  unfold Decoder.instr
  rw [rd1 hl, hu]
  exact rd1 (f := fun x => Pure.pure (Instr.iload x)) (by_dr hl)
set_option maxRecDepth 16384 in
theorem dq_lload {bs : ByteArray} {pc : Nat} {n : Nat} (h : q1 (bs.data.toList.drop pc) 22 (fun v => Nat.beq n v) = true) : decode bs pc = .ok (.lload n, 2) := by
  obtain ⟨u, v, r, hl, hu, hn⟩ := q1_ok h
  obtain rfl := Nat.eq_of_beq_eq_true hn
  refine dec_of ?_
  unfold Decoder.instr
  rw [rd1 hl, hu]
  exact rd1 (f := fun x => Pure.pure (Instr.lload x)) (by_dr hl)
set_option maxRecDepth 16384 in
theorem dq_aload {bs : ByteArray} {pc : Nat} {n : Nat} (h : q1 (bs.data.toList.drop pc) 25 (fun v => Nat.beq n v) = true) : decode bs pc = .ok (.aload n, 2) := by
  obtain ⟨u, v, r, hl, hu, hn⟩ := q1_ok h
  obtain rfl := Nat.eq_of_beq_eq_true hn
  refine dec_of ?_
  unfold Decoder.instr
  rw [rd1 hl, hu]
  exact rd1 (f := fun x => Pure.pure (Instr.aload x)) (by_dr hl)
set_option maxRecDepth 16384 in
theorem dq_istore {bs : ByteArray} {pc : Nat} {n : Nat} (h : q1 (bs.data.toList.drop pc) 54 (fun v => Nat.beq n v) = true) : decode bs pc = .ok (.istore n, 2) := by
  obtain ⟨u, v, r, hl, hu, hn⟩ := q1_ok h
  obtain rfl := Nat.eq_of_beq_eq_true hn
  refine dec_of ?_
  unfold Decoder.instr
  rw [rd1 hl, hu]
  exact rd1 (f := fun x => Pure.pure (Instr.istore x)) (by_dr hl)
set_option maxRecDepth 16384 in
theorem dq_lstore {bs : ByteArray} {pc : Nat} {n : Nat} (h : q1 (bs.data.toList.drop pc) 55 (fun v => Nat.beq n v) = true) : decode bs pc = .ok (.lstore n, 2) := by
  obtain ⟨u, v, r, hl, hu, hn⟩ := q1_ok h
  obtain rfl := Nat.eq_of_beq_eq_true hn
  refine dec_of ?_
  unfold Decoder.instr
  rw [rd1 hl, hu]
  exact rd1 (f := fun x => Pure.pure (Instr.lstore x)) (by_dr hl)
set_option maxRecDepth 16384 in
theorem dq_astore {bs : ByteArray} {pc : Nat} {n : Nat} (h : q1 (bs.data.toList.drop pc) 58 (fun v => Nat.beq n v) = true) : decode bs pc = .ok (.astore n, 2) := by
  obtain ⟨u, v, r, hl, hu, hn⟩ := q1_ok h
  obtain rfl := Nat.eq_of_beq_eq_true hn
  refine dec_of ?_
  unfold Decoder.instr
  rw [rd1 hl, hu]
  exact rd1 (f := fun x => Pure.pure (Instr.astore x)) (by_dr hl)
set_option maxRecDepth 16384 in
theorem dq_bipush {bs : ByteArray} {pc : Nat} {n : Int} (h : q1 (bs.data.toList.drop pc) 16 (fun v => decide (n = Reader.signed 8 v)) = true) : decode bs pc = .ok (.bipush n, 2) := by
  obtain ⟨u, v, r, hl, hu, hn⟩ := q1_ok h
  obtain rfl := of_decide_eq_true hn
  refine dec_of ?_
  unfold Decoder.instr
  rw [rd1 hl, hu]
  exact rds1 (f := fun x => Pure.pure (Instr.bipush x)) (by_dr hl)
set_option maxRecDepth 16384 in
theorem dq_ldc_w {bs : ByteArray} {pc : Nat} {n : Nat} (h : q2 (bs.data.toList.drop pc) 19 (fun v => Nat.beq n v) = true) : decode bs pc = .ok (.ldc_w n, 3) := by
  obtain ⟨u, v, w, r, hl, hu, hn⟩ := q2_ok h
  obtain rfl := Nat.eq_of_beq_eq_true hn
  refine dec_of ?_
  unfold Decoder.instr
  rw [rd1 hl, hu]
  exact rd2 (f := fun x => Pure.pure (Instr.ldc_w x)) (by_dr hl)
set_option maxRecDepth 16384 in
theorem dq_ldc2_w {bs : ByteArray} {pc : Nat} {n : Nat} (h : q2 (bs.data.toList.drop pc) 20 (fun v => Nat.beq n v) = true) : decode bs pc = .ok (.ldc2_w n, 3) := by
  obtain ⟨u, v, w, r, hl, hu, hn⟩ := q2_ok h
  obtain rfl := Nat.eq_of_beq_eq_true hn
  refine dec_of ?_
  unfold Decoder.instr
  rw [rd1 hl, hu]
  exact rd2 (f := fun x => Pure.pure (Instr.ldc2_w x)) (by_dr hl)
set_option maxRecDepth 16384 in
theorem dq_getstatic {bs : ByteArray} {pc : Nat} {n : Nat} (h : q2 (bs.data.toList.drop pc) 178 (fun v => Nat.beq n v) = true) : decode bs pc = .ok (.getstatic n, 3) := by
  obtain ⟨u, v, w, r, hl, hu, hn⟩ := q2_ok h
  obtain rfl := Nat.eq_of_beq_eq_true hn
  refine dec_of ?_
  unfold Decoder.instr
  rw [rd1 hl, hu]
  exact rd2 (f := fun x => Pure.pure (Instr.getstatic x)) (by_dr hl)
set_option maxRecDepth 16384 in
theorem dq_getfield {bs : ByteArray} {pc : Nat} {n : Nat} (h : q2 (bs.data.toList.drop pc) 180 (fun v => Nat.beq n v) = true) : decode bs pc = .ok (.getfield n, 3) := by
  obtain ⟨u, v, w, r, hl, hu, hn⟩ := q2_ok h
  obtain rfl := Nat.eq_of_beq_eq_true hn
  refine dec_of ?_
  unfold Decoder.instr
  rw [rd1 hl, hu]
  exact rd2 (f := fun x => Pure.pure (Instr.getfield x)) (by_dr hl)
set_option maxRecDepth 16384 in
theorem dq_putfield {bs : ByteArray} {pc : Nat} {n : Nat} (h : q2 (bs.data.toList.drop pc) 181 (fun v => Nat.beq n v) = true) : decode bs pc = .ok (.putfield n, 3) := by
  obtain ⟨u, v, w, r, hl, hu, hn⟩ := q2_ok h
  obtain rfl := Nat.eq_of_beq_eq_true hn
  refine dec_of ?_
  unfold Decoder.instr
  rw [rd1 hl, hu]
  exact rd2 (f := fun x => Pure.pure (Instr.putfield x)) (by_dr hl)
set_option maxRecDepth 16384 in
theorem dq_invokevirtual {bs : ByteArray} {pc : Nat} {n : Nat} (h : q2 (bs.data.toList.drop pc) 182 (fun v => Nat.beq n v) = true) : decode bs pc = .ok (.invokevirtual n, 3) := by
  obtain ⟨u, v, w, r, hl, hu, hn⟩ := q2_ok h
  obtain rfl := Nat.eq_of_beq_eq_true hn
  refine dec_of ?_
  unfold Decoder.instr
  rw [rd1 hl, hu]
  exact rd2 (f := fun x => Pure.pure (Instr.invokevirtual x)) (by_dr hl)
set_option maxRecDepth 16384 in
theorem dq_invokespecial {bs : ByteArray} {pc : Nat} {n : Nat} (h : q2 (bs.data.toList.drop pc) 183 (fun v => Nat.beq n v) = true) : decode bs pc = .ok (.invokespecial n, 3) := by
  obtain ⟨u, v, w, r, hl, hu, hn⟩ := q2_ok h
  obtain rfl := Nat.eq_of_beq_eq_true hn
  refine dec_of ?_
  unfold Decoder.instr
  rw [rd1 hl, hu]
  exact rd2 (f := fun x => Pure.pure (Instr.invokespecial x)) (by_dr hl)
set_option maxRecDepth 16384 in
theorem dq_invokestatic {bs : ByteArray} {pc : Nat} {n : Nat} (h : q2 (bs.data.toList.drop pc) 184 (fun v => Nat.beq n v) = true) : decode bs pc = .ok (.invokestatic n, 3) := by
  obtain ⟨u, v, w, r, hl, hu, hn⟩ := q2_ok h
  obtain rfl := Nat.eq_of_beq_eq_true hn
  refine dec_of ?_
  unfold Decoder.instr
  rw [rd1 hl, hu]
  exact rd2 (f := fun x => Pure.pure (Instr.invokestatic x)) (by_dr hl)
set_option maxRecDepth 16384 in
theorem dq_new {bs : ByteArray} {pc : Nat} {n : Nat} (h : q2 (bs.data.toList.drop pc) 187 (fun v => Nat.beq n v) = true) : decode bs pc = .ok (.new n, 3) := by
  obtain ⟨u, v, w, r, hl, hu, hn⟩ := q2_ok h
  obtain rfl := Nat.eq_of_beq_eq_true hn
  refine dec_of ?_
  unfold Decoder.instr
  rw [rd1 hl, hu]
  exact rd2 (f := fun x => Pure.pure (Instr.new x)) (by_dr hl)
set_option maxRecDepth 16384 in
theorem dq_anewarray {bs : ByteArray} {pc : Nat} {n : Nat} (h : q2 (bs.data.toList.drop pc) 189 (fun v => Nat.beq n v) = true) : decode bs pc = .ok (.anewarray n, 3) := by
  obtain ⟨u, v, w, r, hl, hu, hn⟩ := q2_ok h
  obtain rfl := Nat.eq_of_beq_eq_true hn
  refine dec_of ?_
  unfold Decoder.instr
  rw [rd1 hl, hu]
  exact rd2 (f := fun x => Pure.pure (Instr.anewarray x)) (by_dr hl)
set_option maxRecDepth 16384 in
theorem dq_sipush {bs : ByteArray} {pc : Nat} {n : Int} (h : q2 (bs.data.toList.drop pc) 17 (fun v => decide (n = Reader.signed 16 v)) = true) : decode bs pc = .ok (.sipush n, 3) := by
  obtain ⟨u, v, w, r, hl, hu, hn⟩ := q2_ok h
  obtain rfl := of_decide_eq_true hn
  refine dec_of ?_
  unfold Decoder.instr
  rw [rd1 hl, hu]
  exact rds2 (f := fun x => Pure.pure (Instr.sipush x)) (by_dr hl)
set_option maxRecDepth 16384 in
theorem dq_goto {bs : ByteArray} {pc : Nat} {n : Int} (h : q2 (bs.data.toList.drop pc) 167 (fun v => decide (n = Reader.signed 16 v)) = true) : decode bs pc = .ok (.goto n, 3) := by
  obtain ⟨u, v, w, r, hl, hu, hn⟩ := q2_ok h
  obtain rfl := of_decide_eq_true hn
  refine dec_of ?_
  unfold Decoder.instr
  rw [rd1 hl, hu]
  exact rds2 (f := fun x => Pure.pure (Instr.goto x)) (by_dr hl)
set_option maxRecDepth 16384 in
theorem dq_ifnull {bs : ByteArray} {pc : Nat} {n : Int} (h : q2 (bs.data.toList.drop pc) 198 (fun v => decide (n = Reader.signed 16 v)) = true) : decode bs pc = .ok (.ifnull n, 3) := by
  obtain ⟨u, v, w, r, hl, hu, hn⟩ := q2_ok h
  obtain rfl := of_decide_eq_true hn
  refine dec_of ?_
  unfold Decoder.instr
  rw [rd1 hl, hu]
  exact rds2 (f := fun x => Pure.pure (Instr.ifnull x)) (by_dr hl)
set_option maxRecDepth 16384 in
theorem dq_ifnonnull {bs : ByteArray} {pc : Nat} {n : Int} (h : q2 (bs.data.toList.drop pc) 199 (fun v => decide (n = Reader.signed 16 v)) = true) : decode bs pc = .ok (.ifnonnull n, 3) := by
  obtain ⟨u, v, w, r, hl, hu, hn⟩ := q2_ok h
  obtain rfl := of_decide_eq_true hn
  refine dec_of ?_
  unfold Decoder.instr
  rw [rd1 hl, hu]
  exact rds2 (f := fun x => Pure.pure (Instr.ifnonnull x)) (by_dr hl)
set_option maxRecDepth 16384 in
theorem dq_ifCond_eq {bs : ByteArray} {pc : Nat} {n : Int} (h : q2 (bs.data.toList.drop pc) 153 (fun v => decide (n = Reader.signed 16 v)) = true) : decode bs pc = .ok (.ifCond .eq n, 3) := by
  obtain ⟨u, v, w, r, hl, hu, hn⟩ := q2_ok h
  obtain rfl := of_decide_eq_true hn
  refine dec_of ?_
  unfold Decoder.instr
  rw [rd1 hl, hu]
  exact rds2 (f := fun x => Pure.pure (Instr.ifCond .eq x)) (by_dr hl)
set_option maxRecDepth 16384 in
theorem dq_ifCond_ne {bs : ByteArray} {pc : Nat} {n : Int} (h : q2 (bs.data.toList.drop pc) 154 (fun v => decide (n = Reader.signed 16 v)) = true) : decode bs pc = .ok (.ifCond .ne n, 3) := by
  obtain ⟨u, v, w, r, hl, hu, hn⟩ := q2_ok h
  obtain rfl := of_decide_eq_true hn
  refine dec_of ?_
  unfold Decoder.instr
  rw [rd1 hl, hu]
  exact rds2 (f := fun x => Pure.pure (Instr.ifCond .ne x)) (by_dr hl)
set_option maxRecDepth 16384 in
theorem dq_ifCond_lt {bs : ByteArray} {pc : Nat} {n : Int} (h : q2 (bs.data.toList.drop pc) 155 (fun v => decide (n = Reader.signed 16 v)) = true) : decode bs pc = .ok (.ifCond .lt n, 3) := by
  obtain ⟨u, v, w, r, hl, hu, hn⟩ := q2_ok h
  obtain rfl := of_decide_eq_true hn
  refine dec_of ?_
  unfold Decoder.instr
  rw [rd1 hl, hu]
  exact rds2 (f := fun x => Pure.pure (Instr.ifCond .lt x)) (by_dr hl)
set_option maxRecDepth 16384 in
theorem dq_ifCond_ge {bs : ByteArray} {pc : Nat} {n : Int} (h : q2 (bs.data.toList.drop pc) 156 (fun v => decide (n = Reader.signed 16 v)) = true) : decode bs pc = .ok (.ifCond .ge n, 3) := by
  obtain ⟨u, v, w, r, hl, hu, hn⟩ := q2_ok h
  obtain rfl := of_decide_eq_true hn
  refine dec_of ?_
  unfold Decoder.instr
  rw [rd1 hl, hu]
  exact rds2 (f := fun x => Pure.pure (Instr.ifCond .ge x)) (by_dr hl)
set_option maxRecDepth 16384 in
theorem dq_ifCond_gt {bs : ByteArray} {pc : Nat} {n : Int} (h : q2 (bs.data.toList.drop pc) 157 (fun v => decide (n = Reader.signed 16 v)) = true) : decode bs pc = .ok (.ifCond .gt n, 3) := by
  obtain ⟨u, v, w, r, hl, hu, hn⟩ := q2_ok h
  obtain rfl := of_decide_eq_true hn
  refine dec_of ?_
  unfold Decoder.instr
  rw [rd1 hl, hu]
  exact rds2 (f := fun x => Pure.pure (Instr.ifCond .gt x)) (by_dr hl)
set_option maxRecDepth 16384 in
theorem dq_ifCond_le {bs : ByteArray} {pc : Nat} {n : Int} (h : q2 (bs.data.toList.drop pc) 158 (fun v => decide (n = Reader.signed 16 v)) = true) : decode bs pc = .ok (.ifCond .le n, 3) := by
  obtain ⟨u, v, w, r, hl, hu, hn⟩ := q2_ok h
  obtain rfl := of_decide_eq_true hn
  refine dec_of ?_
  unfold Decoder.instr
  rw [rd1 hl, hu]
  exact rds2 (f := fun x => Pure.pure (Instr.ifCond .le x)) (by_dr hl)
set_option maxRecDepth 16384 in
theorem dq_if_icmp_eq {bs : ByteArray} {pc : Nat} {n : Int} (h : q2 (bs.data.toList.drop pc) 159 (fun v => decide (n = Reader.signed 16 v)) = true) : decode bs pc = .ok (.if_icmp .eq n, 3) := by
  obtain ⟨u, v, w, r, hl, hu, hn⟩ := q2_ok h
  obtain rfl := of_decide_eq_true hn
  refine dec_of ?_
  unfold Decoder.instr
  rw [rd1 hl, hu]
  exact rds2 (f := fun x => Pure.pure (Instr.if_icmp .eq x)) (by_dr hl)
set_option maxRecDepth 16384 in
theorem dq_if_icmp_ne {bs : ByteArray} {pc : Nat} {n : Int} (h : q2 (bs.data.toList.drop pc) 160 (fun v => decide (n = Reader.signed 16 v)) = true) : decode bs pc = .ok (.if_icmp .ne n, 3) := by
  obtain ⟨u, v, w, r, hl, hu, hn⟩ := q2_ok h
  obtain rfl := of_decide_eq_true hn
  refine dec_of ?_
  unfold Decoder.instr
  rw [rd1 hl, hu]
  exact rds2 (f := fun x => Pure.pure (Instr.if_icmp .ne x)) (by_dr hl)
set_option maxRecDepth 16384 in
theorem dq_if_icmp_lt {bs : ByteArray} {pc : Nat} {n : Int} (h : q2 (bs.data.toList.drop pc) 161 (fun v => decide (n = Reader.signed 16 v)) = true) : decode bs pc = .ok (.if_icmp .lt n, 3) := by
  obtain ⟨u, v, w, r, hl, hu, hn⟩ := q2_ok h
  obtain rfl := of_decide_eq_true hn
  refine dec_of ?_
  unfold Decoder.instr
  rw [rd1 hl, hu]
  exact rds2 (f := fun x => Pure.pure (Instr.if_icmp .lt x)) (by_dr hl)
set_option maxRecDepth 16384 in
theorem dq_if_icmp_ge {bs : ByteArray} {pc : Nat} {n : Int} (h : q2 (bs.data.toList.drop pc) 162 (fun v => decide (n = Reader.signed 16 v)) = true) : decode bs pc = .ok (.if_icmp .ge n, 3) := by
  obtain ⟨u, v, w, r, hl, hu, hn⟩ := q2_ok h
  obtain rfl := of_decide_eq_true hn
  refine dec_of ?_
  unfold Decoder.instr
  rw [rd1 hl, hu]
  exact rds2 (f := fun x => Pure.pure (Instr.if_icmp .ge x)) (by_dr hl)
set_option maxRecDepth 16384 in
theorem dq_if_icmp_gt {bs : ByteArray} {pc : Nat} {n : Int} (h : q2 (bs.data.toList.drop pc) 163 (fun v => decide (n = Reader.signed 16 v)) = true) : decode bs pc = .ok (.if_icmp .gt n, 3) := by
  obtain ⟨u, v, w, r, hl, hu, hn⟩ := q2_ok h
  obtain rfl := of_decide_eq_true hn
  refine dec_of ?_
  unfold Decoder.instr
  rw [rd1 hl, hu]
  exact rds2 (f := fun x => Pure.pure (Instr.if_icmp .gt x)) (by_dr hl)
set_option maxRecDepth 16384 in
theorem dq_if_icmp_le {bs : ByteArray} {pc : Nat} {n : Int} (h : q2 (bs.data.toList.drop pc) 164 (fun v => decide (n = Reader.signed 16 v)) = true) : decode bs pc = .ok (.if_icmp .le n, 3) := by
  obtain ⟨u, v, w, r, hl, hu, hn⟩ := q2_ok h
  obtain rfl := of_decide_eq_true hn
  refine dec_of ?_
  unfold Decoder.instr
  rw [rd1 hl, hu]
  exact rds2 (f := fun x => Pure.pure (Instr.if_icmp .le x)) (by_dr hl)
set_option maxRecDepth 16384 in
theorem dq_if_acmp_eq {bs : ByteArray} {pc : Nat} {n : Int} (h : q2 (bs.data.toList.drop pc) 165 (fun v => decide (n = Reader.signed 16 v)) = true) : decode bs pc = .ok (.if_acmp .eq n, 3) := by
  obtain ⟨u, v, w, r, hl, hu, hn⟩ := q2_ok h
  obtain rfl := of_decide_eq_true hn
  refine dec_of ?_
  unfold Decoder.instr
  rw [rd1 hl, hu]
  exact rds2 (f := fun x => Pure.pure (Instr.if_acmp .eq x)) (by_dr hl)
set_option maxRecDepth 16384 in
theorem dq_if_acmp_ne {bs : ByteArray} {pc : Nat} {n : Int} (h : q2 (bs.data.toList.drop pc) 166 (fun v => decide (n = Reader.signed 16 v)) = true) : decode bs pc = .ok (.if_acmp .ne n, 3) := by
  obtain ⟨u, v, w, r, hl, hu, hn⟩ := q2_ok h
  obtain rfl := of_decide_eq_true hn
  refine dec_of ?_
  unfold Decoder.instr
  rw [rd1 hl, hu]
  exact rds2 (f := fun x => Pure.pure (Instr.if_acmp .ne x)) (by_dr hl)
set_option maxRecDepth 16384 in
theorem dq_iinc {bs : ByteArray} {pc : Nat} {k : Nat} {n : Int} (h : (match bs.data.toList.drop pc with
  | u :: v :: w :: _ => Nat.beq u.toNat 132 && (Nat.beq k v.toNat && decide (n = Reader.signed 8 w.toNat))
  | _ => false) = true) : decode bs pc = .ok (.iinc k n, 3) := by
  split at h
  · rename_i u v w r hl
    simp only [Bool.and_eq_true, decide_eq_true_eq] at h
    obtain ⟨h1, h2, rfl⟩ := h
    obtain rfl := Nat.eq_of_beq_eq_true h2
    refine dec_of ?_
    unfold Decoder.instr
    rw [rd1 hl, Nat.eq_of_beq_eq_true h1]
    exact (rd1 (f := fun x => Reader.s1 >>= fun y => Pure.pure (Instr.iinc x y)) (by_dr hl)).trans (rds1 (f := fun y => Pure.pure (Instr.iinc v.toNat y)) (by_dr (by_dr hl)))
  · cases h
set_option maxRecDepth 16384 in
theorem dq_new_boolean {bs : ByteArray} {pc : Nat} (h : q1 (bs.data.toList.drop pc) 188 (fun v => Nat.beq 4 v) = true) : decode bs pc = .ok (.newarray .boolean, 2) := by
  obtain ⟨u, v, r, hl, hu, hn⟩ := q1_ok h
  refine dec_of ?_
  unfold Decoder.instr
  rw [rd1 hl, hu]
  show Decoder.newarray pc bs (pc + 1) = _
  unfold Decoder.newarray
  rw [rd1 (by_dr hl), ← Nat.eq_of_beq_eq_true hn]
  rfl
set_option maxRecDepth 16384 in
theorem dq_new_byte {bs : ByteArray} {pc : Nat} (h : q1 (bs.data.toList.drop pc) 188 (fun v => Nat.beq 8 v) = true) : decode bs pc = .ok (.newarray .byte, 2) := by
  obtain ⟨u, v, r, hl, hu, hn⟩ := q1_ok h
  refine dec_of ?_
  unfold Decoder.instr
  rw [rd1 hl, hu]
  show Decoder.newarray pc bs (pc + 1) = _
  unfold Decoder.newarray
  rw [rd1 (by_dr hl), ← Nat.eq_of_beq_eq_true hn]
  rfl
set_option maxRecDepth 16384 in
theorem dq_new_int {bs : ByteArray} {pc : Nat} (h : q1 (bs.data.toList.drop pc) 188 (fun v => Nat.beq 10 v) = true) : decode bs pc = .ok (.newarray .int, 2) := by
  obtain ⟨u, v, r, hl, hu, hn⟩ := q1_ok h
  refine dec_of ?_
  unfold Decoder.instr
  rw [rd1 hl, hu]
  show Decoder.newarray pc bs (pc + 1) = _
  unfold Decoder.newarray
  rw [rd1 (by_dr hl), ← Nat.eq_of_beq_eq_true hn]
  rfl
/-- whether the bytes are those of the instruction (but for switches) -/
def chkI (i : Instr) (l : List UInt8) : Bool := match i with
  | .aconst_null => q0 l 1
  | .iaload => q0 l 46
  | .aaload => q0 l 50
  | .baload => q0 l 51
  | .iastore => q0 l 79
  | .aastore => q0 l 83
  | .bastore => q0 l 84
  | .pop => q0 l 87
  | .pop2 => q0 l 88
  | .dup => q0 l 89
  | .dup_x1 => q0 l 90
  | .dup2 => q0 l 92
  | .iadd => q0 l 96
  | .ladd => q0 l 97
  | .isub => q0 l 100
  | .imul => q0 l 104
  | .lmul => q0 l 105
  | .idiv => q0 l 108
  | .ldiv => q0 l 109
  | .irem => q0 l 112
  | .lrem => q0 l 113
  | .ineg => q0 l 116
  | .lneg => q0 l 117
  | .iand => q0 l 126
  | .i2l => q0 l 133
  | .l2i => q0 l 136
  | .i2b => q0 l 145
  | .lcmp => q0 l 148
  | .ireturn => q0 l 172
  | .lreturn => q0 l 173
  | .areturn => q0 l 176
  | .return_ => q0 l 177
  | .arraylength => q0 l 190
  | .iconst n => (decide (n = -1) && q0 l 2) || (decide (n = 0) && q0 l 3) || (decide (n = 1) && q0 l 4) || (decide (n = 2) && q0 l 5) || (decide (n = 3) && q0 l 6) || (decide (n = 4) && q0 l 7) || (decide (n = 5) && q0 l 8)
  | .lconst n => q0 l (9 + n.val)
  | .iload_n n => q0 l (26 + n.val)
  | .lload_n n => q0 l (30 + n.val)
  | .aload_n n => q0 l (42 + n.val)
  | .istore_n n => q0 l (59 + n.val)
  | .lstore_n n => q0 l (63 + n.val)
  | .astore_n n => q0 l (75 + n.val)
  | .ldc n => q1 l 18 (fun v => Nat.beq n v)
  | .iload n => q1 l 21 (fun v => Nat.beq n v)
  | .lload n => q1 l 22 (fun v => Nat.beq n v)
  | .aload n => q1 l 25 (fun v => Nat.beq n v)
  | .istore n => q1 l 54 (fun v => Nat.beq n v)
  | .lstore n => q1 l 55 (fun v => Nat.beq n v)
  | .astore n => q1 l 58 (fun v => Nat.beq n v)
  | .bipush n => q1 l 16 (fun v => decide (n = Reader.signed 8 v))
  | .ldc_w n => q2 l 19 (fun v => Nat.beq n v)
  | .ldc2_w n => q2 l 20 (fun v => Nat.beq n v)
  | .getstatic n => q2 l 178 (fun v => Nat.beq n v)
  | .getfield n => q2 l 180 (fun v => Nat.beq n v)
  | .putfield n => q2 l 181 (fun v => Nat.beq n v)
  | .invokevirtual n => q2 l 182 (fun v => Nat.beq n v)
  | .invokespecial n => q2 l 183 (fun v => Nat.beq n v)
  | .invokestatic n => q2 l 184 (fun v => Nat.beq n v)
  | .new n => q2 l 187 (fun v => Nat.beq n v)
  | .anewarray n => q2 l 189 (fun v => Nat.beq n v)
  | .sipush n => q2 l 17 (fun v => decide (n = Reader.signed 16 v))
  | .goto n => q2 l 167 (fun v => decide (n = Reader.signed 16 v))
  | .ifnull n => q2 l 198 (fun v => decide (n = Reader.signed 16 v))
  | .ifnonnull n => q2 l 199 (fun v => decide (n = Reader.signed 16 v))
  | .ifCond .eq n => q2 l 153 (fun v => decide (n = Reader.signed 16 v))
  | .ifCond .ne n => q2 l 154 (fun v => decide (n = Reader.signed 16 v))
  | .ifCond .lt n => q2 l 155 (fun v => decide (n = Reader.signed 16 v))
  | .ifCond .ge n => q2 l 156 (fun v => decide (n = Reader.signed 16 v))
  | .ifCond .gt n => q2 l 157 (fun v => decide (n = Reader.signed 16 v))
  | .ifCond .le n => q2 l 158 (fun v => decide (n = Reader.signed 16 v))
  | .if_icmp .eq n => q2 l 159 (fun v => decide (n = Reader.signed 16 v))
  | .if_icmp .ne n => q2 l 160 (fun v => decide (n = Reader.signed 16 v))
  | .if_icmp .lt n => q2 l 161 (fun v => decide (n = Reader.signed 16 v))
  | .if_icmp .ge n => q2 l 162 (fun v => decide (n = Reader.signed 16 v))
  | .if_icmp .gt n => q2 l 163 (fun v => decide (n = Reader.signed 16 v))
  | .if_icmp .le n => q2 l 164 (fun v => decide (n = Reader.signed 16 v))
  | .if_acmp .eq n => q2 l 165 (fun v => decide (n = Reader.signed 16 v))
  | .if_acmp .ne n => q2 l 166 (fun v => decide (n = Reader.signed 16 v))
  | .iinc k n => match l with
    | u :: v :: w :: _ => Nat.beq u.toNat 132 && (Nat.beq k v.toNat && decide (n = Reader.signed 8 w.toNat))
    | _ => false
  | .newarray .boolean => q1 l 188 (fun v => Nat.beq 4 v)
  | .newarray .byte => q1 l 188 (fun v => Nat.beq 8 v)
  | .newarray .int => q1 l 188 (fun v => Nat.beq 10 v)
  | _ => false
set_option maxRecDepth 16384 in
theorem chkI_ok {bs : ByteArray} {pc : Nat} {i : Instr} (h : chkI i (bs.data.toList.drop pc) = true) : decode bs pc = .ok (i, ilen i) := by
  match i, h with
  | .aconst_null, h => exact dq_aconst_null h
  | .iaload, h => exact dq_iaload h
  | .aaload, h => exact dq_aaload h
  | .baload, h => exact dq_baload h
  | .iastore, h => exact dq_iastore h
  | .aastore, h => exact dq_aastore h
  | .bastore, h => exact dq_bastore h
  | .pop, h => exact dq_pop h
  | .pop2, h => exact dq_pop2 h
  | .dup, h => exact dq_dup h
  | .dup_x1, h => exact dq_dup_x1 h
  | .dup2, h => exact dq_dup2 h
  | .iadd, h => exact dq_iadd h
  | .ladd, h => exact dq_ladd h
  | .isub, h => exact dq_isub h
  | .imul, h => exact dq_imul h
  | .lmul, h => exact dq_lmul h
  | .idiv, h => exact dq_idiv h
  | .ldiv, h => exact dq_ldiv h
  | .irem, h => exact dq_irem h
  | .lrem, h => exact dq_lrem h
  | .ineg, h => exact dq_ineg h
  | .lneg, h => exact dq_lneg h
  | .iand, h => exact dq_iand h
  | .i2l, h => exact dq_i2l h
  | .l2i, h => exact dq_l2i h
  | .i2b, h => exact dq_i2b h
  | .lcmp, h => exact dq_lcmp h
  | .ireturn, h => exact dq_ireturn h
  | .lreturn, h => exact dq_lreturn h
  | .areturn, h => exact dq_areturn h
  | .return_, h => exact dq_return_ h
  | .arraylength, h => exact dq_arraylength h
  | .iconst n, h =>
    simp only [chkI, Bool.or_eq_true, Bool.and_eq_true, decide_eq_true_eq] at h
    rcases h with ((((((⟨rfl, h⟩ | ⟨rfl, h⟩) | ⟨rfl, h⟩) | ⟨rfl, h⟩) | ⟨rfl, h⟩) | ⟨rfl, h⟩) | ⟨rfl, h⟩)
    · exact dq_iconst0 h
    · exact dq_iconst1 h
    · exact dq_iconst2 h
    · exact dq_iconst3 h
    · exact dq_iconst4 h
    · exact dq_iconst5 h
    · exact dq_iconst6 h
  | .lconst n, h =>
    match n, h with
    | 0, h => exact dq_lconst0 h
    | 1, h => exact dq_lconst1 h
  | .iload_n n, h =>
    match n, h with
    | 0, h => exact dq_iload_n0 h
    | 1, h => exact dq_iload_n1 h
    | 2, h => exact dq_iload_n2 h
    | 3, h => exact dq_iload_n3 h
  | .lload_n n, h =>
    match n, h with
    | 0, h => exact dq_lload_n0 h
    | 1, h => exact dq_lload_n1 h
    | 2, h => exact dq_lload_n2 h
    | 3, h => exact dq_lload_n3 h
  | .aload_n n, h =>
    match n, h with
    | 0, h => exact dq_aload_n0 h
    | 1, h => exact dq_aload_n1 h
    | 2, h => exact dq_aload_n2 h
    | 3, h => exact dq_aload_n3 h
  | .istore_n n, h =>
    match n, h with
    | 0, h => exact dq_istore_n0 h
    | 1, h => exact dq_istore_n1 h
    | 2, h => exact dq_istore_n2 h
    | 3, h => exact dq_istore_n3 h
  | .lstore_n n, h =>
    match n, h with
    | 0, h => exact dq_lstore_n0 h
    | 1, h => exact dq_lstore_n1 h
    | 2, h => exact dq_lstore_n2 h
    | 3, h => exact dq_lstore_n3 h
  | .astore_n n, h =>
    match n, h with
    | 0, h => exact dq_astore_n0 h
    | 1, h => exact dq_astore_n1 h
    | 2, h => exact dq_astore_n2 h
    | 3, h => exact dq_astore_n3 h
  | .ldc n, h => exact dq_ldc h
  | .iload n, h => exact dq_iload h
  | .lload n, h => exact dq_lload h
  | .aload n, h => exact dq_aload h
  | .istore n, h => exact dq_istore h
  | .lstore n, h => exact dq_lstore h
  | .astore n, h => exact dq_astore h
  | .bipush n, h => exact dq_bipush h
  | .ldc_w n, h => exact dq_ldc_w h
  | .ldc2_w n, h => exact dq_ldc2_w h
  | .getstatic n, h => exact dq_getstatic h
  | .getfield n, h => exact dq_getfield h
  | .putfield n, h => exact dq_putfield h
  | .invokevirtual n, h => exact dq_invokevirtual h
  | .invokespecial n, h => exact dq_invokespecial h
  | .invokestatic n, h => exact dq_invokestatic h
  | .new n, h => exact dq_new h
  | .anewarray n, h => exact dq_anewarray h
  | .sipush n, h => exact dq_sipush h
  | .goto n, h => exact dq_goto h
  | .ifnull n, h => exact dq_ifnull h
  | .ifnonnull n, h => exact dq_ifnonnull h
  | .ifCond .eq n, h => exact dq_ifCond_eq h
  | .ifCond .ne n, h => exact dq_ifCond_ne h
  | .ifCond .lt n, h => exact dq_ifCond_lt h
  | .ifCond .ge n, h => exact dq_ifCond_ge h
  | .ifCond .gt n, h => exact dq_ifCond_gt h
  | .ifCond .le n, h => exact dq_ifCond_le h
  | .if_icmp .eq n, h => exact dq_if_icmp_eq h
  | .if_icmp .ne n, h => exact dq_if_icmp_ne h
  | .if_icmp .lt n, h => exact dq_if_icmp_lt h
  | .if_icmp .ge n, h => exact dq_if_icmp_ge h
  | .if_icmp .gt n, h => exact dq_if_icmp_gt h
  | .if_icmp .le n, h => exact dq_if_icmp_le h
  | .if_acmp .eq n, h => exact dq_if_acmp_eq h
  | .if_acmp .ne n, h => exact dq_if_acmp_ne h
  | .iinc k n, h => exact dq_iinc h
  | .newarray .boolean, h => exact dq_new_boolean h
  | .newarray .byte, h => exact dq_new_byte h
  | .newarray .int, h => exact dq_new_int h
def chkD (bs : ByteArray) (pc : Nat) (w : EN) (l : List UInt8) : Bool := if isSw w.1 then (match decode bs pc with
  | .ok (j, _) => decide (j = w.1)
  | _ => false) else chkI w.1 l && decide (w.2.1 = pc + ilen w.1)
def hcl (x : Nat) : (Nat × Nat) × (Nat × Nat) × (Nat × Nat) × (Nat × Nat) := (l2 hcs x).getD ((99, 0), (99, 0), (99, 0), (99, 0))
/-- what a callee needs but its code -/
def cfQ (x y : Nat) : Bool := wat (hcl x).2.1 (.initialized (YB0 x).1.cls) && (plainName (YB0 x).1.cls && (decide ((YB0 x).1.cls ≠ "java/lang/invoke/MethodHandle") && (decide ((YB0 x).1.cls ≠ "java/lang/invoke/VarHandle") && decide ((parseMethodDescriptor (YB0 x).1.desc).map (fun d => d.parameters.length) = some y))))
def cfR (x y : Nat) : Prop := Cond.code (YB0 x).1 (YB0 x).2 ((l2 nls x).getD 0) ((l2 rts x).getD none) ∈ Ts0 ∧ cfQ x y = true
theorem wat_of {q : Nat × Nat} {w : Cond} (h : (tabs q.1)[q.2]? = some w) (g : goodWord w = true) : w ∈ Ts0 := List.mem_filter.mpr ⟨tabs_in (List.mem_of_getElem? h), g⟩
def cfB (x y : Nat) : Bool := decide (l2 nas x = some (some y))
def isNestTo (own : String) (idx : Nat) (y : MethodName) (w : Cond) : Bool := match w with
  | .methodLinkNest a i x _ => decide (a = own) && (decide (i = idx) && decide (x = y))
  | _ => false
def mlB (ci : Nat) (own : String) (idx : Nat) (y : MethodName) : Bool := wat (hlk ci idx) (.methodLink own idx y) || NW0.any (isNestTo own idx y)
def chkG (own nm : String) (ci pc : Nat) (i : Instr) (x y : Nat) : Bool :=
  match i with
  | .goto off | .ifnull off | .ifnonnull off | .ifCond _ off | .if_icmp _ off | .if_acmp _ off => decide ((pc : Int) + off = (x : Int))
  | .tableswitch d lo hi offs => decide (0 ≤ (pc : Int) + d) && (offs.toList.all (fun o => decide (0 ≤ (pc : Int) + o)) && decide (lo + offs.toList.length ≤ hi + 1))
  | .ldc idx => (decide (y = 0) && wat (hlk ci idx) (.constant own idx (Int32.ofNat x))) || (decide (y = 1) && (decide (x < 64) && SS0.any (fun q => decide (q.1 = own) && (decide (q.2.1 = idx) && decide (q.2.2.2 = x)))))
  | .ldc_w idx => (decide (y = 0) && wat (hlk ci idx) (.constant own idx (Int32.ofNat x))) || (decide (y = 1) && (decide (x < 64) && SS0.any (fun q => decide (q.1 = own) && (decide (q.2.1 = idx) && decide (q.2.2.2 = x)))))
  | .ldc2_w idx => wat (hlk ci idx) (.constantLong own idx (Int64.ofNat x))
  | .getfield idx => match cl0[x]? with
    | some (C, T, N) => decide (y < N) && wat (hlk ci idx) (.fieldLink own idx C (T y).2.1 (T y).2.2.1)
    | none => false
  | .putfield idx => match cl0[x]? with
    | some (C, T, N) => decide (y < N) && (wat (hlk ci idx) (.fieldLink own idx C (T y).2.1 (T y).2.2.1) && (decide ((T y).2.2.2 = false) || (decide (nm = "<init>") && decide (C = own))))
    | none => false
  | .getstatic idx => decide (x = 1) && (wat (hlk ci idx) (.fieldLink own idx "HoleDesk" "PARTS" "[I") || NW0.any (fun w => decide (w = .fieldLinkNest own idx "HoleDesk" "PARTS" "[I" "HoleDesk")))
  | .baload | .bastore => decide (x = 1) || decide (x = 2)
  | .aastore => match cl0[y]?, tyL0[x]? with
    | some (C, _, _), some t => decide (t = .object C)
    | _, _ => false
  | .newarray a => (decide (a = .int) && decide (x = 0)) || ((decide (a = .byte) && decide (x = 1)) || (decide (a = .boolean) && decide (x = 2)))
  | .anewarray idx => match tyL0[x]? with
    | some (.object C) => wat (hlk ci idx) (.classLink own idx C) && NW0.any (fun w => decide (w = .arrayOver (.object C)))
    | _ => false
  | .new idx => match cl0[x]? with
    | some (C, _, _) => wat (hlk ci idx) (.classLink own idx C)
    | none => false
  | .invokespecial idx => (decide (x = 0) && wat (hlk ci idx) (.methodLink own idx Lib.objectInit)) || (!decide (x = 0) && (cfB x y && (mlB ci own idx (YB0 x).1 && (wat (hcl x).2.2.1 (.instanceMethod (YB0 x).1) && (decide ((YB0 x).1.name = "<init>") && decide ((l2 rts x).getD none = none))))))
  | .invokestatic idx => (decide (x = 9000) && wat (hlk ci idx) (.methodLink own idx Lib.Math.min.name)) || (!decide (x = 9000) && (cfB x y && (mlB ci own idx (YB0 x).1 && wat (hcl x).2.2.1 (.static (YB0 x).1))))
  | .invokevirtual idx => (decide (x = 9001) && wat (hlk ci idx) (.methodLink own idx yCA)) || ((decide (x = 9002) && wat (hlk ci idx) (.methodLink own idx yLN)) || (!decide (x = 9001) && (!decide (x = 9002) && (cfB x y && (wat (hlk ci idx) (.methodLink own idx (YB0 x).1) && (wat (hcl x).2.2.1 (.instanceMethod (YB0 x).1) && (wat (hcl x).2.2.2 (.selects (YB0 x).1.cls (YB0 x).1 (YB0 x).1) && (match cl0[(l2 mcls x).getD 0]? with
    | some (C, _, _) => decide (C = (YB0 x).1.cls)
    | none => false))))))))
  | _ => true
def chkX (M pc : Nat) (i : Instr) (x y : Nat) : Bool := chkG (YB0 M).1.cls (YB0 M).1.name ((l2 mcls M).getD 0) pc i x y
/-- links by kind and place in the pool -/
def lkd (i : Instr) : Option (Nat × Nat) := match i with
  | .getfield n => some (1, n) | .putfield n => some (2, n) | .getstatic n => some (3, n) | .anewarray n => some (4, n) | .new n => some (5, n) | .invokespecial n => some (6, n) | .invokestatic n => some (7, n) | .invokevirtual n => some (8, n) | .ldc n => some (9, n) | .ldc_w n => some (10, n) | .ldc2_w n => some (11, n)
  | _ => none
def mkI (k n : Nat) : Instr := match k with
  | 1 => .getfield n | 2 => .putfield n | 3 => .getstatic n | 4 => .anewarray n | 5 => .new n | 6 => .invokespecial n | 7 => .invokestatic n | 8 => .invokevirtual n | 9 => .ldc n | 10 => .ldc_w n | _ => .ldc2_w n
theorem mkI_of {i : Instr} {k n : Nat} (h : lkd i = some (k, n)) : mkI k n = i := by
  unfold lkd at h
  split at h <;> first | (cases h; rfl) | cases h
theorem chkG_mono {own nm : String} {ci pc x y : Nat} {i : Instr} {q : Nat × Nat} (hl : lkd i = some q) (h : chkG own "" ci 0 i x y = true) : chkG own nm ci pc i x y = true := by
  cases i <;> first
    | (cases hl; done)
    | exact h
    | (simp only [chkG] at h ⊢
       cases hc : cl0[x]? with
       | none => rw [hc] at h; cases h
       | some w =>
         obtain ⟨C, T, N⟩ := w
         rw [hc] at h
         simp only [Bool.and_eq_true, Bool.or_eq_true, decide_eq_true_eq] at h ⊢
         exact ⟨h.1, h.2.1, h.2.2.imp id (fun q => absurd q.1 (by decide))⟩)
def rowM (ci a : Nat) : Bool := match (mlt ci)[a]? with
  | some r => (List.range r.length).all (fun b => match r[b]? with
    | some es => es.all (fun e => chkG (cnm ci) "" ci 0 (mkI e.1 (16 * a + b)) e.2.1 e.2.2)
    | none => true)
  | none => true
theorem rowM_out {ci a : Nat} (h : (mlt ci).length ≤ a) : rowM ci a = true := by
  unfold rowM
  rw [List.getElem?_eq_none h]
def chkM (M : Nat) (w : EN) : Bool := decide (M ≠ 0 ∧ M < 256) && (match lkd w.1 with
  | some (k, n) => (match l2 (mlt ((l2 mcls M).getD 0)) n with
    | some es => es.any (fun e => Nat.beq e.1 k && (Nat.beq e.2.1 w.2.2.1 && Nat.beq e.2.2 w.2.2.2))
    | none => false)
  | none => false)
theorem chkM_at (hm : ∀ ci a, rowM ci a = true) {ci pc : Nat} {nm : String} {w : EN} (h : (match lkd w.1 with
  | some (k, n) => (match l2 (mlt ci) n with
    | some es => es.any (fun e => Nat.beq e.1 k && (Nat.beq e.2.1 w.2.2.1 && Nat.beq e.2.2 w.2.2.2))
    | none => false)
  | none => false) = true) : chkG (cnm ci) nm ci pc w.1 w.2.2.1 w.2.2.2 = true := by
  cases hl : lkd w.1 with
  | none => rw [hl] at h; cases h
  | some q =>
    obtain ⟨k, n⟩ := q
    rw [hl] at h
    have h : (match l2 (mlt ci) n with
      | some es => es.any (fun e => Nat.beq e.1 k && (Nat.beq e.2.1 w.2.2.1 && Nat.beq e.2.2 w.2.2.2))
      | none => false) = true := h
    cases hr : l2 (mlt ci) n with
    | none => rw [hr] at h; cases h
    | some es =>
      rw [hr] at h
      obtain ⟨e, he, h2⟩ := List.any_eq_true.mp h
      simp only [Bool.and_eq_true] at h2
      have e1 := Nat.eq_of_beq_eq_true h2.1
      have e2 := Nat.eq_of_beq_eq_true h2.2.1
      have e3 := Nat.eq_of_beq_eq_true h2.2.2
      have hrow := hm ci (n / 16)
      unfold rowM at hrow
      unfold l2 at hr
      cases ha : (mlt ci)[n / 16]? with
      | none => rw [ha] at hr; cases hr
      | some r =>
        rw [ha] at hr hrow
        have hr : r[n % 16]? = some es := hr
        have h3 := List.all_eq_true.mp hrow (n % 16) (List.mem_range.mpr (List.getElem?_eq_some_iff.mp hr).1)
        rw [hr] at h3
        have h4 := List.all_eq_true.mp h3 e he
        rw [Nat.div_add_mod, e1, e2, e3, mkI_of hl] at h4
        exact chkG_mono hl h4
def chkE (M : Nat) : CE := ((YB0 M).2.data.toList, fun pc w l => decide (ikd w.1 = 4) || (chkD (YB0 M).2 pc w l && (chkM M w || chkX M pc w.1 w.2.2.1 w.2.2.2)))
end
section
/-! Every method as a callee, once. -/
theorem cf_1 : cfR 1 0 := ⟨wat_of (q := (1, 23)) rfl rfl, by decide +kernel⟩
theorem cf_2 : cfR 2 3 := ⟨wat_of (q := (3, 31)) rfl rfl, by decide +kernel⟩
theorem cf_3 : cfR 3 2 := ⟨wat_of (q := (3, 48)) rfl rfl, by decide +kernel⟩
theorem cf_4 : cfR 4 2 := ⟨wat_of (q := (3, 52)) rfl rfl, by decide +kernel⟩
theorem cf_5 : cfR 5 0 := ⟨wat_of (q := (3, 57)) rfl rfl, by decide +kernel⟩
theorem cf_6 : cfR 6 0 := ⟨wat_of (q := (3, 61)) rfl rfl, by decide +kernel⟩
theorem cf_7 : cfR 7 2 := ⟨wat_of (q := (3, 65)) rfl rfl, by decide +kernel⟩
theorem cf_8 : cfR 8 2 := ⟨wat_of (q := (3, 77)) rfl rfl, by decide +kernel⟩
theorem cf_9 : cfR 9 3 := ⟨wat_of (q := (3, 89)) rfl rfl, by decide +kernel⟩
theorem cf_10 : cfR 10 2 := ⟨wat_of (q := (3, 139)) rfl rfl, by decide +kernel⟩
theorem cf_11 : cfR 11 1 := ⟨wat_of (q := (3, 143)) rfl rfl, by decide +kernel⟩
theorem cf_12 : cfR 12 1 := ⟨wat_of (q := (3, 160)) rfl rfl, by decide +kernel⟩
theorem cf_13 : cfR 13 3 := ⟨wat_of (q := (3, 164)) rfl rfl, by decide +kernel⟩
theorem cf_14 : cfR 14 0 := ⟨wat_of (q := (3, 204)) rfl rfl, by decide +kernel⟩
theorem cf_15 : cfR 15 1 := ⟨wat_of (q := (3, 208)) rfl rfl, by decide +kernel⟩
theorem cf_16 : cfR 16 1 := ⟨wat_of (q := (3, 212)) rfl rfl, by decide +kernel⟩
theorem cf_17 : cfR 17 1 := ⟨wat_of (q := (3, 216)) rfl rfl, by decide +kernel⟩
theorem cf_18 : cfR 18 1 := ⟨wat_of (q := (3, 229)) rfl rfl, by decide +kernel⟩
theorem cf_19 : cfR 19 1 := ⟨wat_of (q := (4, 7)) rfl rfl, by decide +kernel⟩
theorem cf_20 : cfR 20 1 := ⟨wat_of (q := (4, 19)) rfl rfl, by decide +kernel⟩
theorem cf_21 : cfR 21 0 := ⟨wat_of (q := (4, 30)) rfl rfl, by decide +kernel⟩
theorem cf_22 : cfR 22 0 := ⟨wat_of (q := (4, 43)) rfl rfl, by decide +kernel⟩
theorem cf_23 : cfR 23 2 := ⟨wat_of (q := (4, 60)) rfl rfl, by decide +kernel⟩
theorem cf_24 : cfR 24 1 := ⟨wat_of (q := (4, 64)) rfl rfl, by decide +kernel⟩
theorem cf_25 : cfR 25 1 := ⟨wat_of (q := (5, 48)) rfl rfl, by decide +kernel⟩
theorem cf_26 : cfR 26 0 := ⟨wat_of (q := (5, 80)) rfl rfl, by decide +kernel⟩
theorem cf_27 : cfR 27 0 := ⟨wat_of (q := (5, 84)) rfl rfl, by decide +kernel⟩
theorem cf_28 : cfR 28 1 := ⟨wat_of (q := (5, 88)) rfl rfl, by decide +kernel⟩
theorem cf_29 : cfR 29 1 := ⟨wat_of (q := (5, 96)) rfl rfl, by decide +kernel⟩
theorem cf_30 : cfR 30 3 := ⟨wat_of (q := (5, 104)) rfl rfl, by decide +kernel⟩
theorem cf_31 : cfR 31 1 := ⟨wat_of (q := (5, 109)) rfl rfl, by decide +kernel⟩
theorem cf_32 : cfR 32 2 := ⟨wat_of (q := (5, 113)) rfl rfl, by decide +kernel⟩
theorem cf_33 : cfR 33 2 := ⟨wat_of (q := (5, 121)) rfl rfl, by decide +kernel⟩
theorem cf_34 : cfR 34 2 := ⟨wat_of (q := (5, 125)) rfl rfl, by decide +kernel⟩
theorem cf_35 : cfR 35 0 := ⟨wat_of (q := (5, 130)) rfl rfl, by decide +kernel⟩
theorem cf_36 : cfR 36 1 := ⟨wat_of (q := (5, 134)) rfl rfl, by decide +kernel⟩
theorem cf_37 : cfR 37 0 := ⟨wat_of (q := (5, 146)) rfl rfl, by decide +kernel⟩
theorem cf_38 : cfR 38 1 := ⟨wat_of (q := (5, 150)) rfl rfl, by decide +kernel⟩
theorem cf_39 : cfR 39 0 := ⟨wat_of (q := (5, 154)) rfl rfl, by decide +kernel⟩
theorem cf_40 : cfR 40 1 := ⟨wat_of (q := (3, 170)) rfl rfl, by decide +kernel⟩
theorem cf_41 : cfR 41 1 := ⟨wat_of (q := (4, 10)) rfl rfl, by decide +kernel⟩
theorem cf_42 : cfR 42 1 := ⟨wat_of (q := (4, 67)) rfl rfl, by decide +kernel⟩
theorem cf_43 : cfR 43 1 := ⟨wat_of (q := (2, 137)) rfl rfl, by decide +kernel⟩
theorem cf_44 : cfR 44 1 := ⟨wat_of (q := (2, 140)) rfl rfl, by decide +kernel⟩
theorem cf_45 : cfR 45 2 := ⟨wat_of (q := (3, 167)) rfl rfl, by decide +kernel⟩
theorem cf_46 : cfR 46 1 := ⟨wat_of (q := (5, 117)) rfl rfl, by decide +kernel⟩
theorem cf_47 : cfR 47 1 := ⟨wat_of (q := (3, 85)) rfl rfl, by decide +kernel⟩
theorem cf_48 : cfR 48 2 := ⟨wat_of (q := (3, 73)) rfl rfl, by decide +kernel⟩
theorem cf_49 : cfR 49 1 := ⟨wat_of (q := (5, 138)) rfl rfl, by decide +kernel⟩
theorem cf_50 : cfR 50 0 := ⟨wat_of (q := (5, 142)) rfl rfl, by decide +kernel⟩
theorem cf_51 : cfR 51 0 := ⟨wat_of (q := (3, 199)) rfl rfl, by decide +kernel⟩
theorem cf_52 : cfR 52 0 := ⟨wat_of (q := (3, 195)) rfl rfl, by decide +kernel⟩
theorem cf_53 : cfR 53 1 := ⟨wat_of (q := (4, 227)) rfl rfl, by decide +kernel⟩
theorem cf_54 : cfR 54 1 := ⟨wat_of (q := (5, 100)) rfl rfl, by decide +kernel⟩
theorem cf_55 : cfR 55 1 := ⟨wat_of (q := (2, 134)) rfl rfl, by decide +kernel⟩
theorem cf_56 : cfR 56 4 := ⟨wat_of (q := (2, 168)) rfl rfl, by decide +kernel⟩
theorem cf_57 : cfR 57 0 := ⟨wat_of (q := (4, 47)) rfl rfl, by decide +kernel⟩
theorem cf_58 : cfR 58 3 := ⟨wat_of (q := (4, 52)) rfl rfl, by decide +kernel⟩
theorem cf_59 : cfR 59 0 := ⟨wat_of (q := (5, 161)) rfl rfl, by decide +kernel⟩
theorem cf_60 : cfR 60 3 := ⟨wat_of (q := (6, 166)) rfl rfl, by decide +kernel⟩
theorem cf_61 : cfR 61 1 := ⟨wat_of (q := (7, 37)) rfl rfl, by decide +kernel⟩
theorem cf_62 : cfR 62 0 := ⟨wat_of (q := (6, 159)) rfl rfl, by decide +kernel⟩
theorem cf_63 : cfR 63 1 := ⟨wat_of (q := (6, 163)) rfl rfl, by decide +kernel⟩
theorem cf_64 : cfR 64 3 := ⟨wat_of (q := (7, 13)) rfl rfl, by decide +kernel⟩
theorem cf_65 : cfR 65 3 := ⟨wat_of (q := (7, 9)) rfl rfl, by decide +kernel⟩
theorem cf_66 : cfR 66 5 := ⟨wat_of (q := (6, 178)) rfl rfl, by decide +kernel⟩
theorem cf_67 : cfR 67 1 := ⟨wat_of (q := (6, 174)) rfl rfl, by decide +kernel⟩
theorem cf_68 : cfR 68 3 := ⟨wat_of (q := (6, 170)) rfl rfl, by decide +kernel⟩
theorem cf_69 : cfR 69 2 := ⟨wat_of (q := (6, 182)) rfl rfl, by decide +kernel⟩
theorem cf_70 : cfR 70 2 := ⟨wat_of (q := (6, 190)) rfl rfl, by decide +kernel⟩
theorem cf_71 : cfR 71 2 := ⟨wat_of (q := (7, 25)) rfl rfl, by decide +kernel⟩
theorem cf_72 : cfR 72 2 := ⟨wat_of (q := (6, 186)) rfl rfl, by decide +kernel⟩
theorem cf_73 : cfR 73 1 := ⟨wat_of (q := (6, 205)) rfl rfl, by decide +kernel⟩
theorem cf_74 : cfR 74 3 := ⟨wat_of (q := (5, 167)) rfl rfl, by decide +kernel⟩
theorem cf_75 : cfR 75 4 := ⟨wat_of (q := (5, 171)) rfl rfl, by decide +kernel⟩
theorem cf_76 : cfR 76 3 := ⟨wat_of (q := (7, 57)) rfl rfl, by decide +kernel⟩
theorem cf_77 : cfR 77 2 := ⟨wat_of (q := (7, 90)) rfl rfl, by decide +kernel⟩
theorem cf_78 : cfR 78 1 := ⟨wat_of (q := (6, 202)) rfl rfl, by decide +kernel⟩
theorem cf_79 : cfR 79 0 := ⟨wat_of (q := (6, 221)) rfl rfl, by decide +kernel⟩
theorem cf_80 : cfR 80 1 := ⟨wat_of (q := (6, 217)) rfl rfl, by decide +kernel⟩
theorem cf_81 : cfR 81 1 := ⟨wat_of (q := (6, 198)) rfl rfl, by decide +kernel⟩
theorem cf_82 : cfR 82 0 := ⟨wat_of (q := (6, 194)) rfl rfl, by decide +kernel⟩
theorem cf_83 : cfR 83 0 := ⟨wat_of (q := (6, 209)) rfl rfl, by decide +kernel⟩
theorem cf_84 : cfR 84 2 := ⟨wat_of (q := (7, 118)) rfl rfl, by decide +kernel⟩
theorem cf_85 : cfR 85 2 := ⟨wat_of (q := (6, 237)) rfl rfl, by decide +kernel⟩
theorem cf_86 : cfR 86 0 := ⟨wat_of (q := (6, 225)) rfl rfl, by decide +kernel⟩
theorem cf_87 : cfR 87 1 := ⟨wat_of (q := (7, 1)) rfl rfl, by decide +kernel⟩
theorem cf_88 : cfR 88 2 := ⟨wat_of (q := (6, 229)) rfl rfl, by decide +kernel⟩
theorem cf_89 : cfR 89 2 := ⟨wat_of (q := (6, 233)) rfl rfl, by decide +kernel⟩
theorem cf_90 : cfR 90 3 := ⟨wat_of (q := (7, 5)) rfl rfl, by decide +kernel⟩
theorem cf_91 : cfR 91 2 := ⟨wat_of (q := (7, 17)) rfl rfl, by decide +kernel⟩
theorem cf_92 : cfR 92 5 := ⟨wat_of (q := (7, 21)) rfl rfl, by decide +kernel⟩
theorem cf_93 : cfR 93 3 := ⟨wat_of (q := (7, 29)) rfl rfl, by decide +kernel⟩
theorem cf_94 : cfR 94 2 := ⟨wat_of (q := (6, 213)) rfl rfl, by decide +kernel⟩
theorem cf_95 : cfR 95 2 := ⟨wat_of (q := (7, 33)) rfl rfl, by decide +kernel⟩
theorem cf_96 : cfR 96 1 := ⟨wat_of (q := (7, 45)) rfl rfl, by decide +kernel⟩
theorem cf_97 : cfR 97 3 := ⟨wat_of (q := (7, 41)) rfl rfl, by decide +kernel⟩
theorem cf_98 : cfR 98 2 := ⟨wat_of (q := (7, 49)) rfl rfl, by decide +kernel⟩
theorem cf_99 : cfR 99 0 := ⟨wat_of (q := (7, 86)) rfl rfl, by decide +kernel⟩
theorem cf_100 : cfR 100 1 := ⟨wat_of (q := (7, 94)) rfl rfl, by decide +kernel⟩
theorem cf_101 : cfR 101 0 := ⟨wat_of (q := (7, 53)) rfl rfl, by decide +kernel⟩
theorem cf_102 : cfR 102 1 := ⟨wat_of (q := (7, 65)) rfl rfl, by decide +kernel⟩
theorem cf_103 : cfR 103 1 := ⟨wat_of (q := (7, 69)) rfl rfl, by decide +kernel⟩
theorem cf_104 : cfR 104 0 := ⟨wat_of (q := (7, 73)) rfl rfl, by decide +kernel⟩
theorem cf_105 : cfR 105 1 := ⟨wat_of (q := (7, 61)) rfl rfl, by decide +kernel⟩
theorem cf_106 : cfR 106 1 := ⟨wat_of (q := (7, 77)) rfl rfl, by decide +kernel⟩
theorem cf_107 : cfR 107 3 := ⟨wat_of (q := (7, 81)) rfl rfl, by decide +kernel⟩
theorem cf_108 : cfR 108 0 := ⟨wat_of (q := (7, 98)) rfl rfl, by decide +kernel⟩
theorem cf_109 : cfR 109 1 := ⟨wat_of (q := (7, 102)) rfl rfl, by decide +kernel⟩
theorem cf_110 : cfR 110 1 := ⟨wat_of (q := (7, 106)) rfl rfl, by decide +kernel⟩
theorem cf_111 : cfR 111 1 := ⟨wat_of (q := (7, 110)) rfl rfl, by decide +kernel⟩
theorem cf_112 : cfR 112 1 := ⟨wat_of (q := (7, 114)) rfl rfl, by decide +kernel⟩
theorem cf_113 : cfR 113 1 := ⟨wat_of (q := (7, 122)) rfl rfl, by decide +kernel⟩
theorem cf_114 : cfR 114 1 := ⟨wat_of (q := (7, 130)) rfl rfl, by decide +kernel⟩
theorem cf_115 : cfR 115 1 := ⟨wat_of (q := (7, 126)) rfl rfl, by decide +kernel⟩
theorem cf_116 : cfR 116 2 := ⟨wat_of (q := (7, 146)) rfl rfl, by decide +kernel⟩
theorem cf_117 : cfR 117 3 := ⟨wat_of (q := (7, 142)) rfl rfl, by decide +kernel⟩
theorem cf_118 : cfR 118 0 := ⟨wat_of (q := (7, 138)) rfl rfl, by decide +kernel⟩
theorem cf_119 : cfR 119 0 := ⟨wat_of (q := (7, 134)) rfl rfl, by decide +kernel⟩
theorem cf_120 : cfR 120 2 := ⟨wat_of (q := (7, 150)) rfl rfl, by decide +kernel⟩
theorem cf_121 : cfR 121 5 := ⟨wat_of (q := (7, 178)) rfl rfl, by decide +kernel⟩
theorem cf_122 : cfR 122 1 := ⟨wat_of (q := (7, 162)) rfl rfl, by decide +kernel⟩
theorem cf_123 : cfR 123 1 := ⟨wat_of (q := (7, 170)) rfl rfl, by decide +kernel⟩
theorem cf_124 : cfR 124 2 := ⟨wat_of (q := (7, 194)) rfl rfl, by decide +kernel⟩
theorem cf_125 : cfR 125 1 := ⟨wat_of (q := (7, 190)) rfl rfl, by decide +kernel⟩
theorem cf_126 : cfR 126 2 := ⟨wat_of (q := (7, 166)) rfl rfl, by decide +kernel⟩
theorem cf_127 : cfR 127 2 := ⟨wat_of (q := (7, 174)) rfl rfl, by decide +kernel⟩
theorem cf_128 : cfR 128 4 := ⟨wat_of (q := (7, 182)) rfl rfl, by decide +kernel⟩
theorem cf_129 : cfR 129 3 := ⟨wat_of (q := (7, 186)) rfl rfl, by decide +kernel⟩
theorem cf_130 : cfR 130 1 := ⟨wat_of (q := (7, 222)) rfl rfl, by decide +kernel⟩
theorem cf_131 : cfR 131 1 := ⟨wat_of (q := (7, 218)) rfl rfl, by decide +kernel⟩
theorem cf_132 : cfR 132 1 := ⟨wat_of (q := (7, 210)) rfl rfl, by decide +kernel⟩
theorem cf_133 : cfR 133 1 := ⟨wat_of (q := (7, 214)) rfl rfl, by decide +kernel⟩
theorem cf_134 : cfR 134 2 := ⟨wat_of (q := (7, 158)) rfl rfl, by decide +kernel⟩
theorem cf_135 : cfR 135 1 := ⟨wat_of (q := (7, 198)) rfl rfl, by decide +kernel⟩
theorem cf_136 : cfR 136 1 := ⟨wat_of (q := (7, 154)) rfl rfl, by decide +kernel⟩
theorem cf_137 : cfR 137 0 := ⟨wat_of (q := (7, 206)) rfl rfl, by decide +kernel⟩
theorem cf_138 : cfR 138 1 := ⟨wat_of (q := (7, 202)) rfl rfl, by decide +kernel⟩
theorem cf_139 : cfR 139 0 := ⟨wat_of (q := (7, 226)) rfl rfl, by decide +kernel⟩
theorem cf_140 : cfR 140 0 := ⟨wat_of (q := (7, 230)) rfl rfl, by decide +kernel⟩
theorem cf_141 : cfR 141 1 := ⟨wat_of (q := (8, 14)) rfl rfl, by decide +kernel⟩
theorem cf_142 : cfR 142 1 := ⟨wat_of (q := (8, 10)) rfl rfl, by decide +kernel⟩
theorem cf_143 : cfR 143 1 := ⟨wat_of (q := (8, 21)) rfl rfl, by decide +kernel⟩
theorem cf_144 : cfR 144 1 := ⟨wat_of (q := (8, 26)) rfl rfl, by decide +kernel⟩
theorem cf_145 : cfR 145 1 := ⟨wat_of (q := (8, 6)) rfl rfl, by decide +kernel⟩
theorem cf_146 : cfR 146 1 := ⟨wat_of (q := (8, 2)) rfl rfl, by decide +kernel⟩
theorem cf_147 : cfR 147 0 := ⟨wat_of (q := (7, 238)) rfl rfl, by decide +kernel⟩
theorem cf_148 : cfR 148 1 := ⟨wat_of (q := (7, 234)) rfl rfl, by decide +kernel⟩
theorem cf_149 : cfR 149 1 := ⟨wat_of (q := (8, 38)) rfl rfl, by decide +kernel⟩
theorem cf_150 : cfR 150 3 := ⟨wat_of (q := (8, 42)) rfl rfl, by decide +kernel⟩
theorem cf_151 : cfR 151 1 := ⟨wat_of (q := (8, 46)) rfl rfl, by decide +kernel⟩
theorem cf_152 : cfR 152 2 := ⟨wat_of (q := (8, 50)) rfl rfl, by decide +kernel⟩
theorem cf_153 : cfR 153 2 := ⟨wat_of (q := (8, 58)) rfl rfl, by decide +kernel⟩
theorem cf_154 : cfR 154 2 := ⟨wat_of (q := (8, 54)) rfl rfl, by decide +kernel⟩
theorem cf_155 : cfR 155 2 := ⟨wat_of (q := (8, 62)) rfl rfl, by decide +kernel⟩
theorem cf_156 : cfR 156 0 := ⟨wat_of (q := (8, 66)) rfl rfl, by decide +kernel⟩
theorem cf_157 : cfR 157 1 := ⟨wat_of (q := (8, 70)) rfl rfl, by decide +kernel⟩
theorem cf_158 : cfR 158 0 := ⟨wat_of (q := (8, 74)) rfl rfl, by decide +kernel⟩
theorem cf_159 : cfR 159 0 := ⟨wat_of (q := (2, 110)) rfl rfl, by decide +kernel⟩
theorem cf_160 : cfR 160 2 := ⟨wat_of (q := (4, 14)) rfl rfl, by decide +kernel⟩
theorem cf_161 : cfR 161 1 := ⟨wat_of (q := (4, 23)) rfl rfl, by decide +kernel⟩
theorem cf_162 : cfR 162 1 := ⟨wat_of (q := (2, 11)) rfl rfl, by decide +kernel⟩
theorem cf_163 : cfR 163 1 := ⟨wat_of (q := (2, 149)) rfl rfl, by decide +kernel⟩
theorem cf_164 : cfR 164 2 := ⟨wat_of (q := (4, 56)) rfl rfl, by decide +kernel⟩
theorem cf_165 : cfR 165 3 := ⟨wat_of (q := (2, 157)) rfl rfl, by decide +kernel⟩
theorem cf_166 : cfR 166 3 := ⟨wat_of (q := (2, 161)) rfl rfl, by decide +kernel⟩
theorem cf_167 : cfR 167 1 := ⟨wat_of (q := (2, 165)) rfl rfl, by decide +kernel⟩
theorem cf_168 : cfR 168 3 := ⟨wat_of (q := (2, 176)) rfl rfl, by decide +kernel⟩
theorem cf_169 : cfR 169 2 := ⟨wat_of (q := (2, 196)) rfl rfl, by decide +kernel⟩
theorem cf_170 : cfR 170 3 := ⟨wat_of (q := (2, 204)) rfl rfl, by decide +kernel⟩
theorem cf_171 : cfR 171 3 := ⟨wat_of (q := (2, 214)) rfl rfl, by decide +kernel⟩
theorem cf_172 : cfR 172 2 := ⟨wat_of (q := (2, 218)) rfl rfl, by decide +kernel⟩
theorem cf_173 : cfR 173 2 := ⟨wat_of (q := (2, 200)) rfl rfl, by decide +kernel⟩
theorem cf_174 : cfR 174 0 := ⟨wat_of (q := (1, 31)) rfl rfl, by decide +kernel⟩
theorem cf_175 : cfR 175 5 := ⟨wat_of (q := (1, 36)) rfl rfl, by decide +kernel⟩
theorem cf_176 : cfR 176 1 := ⟨wat_of (q := (3, 35)) rfl rfl, by decide +kernel⟩
theorem cf_177 : cfR 177 2 := ⟨wat_of (q := (2, 192)) rfl rfl, by decide +kernel⟩
theorem cf_178 : cfR 178 3 := ⟨wat_of (q := (3, 40)) rfl rfl, by decide +kernel⟩
theorem cf_179 : cfR 179 3 := ⟨wat_of (q := (3, 44)) rfl rfl, by decide +kernel⟩
theorem cf_180 : cfR 180 0 := ⟨wat_of (q := (2, 153)) rfl rfl, by decide +kernel⟩
theorem cf_181 : cfR 181 3 := ⟨wat_of (q := (2, 188)) rfl rfl, by decide +kernel⟩
theorem cf_182 : cfR 182 2 := ⟨wat_of (q := (2, 180)) rfl rfl, by decide +kernel⟩
theorem cf_183 : cfR 183 3 := ⟨wat_of (q := (2, 184)) rfl rfl, by decide +kernel⟩
theorem cf_184 : cfR 184 3 := ⟨wat_of (q := (2, 208)) rfl rfl, by decide +kernel⟩
theorem cf_185 : cfR 185 2 := ⟨wat_of (q := (3, 93)) rfl rfl, by decide +kernel⟩
theorem cf_186 : cfR 186 4 := ⟨wat_of (q := (1, 83)) rfl rfl, by decide +kernel⟩
theorem cf_187 : cfR 187 1 := ⟨wat_of (q := (3, 81)) rfl rfl, by decide +kernel⟩
theorem cf_188 : cfR 188 2 := ⟨wat_of (q := (2, 145)) rfl rfl, by decide +kernel⟩
theorem cf_189 : cfR 189 0 := ⟨wat_of (q := (2, 172)) rfl rfl, by decide +kernel⟩
theorem cf_190 : cfR 190 0 := ⟨wat_of (q := (5, 72)) rfl rfl, by decide +kernel⟩
theorem cf_191 : cfR 191 0 := ⟨wat_of (q := (1, 185)) rfl rfl, by decide +kernel⟩
theorem cf_192 : cfR 192 0 := ⟨wat_of (q := (1, 181)) rfl rfl, by decide +kernel⟩
theorem cf_193 : cfR 193 0 := ⟨wat_of (q := (2, 27)) rfl rfl, by decide +kernel⟩
theorem cf_194 : cfR 194 0 := ⟨wat_of (q := (4, 79)) rfl rfl, by decide +kernel⟩
theorem cf_195 : cfR 195 4 := ⟨wat_of (q := (4, 107)) rfl rfl, by decide +kernel⟩
theorem cf_196 : cfR 196 2 := ⟨wat_of (q := (4, 103)) rfl rfl, by decide +kernel⟩
theorem cf_197 : cfR 197 3 := ⟨wat_of (q := (4, 171)) rfl rfl, by decide +kernel⟩
theorem cf_198 : cfR 198 2 := ⟨wat_of (q := (4, 211)) rfl rfl, by decide +kernel⟩
theorem cf_199 : cfR 199 1 := ⟨wat_of (q := (4, 163)) rfl rfl, by decide +kernel⟩
theorem cf_200 : cfR 200 4 := ⟨wat_of (q := (4, 219)) rfl rfl, by decide +kernel⟩
theorem cf_201 : cfR 201 3 := ⟨wat_of (q := (4, 175)) rfl rfl, by decide +kernel⟩
theorem cf_202 : cfR 202 0 := ⟨wat_of (q := (4, 179)) rfl rfl, by decide +kernel⟩
theorem cf_203 : cfR 203 0 := ⟨wat_of (q := (1, 70)) rfl rfl, by decide +kernel⟩
theorem cf_204 : cfR 204 3 := ⟨wat_of (q := (1, 79)) rfl rfl, by decide +kernel⟩
theorem cf_205 : cfR 205 1 := ⟨wat_of (q := (3, 174)) rfl rfl, by decide +kernel⟩
theorem cf_206 : cfR 206 0 := ⟨wat_of (q := (1, 177)) rfl rfl, by decide +kernel⟩
theorem cf_207 : cfR 207 1 := ⟨wat_of (q := (3, 69)) rfl rfl, by decide +kernel⟩
theorem cf_208 : cfR 208 2 := ⟨wat_of (q := (3, 190)) rfl rfl, by decide +kernel⟩
theorem cf_209 : cfR 209 1 := ⟨wat_of (q := (3, 237)) rfl rfl, by decide +kernel⟩
theorem cf_210 : cfR 210 2 := ⟨wat_of (q := (3, 233)) rfl rfl, by decide +kernel⟩
theorem cf_211 : cfR 211 1 := ⟨wat_of (q := (3, 147)) rfl rfl, by decide +kernel⟩
theorem cf_212 : cfR 212 2 := ⟨wat_of (q := (3, 151)) rfl rfl, by decide +kernel⟩
theorem cf_213 : cfR 213 1 := ⟨wat_of (q := (3, 156)) rfl rfl, by decide +kernel⟩
theorem cf_214 : cfR 214 2 := ⟨wat_of (q := (3, 220)) rfl rfl, by decide +kernel⟩
theorem cf_215 : cfR 215 2 := ⟨wat_of (q := (3, 225)) rfl rfl, by decide +kernel⟩
theorem cf_216 : cfR 216 2 := ⟨wat_of (q := (4, 2)) rfl rfl, by decide +kernel⟩
theorem cf_217 : cfR 217 0 := ⟨wat_of (q := (4, 231)) rfl rfl, by decide +kernel⟩
theorem cf_218 : cfR 218 0 := ⟨wat_of (q := (5, 52)) rfl rfl, by decide +kernel⟩
theorem cf_219 : cfR 219 0 := ⟨wat_of (q := (3, 178)) rfl rfl, by decide +kernel⟩
theorem cf_220 : cfR 220 0 := ⟨wat_of (q := (4, 34)) rfl rfl, by decide +kernel⟩
theorem cf_221 : cfR 221 0 := ⟨wat_of (q := (1, 189)) rfl rfl, by decide +kernel⟩
theorem cf_222 : cfR 222 1 := ⟨wat_of (q := (3, 182)) rfl rfl, by decide +kernel⟩
theorem cf_223 : cfR 223 1 := ⟨wat_of (q := (4, 38)) rfl rfl, by decide +kernel⟩
theorem cf_224 : cfR 224 0 := ⟨wat_of (q := (4, 111)) rfl rfl, by decide +kernel⟩
theorem cf_225 : cfR 225 0 := ⟨wat_of (q := (4, 159)) rfl rfl, by decide +kernel⟩
theorem cf_226 : cfR 226 0 := ⟨wat_of (q := (2, 21)) rfl rfl, by decide +kernel⟩
theorem cf_227 : cfR 227 2 := ⟨wat_of (q := (4, 71)) rfl rfl, by decide +kernel⟩
theorem cf_228 : cfR 228 1 := ⟨wat_of (q := (5, 56)) rfl rfl, by decide +kernel⟩
theorem cf_229 : cfR 229 2 := ⟨wat_of (q := (4, 99)) rfl rfl, by decide +kernel⟩
theorem cf_230 : cfR 230 1 := ⟨wat_of (q := (4, 75)) rfl rfl, by decide +kernel⟩
theorem cf_231 : cfR 231 1 := ⟨wat_of (q := (4, 223)) rfl rfl, by decide +kernel⟩
theorem cf_232 : cfR 232 2 := ⟨wat_of (q := (4, 91)) rfl rfl, by decide +kernel⟩
theorem cf_233 : cfR 233 1 := ⟨wat_of (q := (4, 87)) rfl rfl, by decide +kernel⟩
theorem cf_234 : cfR 234 3 := ⟨wat_of (q := (4, 83)) rfl rfl, by decide +kernel⟩
theorem cf_235 : cfR 235 2 := ⟨wat_of (q := (4, 95)) rfl rfl, by decide +kernel⟩
theorem cf_236 : cfR 236 3 := ⟨wat_of (q := (4, 167)) rfl rfl, by decide +kernel⟩
theorem cf_237 : cfR 237 1 := ⟨wat_of (q := (4, 199)) rfl rfl, by decide +kernel⟩
theorem cf_238 : cfR 238 1 := ⟨wat_of (q := (4, 202)) rfl rfl, by decide +kernel⟩
theorem cf_239 : cfR 239 5 := ⟨wat_of (q := (4, 206)) rfl rfl, by decide +kernel⟩
theorem cf_240 : cfR 240 3 := ⟨wat_of (q := (4, 215)) rfl rfl, by decide +kernel⟩
theorem cf_241 : cfR 241 2 := ⟨wat_of (q := (5, 60)) rfl rfl, by decide +kernel⟩
theorem cf_242 : cfR 242 2 := ⟨wat_of (q := (5, 64)) rfl rfl, by decide +kernel⟩
theorem cf_243 : cfR 243 2 := ⟨wat_of (q := (5, 76)) rfl rfl, by decide +kernel⟩
theorem cf_244 : cfR 244 2 := ⟨wat_of (q := (5, 68)) rfl rfl, by decide +kernel⟩
theorem cf_245 : cfR 245 0 := ⟨wat_of (q := (2, 76)) rfl rfl, by decide +kernel⟩
theorem cf_246 : cfR 246 1 := ⟨wat_of (q := (5, 92)) rfl rfl, by decide +kernel⟩
theorem cf_247 : cfR 247 1 := ⟨wat_of (q := (4, 235)) rfl rfl, by decide +kernel⟩
theorem cf_248 : cfR 248 2 := ⟨wat_of (q := (4, 239)) rfl rfl, by decide +kernel⟩
theorem cf_249 : cfR 249 1 := ⟨wat_of (q := (5, 11)) rfl rfl, by decide +kernel⟩
theorem cf_250 : cfR 250 1 := ⟨wat_of (q := (5, 20)) rfl rfl, by decide +kernel⟩
theorem cf_251 : cfR 251 1 := ⟨wat_of (q := (5, 7)) rfl rfl, by decide +kernel⟩
theorem cf_252 : cfR 252 1 := ⟨wat_of (q := (5, 3)) rfl rfl, by decide +kernel⟩
theorem cf_253 : cfR 253 1 := ⟨wat_of (q := (5, 33)) rfl rfl, by decide +kernel⟩
theorem cf_254 : cfR 254 1 := ⟨wat_of (q := (5, 36)) rfl rfl, by decide +kernel⟩
theorem cfc_0 {x y : Nat} (h1 : 0 ≤ x) (h2 : x < 16) (h : l2 nas x = some (some y)) : cfR x y := by
  rcases (show x = 0 ∨ x = 1 ∨ x = 2 ∨ x = 3 ∨ x = 4 ∨ x = 5 ∨ x = 6 ∨ x = 7 ∨ x = 8 ∨ x = 9 ∨ x = 10 ∨ x = 11 ∨ x = 12 ∨ x = 13 ∨ x = 14 ∨ x = 15 by omega) with rfl | rfl | rfl | rfl | rfl | rfl | rfl | rfl | rfl | rfl | rfl | rfl | rfl | rfl | rfl | rfl
  · cases h
  · cases h; exact cf_1
  · cases h; exact cf_2
  · cases h; exact cf_3
  · cases h; exact cf_4
  · cases h; exact cf_5
  · cases h; exact cf_6
  · cases h; exact cf_7
  · cases h; exact cf_8
  · cases h; exact cf_9
  · cases h; exact cf_10
  · cases h; exact cf_11
  · cases h; exact cf_12
  · cases h; exact cf_13
  · cases h; exact cf_14
  · cases h; exact cf_15
theorem cfc_1 {x y : Nat} (h1 : 16 ≤ x) (h2 : x < 32) (h : l2 nas x = some (some y)) : cfR x y := by
  rcases (show x = 16 ∨ x = 17 ∨ x = 18 ∨ x = 19 ∨ x = 20 ∨ x = 21 ∨ x = 22 ∨ x = 23 ∨ x = 24 ∨ x = 25 ∨ x = 26 ∨ x = 27 ∨ x = 28 ∨ x = 29 ∨ x = 30 ∨ x = 31 by omega) with rfl | rfl | rfl | rfl | rfl | rfl | rfl | rfl | rfl | rfl | rfl | rfl | rfl | rfl | rfl | rfl
  · cases h; exact cf_16
  · cases h; exact cf_17
  · cases h; exact cf_18
  · cases h; exact cf_19
  · cases h; exact cf_20
  · cases h; exact cf_21
  · cases h; exact cf_22
  · cases h; exact cf_23
  · cases h; exact cf_24
  · cases h; exact cf_25
  · cases h; exact cf_26
  · cases h; exact cf_27
  · cases h; exact cf_28
  · cases h; exact cf_29
  · cases h; exact cf_30
  · cases h; exact cf_31
theorem cfc_2 {x y : Nat} (h1 : 32 ≤ x) (h2 : x < 48) (h : l2 nas x = some (some y)) : cfR x y := by
  rcases (show x = 32 ∨ x = 33 ∨ x = 34 ∨ x = 35 ∨ x = 36 ∨ x = 37 ∨ x = 38 ∨ x = 39 ∨ x = 40 ∨ x = 41 ∨ x = 42 ∨ x = 43 ∨ x = 44 ∨ x = 45 ∨ x = 46 ∨ x = 47 by omega) with rfl | rfl | rfl | rfl | rfl | rfl | rfl | rfl | rfl | rfl | rfl | rfl | rfl | rfl | rfl | rfl
  · cases h; exact cf_32
  · cases h; exact cf_33
  · cases h; exact cf_34
  · cases h; exact cf_35
  · cases h; exact cf_36
  · cases h; exact cf_37
  · cases h; exact cf_38
  · cases h; exact cf_39
  · cases h; exact cf_40
  · cases h; exact cf_41
  · cases h; exact cf_42
  · cases h; exact cf_43
  · cases h; exact cf_44
  · cases h; exact cf_45
  · cases h; exact cf_46
  · cases h; exact cf_47
theorem cfc_3 {x y : Nat} (h1 : 48 ≤ x) (h2 : x < 64) (h : l2 nas x = some (some y)) : cfR x y := by
  rcases (show x = 48 ∨ x = 49 ∨ x = 50 ∨ x = 51 ∨ x = 52 ∨ x = 53 ∨ x = 54 ∨ x = 55 ∨ x = 56 ∨ x = 57 ∨ x = 58 ∨ x = 59 ∨ x = 60 ∨ x = 61 ∨ x = 62 ∨ x = 63 by omega) with rfl | rfl | rfl | rfl | rfl | rfl | rfl | rfl | rfl | rfl | rfl | rfl | rfl | rfl | rfl | rfl
  · cases h; exact cf_48
  · cases h; exact cf_49
  · cases h; exact cf_50
  · cases h; exact cf_51
  · cases h; exact cf_52
  · cases h; exact cf_53
  · cases h; exact cf_54
  · cases h; exact cf_55
  · cases h; exact cf_56
  · cases h; exact cf_57
  · cases h; exact cf_58
  · cases h; exact cf_59
  · cases h; exact cf_60
  · cases h; exact cf_61
  · cases h; exact cf_62
  · cases h; exact cf_63
theorem cfc_4 {x y : Nat} (h1 : 64 ≤ x) (h2 : x < 80) (h : l2 nas x = some (some y)) : cfR x y := by
  rcases (show x = 64 ∨ x = 65 ∨ x = 66 ∨ x = 67 ∨ x = 68 ∨ x = 69 ∨ x = 70 ∨ x = 71 ∨ x = 72 ∨ x = 73 ∨ x = 74 ∨ x = 75 ∨ x = 76 ∨ x = 77 ∨ x = 78 ∨ x = 79 by omega) with rfl | rfl | rfl | rfl | rfl | rfl | rfl | rfl | rfl | rfl | rfl | rfl | rfl | rfl | rfl | rfl
  · cases h; exact cf_64
  · cases h; exact cf_65
  · cases h; exact cf_66
  · cases h; exact cf_67
  · cases h; exact cf_68
  · cases h; exact cf_69
  · cases h; exact cf_70
  · cases h; exact cf_71
  · cases h; exact cf_72
  · cases h; exact cf_73
  · cases h; exact cf_74
  · cases h; exact cf_75
  · cases h; exact cf_76
  · cases h; exact cf_77
  · cases h; exact cf_78
  · cases h; exact cf_79
theorem cfc_5 {x y : Nat} (h1 : 80 ≤ x) (h2 : x < 96) (h : l2 nas x = some (some y)) : cfR x y := by
  rcases (show x = 80 ∨ x = 81 ∨ x = 82 ∨ x = 83 ∨ x = 84 ∨ x = 85 ∨ x = 86 ∨ x = 87 ∨ x = 88 ∨ x = 89 ∨ x = 90 ∨ x = 91 ∨ x = 92 ∨ x = 93 ∨ x = 94 ∨ x = 95 by omega) with rfl | rfl | rfl | rfl | rfl | rfl | rfl | rfl | rfl | rfl | rfl | rfl | rfl | rfl | rfl | rfl
  · cases h; exact cf_80
  · cases h; exact cf_81
  · cases h; exact cf_82
  · cases h; exact cf_83
  · cases h; exact cf_84
  · cases h; exact cf_85
  · cases h; exact cf_86
  · cases h; exact cf_87
  · cases h; exact cf_88
  · cases h; exact cf_89
  · cases h; exact cf_90
  · cases h; exact cf_91
  · cases h; exact cf_92
  · cases h; exact cf_93
  · cases h; exact cf_94
  · cases h; exact cf_95
theorem cfc_6 {x y : Nat} (h1 : 96 ≤ x) (h2 : x < 112) (h : l2 nas x = some (some y)) : cfR x y := by
  rcases (show x = 96 ∨ x = 97 ∨ x = 98 ∨ x = 99 ∨ x = 100 ∨ x = 101 ∨ x = 102 ∨ x = 103 ∨ x = 104 ∨ x = 105 ∨ x = 106 ∨ x = 107 ∨ x = 108 ∨ x = 109 ∨ x = 110 ∨ x = 111 by omega) with rfl | rfl | rfl | rfl | rfl | rfl | rfl | rfl | rfl | rfl | rfl | rfl | rfl | rfl | rfl | rfl
  · cases h; exact cf_96
  · cases h; exact cf_97
  · cases h; exact cf_98
  · cases h; exact cf_99
  · cases h; exact cf_100
  · cases h; exact cf_101
  · cases h; exact cf_102
  · cases h; exact cf_103
  · cases h; exact cf_104
  · cases h; exact cf_105
  · cases h; exact cf_106
  · cases h; exact cf_107
  · cases h; exact cf_108
  · cases h; exact cf_109
  · cases h; exact cf_110
  · cases h; exact cf_111
theorem cfc_7 {x y : Nat} (h1 : 112 ≤ x) (h2 : x < 128) (h : l2 nas x = some (some y)) : cfR x y := by
  rcases (show x = 112 ∨ x = 113 ∨ x = 114 ∨ x = 115 ∨ x = 116 ∨ x = 117 ∨ x = 118 ∨ x = 119 ∨ x = 120 ∨ x = 121 ∨ x = 122 ∨ x = 123 ∨ x = 124 ∨ x = 125 ∨ x = 126 ∨ x = 127 by omega) with rfl | rfl | rfl | rfl | rfl | rfl | rfl | rfl | rfl | rfl | rfl | rfl | rfl | rfl | rfl | rfl
  · cases h; exact cf_112
  · cases h; exact cf_113
  · cases h; exact cf_114
  · cases h; exact cf_115
  · cases h; exact cf_116
  · cases h; exact cf_117
  · cases h; exact cf_118
  · cases h; exact cf_119
  · cases h; exact cf_120
  · cases h; exact cf_121
  · cases h; exact cf_122
  · cases h; exact cf_123
  · cases h; exact cf_124
  · cases h; exact cf_125
  · cases h; exact cf_126
  · cases h; exact cf_127
theorem cfc_8 {x y : Nat} (h1 : 128 ≤ x) (h2 : x < 144) (h : l2 nas x = some (some y)) : cfR x y := by
  rcases (show x = 128 ∨ x = 129 ∨ x = 130 ∨ x = 131 ∨ x = 132 ∨ x = 133 ∨ x = 134 ∨ x = 135 ∨ x = 136 ∨ x = 137 ∨ x = 138 ∨ x = 139 ∨ x = 140 ∨ x = 141 ∨ x = 142 ∨ x = 143 by omega) with rfl | rfl | rfl | rfl | rfl | rfl | rfl | rfl | rfl | rfl | rfl | rfl | rfl | rfl | rfl | rfl
  · cases h; exact cf_128
  · cases h; exact cf_129
  · cases h; exact cf_130
  · cases h; exact cf_131
  · cases h; exact cf_132
  · cases h; exact cf_133
  · cases h; exact cf_134
  · cases h; exact cf_135
  · cases h; exact cf_136
  · cases h; exact cf_137
  · cases h; exact cf_138
  · cases h; exact cf_139
  · cases h; exact cf_140
  · cases h; exact cf_141
  · cases h; exact cf_142
  · cases h; exact cf_143
theorem cfc_9 {x y : Nat} (h1 : 144 ≤ x) (h2 : x < 160) (h : l2 nas x = some (some y)) : cfR x y := by
  rcases (show x = 144 ∨ x = 145 ∨ x = 146 ∨ x = 147 ∨ x = 148 ∨ x = 149 ∨ x = 150 ∨ x = 151 ∨ x = 152 ∨ x = 153 ∨ x = 154 ∨ x = 155 ∨ x = 156 ∨ x = 157 ∨ x = 158 ∨ x = 159 by omega) with rfl | rfl | rfl | rfl | rfl | rfl | rfl | rfl | rfl | rfl | rfl | rfl | rfl | rfl | rfl | rfl
  · cases h; exact cf_144
  · cases h; exact cf_145
  · cases h; exact cf_146
  · cases h; exact cf_147
  · cases h; exact cf_148
  · cases h; exact cf_149
  · cases h; exact cf_150
  · cases h; exact cf_151
  · cases h; exact cf_152
  · cases h; exact cf_153
  · cases h; exact cf_154
  · cases h; exact cf_155
  · cases h; exact cf_156
  · cases h; exact cf_157
  · cases h; exact cf_158
  · cases h; exact cf_159
theorem cfc_10 {x y : Nat} (h1 : 160 ≤ x) (h2 : x < 176) (h : l2 nas x = some (some y)) : cfR x y := by
  rcases (show x = 160 ∨ x = 161 ∨ x = 162 ∨ x = 163 ∨ x = 164 ∨ x = 165 ∨ x = 166 ∨ x = 167 ∨ x = 168 ∨ x = 169 ∨ x = 170 ∨ x = 171 ∨ x = 172 ∨ x = 173 ∨ x = 174 ∨ x = 175 by omega) with rfl | rfl | rfl | rfl | rfl | rfl | rfl | rfl | rfl | rfl | rfl | rfl | rfl | rfl | rfl | rfl
  · cases h; exact cf_160
  · cases h; exact cf_161
  · cases h; exact cf_162
  · cases h; exact cf_163
  · cases h; exact cf_164
  · cases h; exact cf_165
  · cases h; exact cf_166
  · cases h; exact cf_167
  · cases h; exact cf_168
  · cases h; exact cf_169
  · cases h; exact cf_170
  · cases h; exact cf_171
  · cases h; exact cf_172
  · cases h; exact cf_173
  · cases h; exact cf_174
  · cases h; exact cf_175
theorem cfc_11 {x y : Nat} (h1 : 176 ≤ x) (h2 : x < 192) (h : l2 nas x = some (some y)) : cfR x y := by
  rcases (show x = 176 ∨ x = 177 ∨ x = 178 ∨ x = 179 ∨ x = 180 ∨ x = 181 ∨ x = 182 ∨ x = 183 ∨ x = 184 ∨ x = 185 ∨ x = 186 ∨ x = 187 ∨ x = 188 ∨ x = 189 ∨ x = 190 ∨ x = 191 by omega) with rfl | rfl | rfl | rfl | rfl | rfl | rfl | rfl | rfl | rfl | rfl | rfl | rfl | rfl | rfl | rfl
  · cases h; exact cf_176
  · cases h; exact cf_177
  · cases h; exact cf_178
  · cases h; exact cf_179
  · cases h; exact cf_180
  · cases h; exact cf_181
  · cases h; exact cf_182
  · cases h; exact cf_183
  · cases h; exact cf_184
  · cases h; exact cf_185
  · cases h; exact cf_186
  · cases h; exact cf_187
  · cases h; exact cf_188
  · cases h; exact cf_189
  · cases h; exact cf_190
  · cases h; exact cf_191
theorem cfc_12 {x y : Nat} (h1 : 192 ≤ x) (h2 : x < 208) (h : l2 nas x = some (some y)) : cfR x y := by
  rcases (show x = 192 ∨ x = 193 ∨ x = 194 ∨ x = 195 ∨ x = 196 ∨ x = 197 ∨ x = 198 ∨ x = 199 ∨ x = 200 ∨ x = 201 ∨ x = 202 ∨ x = 203 ∨ x = 204 ∨ x = 205 ∨ x = 206 ∨ x = 207 by omega) with rfl | rfl | rfl | rfl | rfl | rfl | rfl | rfl | rfl | rfl | rfl | rfl | rfl | rfl | rfl | rfl
  · cases h; exact cf_192
  · cases h; exact cf_193
  · cases h; exact cf_194
  · cases h; exact cf_195
  · cases h; exact cf_196
  · cases h; exact cf_197
  · cases h; exact cf_198
  · cases h; exact cf_199
  · cases h; exact cf_200
  · cases h; exact cf_201
  · cases h; exact cf_202
  · cases h; exact cf_203
  · cases h; exact cf_204
  · cases h; exact cf_205
  · cases h; exact cf_206
  · cases h; exact cf_207
theorem cfc_13 {x y : Nat} (h1 : 208 ≤ x) (h2 : x < 224) (h : l2 nas x = some (some y)) : cfR x y := by
  rcases (show x = 208 ∨ x = 209 ∨ x = 210 ∨ x = 211 ∨ x = 212 ∨ x = 213 ∨ x = 214 ∨ x = 215 ∨ x = 216 ∨ x = 217 ∨ x = 218 ∨ x = 219 ∨ x = 220 ∨ x = 221 ∨ x = 222 ∨ x = 223 by omega) with rfl | rfl | rfl | rfl | rfl | rfl | rfl | rfl | rfl | rfl | rfl | rfl | rfl | rfl | rfl | rfl
  · cases h; exact cf_208
  · cases h; exact cf_209
  · cases h; exact cf_210
  · cases h; exact cf_211
  · cases h; exact cf_212
  · cases h; exact cf_213
  · cases h; exact cf_214
  · cases h; exact cf_215
  · cases h; exact cf_216
  · cases h; exact cf_217
  · cases h; exact cf_218
  · cases h; exact cf_219
  · cases h; exact cf_220
  · cases h; exact cf_221
  · cases h; exact cf_222
  · cases h; exact cf_223
theorem cfc_14 {x y : Nat} (h1 : 224 ≤ x) (h2 : x < 240) (h : l2 nas x = some (some y)) : cfR x y := by
  rcases (show x = 224 ∨ x = 225 ∨ x = 226 ∨ x = 227 ∨ x = 228 ∨ x = 229 ∨ x = 230 ∨ x = 231 ∨ x = 232 ∨ x = 233 ∨ x = 234 ∨ x = 235 ∨ x = 236 ∨ x = 237 ∨ x = 238 ∨ x = 239 by omega) with rfl | rfl | rfl | rfl | rfl | rfl | rfl | rfl | rfl | rfl | rfl | rfl | rfl | rfl | rfl | rfl
  · cases h; exact cf_224
  · cases h; exact cf_225
  · cases h; exact cf_226
  · cases h; exact cf_227
  · cases h; exact cf_228
  · cases h; exact cf_229
  · cases h; exact cf_230
  · cases h; exact cf_231
  · cases h; exact cf_232
  · cases h; exact cf_233
  · cases h; exact cf_234
  · cases h; exact cf_235
  · cases h; exact cf_236
  · cases h; exact cf_237
  · cases h; exact cf_238
  · cases h; exact cf_239
theorem cfc_15 {x y : Nat} (h1 : 240 ≤ x) (h2 : x < 256) (h : l2 nas x = some (some y)) : cfR x y := by
  rcases (show x = 240 ∨ x = 241 ∨ x = 242 ∨ x = 243 ∨ x = 244 ∨ x = 245 ∨ x = 246 ∨ x = 247 ∨ x = 248 ∨ x = 249 ∨ x = 250 ∨ x = 251 ∨ x = 252 ∨ x = 253 ∨ x = 254 ∨ x = 255 by omega) with rfl | rfl | rfl | rfl | rfl | rfl | rfl | rfl | rfl | rfl | rfl | rfl | rfl | rfl | rfl | rfl
  · cases h; exact cf_240
  · cases h; exact cf_241
  · cases h; exact cf_242
  · cases h; exact cf_243
  · cases h; exact cf_244
  · cases h; exact cf_245
  · cases h; exact cf_246
  · cases h; exact cf_247
  · cases h; exact cf_248
  · cases h; exact cf_249
  · cases h; exact cf_250
  · cases h; exact cf_251
  · cases h; exact cf_252
  · cases h; exact cf_253
  · cases h; exact cf_254
  · cases h
theorem cf_all {x y : Nat} (h : l2 nas x = some (some y)) : cfR x y := by
  by_cases h0 : x < 16
  · exact cfc_0 (by omega) (by omega) h
  by_cases h1 : x < 32
  · exact cfc_1 (by omega) (by omega) h
  by_cases h2 : x < 48
  · exact cfc_2 (by omega) (by omega) h
  by_cases h3 : x < 64
  · exact cfc_3 (by omega) (by omega) h
  by_cases h4 : x < 80
  · exact cfc_4 (by omega) (by omega) h
  by_cases h5 : x < 96
  · exact cfc_5 (by omega) (by omega) h
  by_cases h6 : x < 112
  · exact cfc_6 (by omega) (by omega) h
  by_cases h7 : x < 128
  · exact cfc_7 (by omega) (by omega) h
  by_cases h8 : x < 144
  · exact cfc_8 (by omega) (by omega) h
  by_cases h9 : x < 160
  · exact cfc_9 (by omega) (by omega) h
  by_cases h10 : x < 176
  · exact cfc_10 (by omega) (by omega) h
  by_cases h11 : x < 192
  · exact cfc_11 (by omega) (by omega) h
  by_cases h12 : x < 208
  · exact cfc_12 (by omega) (by omega) h
  by_cases h13 : x < 224
  · exact cfc_13 (by omega) (by omega) h
  by_cases h14 : x < 240
  · exact cfc_14 (by omega) (by omega) h
  by_cases h15 : x < 256
  · exact cfc_15 (by omega) (by omega) h
  exfalso
  unfold l2 at h
  by_cases q : 16 ≤ x / 16
  · rw [List.getElem?_eq_none (show nas.length ≤ x / 16 from q)] at h; cases h
  · rw [show x / 16 = 15 by omega] at h
    have h : ([some 3, some 2, some 2, some 2, some 2, some 0, some 1, some 1, some 2, some 1, some 1, some 1, some 1, some 1, some 1, none] : List (Option Nat))[x % 16]? = some (some y) := h
    rw [List.getElem?_eq_none (show 16 ≤ x % 16 by omega)] at h
    cases h
theorem mlr_0_0 : rowM 0 0 = true := by decide +kernel
theorem mlr_0_1 : rowM 0 1 = true := by decide +kernel
theorem mlr_0_2 : rowM 0 2 = true := by decide +kernel
theorem mlr_0_3 : rowM 0 3 = true := by decide +kernel
theorem mlr_0_4 : rowM 0 4 = true := by decide +kernel
theorem mlr_0_5 : rowM 0 5 = true := by decide +kernel
theorem mlr_0_6 : rowM 0 6 = true := by decide +kernel
theorem mlr_0_7 : rowM 0 7 = true := by decide +kernel
theorem mlr_0_8 : rowM 0 8 = true := by decide +kernel
theorem mlr_0_9 : rowM 0 9 = true := by decide +kernel
theorem mlr_0_10 : rowM 0 10 = true := by decide +kernel
theorem mlr_0_11 : rowM 0 11 = true := by decide +kernel
theorem mlr_0_12 : rowM 0 12 = true := by decide +kernel
theorem mlr_0_13 : rowM 0 13 = true := by decide +kernel
theorem mlr_0_14 : rowM 0 14 = true := by decide +kernel
theorem mlr_0_15 : rowM 0 15 = true := by decide +kernel
theorem mlr_0_16 : rowM 0 16 = true := by decide +kernel
theorem mlr_0_17 : rowM 0 17 = true := by decide +kernel
theorem mlr_0_18 : rowM 0 18 = true := by decide +kernel
theorem mlr_0_19 : rowM 0 19 = true := by decide +kernel
theorem mlr_0_20 : rowM 0 20 = true := by decide +kernel
theorem mlr_0_21 : rowM 0 21 = true := by decide +kernel
theorem mlr_0_22 : rowM 0 22 = true := by decide +kernel
theorem mla_0 (a : Nat) : rowM 0 a = true := by
  by_cases h0 : a = 0
  · rw [h0]; exact mlr_0_0
  by_cases h1 : a = 1
  · rw [h1]; exact mlr_0_1
  by_cases h2 : a = 2
  · rw [h2]; exact mlr_0_2
  by_cases h3 : a = 3
  · rw [h3]; exact mlr_0_3
  by_cases h4 : a = 4
  · rw [h4]; exact mlr_0_4
  by_cases h5 : a = 5
  · rw [h5]; exact mlr_0_5
  by_cases h6 : a = 6
  · rw [h6]; exact mlr_0_6
  by_cases h7 : a = 7
  · rw [h7]; exact mlr_0_7
  by_cases h8 : a = 8
  · rw [h8]; exact mlr_0_8
  by_cases h9 : a = 9
  · rw [h9]; exact mlr_0_9
  by_cases h10 : a = 10
  · rw [h10]; exact mlr_0_10
  by_cases h11 : a = 11
  · rw [h11]; exact mlr_0_11
  by_cases h12 : a = 12
  · rw [h12]; exact mlr_0_12
  by_cases h13 : a = 13
  · rw [h13]; exact mlr_0_13
  by_cases h14 : a = 14
  · rw [h14]; exact mlr_0_14
  by_cases h15 : a = 15
  · rw [h15]; exact mlr_0_15
  by_cases h16 : a = 16
  · rw [h16]; exact mlr_0_16
  by_cases h17 : a = 17
  · rw [h17]; exact mlr_0_17
  by_cases h18 : a = 18
  · rw [h18]; exact mlr_0_18
  by_cases h19 : a = 19
  · rw [h19]; exact mlr_0_19
  by_cases h20 : a = 20
  · rw [h20]; exact mlr_0_20
  by_cases h21 : a = 21
  · rw [h21]; exact mlr_0_21
  by_cases h22 : a = 22
  · rw [h22]; exact mlr_0_22
  exact rowM_out (show (mlt 0).length ≤ a from (by show 23 ≤ a; omega))
theorem mlr_1_0 : rowM 1 0 = true := by decide +kernel
theorem mlr_1_1 : rowM 1 1 = true := by decide +kernel
theorem mlr_1_2 : rowM 1 2 = true := by decide +kernel
theorem mlr_1_3 : rowM 1 3 = true := by decide +kernel
theorem mlr_1_4 : rowM 1 4 = true := by decide +kernel
theorem mla_1 (a : Nat) : rowM 1 a = true := by
  by_cases h0 : a = 0
  · rw [h0]; exact mlr_1_0
  by_cases h1 : a = 1
  · rw [h1]; exact mlr_1_1
  by_cases h2 : a = 2
  · rw [h2]; exact mlr_1_2
  by_cases h3 : a = 3
  · rw [h3]; exact mlr_1_3
  by_cases h4 : a = 4
  · rw [h4]; exact mlr_1_4
  exact rowM_out (show (mlt 1).length ≤ a from (by show 5 ≤ a; omega))
theorem mlr_2_0 : rowM 2 0 = true := by decide +kernel
theorem mlr_2_1 : rowM 2 1 = true := by decide +kernel
theorem mlr_2_2 : rowM 2 2 = true := by decide +kernel
theorem mlr_2_3 : rowM 2 3 = true := by decide +kernel
theorem mlr_2_4 : rowM 2 4 = true := by decide +kernel
theorem mlr_2_5 : rowM 2 5 = true := by decide +kernel
theorem mlr_2_6 : rowM 2 6 = true := by decide +kernel
theorem mlr_2_7 : rowM 2 7 = true := by decide +kernel
theorem mla_2 (a : Nat) : rowM 2 a = true := by
  by_cases h0 : a = 0
  · rw [h0]; exact mlr_2_0
  by_cases h1 : a = 1
  · rw [h1]; exact mlr_2_1
  by_cases h2 : a = 2
  · rw [h2]; exact mlr_2_2
  by_cases h3 : a = 3
  · rw [h3]; exact mlr_2_3
  by_cases h4 : a = 4
  · rw [h4]; exact mlr_2_4
  by_cases h5 : a = 5
  · rw [h5]; exact mlr_2_5
  by_cases h6 : a = 6
  · rw [h6]; exact mlr_2_6
  by_cases h7 : a = 7
  · rw [h7]; exact mlr_2_7
  exact rowM_out (show (mlt 2).length ≤ a from (by show 8 ≤ a; omega))
theorem mlr_3_0 : rowM 3 0 = true := by decide +kernel
theorem mlr_3_1 : rowM 3 1 = true := by decide +kernel
theorem mlr_3_2 : rowM 3 2 = true := by decide +kernel
theorem mlr_3_3 : rowM 3 3 = true := by decide +kernel
theorem mla_3 (a : Nat) : rowM 3 a = true := by
  by_cases h0 : a = 0
  · rw [h0]; exact mlr_3_0
  by_cases h1 : a = 1
  · rw [h1]; exact mlr_3_1
  by_cases h2 : a = 2
  · rw [h2]; exact mlr_3_2
  by_cases h3 : a = 3
  · rw [h3]; exact mlr_3_3
  exact rowM_out (show (mlt 3).length ≤ a from (by show 4 ≤ a; omega))
theorem mlr_4_0 : rowM 4 0 = true := by decide +kernel
theorem mlr_4_1 : rowM 4 1 = true := by decide +kernel
theorem mlr_4_2 : rowM 4 2 = true := by decide +kernel
theorem mlr_4_3 : rowM 4 3 = true := by decide +kernel
theorem mla_4 (a : Nat) : rowM 4 a = true := by
  by_cases h0 : a = 0
  · rw [h0]; exact mlr_4_0
  by_cases h1 : a = 1
  · rw [h1]; exact mlr_4_1
  by_cases h2 : a = 2
  · rw [h2]; exact mlr_4_2
  by_cases h3 : a = 3
  · rw [h3]; exact mlr_4_3
  exact rowM_out (show (mlt 4).length ≤ a from (by show 4 ≤ a; omega))
theorem mlr_5_0 : rowM 5 0 = true := by decide +kernel
theorem mlr_5_1 : rowM 5 1 = true := by decide +kernel
theorem mlr_5_2 : rowM 5 2 = true := by decide +kernel
theorem mlr_5_3 : rowM 5 3 = true := by decide +kernel
theorem mlr_5_4 : rowM 5 4 = true := by decide +kernel
theorem mla_5 (a : Nat) : rowM 5 a = true := by
  by_cases h0 : a = 0
  · rw [h0]; exact mlr_5_0
  by_cases h1 : a = 1
  · rw [h1]; exact mlr_5_1
  by_cases h2 : a = 2
  · rw [h2]; exact mlr_5_2
  by_cases h3 : a = 3
  · rw [h3]; exact mlr_5_3
  by_cases h4 : a = 4
  · rw [h4]; exact mlr_5_4
  exact rowM_out (show (mlt 5).length ≤ a from (by show 5 ≤ a; omega))
theorem mlr_6_0 : rowM 6 0 = true := by decide +kernel
theorem mlr_6_1 : rowM 6 1 = true := by decide +kernel
theorem mla_6 (a : Nat) : rowM 6 a = true := by
  by_cases h0 : a = 0
  · rw [h0]; exact mlr_6_0
  by_cases h1 : a = 1
  · rw [h1]; exact mlr_6_1
  exact rowM_out (show (mlt 6).length ≤ a from (by show 2 ≤ a; omega))
theorem mlr_7_0 : rowM 7 0 = true := by decide +kernel
theorem mlr_7_1 : rowM 7 1 = true := by decide +kernel
theorem mlr_7_2 : rowM 7 2 = true := by decide +kernel
theorem mlr_7_3 : rowM 7 3 = true := by decide +kernel
theorem mlr_7_4 : rowM 7 4 = true := by decide +kernel
theorem mlr_7_5 : rowM 7 5 = true := by decide +kernel
theorem mlr_7_6 : rowM 7 6 = true := by decide +kernel
theorem mlr_7_7 : rowM 7 7 = true := by decide +kernel
theorem mla_7 (a : Nat) : rowM 7 a = true := by
  by_cases h0 : a = 0
  · rw [h0]; exact mlr_7_0
  by_cases h1 : a = 1
  · rw [h1]; exact mlr_7_1
  by_cases h2 : a = 2
  · rw [h2]; exact mlr_7_2
  by_cases h3 : a = 3
  · rw [h3]; exact mlr_7_3
  by_cases h4 : a = 4
  · rw [h4]; exact mlr_7_4
  by_cases h5 : a = 5
  · rw [h5]; exact mlr_7_5
  by_cases h6 : a = 6
  · rw [h6]; exact mlr_7_6
  by_cases h7 : a = 7
  · rw [h7]; exact mlr_7_7
  exact rowM_out (show (mlt 7).length ≤ a from (by show 8 ≤ a; omega))
theorem mlr_8_0 : rowM 8 0 = true := by decide +kernel
theorem mlr_8_1 : rowM 8 1 = true := by decide +kernel
theorem mlr_8_2 : rowM 8 2 = true := by decide +kernel
theorem mlr_8_3 : rowM 8 3 = true := by decide +kernel
theorem mla_8 (a : Nat) : rowM 8 a = true := by
  by_cases h0 : a = 0
  · rw [h0]; exact mlr_8_0
  by_cases h1 : a = 1
  · rw [h1]; exact mlr_8_1
  by_cases h2 : a = 2
  · rw [h2]; exact mlr_8_2
  by_cases h3 : a = 3
  · rw [h3]; exact mlr_8_3
  exact rowM_out (show (mlt 8).length ≤ a from (by show 4 ≤ a; omega))
theorem mlr_9_0 : rowM 9 0 = true := by decide +kernel
theorem mlr_9_1 : rowM 9 1 = true := by decide +kernel
theorem mla_9 (a : Nat) : rowM 9 a = true := by
  by_cases h0 : a = 0
  · rw [h0]; exact mlr_9_0
  by_cases h1 : a = 1
  · rw [h1]; exact mlr_9_1
  exact rowM_out (show (mlt 9).length ≤ a from (by show 2 ≤ a; omega))
theorem mlr_10_0 : rowM 10 0 = true := by decide +kernel
theorem mlr_10_1 : rowM 10 1 = true := by decide +kernel
theorem mlr_10_2 : rowM 10 2 = true := by decide +kernel
theorem mlr_10_3 : rowM 10 3 = true := by decide +kernel
theorem mlr_10_4 : rowM 10 4 = true := by decide +kernel
theorem mlr_10_5 : rowM 10 5 = true := by decide +kernel
theorem mlr_10_6 : rowM 10 6 = true := by decide +kernel
theorem mlr_10_7 : rowM 10 7 = true := by decide +kernel
theorem mlr_10_8 : rowM 10 8 = true := by decide +kernel
theorem mlr_10_9 : rowM 10 9 = true := by decide +kernel
theorem mlr_10_10 : rowM 10 10 = true := by decide +kernel
theorem mlr_10_11 : rowM 10 11 = true := by decide +kernel
theorem mla_10 (a : Nat) : rowM 10 a = true := by
  by_cases h0 : a = 0
  · rw [h0]; exact mlr_10_0
  by_cases h1 : a = 1
  · rw [h1]; exact mlr_10_1
  by_cases h2 : a = 2
  · rw [h2]; exact mlr_10_2
  by_cases h3 : a = 3
  · rw [h3]; exact mlr_10_3
  by_cases h4 : a = 4
  · rw [h4]; exact mlr_10_4
  by_cases h5 : a = 5
  · rw [h5]; exact mlr_10_5
  by_cases h6 : a = 6
  · rw [h6]; exact mlr_10_6
  by_cases h7 : a = 7
  · rw [h7]; exact mlr_10_7
  by_cases h8 : a = 8
  · rw [h8]; exact mlr_10_8
  by_cases h9 : a = 9
  · rw [h9]; exact mlr_10_9
  by_cases h10 : a = 10
  · rw [h10]; exact mlr_10_10
  by_cases h11 : a = 11
  · rw [h11]; exact mlr_10_11
  exact rowM_out (show (mlt 10).length ≤ a from (by show 12 ≤ a; omega))
theorem mlr_11_0 : rowM 11 0 = true := by decide +kernel
theorem mlr_11_1 : rowM 11 1 = true := by decide +kernel
theorem mlr_11_2 : rowM 11 2 = true := by decide +kernel
theorem mlr_11_3 : rowM 11 3 = true := by decide +kernel
theorem mlr_11_4 : rowM 11 4 = true := by decide +kernel
theorem mlr_11_5 : rowM 11 5 = true := by decide +kernel
theorem mlr_11_6 : rowM 11 6 = true := by decide +kernel
theorem mlr_11_7 : rowM 11 7 = true := by decide +kernel
theorem mla_11 (a : Nat) : rowM 11 a = true := by
  by_cases h0 : a = 0
  · rw [h0]; exact mlr_11_0
  by_cases h1 : a = 1
  · rw [h1]; exact mlr_11_1
  by_cases h2 : a = 2
  · rw [h2]; exact mlr_11_2
  by_cases h3 : a = 3
  · rw [h3]; exact mlr_11_3
  by_cases h4 : a = 4
  · rw [h4]; exact mlr_11_4
  by_cases h5 : a = 5
  · rw [h5]; exact mlr_11_5
  by_cases h6 : a = 6
  · rw [h6]; exact mlr_11_6
  by_cases h7 : a = 7
  · rw [h7]; exact mlr_11_7
  exact rowM_out (show (mlt 11).length ≤ a from (by show 8 ≤ a; omega))
theorem mlr_12_0 : rowM 12 0 = true := by decide +kernel
theorem mlr_12_1 : rowM 12 1 = true := by decide +kernel
theorem mlr_12_2 : rowM 12 2 = true := by decide +kernel
theorem mlr_12_3 : rowM 12 3 = true := by decide +kernel
theorem mlr_12_4 : rowM 12 4 = true := by decide +kernel
theorem mlr_12_5 : rowM 12 5 = true := by decide +kernel
theorem mlr_12_6 : rowM 12 6 = true := by decide +kernel
theorem mlr_12_7 : rowM 12 7 = true := by decide +kernel
theorem mlr_12_8 : rowM 12 8 = true := by decide +kernel
theorem mlr_12_9 : rowM 12 9 = true := by decide +kernel
theorem mlr_12_10 : rowM 12 10 = true := by decide +kernel
theorem mlr_12_11 : rowM 12 11 = true := by decide +kernel
theorem mlr_12_12 : rowM 12 12 = true := by decide +kernel
theorem mlr_12_13 : rowM 12 13 = true := by decide +kernel
theorem mlr_12_14 : rowM 12 14 = true := by decide +kernel
theorem mlr_12_15 : rowM 12 15 = true := by decide +kernel
theorem mlr_12_16 : rowM 12 16 = true := by decide +kernel
theorem mlr_12_17 : rowM 12 17 = true := by decide +kernel
theorem mlr_12_18 : rowM 12 18 = true := by decide +kernel
theorem mlr_12_19 : rowM 12 19 = true := by decide +kernel
theorem mlr_12_20 : rowM 12 20 = true := by decide +kernel
theorem mlr_12_21 : rowM 12 21 = true := by decide +kernel
theorem mlr_12_22 : rowM 12 22 = true := by decide +kernel
theorem mlr_12_23 : rowM 12 23 = true := by decide +kernel
theorem mlr_12_24 : rowM 12 24 = true := by decide +kernel
theorem mlr_12_25 : rowM 12 25 = true := by decide +kernel
theorem mlr_12_26 : rowM 12 26 = true := by decide +kernel
theorem mlr_12_27 : rowM 12 27 = true := by decide +kernel
theorem mlr_12_28 : rowM 12 28 = true := by decide +kernel
theorem mlr_12_29 : rowM 12 29 = true := by decide +kernel
theorem mla_12 (a : Nat) : rowM 12 a = true := by
  by_cases h0 : a = 0
  · rw [h0]; exact mlr_12_0
  by_cases h1 : a = 1
  · rw [h1]; exact mlr_12_1
  by_cases h2 : a = 2
  · rw [h2]; exact mlr_12_2
  by_cases h3 : a = 3
  · rw [h3]; exact mlr_12_3
  by_cases h4 : a = 4
  · rw [h4]; exact mlr_12_4
  by_cases h5 : a = 5
  · rw [h5]; exact mlr_12_5
  by_cases h6 : a = 6
  · rw [h6]; exact mlr_12_6
  by_cases h7 : a = 7
  · rw [h7]; exact mlr_12_7
  by_cases h8 : a = 8
  · rw [h8]; exact mlr_12_8
  by_cases h9 : a = 9
  · rw [h9]; exact mlr_12_9
  by_cases h10 : a = 10
  · rw [h10]; exact mlr_12_10
  by_cases h11 : a = 11
  · rw [h11]; exact mlr_12_11
  by_cases h12 : a = 12
  · rw [h12]; exact mlr_12_12
  by_cases h13 : a = 13
  · rw [h13]; exact mlr_12_13
  by_cases h14 : a = 14
  · rw [h14]; exact mlr_12_14
  by_cases h15 : a = 15
  · rw [h15]; exact mlr_12_15
  by_cases h16 : a = 16
  · rw [h16]; exact mlr_12_16
  by_cases h17 : a = 17
  · rw [h17]; exact mlr_12_17
  by_cases h18 : a = 18
  · rw [h18]; exact mlr_12_18
  by_cases h19 : a = 19
  · rw [h19]; exact mlr_12_19
  by_cases h20 : a = 20
  · rw [h20]; exact mlr_12_20
  by_cases h21 : a = 21
  · rw [h21]; exact mlr_12_21
  by_cases h22 : a = 22
  · rw [h22]; exact mlr_12_22
  by_cases h23 : a = 23
  · rw [h23]; exact mlr_12_23
  by_cases h24 : a = 24
  · rw [h24]; exact mlr_12_24
  by_cases h25 : a = 25
  · rw [h25]; exact mlr_12_25
  by_cases h26 : a = 26
  · rw [h26]; exact mlr_12_26
  by_cases h27 : a = 27
  · rw [h27]; exact mlr_12_27
  by_cases h28 : a = 28
  · rw [h28]; exact mlr_12_28
  by_cases h29 : a = 29
  · rw [h29]; exact mlr_12_29
  exact rowM_out (show (mlt 12).length ≤ a from (by show 30 ≤ a; omega))
theorem mlr_13_0 : rowM 13 0 = true := by decide +kernel
theorem mlr_13_1 : rowM 13 1 = true := by decide +kernel
theorem mlr_13_2 : rowM 13 2 = true := by decide +kernel
theorem mlr_13_3 : rowM 13 3 = true := by decide +kernel
theorem mlr_13_4 : rowM 13 4 = true := by decide +kernel
theorem mlr_13_5 : rowM 13 5 = true := by decide +kernel
theorem mlr_13_6 : rowM 13 6 = true := by decide +kernel
theorem mlr_13_7 : rowM 13 7 = true := by decide +kernel
theorem mlr_13_8 : rowM 13 8 = true := by decide +kernel
theorem mlr_13_9 : rowM 13 9 = true := by decide +kernel
theorem mlr_13_10 : rowM 13 10 = true := by decide +kernel
theorem mla_13 (a : Nat) : rowM 13 a = true := by
  by_cases h0 : a = 0
  · rw [h0]; exact mlr_13_0
  by_cases h1 : a = 1
  · rw [h1]; exact mlr_13_1
  by_cases h2 : a = 2
  · rw [h2]; exact mlr_13_2
  by_cases h3 : a = 3
  · rw [h3]; exact mlr_13_3
  by_cases h4 : a = 4
  · rw [h4]; exact mlr_13_4
  by_cases h5 : a = 5
  · rw [h5]; exact mlr_13_5
  by_cases h6 : a = 6
  · rw [h6]; exact mlr_13_6
  by_cases h7 : a = 7
  · rw [h7]; exact mlr_13_7
  by_cases h8 : a = 8
  · rw [h8]; exact mlr_13_8
  by_cases h9 : a = 9
  · rw [h9]; exact mlr_13_9
  by_cases h10 : a = 10
  · rw [h10]; exact mlr_13_10
  exact rowM_out (show (mlt 13).length ≤ a from (by show 11 ≤ a; omega))
theorem ml_all (ci a : Nat) : rowM ci a = true := by
  match ci with
  | 0 => exact mla_0 a
  | 1 => exact mla_1 a
  | 2 => exact mla_2 a
  | 3 => exact mla_3 a
  | 4 => exact mla_4 a
  | 5 => exact mla_5 a
  | 6 => exact mla_6 a
  | 7 => exact mla_7 a
  | 8 => exact mla_8 a
  | 9 => exact mla_9 a
  | 10 => exact mla_10 a
  | 11 => exact mla_11 a
  | 12 => exact mla_12 a
  | 13 => exact mla_13 a
  | _ + 14 => exact rowM_out (Nat.zero_le _)
theorem cnm_all : ((List.range 256).all fun M => decide (M = 0) || decide ((YB0 M).1.cls = cnm ((l2 mcls M).getD 0))) = true := by decide +kernel
theorem mlc_ok {M : Nat} {w : EN} (h : chkM M w = true) (pc : Nat) : chkX M pc w.1 w.2.2.1 w.2.2.2 = true := by
  unfold chkM at h
  simp only [Bool.and_eq_true] at h
  obtain ⟨h0, h⟩ := h
  have hn := of_decide_eq_true h0
  have hc := List.all_eq_true.mp cnm_all M (List.mem_range.mpr hn.2)
  simp only [Bool.or_eq_true, decide_eq_true_eq] at hc
  have hc := hc.resolve_left hn.1
  unfold chkX
  rw [hc]
  exact chkM_at ml_all h
end

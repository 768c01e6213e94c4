/-! The tables of the small machine agree with the claim's bytes and words: a program's check, and that it suffices. -/
/-- a method's bytes, the check of an instruction beside the bytes from there on -/
abbrev CE : Type := List UInt8 × (Nat → EN → List UInt8 → Bool)
def chkS (f : Nat → EN → List UInt8 → Bool) : Nat → List EN → List UInt8 → Bool
  | _, [], _ => true
  | pc, w :: r, l => f pc w l && chkS f (pc + 1) r l.tail
theorem chkS_at {f : Nat → EN → List UInt8 → Bool} : ∀ (ws : List EN) (pc : Nat) (l : List UInt8) (k : Nat) (w : EN), chkS f pc ws l = true → ws[k]? = some w → f (pc + k) w (l.drop k) = true := by
  intro ws
  induction ws with
  | nil => intro pc l k w _ h; cases h
  | cons v r ih =>
    intro pc l k w h hk
    unfold chkS at h
    simp only [Bool.and_eq_true] at h
    cases k with
    | zero =>
      cases hk
      exact h.1
    | succ k =>
      have := ih (pc + 1) l.tail k w h.2 hk
      rw [List.drop_tail] at this
      rwa [show pc + (k + 1) = pc + 1 + k by omega]
def rowB (f : CE) (t : List (List EN)) (a : Nat) : Bool := match t[a]? with
  | some r => chkS f.2 (16 * a) r (f.1.drop (16 * a))
  | none => true
def chkT (f : CE) (t : List (List EN)) : Bool := (List.range t.length).all (rowB f t)
theorem chkT_at {f : CE} {t : List (List EN)} (h : chkT f t = true) {pc : Nat} {w : EN} (hw : l2 t pc = some w) : f.2 pc w (f.1.drop pc) = true := by
  unfold l2 at hw
  cases hr : t[pc / 16]? with
  | none => rw [hr] at hw; cases hw
  | some r =>
    rw [hr] at hw
    have hw : r[pc % 16]? = some w := hw
    have h1 := List.all_eq_true.mp h (pc / 16) (List.mem_range.mpr (List.getElem?_eq_some_iff.mp hr).1)
    unfold rowB at h1
    rw [hr] at h1
    have h2 := chkS_at r (16 * (pc / 16)) _ (pc % 16) w h1 hw
    rw [List.drop_drop, Nat.div_add_mod] at h2
    exact h2
def chkTs (f : CE) (t : List (List EN)) (a0 k : Nat) : Bool := (List.range k).all fun a => rowB f t (a0 + a)
theorem chkTs_at {f : CE} {t : List (List EN)} {a0 k : Nat} (h : chkTs f t a0 k = true) (a : Nat) (h1 : a0 ≤ a) (h2 : a < a0 + k) : rowB f t a = true := by
  have h3 := List.all_eq_true.mp h (a - a0) (List.mem_range.mpr (by omega))
  rwa [show a0 + (a - a0) = a by omega] at h3
theorem chkT_of {f : CE} {t : List (List EN)} {n : Nat} (hn : t.length = n) (h : ∀ a, a < n → rowB f t a = true) : chkT f t = true := List.all_eq_true.mpr fun a ha => h a (by rw [← hn]; exact List.mem_range.mp ha)
def isSw (i : Instr) : Bool := match i with
  | .tableswitch _ _ _ _ => true
  | _ => false
set_option maxRecDepth 16384 in
theorem by_at {bs : ByteArray} {p : Nat} {u : UInt8} {r : List UInt8} (h : bs.data.toList.drop p = u :: r) : ∃ h : p < bs.size, bs[p] = u := by
  have h1 : bs.data.toList[p]? = some u := by rw [← List.head?_drop, h]; rfl
  obtain ⟨h2, h3⟩ := List.getElem?_eq_some_iff.mp h1
  exact ⟨h2, h3⟩
set_option maxRecDepth 16384 in
theorem by_dr {bs : ByteArray} {p : Nat} {u : UInt8} {r : List UInt8} (h : bs.data.toList.drop p = u :: r) : bs.data.toList.drop (p + 1) = r := by
  rw [← List.drop_drop, h]; rfl
set_option maxRecDepth 16384 in
theorem rd1 {α : Type} {f : Nat → Decoder α} {bs : ByteArray} {p : Nat} {u : UInt8} {r : List UInt8} (h : bs.data.toList.drop p = u :: r) : (Reader.u1 >>= f : Decoder α) bs p = f u.toNat bs (p + 1) := by
  obtain ⟨h1, h2⟩ := by_at h
  show ((Reader.u1 : Decoder Nat) bs p >>= fun q => f q.1 bs q.2) = _
  have e : (Reader.u1 : Decoder Nat) bs p = .ok (u.toNat, p + 1) := by
    unfold Reader.u1
    simp only [bind, ReaderT.bind, StateT.bind, Except.bind, MonadReader.read, readThe, MonadReaderOf.read, ReaderT.read, MonadState.get, getThe, MonadStateOf.get, liftM, monadLift, MonadLift.monadLift, StateT.get, Pure.pure, StateT.pure, ReaderT.pure, Except.pure, dif_pos h1, h2]
    rfl
  rw [e]
  rfl
set_option maxRecDepth 16384 in
theorem rd2 {α : Type} {f : Nat → Decoder α} {bs : ByteArray} {p : Nat} {u v : UInt8} {r : List UInt8} (h : bs.data.toList.drop p = u :: v :: r) : (Reader.u2 >>= f : Decoder α) bs p = f (u.toNat * 256 + v.toNat) bs (p + 2) := by
  have e : (Reader.u2 >>= f : Decoder α) bs p = (Reader.u1 >>= fun hi => Reader.u1 >>= fun lo => f (hi * 256 + lo) : Decoder α) bs p := by
    unfold Reader.u2
    simp only [LawfulMonad.bind_assoc, LawfulMonad.pure_bind]
  rw [e, rd1 h, rd1 (by_dr h)]
set_option maxRecDepth 16384 in
theorem rds2 {α : Type} {f : Int → Decoder α} {bs : ByteArray} {p : Nat} {u v : UInt8} {r : List UInt8} (h : bs.data.toList.drop p = u :: v :: r) : (Reader.s2 >>= f : Decoder α) bs p = f (Reader.signed 16 (u.toNat * 256 + v.toNat)) bs (p + 2) := by
  have e : (Reader.s2 >>= f : Decoder α) = (Reader.u2 >>= fun x => f (Reader.signed 16 x) : Decoder α) := by
    unfold Reader.s2
    rw [_root_.bind_map_left]
  rw [e, rd2 h]
set_option maxRecDepth 16384 in
theorem rds1 {α : Type} {f : Int → Decoder α} {bs : ByteArray} {p : Nat} {u : UInt8} {r : List UInt8} (h : bs.data.toList.drop p = u :: r) : (Reader.s1 >>= f : Decoder α) bs p = f (Reader.signed 8 u.toNat) bs (p + 1) := by
  have e : (Reader.s1 >>= f : Decoder α) = (Reader.u1 >>= fun x => f (Reader.signed 8 x) : Decoder α) := by
    unfold Reader.s1
    rw [_root_.bind_map_left]
  rw [e, rd1 h]
set_option maxRecDepth 16384 in
theorem dec_of {bs : ByteArray} {pc k : Nat} {i : Instr} (h : Decoder.instr pc bs pc = .ok (i, pc + k)) : decode bs pc = .ok (i, k) := by
  show (Decoder.instr pc bs pc >>= fun q => .ok (q.1, q.2 - pc)) = _
  rw [h]
  show Except.ok (i, pc + k - pc) = _
  rw [Nat.add_sub_cancel_left]
def q0 (l : List UInt8) (op : Nat) : Bool := match l with
  | u :: _ => Nat.beq u.toNat op
  | _ => false
def q1 (l : List UInt8) (op : Nat) (g : Nat → Bool) : Bool := match l with
  | u :: v :: _ => Nat.beq u.toNat op && g v.toNat
  | _ => false
def q2 (l : List UInt8) (op : Nat) (g : Nat → Bool) : Bool := match l with
  | u :: v :: w :: _ => Nat.beq u.toNat op && g (v.toNat * 256 + w.toNat)
  | _ => false
set_option maxRecDepth 16384 in
theorem q0_ok {l : List UInt8} {op : Nat} (h : q0 l op = true) : ∃ u r, l = u :: r ∧ u.toNat = op := by
  unfold q0 at h
  split at h
  · exact ⟨_, _, rfl, Nat.eq_of_beq_eq_true h⟩
  · cases h
set_option maxRecDepth 16384 in
theorem q1_ok {l : List UInt8} {op : Nat} {g : Nat → Bool} (h : q1 l op g = true) : ∃ u v r, l = u :: v :: r ∧ u.toNat = op ∧ g v.toNat = true := by
  unfold q1 at h
  split at h
  · simp only [Bool.and_eq_true] at h
    exact ⟨_, _, _, rfl, Nat.eq_of_beq_eq_true h.1, h.2⟩
  · cases h
set_option maxRecDepth 16384 in
theorem q2_ok {l : List UInt8} {op : Nat} {g : Nat → Bool} (h : q2 l op g = true) : ∃ u v w r, l = u :: v :: w :: r ∧ u.toNat = op ∧ g (v.toNat * 256 + w.toNat) = true := by
  unfold q2 at h
  split at h
  · simp only [Bool.and_eq_true] at h
    exact ⟨_, _, _, _, rfl, Nat.eq_of_beq_eq_true h.1, h.2⟩
  · cases h
set_option maxRecDepth 16384 in
theorem dq_aconst_null {bs : ByteArray} {pc : Nat} (h : q0 (bs.data.toList.drop pc) 1 = true) : decode bs pc = .ok (.aconst_null, 1) := by
  obtain ⟨u, r, hl, hu⟩ := q0_ok h
  refine dec_of ?_
  unfold Decoder.instr
  rw [rd1 hl, hu]
  rfl
set_option maxRecDepth 16384 in
theorem dq_iaload {bs : ByteArray} {pc : Nat} (h : q0 (bs.data.toList.drop pc) 46 = true) : decode bs pc = .ok (.iaload, 1) := by
  obtain ⟨u, r, hl, hu⟩ := q0_ok h
  refine dec_of ?_
  unfold Decoder.instr
  rw [rd1 hl, hu]
  rfl
set_option maxRecDepth 16384 in
theorem dq_aaload {bs : ByteArray} {pc : Nat} (h : q0 (bs.data.toList.drop pc) 50 = true) : decode bs pc = .ok (.aaload, 1) := by
  obtain ⟨u, r, hl, hu⟩ := q0_ok h
  refine dec_of ?_
  unfold Decoder.instr
  rw [rd1 hl, hu]
  rfl
set_option maxRecDepth 16384 in
theorem dq_baload {bs : ByteArray} {pc : Nat} (h : q0 (bs.data.toList.drop pc) 51 = true) : decode bs pc = .ok (.baload, 1) := by
  obtain ⟨u, r, hl, hu⟩ := q0_ok h
  refine dec_of ?_
  unfold Decoder.instr
  rw [rd1 hl, hu]
  rfl
set_option maxRecDepth 16384 in
theorem dq_iastore {bs : ByteArray} {pc : Nat} (h : q0 (bs.data.toList.drop pc) 79 = true) : decode bs pc = .ok (.iastore, 1) := by
  obtain ⟨u, r, hl, hu⟩ := q0_ok h
  refine dec_of ?_
  unfold Decoder.instr
  rw [rd1 hl, hu]
  rfl
set_option maxRecDepth 16384 in
theorem dq_aastore {bs : ByteArray} {pc : Nat} (h : q0 (bs.data.toList.drop pc) 83 = true) : decode bs pc = .ok (.aastore, 1) := by
  obtain ⟨u, r, hl, hu⟩ := q0_ok h
  refine dec_of ?_
  unfold Decoder.instr
  rw [rd1 hl, hu]
  rfl
set_option maxRecDepth 16384 in
theorem dq_bastore {bs : ByteArray} {pc : Nat} (h : q0 (bs.data.toList.drop pc) 84 = true) : decode bs pc = .ok (.bastore, 1) := by
  obtain ⟨u, r, hl, hu⟩ := q0_ok h
  refine dec_of ?_
  unfold Decoder.instr
  rw [rd1 hl, hu]
  rfl
set_option maxRecDepth 16384 in
theorem dq_pop {bs : ByteArray} {pc : Nat} (h : q0 (bs.data.toList.drop pc) 87 = true) : decode bs pc = .ok (.pop, 1) := by
  obtain ⟨u, r, hl, hu⟩ := q0_ok h
  refine dec_of ?_
  unfold Decoder.instr
  rw [rd1 hl, hu]
  rfl
set_option maxRecDepth 16384 in
theorem dq_pop2 {bs : ByteArray} {pc : Nat} (h : q0 (bs.data.toList.drop pc) 88 = true) : decode bs pc = .ok (.pop2, 1) := by
  obtain ⟨u, r, hl, hu⟩ := q0_ok h
  refine dec_of ?_
  unfold Decoder.instr
  rw [rd1 hl, hu]
  rfl
set_option maxRecDepth 16384 in
theorem dq_dup {bs : ByteArray} {pc : Nat} (h : q0 (bs.data.toList.drop pc) 89 = true) : decode bs pc = .ok (.dup, 1) := by
  obtain ⟨u, r, hl, hu⟩ := q0_ok h
  refine dec_of ?_
  unfold Decoder.instr
  rw [rd1 hl, hu]
  rfl
set_option maxRecDepth 16384 in
theorem dq_dup_x1 {bs : ByteArray} {pc : Nat} (h : q0 (bs.data.toList.drop pc) 90 = true) : decode bs pc = .ok (.dup_x1, 1) := by
  obtain ⟨u, r, hl, hu⟩ := q0_ok h
  refine dec_of ?_
  unfold Decoder.instr
  rw [rd1 hl, hu]
  rfl
set_option maxRecDepth 16384 in
theorem dq_dup2 {bs : ByteArray} {pc : Nat} (h : q0 (bs.data.toList.drop pc) 92 = true) : decode bs pc = .ok (.dup2, 1) := by
  obtain ⟨u, r, hl, hu⟩ := q0_ok h
  refine dec_of ?_
  unfold Decoder.instr
  rw [rd1 hl, hu]
  rfl
set_option maxRecDepth 16384 in
theorem dq_iadd {bs : ByteArray} {pc : Nat} (h : q0 (bs.data.toList.drop pc) 96 = true) : decode bs pc = .ok (.iadd, 1) := by
  obtain ⟨u, r, hl, hu⟩ := q0_ok h
  refine dec_of ?_
  unfold Decoder.instr
  rw [rd1 hl, hu]
  rfl
set_option maxRecDepth 16384 in
theorem dq_ladd {bs : ByteArray} {pc : Nat} (h : q0 (bs.data.toList.drop pc) 97 = true) : decode bs pc = .ok (.ladd, 1) := by
  obtain ⟨u, r, hl, hu⟩ := q0_ok h
  refine dec_of ?_
  unfold Decoder.instr
  rw [rd1 hl, hu]
  rfl
set_option maxRecDepth 16384 in
theorem dq_isub {bs : ByteArray} {pc : Nat} (h : q0 (bs.data.toList.drop pc) 100 = true) : decode bs pc = .ok (.isub, 1) := by
  obtain ⟨u, r, hl, hu⟩ := q0_ok h
  refine dec_of ?_
  unfold Decoder.instr
  rw [rd1 hl, hu]
  rfl
set_option maxRecDepth 16384 in
theorem dq_imul {bs : ByteArray} {pc : Nat} (h : q0 (bs.data.toList.drop pc) 104 = true) : decode bs pc = .ok (.imul, 1) := by
  obtain ⟨u, r, hl, hu⟩ := q0_ok h
  refine dec_of ?_
  unfold Decoder.instr
  rw [rd1 hl, hu]
  rfl
set_option maxRecDepth 16384 in
theorem dq_lmul {bs : ByteArray} {pc : Nat} (h : q0 (bs.data.toList.drop pc) 105 = true) : decode bs pc = .ok (.lmul, 1) := by
  obtain ⟨u, r, hl, hu⟩ := q0_ok h
  refine dec_of ?_
  unfold Decoder.instr
  rw [rd1 hl, hu]
  rfl
set_option maxRecDepth 16384 in
theorem dq_idiv {bs : ByteArray} {pc : Nat} (h : q0 (bs.data.toList.drop pc) 108 = true) : decode bs pc = .ok (.idiv, 1) := by
  obtain ⟨u, r, hl, hu⟩ := q0_ok h
  refine dec_of ?_
  unfold Decoder.instr
  rw [rd1 hl, hu]
  rfl
set_option maxRecDepth 16384 in
theorem dq_ldiv {bs : ByteArray} {pc : Nat} (h : q0 (bs.data.toList.drop pc) 109 = true) : decode bs pc = .ok (.ldiv, 1) := by
  obtain ⟨u, r, hl, hu⟩ := q0_ok h
  refine dec_of ?_
  unfold Decoder.instr
  rw [rd1 hl, hu]
  rfl
set_option maxRecDepth 16384 in
theorem dq_irem {bs : ByteArray} {pc : Nat} (h : q0 (bs.data.toList.drop pc) 112 = true) : decode bs pc = .ok (.irem, 1) := by
  obtain ⟨u, r, hl, hu⟩ := q0_ok h
  refine dec_of ?_
  unfold Decoder.instr
  rw [rd1 hl, hu]
  rfl
set_option maxRecDepth 16384 in
theorem dq_lrem {bs : ByteArray} {pc : Nat} (h : q0 (bs.data.toList.drop pc) 113 = true) : decode bs pc = .ok (.lrem, 1) := by
  obtain ⟨u, r, hl, hu⟩ := q0_ok h
  refine dec_of ?_
  unfold Decoder.instr
  rw [rd1 hl, hu]
  rfl
set_option maxRecDepth 16384 in
theorem dq_ineg {bs : ByteArray} {pc : Nat} (h : q0 (bs.data.toList.drop pc) 116 = true) : decode bs pc = .ok (.ineg, 1) := by
  obtain ⟨u, r, hl, hu⟩ := q0_ok h
  refine dec_of ?_
  unfold Decoder.instr
  rw [rd1 hl, hu]
  rfl
set_option maxRecDepth 16384 in
theorem dq_lneg {bs : ByteArray} {pc : Nat} (h : q0 (bs.data.toList.drop pc) 117 = true) : decode bs pc = .ok (.lneg, 1) := by
  obtain ⟨u, r, hl, hu⟩ := q0_ok h
  refine dec_of ?_
  unfold Decoder.instr
  rw [rd1 hl, hu]
  rfl
set_option maxRecDepth 16384 in
theorem dq_iand {bs : ByteArray} {pc : Nat} (h : q0 (bs.data.toList.drop pc) 126 = true) : decode bs pc = .ok (.iand, 1) := by
  obtain ⟨u, r, hl, hu⟩ := q0_ok h
  refine dec_of ?_
  unfold Decoder.instr
  rw [rd1 hl, hu]
  rfl
set_option maxRecDepth 16384 in
theorem dq_i2l {bs : ByteArray} {pc : Nat} (h : q0 (bs.data.toList.drop pc) 133 = true) : decode bs pc = .ok (.i2l, 1) := by
  obtain ⟨u, r, hl, hu⟩ := q0_ok h
  refine dec_of ?_
  unfold Decoder.instr
  rw [rd1 hl, hu]
  rfl
set_option maxRecDepth 16384 in
theorem dq_l2i {bs : ByteArray} {pc : Nat} (h : q0 (bs.data.toList.drop pc) 136 = true) : decode bs pc = .ok (.l2i, 1) := by
  obtain ⟨u, r, hl, hu⟩ := q0_ok h
  refine dec_of ?_
  unfold Decoder.instr
  rw [rd1 hl, hu]
  rfl
set_option maxRecDepth 16384 in
theorem dq_i2b {bs : ByteArray} {pc : Nat} (h : q0 (bs.data.toList.drop pc) 145 = true) : decode bs pc = .ok (.i2b, 1) := by
  obtain ⟨u, r, hl, hu⟩ := q0_ok h
  refine dec_of ?_
  unfold Decoder.instr
  rw [rd1 hl, hu]
  rfl
set_option maxRecDepth 16384 in
theorem dq_lcmp {bs : ByteArray} {pc : Nat} (h : q0 (bs.data.toList.drop pc) 148 = true) : decode bs pc = .ok (.lcmp, 1) := by
  obtain ⟨u, r, hl, hu⟩ := q0_ok h
  refine dec_of ?_
  unfold Decoder.instr
  rw [rd1 hl, hu]
  rfl
set_option maxRecDepth 16384 in
theorem dq_ireturn {bs : ByteArray} {pc : Nat} (h : q0 (bs.data.toList.drop pc) 172 = true) : decode bs pc = .ok (.ireturn, 1) := by
  obtain ⟨u, r, hl, hu⟩ := q0_ok h
  refine dec_of ?_
  unfold Decoder.instr
  rw [rd1 hl, hu]
  rfl
set_option maxRecDepth 16384 in
theorem dq_lreturn {bs : ByteArray} {pc : Nat} (h : q0 (bs.data.toList.drop pc) 173 = true) : decode bs pc = .ok (.lreturn, 1) := by
  obtain ⟨u, r, hl, hu⟩ := q0_ok h
  refine dec_of ?_
  unfold Decoder.instr
  rw [rd1 hl, hu]
  rfl
set_option maxRecDepth 16384 in
theorem dq_areturn {bs : ByteArray} {pc : Nat} (h : q0 (bs.data.toList.drop pc) 176 = true) : decode bs pc = .ok (.areturn, 1) := by
  obtain ⟨u, r, hl, hu⟩ := q0_ok h
  refine dec_of ?_
  unfold Decoder.instr
  rw [rd1 hl, hu]
  rfl
set_option maxRecDepth 16384 in
theorem dq_return_ {bs : ByteArray} {pc : Nat} (h : q0 (bs.data.toList.drop pc) 177 = true) : decode bs pc = .ok (.return_, 1) := by
  obtain ⟨u, r, hl, hu⟩ := q0_ok h
  refine dec_of ?_
  unfold Decoder.instr
  rw [rd1 hl, hu]
  rfl
set_option maxRecDepth 16384 in
theorem dq_arraylength {bs : ByteArray} {pc : Nat} (h : q0 (bs.data.toList.drop pc) 190 = true) : decode bs pc = .ok (.arraylength, 1) := by
  obtain ⟨u, r, hl, hu⟩ := q0_ok h
  refine dec_of ?_
  unfold Decoder.instr
  rw [rd1 hl, hu]
  rfl
set_option maxRecDepth 16384 in
theorem dq_iconst0 {bs : ByteArray} {pc : Nat} (h : q0 (bs.data.toList.drop pc) 2 = true) : decode bs pc = .ok (.iconst (-1), 1) := by
  obtain ⟨u, r, hl, hu⟩ := q0_ok h
  refine dec_of ?_
  unfold Decoder.instr
  rw [rd1 hl, hu]
  rfl
set_option maxRecDepth 16384 in
theorem dq_iconst1 {bs : ByteArray} {pc : Nat} (h : q0 (bs.data.toList.drop pc) 3 = true) : decode bs pc = .ok (.iconst 0, 1) := by
  obtain ⟨u, r, hl, hu⟩ := q0_ok h
  refine dec_of ?_
  unfold Decoder.instr
  rw [rd1 hl, hu]
  rfl
set_option maxRecDepth 16384 in
theorem dq_iconst2 {bs : ByteArray} {pc : Nat} (h : q0 (bs.data.toList.drop pc) 4 = true) : decode bs pc = .ok (.iconst 1, 1) := by
  obtain ⟨u, r, hl, hu⟩ := q0_ok h
  refine dec_of ?_
  unfold Decoder.instr
  rw [rd1 hl, hu]
  rfl
set_option maxRecDepth 16384 in
theorem dq_iconst3 {bs : ByteArray} {pc : Nat} (h : q0 (bs.data.toList.drop pc) 5 = true) : decode bs pc = .ok (.iconst 2, 1) := by
  obtain ⟨u, r, hl, hu⟩ := q0_ok h
  refine dec_of ?_
  unfold Decoder.instr
  rw [rd1 hl, hu]
  rfl
set_option maxRecDepth 16384 in
theorem dq_iconst4 {bs : ByteArray} {pc : Nat} (h : q0 (bs.data.toList.drop pc) 6 = true) : decode bs pc = .ok (.iconst 3, 1) := by
  obtain ⟨u, r, hl, hu⟩ := q0_ok h
  refine dec_of ?_
  unfold Decoder.instr
  rw [rd1 hl, hu]
  rfl
set_option maxRecDepth 16384 in
theorem dq_iconst5 {bs : ByteArray} {pc : Nat} (h : q0 (bs.data.toList.drop pc) 7 = true) : decode bs pc = .ok (.iconst 4, 1) := by
  obtain ⟨u, r, hl, hu⟩ := q0_ok h
  refine dec_of ?_
  unfold Decoder.instr
  rw [rd1 hl, hu]
  rfl
set_option maxRecDepth 16384 in
theorem dq_iconst6 {bs : ByteArray} {pc : Nat} (h : q0 (bs.data.toList.drop pc) 8 = true) : decode bs pc = .ok (.iconst 5, 1) := by
  obtain ⟨u, r, hl, hu⟩ := q0_ok h
  refine dec_of ?_
  unfold Decoder.instr
  rw [rd1 hl, hu]
  rfl
set_option maxRecDepth 16384 in
theorem dq_lconst0 {bs : ByteArray} {pc : Nat} (h : q0 (bs.data.toList.drop pc) 9 = true) : decode bs pc = .ok (.lconst 0, 1) := by
  obtain ⟨u, r, hl, hu⟩ := q0_ok h
  refine dec_of ?_
  unfold Decoder.instr
  rw [rd1 hl, hu]
  rfl
set_option maxRecDepth 16384 in
theorem dq_lconst1 {bs : ByteArray} {pc : Nat} (h : q0 (bs.data.toList.drop pc) 10 = true) : decode bs pc = .ok (.lconst 1, 1) := by
  obtain ⟨u, r, hl, hu⟩ := q0_ok h
  refine dec_of ?_
  unfold Decoder.instr
  rw [rd1 hl, hu]
  rfl
set_option maxRecDepth 16384 in
theorem dq_iload_n0 {bs : ByteArray} {pc : Nat} (h : q0 (bs.data.toList.drop pc) 26 = true) : decode bs pc = .ok (.iload_n 0, 1) := by
  obtain ⟨u, r, hl, hu⟩ := q0_ok h
  refine dec_of ?_
  unfold Decoder.instr
  rw [rd1 hl, hu]
  rfl
set_option maxRecDepth 16384 in
theorem dq_iload_n1 {bs : ByteArray} {pc : Nat} (h : q0 (bs.data.toList.drop pc) 27 = true) : decode bs pc = .ok (.iload_n 1, 1) := by
  obtain ⟨u, r, hl, hu⟩ := q0_ok h
  refine dec_of ?_
  unfold Decoder.instr
  rw [rd1 hl, hu]
  rfl
set_option maxRecDepth 16384 in
theorem dq_iload_n2 {bs : ByteArray} {pc : Nat} (h : q0 (bs.data.toList.drop pc) 28 = true) : decode bs pc = .ok (.iload_n 2, 1) := by
  obtain ⟨u, r, hl, hu⟩ := q0_ok h
  refine dec_of ?_
  unfold Decoder.instr
  rw [rd1 hl, hu]
  rfl
set_option maxRecDepth 16384 in
theorem dq_iload_n3 {bs : ByteArray} {pc : Nat} (h : q0 (bs.data.toList.drop pc) 29 = true) : decode bs pc = .ok (.iload_n 3, 1) := by
  obtain ⟨u, r, hl, hu⟩ := q0_ok h
  refine dec_of ?_
  unfold Decoder.instr
  rw [rd1 hl, hu]
  rfl
set_option maxRecDepth 16384 in
theorem dq_lload_n0 {bs : ByteArray} {pc : Nat} (h : q0 (bs.data.toList.drop pc) 30 = true) : decode bs pc = .ok (.lload_n 0, 1) := by
  obtain ⟨u, r, hl, hu⟩ := q0_ok h
  refine dec_of ?_
  unfold Decoder.instr
  rw [rd1 hl, hu]
  rfl
set_option maxRecDepth 16384 in
theorem dq_lload_n1 {bs : ByteArray} {pc : Nat} (h : q0 (bs.data.toList.drop pc) 31 = true) : decode bs pc = .ok (.lload_n 1, 1) := by
  obtain ⟨u, r, hl, hu⟩ := q0_ok h
  refine dec_of ?_
  unfold Decoder.instr
  rw [rd1 hl, hu]
  rfl
set_option maxRecDepth 16384 in
theorem dq_lload_n2 {bs : ByteArray} {pc : Nat} (h : q0 (bs.data.toList.drop pc) 32 = true) : decode bs pc = .ok (.lload_n 2, 1) := by
  obtain ⟨u, r, hl, hu⟩ := q0_ok h
  refine dec_of ?_
  unfold Decoder.instr
  rw [rd1 hl, hu]
  rfl
set_option maxRecDepth 16384 in
theorem dq_lload_n3 {bs : ByteArray} {pc : Nat} (h : q0 (bs.data.toList.drop pc) 33 = true) : decode bs pc = .ok (.lload_n 3, 1) := by
  obtain ⟨u, r, hl, hu⟩ := q0_ok h
  refine dec_of ?_
  unfold Decoder.instr
  rw [rd1 hl, hu]
  rfl
set_option maxRecDepth 16384 in
theorem dq_aload_n0 {bs : ByteArray} {pc : Nat} (h : q0 (bs.data.toList.drop pc) 42 = true) : decode bs pc = .ok (.aload_n 0, 1) := by
  obtain ⟨u, r, hl, hu⟩ := q0_ok h
  refine dec_of ?_
  unfold Decoder.instr
  rw [rd1 hl, hu]
  rfl
set_option maxRecDepth 16384 in
theorem dq_aload_n1 {bs : ByteArray} {pc : Nat} (h : q0 (bs.data.toList.drop pc) 43 = true) : decode bs pc = .ok (.aload_n 1, 1) := by
  obtain ⟨u, r, hl, hu⟩ := q0_ok h
  refine dec_of ?_
  unfold Decoder.instr
  rw [rd1 hl, hu]
  rfl
set_option maxRecDepth 16384 in
theorem dq_aload_n2 {bs : ByteArray} {pc : Nat} (h : q0 (bs.data.toList.drop pc) 44 = true) : decode bs pc = .ok (.aload_n 2, 1) := by
  obtain ⟨u, r, hl, hu⟩ := q0_ok h
  refine dec_of ?_
  unfold Decoder.instr
  rw [rd1 hl, hu]
  rfl
set_option maxRecDepth 16384 in
theorem dq_aload_n3 {bs : ByteArray} {pc : Nat} (h : q0 (bs.data.toList.drop pc) 45 = true) : decode bs pc = .ok (.aload_n 3, 1) := by
  obtain ⟨u, r, hl, hu⟩ := q0_ok h
  refine dec_of ?_
  unfold Decoder.instr
  rw [rd1 hl, hu]
  rfl
set_option maxRecDepth 16384 in
theorem dq_istore_n0 {bs : ByteArray} {pc : Nat} (h : q0 (bs.data.toList.drop pc) 59 = true) : decode bs pc = .ok (.istore_n 0, 1) := by
  obtain ⟨u, r, hl, hu⟩ := q0_ok h
  refine dec_of ?_
  unfold Decoder.instr
  rw [rd1 hl, hu]
  rfl
set_option maxRecDepth 16384 in
theorem dq_istore_n1 {bs : ByteArray} {pc : Nat} (h : q0 (bs.data.toList.drop pc) 60 = true) : decode bs pc = .ok (.istore_n 1, 1) := by
  obtain ⟨u, r, hl, hu⟩ := q0_ok h
  refine dec_of ?_
  unfold Decoder.instr
  rw [rd1 hl, hu]
  rfl
set_option maxRecDepth 16384 in
theorem dq_istore_n2 {bs : ByteArray} {pc : Nat} (h : q0 (bs.data.toList.drop pc) 61 = true) : decode bs pc = .ok (.istore_n 2, 1) := by
  obtain ⟨u, r, hl, hu⟩ := q0_ok h
  refine dec_of ?_
  unfold Decoder.instr
  rw [rd1 hl, hu]
  rfl
set_option maxRecDepth 16384 in
theorem dq_istore_n3 {bs : ByteArray} {pc : Nat} (h : q0 (bs.data.toList.drop pc) 62 = true) : decode bs pc = .ok (.istore_n 3, 1) := by
  obtain ⟨u, r, hl, hu⟩ := q0_ok h
  refine dec_of ?_
  unfold Decoder.instr
  rw [rd1 hl, hu]
  rfl
set_option maxRecDepth 16384 in
theorem dq_lstore_n0 {bs : ByteArray} {pc : Nat} (h : q0 (bs.data.toList.drop pc) 63 = true) : decode bs pc = .ok (.lstore_n 0, 1) := by
  obtain ⟨u, r, hl, hu⟩ := q0_ok h
  refine dec_of ?_
  unfold Decoder.instr
  rw [rd1 hl, hu]
  rfl
set_option maxRecDepth 16384 in
theorem dq_lstore_n1 {bs : ByteArray} {pc : Nat} (h : q0 (bs.data.toList.drop pc) 64 = true) : decode bs pc = .ok (.lstore_n 1, 1) := by
  obtain ⟨u, r, hl, hu⟩ := q0_ok h
  refine dec_of ?_
  unfold Decoder.instr
  rw [rd1 hl, hu]
  rfl
set_option maxRecDepth 16384 in
theorem dq_lstore_n2 {bs : ByteArray} {pc : Nat} (h : q0 (bs.data.toList.drop pc) 65 = true) : decode bs pc = .ok (.lstore_n 2, 1) := by
  obtain ⟨u, r, hl, hu⟩ := q0_ok h
  refine dec_of ?_
  unfold Decoder.instr
  rw [rd1 hl, hu]
  rfl
set_option maxRecDepth 16384 in
theorem dq_lstore_n3 {bs : ByteArray} {pc : Nat} (h : q0 (bs.data.toList.drop pc) 66 = true) : decode bs pc = .ok (.lstore_n 3, 1) := by
  obtain ⟨u, r, hl, hu⟩ := q0_ok h
  refine dec_of ?_
  unfold Decoder.instr
  rw [rd1 hl, hu]
  rfl
set_option maxRecDepth 16384 in
theorem dq_astore_n0 {bs : ByteArray} {pc : Nat} (h : q0 (bs.data.toList.drop pc) 75 = true) : decode bs pc = .ok (.astore_n 0, 1) := by
  obtain ⟨u, r, hl, hu⟩ := q0_ok h
  refine dec_of ?_
  unfold Decoder.instr
  rw [rd1 hl, hu]
  rfl
set_option maxRecDepth 16384 in
theorem dq_astore_n1 {bs : ByteArray} {pc : Nat} (h : q0 (bs.data.toList.drop pc) 76 = true) : decode bs pc = .ok (.astore_n 1, 1) := by
  obtain ⟨u, r, hl, hu⟩ := q0_ok h
  refine dec_of ?_
  unfold Decoder.instr
  rw [rd1 hl, hu]
  rfl
set_option maxRecDepth 16384 in
theorem dq_astore_n2 {bs : ByteArray} {pc : Nat} (h : q0 (bs.data.toList.drop pc) 77 = true) : decode bs pc = .ok (.astore_n 2, 1) := by
  obtain ⟨u, r, hl, hu⟩ := q0_ok h
  refine dec_of ?_
  unfold Decoder.instr
  rw [rd1 hl, hu]
  rfl
set_option maxRecDepth 16384 in
theorem dq_astore_n3 {bs : ByteArray} {pc : Nat} (h : q0 (bs.data.toList.drop pc) 78 = true) : decode bs pc = .ok (.astore_n 3, 1) := by
  obtain ⟨u, r, hl, hu⟩ := q0_ok h
  refine dec_of ?_
  unfold Decoder.instr
  rw [rd1 hl, hu]
  rfl
set_option maxRecDepth 16384 in
theorem dq_ldc {bs : ByteArray} {pc : Nat} {n : Nat} (h : q1 (bs.data.toList.drop pc) 18 (fun v => Nat.beq n v) = true) : decode bs pc = .ok (.ldc n, 2) := by
  obtain ⟨u, v, r, hl, hu, hn⟩ := q1_ok h
  obtain rfl := Nat.eq_of_beq_eq_true hn
  refine dec_of ?_
  unfold Decoder.instr
  rw [rd1 hl, hu]
  exact rd1 (f := fun x => Pure.pure (Instr.ldc x)) (by_dr hl)
set_option maxRecDepth 16384 in
theorem dq_iload {bs : ByteArray} {pc : Nat} {n : Nat} (h : q1 (bs.data.toList.drop pc) 21 (fun v => Nat.beq n v) = true) : decode bs pc = .ok (.iload n, 2) := by
  obtain ⟨u, v, r, hl, hu, hn⟩ := q1_ok h
  obtain rfl := Nat.eq_of_beq_eq_true hn
  refine dec_of ?_
  unfold Decoder.instr
  rw [rd1 hl, hu]
  exact rd1 (f := fun x => Pure.pure (Instr.iload x)) (by_dr hl)
set_option maxRecDepth 16384 in
theorem dq_lload {bs : ByteArray} {pc : Nat} {n : Nat} (h : q1 (bs.data.toList.drop pc) 22 (fun v => Nat.beq n v) = true) : decode bs pc = .ok (.lload n, 2) := by
  obtain ⟨u, v, r, hl, hu, hn⟩ := q1_ok h
  obtain rfl := Nat.eq_of_beq_eq_true hn
  refine dec_of ?_
  unfold Decoder.instr
  rw [rd1 hl, hu]
  exact rd1 (f := fun x => Pure.pure (Instr.lload x)) (by_dr hl)
set_option maxRecDepth 16384 in
theorem dq_aload {bs : ByteArray} {pc : Nat} {n : Nat} (h : q1 (bs.data.toList.drop pc) 25 (fun v => Nat.beq n v) = true) : decode bs pc = .ok (.aload n, 2) := by
  obtain ⟨u, v, r, hl, hu, hn⟩ := q1_ok h
  obtain rfl := Nat.eq_of_beq_eq_true hn
  refine dec_of ?_
  unfold Decoder.instr
  rw [rd1 hl, hu]
  exact rd1 (f := fun x => Pure.pure (Instr.aload x)) (by_dr hl)
set_option maxRecDepth 16384 in
theorem dq_istore {bs : ByteArray} {pc : Nat} {n : Nat} (h : q1 (bs.data.toList.drop pc) 54 (fun v => Nat.beq n v) = true) : decode bs pc = .ok (.istore n, 2) := by
  obtain ⟨u, v, r, hl, hu, hn⟩ := q1_ok h
  obtain rfl := Nat.eq_of_beq_eq_true hn
  refine dec_of ?_
  unfold Decoder.instr
  rw [rd1 hl, hu]
  exact rd1 (f := fun x => Pure.pure (Instr.istore x)) (by_dr hl)
set_option maxRecDepth 16384 in
theorem dq_lstore {bs : ByteArray} {pc : Nat} {n : Nat} (h : q1 (bs.data.toList.drop pc) 55 (fun v => Nat.beq n v) = true) : decode bs pc = .ok (.lstore n, 2) := by
  obtain ⟨u, v, r, hl, hu, hn⟩ := q1_ok h
  obtain rfl := Nat.eq_of_beq_eq_true hn
  refine dec_of ?_
  unfold Decoder.instr
  rw [rd1 hl, hu]
  exact rd1 (f := fun x => Pure.pure (Instr.lstore x)) (by_dr hl)
set_option maxRecDepth 16384 in
theorem dq_astore {bs : ByteArray} {pc : Nat} {n : Nat} (h : q1 (bs.data.toList.drop pc) 58 (fun v => Nat.beq n v) = true) : decode bs pc = .ok (.astore n, 2) := by
  obtain ⟨u, v, r, hl, hu, hn⟩ := q1_ok h
  obtain rfl := Nat.eq_of_beq_eq_true hn
  refine dec_of ?_
  unfold Decoder.instr
  rw [rd1 hl, hu]
  exact rd1 (f := fun x => Pure.pure (Instr.astore x)) (by_dr hl)
set_option maxRecDepth 16384 in
theorem dq_bipush {bs : ByteArray} {pc : Nat} {n : Int} (h : q1 (bs.data.toList.drop pc) 16 (fun v => decide (n = Reader.signed 8 v)) = true) : decode bs pc = .ok (.bipush n, 2) := by
  obtain ⟨u, v, r, hl, hu, hn⟩ := q1_ok h
  obtain rfl := of_decide_eq_true hn
  refine dec_of ?_
  unfold Decoder.instr
  rw [rd1 hl, hu]
  exact rds1 (f := fun x => Pure.pure (Instr.bipush x)) (by_dr hl)
set_option maxRecDepth 16384 in
theorem dq_ldc_w {bs : ByteArray} {pc : Nat} {n : Nat} (h : q2 (bs.data.toList.drop pc) 19 (fun v => Nat.beq n v) = true) : decode bs pc = .ok (.ldc_w n, 3) := by
  obtain ⟨u, v, w, r, hl, hu, hn⟩ := q2_ok h
  obtain rfl := Nat.eq_of_beq_eq_true hn
  refine dec_of ?_
  unfold Decoder.instr
  rw [rd1 hl, hu]
  exact rd2 (f := fun x => Pure.pure (Instr.ldc_w x)) (by_dr hl)
set_option maxRecDepth 16384 in
theorem dq_ldc2_w {bs : ByteArray} {pc : Nat} {n : Nat} (h : q2 (bs.data.toList.drop pc) 20 (fun v => Nat.beq n v) = true) : decode bs pc = .ok (.ldc2_w n, 3) := by
  obtain ⟨u, v, w, r, hl, hu, hn⟩ := q2_ok h
  obtain rfl := Nat.eq_of_beq_eq_true hn
  refine dec_of ?_
  unfold Decoder.instr
  rw [rd1 hl, hu]
  exact rd2 (f := fun x => Pure.pure (Instr.ldc2_w x)) (by_dr hl)
set_option maxRecDepth 16384 in
theorem dq_getstatic {bs : ByteArray} {pc : Nat} {n : Nat} (h : q2 (bs.data.toList.drop pc) 178 (fun v => Nat.beq n v) = true) : decode bs pc = .ok (.getstatic n, 3) := by
  obtain ⟨u, v, w, r, hl, hu, hn⟩ := q2_ok h
  obtain rfl := Nat.eq_of_beq_eq_true hn
  refine dec_of ?_
  unfold Decoder.instr
  rw [rd1 hl, hu]
  exact rd2 (f := fun x => Pure.pure (Instr.getstatic x)) (by_dr hl)
set_option maxRecDepth 16384 in
theorem dq_getfield {bs : ByteArray} {pc : Nat} {n : Nat} (h : q2 (bs.data.toList.drop pc) 180 (fun v => Nat.beq n v) = true) : decode bs pc = .ok (.getfield n, 3) := by
  obtain ⟨u, v, w, r, hl, hu, hn⟩ := q2_ok h
  obtain rfl := Nat.eq_of_beq_eq_true hn
  refine dec_of ?_
  unfold Decoder.instr
  rw [rd1 hl, hu]
  exact rd2 (f := fun x => Pure.pure (Instr.getfield x)) (by_dr hl)
set_option maxRecDepth 16384 in
theorem dq_putfield {bs : ByteArray} {pc : Nat} {n : Nat} (h : q2 (bs.data.toList.drop pc) 181 (fun v => Nat.beq n v) = true) : decode bs pc = .ok (.putfield n, 3) := by
  obtain ⟨u, v, w, r, hl, hu, hn⟩ := q2_ok h
  obtain rfl := Nat.eq_of_beq_eq_true hn
  refine dec_of ?_
  unfold Decoder.instr
  rw [rd1 hl, hu]
  exact rd2 (f := fun x => Pure.pure (Instr.putfield x)) (by_dr hl)
set_option maxRecDepth 16384 in
theorem dq_invokevirtual {bs : ByteArray} {pc : Nat} {n : Nat} (h : q2 (bs.data.toList.drop pc) 182 (fun v => Nat.beq n v) = true) : decode bs pc = .ok (.invokevirtual n, 3) := by
  obtain ⟨u, v, w, r, hl, hu, hn⟩ := q2_ok h
  obtain rfl := Nat.eq_of_beq_eq_true hn
  refine dec_of ?_
  unfold Decoder.instr
  rw [rd1 hl, hu]
  exact rd2 (f := fun x => Pure.pure (Instr.invokevirtual x)) (by_dr hl)
set_option maxRecDepth 16384 in
theorem dq_invokespecial {bs : ByteArray} {pc : Nat} {n : Nat} (h : q2 (bs.data.toList.drop pc) 183 (fun v => Nat.beq n v) = true) : decode bs pc = .ok (.invokespecial n, 3) := by
  obtain ⟨u, v, w, r, hl, hu, hn⟩ := q2_ok h
  obtain rfl := Nat.eq_of_beq_eq_true hn
  refine dec_of ?_
  unfold Decoder.instr
  rw [rd1 hl, hu]
  exact rd2 (f := fun x => Pure.pure (Instr.invokespecial x)) (by_dr hl)
set_option maxRecDepth 16384 in
theorem dq_invokestatic {bs : ByteArray} {pc : Nat} {n : Nat} (h : q2 (bs.data.toList.drop pc) 184 (fun v => Nat.beq n v) = true) : decode bs pc = .ok (.invokestatic n, 3) := by
  obtain ⟨u, v, w, r, hl, hu, hn⟩ := q2_ok h
  obtain rfl := Nat.eq_of_beq_eq_true hn
  refine dec_of ?_
  unfold Decoder.instr
  rw [rd1 hl, hu]
  exact rd2 (f := fun x => Pure.pure (Instr.invokestatic x)) (by_dr hl)
set_option maxRecDepth 16384 in
theorem dq_new {bs : ByteArray} {pc : Nat} {n : Nat} (h : q2 (bs.data.toList.drop pc) 187 (fun v => Nat.beq n v) = true) : decode bs pc = .ok (.new n, 3) := by
  obtain ⟨u, v, w, r, hl, hu, hn⟩ := q2_ok h
  obtain rfl := Nat.eq_of_beq_eq_true hn
  refine dec_of ?_
  unfold Decoder.instr
  rw [rd1 hl, hu]
  exact rd2 (f := fun x => Pure.pure (Instr.new x)) (by_dr hl)
set_option maxRecDepth 16384 in
theorem dq_anewarray {bs : ByteArray} {pc : Nat} {n : Nat} (h : q2 (bs.data.toList.drop pc) 189 (fun v => Nat.beq n v) = true) : decode bs pc = .ok (.anewarray n, 3) := by
  obtain ⟨u, v, w, r, hl, hu, hn⟩ := q2_ok h
  obtain rfl := Nat.eq_of_beq_eq_true hn
  refine dec_of ?_
  unfold Decoder.instr
  rw [rd1 hl, hu]
  exact rd2 (f := fun x => Pure.pure (Instr.anewarray x)) (by_dr hl)
set_option maxRecDepth 16384 in
theorem dq_sipush {bs : ByteArray} {pc : Nat} {n : Int} (h : q2 (bs.data.toList.drop pc) 17 (fun v => decide (n = Reader.signed 16 v)) = true) : decode bs pc = .ok (.sipush n, 3) := by
  obtain ⟨u, v, w, r, hl, hu, hn⟩ := q2_ok h
  obtain rfl := of_decide_eq_true hn
  refine dec_of ?_
  unfold Decoder.instr
  rw [rd1 hl, hu]
  exact rds2 (f := fun x => Pure.pure (Instr.sipush x)) (by_dr hl)
set_option maxRecDepth 16384 in
theorem dq_goto {bs : ByteArray} {pc : Nat} {n : Int} (h : q2 (bs.data.toList.drop pc) 167 (fun v => decide (n = Reader.signed 16 v)) = true) : decode bs pc = .ok (.goto n, 3) := by
  obtain ⟨u, v, w, r, hl, hu, hn⟩ := q2_ok h
  obtain rfl := of_decide_eq_true hn
  refine dec_of ?_
  unfold Decoder.instr
  rw [rd1 hl, hu]
  exact rds2 (f := fun x => Pure.pure (Instr.goto x)) (by_dr hl)
set_option maxRecDepth 16384 in
theorem dq_ifnull {bs : ByteArray} {pc : Nat} {n : Int} (h : q2 (bs.data.toList.drop pc) 198 (fun v => decide (n = Reader.signed 16 v)) = true) : decode bs pc = .ok (.ifnull n, 3) := by
  obtain ⟨u, v, w, r, hl, hu, hn⟩ := q2_ok h
  obtain rfl := of_decide_eq_true hn
  refine dec_of ?_
  unfold Decoder.instr
  rw [rd1 hl, hu]
  exact rds2 (f := fun x => Pure.pure (Instr.ifnull x)) (by_dr hl)
set_option maxRecDepth 16384 in
theorem dq_ifnonnull {bs : ByteArray} {pc : Nat} {n : Int} (h : q2 (bs.data.toList.drop pc) 199 (fun v => decide (n = Reader.signed 16 v)) = true) : decode bs pc = .ok (.ifnonnull n, 3) := by
  obtain ⟨u, v, w, r, hl, hu, hn⟩ := q2_ok h
  obtain rfl := of_decide_eq_true hn
  refine dec_of ?_
  unfold Decoder.instr
  rw [rd1 hl, hu]
  exact rds2 (f := fun x => Pure.pure (Instr.ifnonnull x)) (by_dr hl)
set_option maxRecDepth 16384 in
theorem dq_ifCond_eq {bs : ByteArray} {pc : Nat} {n : Int} (h : q2 (bs.data.toList.drop pc) 153 (fun v => decide (n = Reader.signed 16 v)) = true) : decode bs pc = .ok (.ifCond .eq n, 3) := by
  obtain ⟨u, v, w, r, hl, hu, hn⟩ := q2_ok h
  obtain rfl := of_decide_eq_true hn
  refine dec_of ?_
  unfold Decoder.instr
  rw [rd1 hl, hu]
  exact rds2 (f := fun x => Pure.pure (Instr.ifCond .eq x)) (by_dr hl)
set_option maxRecDepth 16384 in
theorem dq_ifCond_ne {bs : ByteArray} {pc : Nat} {n : Int} (h : q2 (bs.data.toList.drop pc) 154 (fun v => decide (n = Reader.signed 16 v)) = true) : decode bs pc = .ok (.ifCond .ne n, 3) := by
  obtain ⟨u, v, w, r, hl, hu, hn⟩ := q2_ok h
  obtain rfl := of_decide_eq_true hn
  refine dec_of ?_
  unfold Decoder.instr
  rw [rd1 hl, hu]
  exact rds2 (f := fun x => Pure.pure (Instr.ifCond .ne x)) (by_dr hl)
set_option maxRecDepth 16384 in
theorem dq_ifCond_lt {bs : ByteArray} {pc : Nat} {n : Int} (h : q2 (bs.data.toList.drop pc) 155 (fun v => decide (n = Reader.signed 16 v)) = true) : decode bs pc = .ok (.ifCond .lt n, 3) := by
  obtain ⟨u, v, w, r, hl, hu, hn⟩ := q2_ok h
  obtain rfl := of_decide_eq_true hn
  refine dec_of ?_
  unfold Decoder.instr
  rw [rd1 hl, hu]
  exact rds2 (f := fun x => Pure.pure (Instr.ifCond .lt x)) (by_dr hl)
set_option maxRecDepth 16384 in
theorem dq_ifCond_ge {bs : ByteArray} {pc : Nat} {n : Int} (h : q2 (bs.data.toList.drop pc) 156 (fun v => decide (n = Reader.signed 16 v)) = true) : decode bs pc = .ok (.ifCond .ge n, 3) := by
  obtain ⟨u, v, w, r, hl, hu, hn⟩ := q2_ok h
  obtain rfl := of_decide_eq_true hn
  refine dec_of ?_
  unfold Decoder.instr
  rw [rd1 hl, hu]
  exact rds2 (f := fun x => Pure.pure (Instr.ifCond .ge x)) (by_dr hl)
set_option maxRecDepth 16384 in
theorem dq_ifCond_gt {bs : ByteArray} {pc : Nat} {n : Int} (h : q2 (bs.data.toList.drop pc) 157 (fun v => decide (n = Reader.signed 16 v)) = true) : decode bs pc = .ok (.ifCond .gt n, 3) := by
  obtain ⟨u, v, w, r, hl, hu, hn⟩ := q2_ok h
  obtain rfl := of_decide_eq_true hn
  refine dec_of ?_
  unfold Decoder.instr
  rw [rd1 hl, hu]
  exact rds2 (f := fun x => Pure.pure (Instr.ifCond .gt x)) (by_dr hl)
set_option maxRecDepth 16384 in
theorem dq_ifCond_le {bs : ByteArray} {pc : Nat} {n : Int} (h : q2 (bs.data.toList.drop pc) 158 (fun v => decide (n = Reader.signed 16 v)) = true) : decode bs pc = .ok (.ifCond .le n, 3) := by
  obtain ⟨u, v, w, r, hl, hu, hn⟩ := q2_ok h
  obtain rfl := of_decide_eq_true hn
  refine dec_of ?_
  unfold Decoder.instr
  rw [rd1 hl, hu]
  exact rds2 (f := fun x => Pure.pure (Instr.ifCond .le x)) (by_dr hl)
set_option maxRecDepth 16384 in
theorem dq_if_icmp_eq {bs : ByteArray} {pc : Nat} {n : Int} (h : q2 (bs.data.toList.drop pc) 159 (fun v => decide (n = Reader.signed 16 v)) = true) : decode bs pc = .ok (.if_icmp .eq n, 3) := by
  obtain ⟨u, v, w, r, hl, hu, hn⟩ := q2_ok h
  obtain rfl := of_decide_eq_true hn
  refine dec_of ?_
  unfold Decoder.instr
  rw [rd1 hl, hu]
  exact rds2 (f := fun x => Pure.pure (Instr.if_icmp .eq x)) (by_dr hl)
set_option maxRecDepth 16384 in
theorem dq_if_icmp_ne {bs : ByteArray} {pc : Nat} {n : Int} (h : q2 (bs.data.toList.drop pc) 160 (fun v => decide (n = Reader.signed 16 v)) = true) : decode bs pc = .ok (.if_icmp .ne n, 3) := by
  obtain ⟨u, v, w, r, hl, hu, hn⟩ := q2_ok h
  obtain rfl := of_decide_eq_true hn
  refine dec_of ?_
  unfold Decoder.instr
  rw [rd1 hl, hu]
  exact rds2 (f := fun x => Pure.pure (Instr.if_icmp .ne x)) (by_dr hl)
set_option maxRecDepth 16384 in
theorem dq_if_icmp_lt {bs : ByteArray} {pc : Nat} {n : Int} (h : q2 (bs.data.toList.drop pc) 161 (fun v => decide (n = Reader.signed 16 v)) = true) : decode bs pc = .ok (.if_icmp .lt n, 3) := by
  obtain ⟨u, v, w, r, hl, hu, hn⟩ := q2_ok h
  obtain rfl := of_decide_eq_true hn
  refine dec_of ?_
  unfold Decoder.instr
  rw [rd1 hl, hu]
  exact rds2 (f := fun x => Pure.pure (Instr.if_icmp .lt x)) (by_dr hl)
set_option maxRecDepth 16384 in
theorem dq_if_icmp_ge {bs : ByteArray} {pc : Nat} {n : Int} (h : q2 (bs.data.toList.drop pc) 162 (fun v => decide (n = Reader.signed 16 v)) = true) : decode bs pc = .ok (.if_icmp .ge n, 3) := by
  obtain ⟨u, v, w, r, hl, hu, hn⟩ := q2_ok h
  obtain rfl := of_decide_eq_true hn
  refine dec_of ?_
  unfold Decoder.instr
  rw [rd1 hl, hu]
  exact rds2 (f := fun x => Pure.pure (Instr.if_icmp .ge x)) (by_dr hl)
set_option maxRecDepth 16384 in
theorem dq_if_icmp_gt {bs : ByteArray} {pc : Nat} {n : Int} (h : q2 (bs.data.toList.drop pc) 163 (fun v => decide (n = Reader.signed 16 v)) = true) : decode bs pc = .ok (.if_icmp .gt n, 3) := by
  obtain ⟨u, v, w, r, hl, hu, hn⟩ := q2_ok h
  obtain rfl := of_decide_eq_true hn
  refine dec_of ?_
  unfold Decoder.instr
  rw [rd1 hl, hu]
  exact rds2 (f := fun x => Pure.pure (Instr.if_icmp .gt x)) (by_dr hl)
set_option maxRecDepth 16384 in
theorem dq_if_icmp_le {bs : ByteArray} {pc : Nat} {n : Int} (h : q2 (bs.data.toList.drop pc) 164 (fun v => decide (n = Reader.signed 16 v)) = true) : decode bs pc = .ok (.if_icmp .le n, 3) := by
  obtain ⟨u, v, w, r, hl, hu, hn⟩ := q2_ok h
  obtain rfl := of_decide_eq_true hn
  refine dec_of ?_
  unfold Decoder.instr
  rw [rd1 hl, hu]
  exact rds2 (f := fun x => Pure.pure (Instr.if_icmp .le x)) (by_dr hl)
set_option maxRecDepth 16384 in
theorem dq_if_acmp_eq {bs : ByteArray} {pc : Nat} {n : Int} (h : q2 (bs.data.toList.drop pc) 165 (fun v => decide (n = Reader.signed 16 v)) = true) : decode bs pc = .ok (.if_acmp .eq n, 3) := by
  obtain ⟨u, v, w, r, hl, hu, hn⟩ := q2_ok h
  obtain rfl := of_decide_eq_true hn
  refine dec_of ?_
  unfold Decoder.instr
  rw [rd1 hl, hu]
  exact rds2 (f := fun x => Pure.pure (Instr.if_acmp .eq x)) (by_dr hl)
set_option maxRecDepth 16384 in
theorem dq_if_acmp_ne {bs : ByteArray} {pc : Nat} {n : Int} (h : q2 (bs.data.toList.drop pc) 166 (fun v => decide (n = Reader.signed 16 v)) = true) : decode bs pc = .ok (.if_acmp .ne n, 3) := by
  obtain ⟨u, v, w, r, hl, hu, hn⟩ := q2_ok h
  obtain rfl := of_decide_eq_true hn
  refine dec_of ?_
  unfold Decoder.instr
  rw [rd1 hl, hu]
  exact rds2 (f := fun x => Pure.pure (Instr.if_acmp .ne x)) (by_dr hl)
set_option maxRecDepth 16384 in
theorem dq_iinc {bs : ByteArray} {pc : Nat} {k : Nat} {n : Int} (h : (match bs.data.toList.drop pc with
  | u :: v :: w :: _ => Nat.beq u.toNat 132 && (Nat.beq k v.toNat && decide (n = Reader.signed 8 w.toNat))
  | _ => false) = true) : decode bs pc = .ok (.iinc k n, 3) := by
  split at h
  · rename_i u v w r hl
    simp only [Bool.and_eq_true, decide_eq_true_eq] at h
    obtain ⟨h1, h2, rfl⟩ := h
    obtain rfl := Nat.eq_of_beq_eq_true h2
    refine dec_of ?_
    unfold Decoder.instr
    rw [rd1 hl, Nat.eq_of_beq_eq_true h1]
    exact (rd1 (f := fun x => Reader.s1 >>= fun y => Pure.pure (Instr.iinc x y)) (by_dr hl)).trans (rds1 (f := fun y => Pure.pure (Instr.iinc v.toNat y)) (by_dr (by_dr hl)))
  · cases h
set_option maxRecDepth 16384 in
theorem dq_new_boolean {bs : ByteArray} {pc : Nat} (h : q1 (bs.data.toList.drop pc) 188 (fun v => Nat.beq 4 v) = true) : decode bs pc = .ok (.newarray .boolean, 2) := by
  obtain ⟨u, v, r, hl, hu, hn⟩ := q1_ok h
  refine dec_of ?_
  unfold Decoder.instr
  rw [rd1 hl, hu]
  show Decoder.newarray pc bs (pc + 1) = _
  unfold Decoder.newarray
  rw [rd1 (by_dr hl), ← Nat.eq_of_beq_eq_true hn]
  rfl
set_option maxRecDepth 16384 in
theorem dq_new_byte {bs : ByteArray} {pc : Nat} (h : q1 (bs.data.toList.drop pc) 188 (fun v => Nat.beq 8 v) = true) : decode bs pc = .ok (.newarray .byte, 2) := by
  obtain ⟨u, v, r, hl, hu, hn⟩ := q1_ok h
  refine dec_of ?_
  unfold Decoder.instr
  rw [rd1 hl, hu]
  show Decoder.newarray pc bs (pc + 1) = _
  unfold Decoder.newarray
  rw [rd1 (by_dr hl), ← Nat.eq_of_beq_eq_true hn]
  rfl
set_option maxRecDepth 16384 in
theorem dq_new_int {bs : ByteArray} {pc : Nat} (h : q1 (bs.data.toList.drop pc) 188 (fun v => Nat.beq 10 v) = true) : decode bs pc = .ok (.newarray .int, 2) := by
  obtain ⟨u, v, r, hl, hu, hn⟩ := q1_ok h
  refine dec_of ?_
  unfold Decoder.instr
  rw [rd1 hl, hu]
  show Decoder.newarray pc bs (pc + 1) = _
  unfold Decoder.newarray
  rw [rd1 (by_dr hl), ← Nat.eq_of_beq_eq_true hn]
  rfl
/-- whether the bytes are those of the instruction (but for switches) -/
def chkI (i : Instr) (l : List UInt8) : Bool := match i with
  | .aconst_null => q0 l 1
  | .iaload => q0 l 46
  | .aaload => q0 l 50
  | .baload => q0 l 51
  | .iastore => q0 l 79
  | .aastore => q0 l 83
  | .bastore => q0 l 84
  | .pop => q0 l 87
  | .pop2 => q0 l 88
  | .dup => q0 l 89
  | .dup_x1 => q0 l 90
  | .dup2 => q0 l 92
  | .iadd => q0 l 96
  | .ladd => q0 l 97
  | .isub => q0 l 100
  | .imul => q0 l 104
  | .lmul => q0 l 105
  | .idiv => q0 l 108
  | .ldiv => q0 l 109
  | .irem => q0 l 112
  | .lrem => q0 l 113
  | .ineg => q0 l 116
  | .lneg => q0 l 117
  | .iand => q0 l 126
  | .i2l => q0 l 133
  | .l2i => q0 l 136
  | .i2b => q0 l 145
  | .lcmp => q0 l 148
  | .ireturn => q0 l 172
  | .lreturn => q0 l 173
  | .areturn => q0 l 176
  | .return_ => q0 l 177
  | .arraylength => q0 l 190
  | .iconst n => (decide (n = -1) && q0 l 2) || (decide (n = 0) && q0 l 3) || (decide (n = 1) && q0 l 4) || (decide (n = 2) && q0 l 5) || (decide (n = 3) && q0 l 6) || (decide (n = 4) && q0 l 7) || (decide (n = 5) && q0 l 8)
  | .lconst n => q0 l (9 + n.val)
  | .iload_n n => q0 l (26 + n.val)
  | .lload_n n => q0 l (30 + n.val)
  | .aload_n n => q0 l (42 + n.val)
  | .istore_n n => q0 l (59 + n.val)
  | .lstore_n n => q0 l (63 + n.val)
  | .astore_n n => q0 l (75 + n.val)
  | .ldc n => q1 l 18 (fun v => Nat.beq n v)
  | .iload n => q1 l 21 (fun v => Nat.beq n v)
  | .lload n => q1 l 22 (fun v => Nat.beq n v)
  | .aload n => q1 l 25 (fun v => Nat.beq n v)
  | .istore n => q1 l 54 (fun v => Nat.beq n v)
  | .lstore n => q1 l 55 (fun v => Nat.beq n v)
  | .astore n => q1 l 58 (fun v => Nat.beq n v)
  | .bipush n => q1 l 16 (fun v => decide (n = Reader.signed 8 v))
  | .ldc_w n => q2 l 19 (fun v => Nat.beq n v)
  | .ldc2_w n => q2 l 20 (fun v => Nat.beq n v)
  | .getstatic n => q2 l 178 (fun v => Nat.beq n v)
  | .getfield n => q2 l 180 (fun v => Nat.beq n v)
  | .putfield n => q2 l 181 (fun v => Nat.beq n v)
  | .invokevirtual n => q2 l 182 (fun v => Nat.beq n v)
  | .invokespecial n => q2 l 183 (fun v => Nat.beq n v)
  | .invokestatic n => q2 l 184 (fun v => Nat.beq n v)
  | .new n => q2 l 187 (fun v => Nat.beq n v)
  | .anewarray n => q2 l 189 (fun v => Nat.beq n v)
  | .sipush n => q2 l 17 (fun v => decide (n = Reader.signed 16 v))
  | .goto n => q2 l 167 (fun v => decide (n = Reader.signed 16 v))
  | .ifnull n => q2 l 198 (fun v => decide (n = Reader.signed 16 v))
  | .ifnonnull n => q2 l 199 (fun v => decide (n = Reader.signed 16 v))
  | .ifCond .eq n => q2 l 153 (fun v => decide (n = Reader.signed 16 v))
  | .ifCond .ne n => q2 l 154 (fun v => decide (n = Reader.signed 16 v))
  | .ifCond .lt n => q2 l 155 (fun v => decide (n = Reader.signed 16 v))
  | .ifCond .ge n => q2 l 156 (fun v => decide (n = Reader.signed 16 v))
  | .ifCond .gt n => q2 l 157 (fun v => decide (n = Reader.signed 16 v))
  | .ifCond .le n => q2 l 158 (fun v => decide (n = Reader.signed 16 v))
  | .if_icmp .eq n => q2 l 159 (fun v => decide (n = Reader.signed 16 v))
  | .if_icmp .ne n => q2 l 160 (fun v => decide (n = Reader.signed 16 v))
  | .if_icmp .lt n => q2 l 161 (fun v => decide (n = Reader.signed 16 v))
  | .if_icmp .ge n => q2 l 162 (fun v => decide (n = Reader.signed 16 v))
  | .if_icmp .gt n => q2 l 163 (fun v => decide (n = Reader.signed 16 v))
  | .if_icmp .le n => q2 l 164 (fun v => decide (n = Reader.signed 16 v))
  | .if_acmp .eq n => q2 l 165 (fun v => decide (n = Reader.signed 16 v))
  | .if_acmp .ne n => q2 l 166 (fun v => decide (n = Reader.signed 16 v))
  | .iinc k n => match l with
    | u :: v :: w :: _ => Nat.beq u.toNat 132 && (Nat.beq k v.toNat && decide (n = Reader.signed 8 w.toNat))
    | _ => false
  | .newarray .boolean => q1 l 188 (fun v => Nat.beq 4 v)
  | .newarray .byte => q1 l 188 (fun v => Nat.beq 8 v)
  | .newarray .int => q1 l 188 (fun v => Nat.beq 10 v)
  | _ => false
set_option maxRecDepth 16384 in
theorem chkI_ok {bs : ByteArray} {pc : Nat} {i : Instr} (h : chkI i (bs.data.toList.drop pc) = true) : decode bs pc = .ok (i, ilen i) := by
  match i, h with
  | .aconst_null, h => exact dq_aconst_null h
  | .iaload, h => exact dq_iaload h
  | .aaload, h => exact dq_aaload h
  | .baload, h => exact dq_baload h
  | .iastore, h => exact dq_iastore h
  | .aastore, h => exact dq_aastore h
  | .bastore, h => exact dq_bastore h
  | .pop, h => exact dq_pop h
  | .pop2, h => exact dq_pop2 h
  | .dup, h => exact dq_dup h
  | .dup_x1, h => exact dq_dup_x1 h
  | .dup2, h => exact dq_dup2 h
  | .iadd, h => exact dq_iadd h
  | .ladd, h => exact dq_ladd h
  | .isub, h => exact dq_isub h
  | .imul, h => exact dq_imul h
  | .lmul, h => exact dq_lmul h
  | .idiv, h => exact dq_idiv h
  | .ldiv, h => exact dq_ldiv h
  | .irem, h => exact dq_irem h
  | .lrem, h => exact dq_lrem h
  | .ineg, h => exact dq_ineg h
  | .lneg, h => exact dq_lneg h
  | .iand, h => exact dq_iand h
  | .i2l, h => exact dq_i2l h
  | .l2i, h => exact dq_l2i h
  | .i2b, h => exact dq_i2b h
  | .lcmp, h => exact dq_lcmp h
  | .ireturn, h => exact dq_ireturn h
  | .lreturn, h => exact dq_lreturn h
  | .areturn, h => exact dq_areturn h
  | .return_, h => exact dq_return_ h
  | .arraylength, h => exact dq_arraylength h
  | .iconst n, h =>
    simp only [chkI, Bool.or_eq_true, Bool.and_eq_true, decide_eq_true_eq] at h
    rcases h with ((((((⟨rfl, h⟩ | ⟨rfl, h⟩) | ⟨rfl, h⟩) | ⟨rfl, h⟩) | ⟨rfl, h⟩) | ⟨rfl, h⟩) | ⟨rfl, h⟩)
    · exact dq_iconst0 h
    · exact dq_iconst1 h
    · exact dq_iconst2 h
    · exact dq_iconst3 h
    · exact dq_iconst4 h
    · exact dq_iconst5 h
    · exact dq_iconst6 h
  | .lconst n, h =>
    match n, h with
    | 0, h => exact dq_lconst0 h
    | 1, h => exact dq_lconst1 h
  | .iload_n n, h =>
    match n, h with
    | 0, h => exact dq_iload_n0 h
    | 1, h => exact dq_iload_n1 h
    | 2, h => exact dq_iload_n2 h
    | 3, h => exact dq_iload_n3 h
  | .lload_n n, h =>
    match n, h with
    | 0, h => exact dq_lload_n0 h
    | 1, h => exact dq_lload_n1 h
    | 2, h => exact dq_lload_n2 h
    | 3, h => exact dq_lload_n3 h
  | .aload_n n, h =>
    match n, h with
    | 0, h => exact dq_aload_n0 h
    | 1, h => exact dq_aload_n1 h
    | 2, h => exact dq_aload_n2 h
    | 3, h => exact dq_aload_n3 h
  | .istore_n n, h =>
    match n, h with
    | 0, h => exact dq_istore_n0 h
    | 1, h => exact dq_istore_n1 h
    | 2, h => exact dq_istore_n2 h
    | 3, h => exact dq_istore_n3 h
  | .lstore_n n, h =>
    match n, h with
    | 0, h => exact dq_lstore_n0 h
    | 1, h => exact dq_lstore_n1 h
    | 2, h => exact dq_lstore_n2 h
    | 3, h => exact dq_lstore_n3 h
  | .astore_n n, h =>
    match n, h with
    | 0, h => exact dq_astore_n0 h
    | 1, h => exact dq_astore_n1 h
    | 2, h => exact dq_astore_n2 h
    | 3, h => exact dq_astore_n3 h
  | .ldc n, h => exact dq_ldc h
  | .iload n, h => exact dq_iload h
  | .lload n, h => exact dq_lload h
  | .aload n, h => exact dq_aload h
  | .istore n, h => exact dq_istore h
  | .lstore n, h => exact dq_lstore h
  | .astore n, h => exact dq_astore h
  | .bipush n, h => exact dq_bipush h
  | .ldc_w n, h => exact dq_ldc_w h
  | .ldc2_w n, h => exact dq_ldc2_w h
  | .getstatic n, h => exact dq_getstatic h
  | .getfield n, h => exact dq_getfield h
  | .putfield n, h => exact dq_putfield h
  | .invokevirtual n, h => exact dq_invokevirtual h
  | .invokespecial n, h => exact dq_invokespecial h
  | .invokestatic n, h => exact dq_invokestatic h
  | .new n, h => exact dq_new h
  | .anewarray n, h => exact dq_anewarray h
  | .sipush n, h => exact dq_sipush h
  | .goto n, h => exact dq_goto h
  | .ifnull n, h => exact dq_ifnull h
  | .ifnonnull n, h => exact dq_ifnonnull h
  | .ifCond .eq n, h => exact dq_ifCond_eq h
  | .ifCond .ne n, h => exact dq_ifCond_ne h
  | .ifCond .lt n, h => exact dq_ifCond_lt h
  | .ifCond .ge n, h => exact dq_ifCond_ge h
  | .ifCond .gt n, h => exact dq_ifCond_gt h
  | .ifCond .le n, h => exact dq_ifCond_le h
  | .if_icmp .eq n, h => exact dq_if_icmp_eq h
  | .if_icmp .ne n, h => exact dq_if_icmp_ne h
  | .if_icmp .lt n, h => exact dq_if_icmp_lt h
  | .if_icmp .ge n, h => exact dq_if_icmp_ge h
  | .if_icmp .gt n, h => exact dq_if_icmp_gt h
  | .if_icmp .le n, h => exact dq_if_icmp_le h
  | .if_acmp .eq n, h => exact dq_if_acmp_eq h
  | .if_acmp .ne n, h => exact dq_if_acmp_ne h
  | .iinc k n, h => exact dq_iinc h
  | .newarray .boolean, h => exact dq_new_boolean h
  | .newarray .byte, h => exact dq_new_byte h
  | .newarray .int, h => exact dq_new_int h
def chkD (bs : ByteArray) (pc : Nat) (w : EN) (l : List UInt8) : Bool := if isSw w.1 then (match decode bs pc with
  | .ok (j, _) => decide (j = w.1)
  | _ => false) else chkI w.1 l && decide (w.2.1 = pc + ilen w.1)
def hcl (x : Nat) : (Nat × Nat) × (Nat × Nat) × (Nat × Nat) × (Nat × Nat) := (l2 hcs x).getD ((99, 0), (99, 0), (99, 0), (99, 0))
/-- what a callee needs but its code -/
def cfQ (x y : Nat) : Bool := wat (hcl x).2.1 (.initialized (YB0 x).1.cls) && (plainName (YB0 x).1.cls && (decide ((YB0 x).1.cls ≠ "java/lang/invoke/MethodHandle") && (decide ((YB0 x).1.cls ≠ "java/lang/invoke/VarHandle") && decide ((parseMethodDescriptor (YB0 x).1.desc).map (fun d => d.parameters.length) = some y))))
def cfR (x y : Nat) : Prop := Cond.code (YB0 x).1 (YB0 x).2 ((l2 nls x).getD 0) ((l2 rts x).getD none) ∈ Ts0 ∧ cfQ x y = true
theorem wat_of {q : Nat × Nat} {w : Cond} (h : (tabs q.1)[q.2]? = some w) (g : goodWord w = true) : w ∈ Ts0 := List.mem_filter.mpr ⟨tabs_in (List.mem_of_getElem? h), g⟩
def cfB (x y : Nat) : Bool := decide (l2 nas x = some (some y))
def isNestTo (own : String) (idx : Nat) (y : MethodName) (w : Cond) : Bool := match w with
  | .methodLinkNest a i x _ => decide (a = own) && (decide (i = idx) && decide (x = y))
  | _ => false
def mlB (ci : Nat) (own : String) (idx : Nat) (y : MethodName) : Bool := wat (hlk ci idx) (.methodLink own idx y) || NW0.any (isNestTo own idx y)
def chkG (own nm : String) (ci pc : Nat) (i : Instr) (x y : Nat) : Bool :=
  match i with
  | .goto off | .ifnull off | .ifnonnull off | .ifCond _ off | .if_icmp _ off | .if_acmp _ off => decide ((pc : Int) + off = (x : Int))
  | .tableswitch d lo hi offs => decide (0 ≤ (pc : Int) + d) && (offs.toList.all (fun o => decide (0 ≤ (pc : Int) + o)) && decide (lo + offs.toList.length ≤ hi + 1))
  | .ldc idx => (decide (y = 0) && wat (hlk ci idx) (.constant own idx (Int32.ofNat x))) || (decide (y = 1) && (decide (x < 64) && SS0.any (fun q => decide (q.1 = own) && (decide (q.2.1 = idx) && decide (q.2.2.2 = x)))))
  | .ldc_w idx => (decide (y = 0) && wat (hlk ci idx) (.constant own idx (Int32.ofNat x))) || (decide (y = 1) && (decide (x < 64) && SS0.any (fun q => decide (q.1 = own) && (decide (q.2.1 = idx) && decide (q.2.2.2 = x)))))
  | .ldc2_w idx => wat (hlk ci idx) (.constantLong own idx (Int64.ofNat x))
  | .getfield idx => match cl0[x]? with
    | some (C, T, N) => decide (y < N) && wat (hlk ci idx) (.fieldLink own idx C (T y).2.1 (T y).2.2.1)
    | none => false
  | .putfield idx => match cl0[x]? with
    | some (C, T, N) => decide (y < N) && (wat (hlk ci idx) (.fieldLink own idx C (T y).2.1 (T y).2.2.1) && (decide ((T y).2.2.2 = false) || (decide (nm = "<init>") && decide (C = own))))
    | none => false
  | .getstatic idx => decide (x = 1) && (wat (hlk ci idx) (.fieldLink own idx "HoleDesk" "PARTS" "[I") || NW0.any (fun w => decide (w = .fieldLinkNest own idx "HoleDesk" "PARTS" "[I" "HoleDesk")))
  | .baload | .bastore => decide (x = 1) || decide (x = 2)
  | .aastore => match cl0[y]?, tyL0[x]? with
    | some (C, _, _), some t => decide (t = .object C)
    | _, _ => false
  | .newarray a => (decide (a = .int) && decide (x = 0)) || ((decide (a = .byte) && decide (x = 1)) || (decide (a = .boolean) && decide (x = 2)))
  | .anewarray idx => match tyL0[x]? with
    | some (.object C) => wat (hlk ci idx) (.classLink own idx C) && NW0.any (fun w => decide (w = .arrayOver (.object C)))
    | _ => false
  | .new idx => match cl0[x]? with
    | some (C, _, _) => wat (hlk ci idx) (.classLink own idx C)
    | none => false
  | .invokespecial idx => (decide (x = 0) && wat (hlk ci idx) (.methodLink own idx Lib.objectInit)) || (!decide (x = 0) && (cfB x y && (mlB ci own idx (YB0 x).1 && (wat (hcl x).2.2.1 (.instanceMethod (YB0 x).1) && (decide ((YB0 x).1.name = "<init>") && decide ((l2 rts x).getD none = none))))))
  | .invokestatic idx => (decide (x = 9000) && wat (hlk ci idx) (.methodLink own idx Lib.Math.min.name)) || (!decide (x = 9000) && (cfB x y && (mlB ci own idx (YB0 x).1 && wat (hcl x).2.2.1 (.static (YB0 x).1))))
  | .invokevirtual idx => (decide (x = 9001) && wat (hlk ci idx) (.methodLink own idx yCA)) || ((decide (x = 9002) && wat (hlk ci idx) (.methodLink own idx yLN)) || (!decide (x = 9001) && (!decide (x = 9002) && (cfB x y && (wat (hlk ci idx) (.methodLink own idx (YB0 x).1) && (wat (hcl x).2.2.1 (.instanceMethod (YB0 x).1) && (wat (hcl x).2.2.2 (.selects (YB0 x).1.cls (YB0 x).1 (YB0 x).1) && (match cl0[(l2 mcls x).getD 0]? with
    | some (C, _, _) => decide (C = (YB0 x).1.cls)
    | none => false))))))))
  | _ => true
def chkX (M pc : Nat) (i : Instr) (x y : Nat) : Bool := chkG (YB0 M).1.cls (YB0 M).1.name ((l2 mcls M).getD 0) pc i x y
/-- links by kind and place in the pool -/
def lkd (i : Instr) : Option (Nat × Nat) := match i with
  | .getfield n => some (1, n) | .putfield n => some (2, n) | .getstatic n => some (3, n) | .anewarray n => some (4, n) | .new n => some (5, n) | .invokespecial n => some (6, n) | .invokestatic n => some (7, n) | .invokevirtual n => some (8, n) | .ldc n => some (9, n) | .ldc_w n => some (10, n) | .ldc2_w n => some (11, n)
  | _ => none
def mkI (k n : Nat) : Instr := match k with
  | 1 => .getfield n | 2 => .putfield n | 3 => .getstatic n | 4 => .anewarray n | 5 => .new n | 6 => .invokespecial n | 7 => .invokestatic n | 8 => .invokevirtual n | 9 => .ldc n | 10 => .ldc_w n | _ => .ldc2_w n
theorem mkI_of {i : Instr} {k n : Nat} (h : lkd i = some (k, n)) : mkI k n = i := by
  unfold lkd at h
  split at h <;> first | (cases h; rfl) | cases h
theorem chkG_mono {own nm : String} {ci pc x y : Nat} {i : Instr} {q : Nat × Nat} (hl : lkd i = some q) (h : chkG own "" ci 0 i x y = true) : chkG own nm ci pc i x y = true := by
  cases i <;> first
    | (cases hl; done)
    | exact h
    | (simp only [chkG] at h ⊢
       cases hc : cl0[x]? with
       | none => rw [hc] at h; cases h
       | some w =>
         obtain ⟨C, T, N⟩ := w
         rw [hc] at h
         simp only [Bool.and_eq_true, Bool.or_eq_true, decide_eq_true_eq] at h ⊢
         exact ⟨h.1, h.2.1, h.2.2.imp id (fun q => absurd q.1 (by decide))⟩)
def rowM (ci a : Nat) : Bool := match (mlt ci)[a]? with
  | some r => (List.range r.length).all (fun b => match r[b]? with
    | some es => es.all (fun e => chkG (cnm ci) "" ci 0 (mkI e.1 (16 * a + b)) e.2.1 e.2.2)
    | none => true)
  | none => true
theorem rowM_out {ci a : Nat} (h : (mlt ci).length ≤ a) : rowM ci a = true := by
  unfold rowM
  rw [List.getElem?_eq_none h]
def chkM (M : Nat) (w : EN) : Bool := decide (M ≠ 0 ∧ M < 256) && (match lkd w.1 with
  | some (k, n) => (match l2 (mlt ((l2 mcls M).getD 0)) n with
    | some es => es.any (fun e => Nat.beq e.1 k && (Nat.beq e.2.1 w.2.2.1 && Nat.beq e.2.2 w.2.2.2))
    | none => false)
  | none => false)
theorem chkM_at (hm : ∀ ci a, rowM ci a = true) {ci pc : Nat} {nm : String} {w : EN} (h : (match lkd w.1 with
  | some (k, n) => (match l2 (mlt ci) n with
    | some es => es.any (fun e => Nat.beq e.1 k && (Nat.beq e.2.1 w.2.2.1 && Nat.beq e.2.2 w.2.2.2))
    | none => false)
  | none => false) = true) : chkG (cnm ci) nm ci pc w.1 w.2.2.1 w.2.2.2 = true := by
  cases hl : lkd w.1 with
  | none => rw [hl] at h; cases h
  | some q =>
    obtain ⟨k, n⟩ := q
    rw [hl] at h
    have h : (match l2 (mlt ci) n with
      | some es => es.any (fun e => Nat.beq e.1 k && (Nat.beq e.2.1 w.2.2.1 && Nat.beq e.2.2 w.2.2.2))
      | none => false) = true := h
    cases hr : l2 (mlt ci) n with
    | none => rw [hr] at h; cases h
    | some es =>
      rw [hr] at h
      obtain ⟨e, he, h2⟩ := List.any_eq_true.mp h
      simp only [Bool.and_eq_true] at h2
      have e1 := Nat.eq_of_beq_eq_true h2.1
      have e2 := Nat.eq_of_beq_eq_true h2.2.1
      have e3 := Nat.eq_of_beq_eq_true h2.2.2
      have hrow := hm ci (n / 16)
      unfold rowM at hrow
      unfold l2 at hr
      cases ha : (mlt ci)[n / 16]? with
      | none => rw [ha] at hr; cases hr
      | some r =>
        rw [ha] at hr hrow
        have hr : r[n % 16]? = some es := hr
        have h3 := List.all_eq_true.mp hrow (n % 16) (List.mem_range.mpr (List.getElem?_eq_some_iff.mp hr).1)
        rw [hr] at h3
        have h4 := List.all_eq_true.mp h3 e he
        rw [Nat.div_add_mod, e1, e2, e3, mkI_of hl] at h4
        exact chkG_mono hl h4
def chkE (M : Nat) : CE := ((YB0 M).2.data.toList, fun pc w l => decide (ikd w.1 = 4) || (chkD (YB0 M).2 pc w l && (chkM M w || chkX M pc w.1 w.2.2.1 w.2.2.2)))

section
/-! .. runs. -/
theorem ko_only {nx : Nat} {ls : ML} {st : List Value} {h : MH} {z : ST} (e : okk nx ls st h = some z) : ∃ q, z = .inl q := by
  unfold okk at e
  cases e
  exact ⟨_, rfl⟩
section
variable {iv : List (Int × Int)} {G : GI} {M pc nx x y : Nat} {i : Instr} {ls : ML} {st : List Value} {h : MH} {z : ST}
theorem ko_on (hk : ikd i = 0) (hz : stepI iv G M pc i nx x y ls st h = some z) : ∃ q, z = .inl q := by
  cases i <;> first
    | (exact absurd (show (1 : Nat) = 0 from hk) (by decide)) | (exact absurd (show (2 : Nat) = 0 from hk) (by decide)) | (exact absurd (show (3 : Nat) = 0 from hk) (by decide)) | (exact absurd (show (4 : Nat) = 0 from hk) (by decide))
    | (exact ko_only hz)
    | (cases hz; exact ⟨_, rfl⟩)
    | (simp only [stepI, stload, ststore1, ststore2, s2i, s2l, s1i, s1l, s1r, s1n, s1] at hz
       repeat' split at hz
       all_goals first | (cases hz; done) | (exact ko_only hz) | (cases hz; exact ⟨_, rfl⟩))
theorem ko_rt (hk : ikd i = 2) (hz : stepI iv G M pc i nx x y ls st h = some z) : ∃ v, z = .inr (.inr (.inl v)) := by
  cases i <;> first
    | (exact absurd (show (0 : Nat) = 2 from hk) (by decide)) | (exact absurd (show (1 : Nat) = 2 from hk) (by decide)) | (exact absurd (show (3 : Nat) = 2 from hk) (by decide)) | (exact absurd (show (4 : Nat) = 2 from hk) (by decide))
    | (simp only [stepI] at hz
       repeat' split at hz
       all_goals first | (cases hz; done) | (cases hz; exact ⟨_, rfl⟩))
theorem ko_no (hk : ikd i = 4) (hz : stepI iv G M pc i nx x y ls st h = some z) : False := by
  cases i <;> first
    | (exact absurd (show (0 : Nat) = 4 from hk) (by decide)) | (exact absurd (show (1 : Nat) = 4 from hk) (by decide)) | (exact absurd (show (2 : Nat) = 4 from hk) (by decide)) | (exact absurd (show (3 : Nat) = 4 from hk) (by decide))
    | (cases hz; done)
theorem ko_ca {w : List (CD × Nat) × ML × List Value} (hk : ikd i = 3) : ¬ stepI iv G M pc i nx x y ls st h = some (.inr (.inr (.inr w))) := by
  intro hz
  cases i <;> first
    | (exact absurd (show (0 : Nat) = 3 from hk) (by decide)) | (exact absurd (show (1 : Nat) = 3 from hk) (by decide)) | (exact absurd (show (2 : Nat) = 3 from hk) (by decide)) | (exact absurd (show (4 : Nat) = 3 from hk) (by decide))
    | (simp only [stepI, okk, s2i, s1i, s1r, s1n, s1] at hz
       repeat' split at hz
       all_goals (cases hz; done))
theorem kd_in : ikd i ≤ 4 := by
  cases i <;> exact Nat.le_of_ble_eq_true rfl
theorem kd_br {w : List (CD × Nat) × ML × List Value} (hz : stepI iv G M pc i nx x y ls st h = some (.inr (.inr (.inr w)))) : ikd i = 1 := by
  have := kd_in (i := i)
  rcases (show ikd i = 0 ∨ ikd i = 1 ∨ ikd i = 2 ∨ ikd i = 3 ∨ ikd i = 4 by omega) with e | e | e | e | e
  · obtain ⟨q, hq⟩ := ko_on e hz
    cases hq
  · exact e
  · obtain ⟨q, hq⟩ := ko_rt e hz
    cases hq
  · exact absurd hz (ko_ca e)
  · exact (ko_no e hz).elim
end
theorem step_alts {iv : List (Int × Int)} {G : GI} {M pc nx x y : Nat} {i : Instr} {ls ls' : ML} {st st' : List Value} {h : MH} {alts : List (CD × Nat)} (hk : ikd i = 1) (hs : stepI iv G M pc i nx x y ls st h = some (.inr (.inr (.inr (alts, ls', st'))))) : altS alts := by
  cases i
  case ifCond c k =>
    unfold stepI at hs
    cases st with
    | nil => cases hs
    | cons v r =>
      simp only [s1n, s1] at hs
      obtain ⟨-, hs⟩ := if_ok hs
      unfold brr at hs
      injection hs with hs
      injection hs with hs
      injection hs with hs
      injection hs with hs
      injection hs with h1 h2
      exact Or.inl ⟨_, _, _, _, _, h1.symm⟩
  case if_icmp c k =>
    unfold stepI at hs
    cases st with
    | nil => cases hs
    | cons v r =>
      simp only [s1n, s1] at hs
      obtain ⟨-, hs⟩ := if_ok hs
      cases r with
      | nil => cases hs
      | cons w r =>
        simp only at hs
        obtain ⟨-, hs⟩ := if_ok hs
        unfold brr at hs
        injection hs with hs
        injection hs with hs
        injection hs with hs
        injection hs with hs
        injection hs with h1 h2
        exact Or.inl ⟨_, _, _, _, _, h1.symm⟩
  case tableswitch d lo hi offs =>
    unfold stepI at hs
    cases st with
    | nil => cases hs
    | cons v r =>
      simp only [s1n, s1] at hs
      obtain ⟨-, hs⟩ := if_ok hs
      obtain ⟨-, hs⟩ := if_ok hs
      injection hs with hs
      injection hs with hs
      injection hs with hs
      injection hs with hs
      injection hs with h1 h2
      refine Or.inr ⟨v, fun q hq => ?_⟩
      rw [← h1] at hq
      rcases List.mem_cons.mp hq with rfl | hq
      · exact ⟨rfl, _, rfl⟩
      · rcases List.mem_cons.mp hq with rfl | hq
        · exact ⟨rfl, _, rfl⟩
        · exact sw_alts _ _ q hq
  all_goals first | exact absurd (show (0 : Nat) = 1 from hk) (by decide) | exact absurd (show (2 : Nat) = 1 from hk) (by decide) | exact absurd (show (3 : Nat) = 1 from hk) (by decide) | exact absurd (show (4 : Nat) = 1 from hk) (by decide)
/-- a run without the script is a run with any -/
theorem run_ext {iv : List (Int × Int)} {L : Nat} (h6 : 6 ≤ iv.length) (hI : ∀ j, j < 6 → ∃ a, iv[j]? = some (a, a)) : ∀ (f d M pc : Nat) (ls : ML) (st : List Value) (h : MH) (k n : Nat) (r : Option Value × MH × Nat × Nat), mrun iv6 mGn f d M pc ls st h k n = some r → mrun iv (mG L (fun _ => 0)) f d M pc ls st h k n = some r := by
  intro f
  induction f with
  | zero => intro d M pc ls st h k n r hr; rw [mrun_0] at hr; cases hr
  | succ f ih =>
    intro d M pc ls st h k n r hr
    rw [mrun_s] at hr ⊢
    cases hst : mstep iv6 mGn M pc ls st h with
    | none => rw [hst] at hr; cases hr
    | some z =>
      have hst2 : mstep iv (mG L (fun _ => 0)) M pc ls st h = some z ∧ ∀ alts ls' st', z = .inr (.inr (.inr (alts, ls', st'))) → altS alts := by
        unfold mstep at hst ⊢
        have e0 : (mG L (fun _ => 0)).1 M pc = mGn.1 M pc := rfl
        rw [e0]
        cases e : mGn.1 M pc with
        | none => rw [e] at hst; cases hst
        | some q =>
          obtain ⟨i, nx, x, y⟩ := q
          rw [e] at hst
          exact ⟨step_ext h6 hst, fun alts ls' st' hz => by
            have hst : stepI iv6 mGn M pc i nx x y ls st h = some z := hst
            rw [hz] at hst
            exact step_alts (kd_br hst) hst⟩
      rw [hst] at hr
      rw [hst2.1]
      rcases z with ⟨pc', ls', st', h1, dk, dn⟩ | ⟨y, as, r1, pc'⟩ | w | ⟨alts, ls', st'⟩
      · exact ih _ _ _ _ _ _ _ _ _ hr
      · obtain ⟨hc, hr⟩ := if_ok hr
        have hc : (decide (mwid r1 ≤ 8) && (decide (mwid as ≤ (mG L (fun _ => 0)).2.1 y) && decide ((mG L (fun _ => 0)).2.1 y ≤ 21))) = true := hc
        simp only [if_pos hc]
        cases d with
        | zero => cases hr
        | succ d =>
          simp only at hr ⊢
          cases hcal : mrun iv6 mGn f d y 0 (ment 0 as) [] h 0 0 with
          | none => rw [hcal] at hr; cases hr
          | some q =>
            rw [hcal] at hr
            rw [ih d _ _ _ _ _ _ _ _ hcal]
            obtain ⟨v1, h1, k1, n1⟩ := q
            exact ih _ _ _ _ _ _ _ _ _ hr
      · exact hr
      · simp only at hr ⊢
        cases hfind : alts.find? (fun q => ent iv6 q.1) with
        | none => rw [hfind] at hr; cases hr
        | some q =>
          rw [hfind] at hr
          rw [find_ext hI (hst2.2 _ _ _ rfl) hfind]
          exact ih _ _ _ _ _ _ _ _ _ hr
end
section
/-! Both constructors, for any script. -/
def meqB (a b : ME) : Bool := match a, b with
  | .inl (t, n, .inl f), .inl (t2, n2, .inl f2) => decide (t = t2) && (decide (n = n2) && decide (f = f2))
  | .inl (t, n, .inr f), .inl (t2, n2, .inr f2) => decide (t = t2) && (decide (n = n2) && decide (f = f2))
  | .inr (c, fs), .inr (c2, fs2) => decide (c = c2) && decide (fs = fs2)
  | _, _ => false
theorem meqB_ok {a b : ME} (h : meqB a b = true) : a = b := by
  unfold meqB at h
  split at h
  · simp only [Bool.and_eq_true, decide_eq_true_eq] at h
    obtain ⟨rfl, rfl, rfl⟩ := h
    rfl
  · simp only [Bool.and_eq_true, decide_eq_true_eq] at h
    obtain ⟨rfl, rfl, rfl⟩ := h
    rfl
  · simp only [Bool.and_eq_true, decide_eq_true_eq] at h
    obtain ⟨rfl, rfl⟩ := h
    rfl
  · cases h
def leqB (a b : List ME) : Bool := match a, b with
  | [], [] => true
  | x :: r, y :: t => meqB x y && leqB r t
  | _, _ => false
theorem leqB_ok : ∀ {a b : List ME}, leqB a b = true → a = b := by
  intro a
  induction a with
  | nil => intro b h; cases b with
    | nil => rfl
    | cons _ _ => cases h
  | cons x r ih => intro b h; cases b with
    | nil => cases h
    | cons y t =>
      have h : (meqB x y && leqB r t) = true := h
      simp only [Bool.and_eq_true] at h
      rw [meqB_ok h.1, ih h.2]
def rqB (r : Option (Option Value × MH × Nat × Nat)) (h : MH) (k n : Nat) : Bool := match r with
  | some (none, h1, k1, n1) => decide (h1.1 = h.1) && (leqB h1.2 h.2 && (decide (k1 = k) && decide (n1 = n)))
  | _ => false
theorem rqB_ok {r : Option (Option Value × MH × Nat × Nat)} {h : MH} {k n : Nat} (e : rqB r h k n = true) : r = some (none, h, k, n) := by
  unfold rqB at e
  split at e
  · rename_i h1 k1 n1
    obtain ⟨u, w⟩ := h1
    obtain ⟨u2, w2⟩ := h
    simp only [Bool.and_eq_true, decide_eq_true_eq] at e
    obtain ⟨rfl, e2, rfl, rfl⟩ := e
    rw [leqB_ok e2]
  · cases e
theorem ctx_n : rqB (mrun iv6 mGn 20000 29 1 0 [(0, .ref 64)] [] (65, [.inr (0, bls.getD 0 [])]) 0 0) HX0 242 24762 = true := by decide +kernel
theorem ctm_n : rqB (mrun iv6 mGn 20000 29 59 0 [(0, .ref 307)] [] (mpush HX0 (.inr (12, bls.getD 12 []))) 0 0) HM0 45 119792 = true := by decide +kernel
theorem ctor_x {iv : List (Int × Int)} {L : Nat} (h6 : 6 ≤ iv.length) (hI : ∀ j, j < 6 → ∃ a, iv[j]? = some (a, a)) : mrun iv (mG L (fun _ => 0)) 20000 29 1 0 [(0, .ref 64)] [] (65, [.inr (0, bls.getD 0 [])]) 0 0 = some (none, HX0, 242, 24762) := run_ext h6 hI _ _ _ _ _ _ _ _ _ _ (rqB_ok ctx_n)
theorem ctor_m {iv : List (Int × Int)} {L : Nat} (h6 : 6 ≤ iv.length) (hI : ∀ j, j < 6 → ∃ a, iv[j]? = some (a, a)) : mrun iv (mG L (fun _ => 0)) 20000 29 59 0 [(0, .ref 307)] [] (mpush HX0 (.inr (12, bls.getD 12 []))) 0 0 = some (none, HM0, 45, 119792) := run_ext h6 hI _ _ _ _ _ _ _ _ _ _ (rqB_ok ctm_n)
end
section
/-! The law's own steps: the state is the heap as it is, with cells and slots made. -/
abbrev CS : Type := MH × Nat × Nat
def RpK (S : CS) (h : MH) : Prop := h = S.1
def csK (S : CS) : Nat × Nat := S.2
/-- the script's ints as bounds -/
def ivS (L : Nat) (xs : Nat → Int32) : List (Int × Int) := (List.range (max L 6)).map (fun j => ((xs j).toInt, (xs j).toInt))
theorem ivS_at {L j : Nat} {xs : Nat → Int32} (h : j < max L 6) : (ivS L xs)[j]? = some ((xs j).toInt, (xs j).toInt) := by
  unfold ivS
  rw [List.getElem?_map, List.getElem?_range h]
  rfl
theorem ivS_len {L : Nat} {xs : Nat → Int32} : (ivS L xs).length = max L 6 := by unfold ivS; rw [List.length_map, List.length_range]
theorem ivS_6 {L : Nat} {xs : Nat → Int32} : 6 ≤ (ivS L xs).length ∧ ∀ j, j < 6 → ∃ a, (ivS L xs)[j]? = some (a, a) := ⟨by rw [ivS_len]; exact Nat.le_max_right _ _, fun j hj => ⟨_, ivS_at (Nat.lt_of_lt_of_le hj (Nat.le_max_right _ _))⟩⟩
section
variable {S : Type} {iv : List (Int × Int)} {L : Nat} {Rp : S → MH → Prop} {cs : S → Nat × Nat} {d M pc nx x y : Nat} {ls : LV} {st : List VV} {s : S} {Q : Option VV → S → Prop} {xs : Nat → Int32}
theorem w_len0 (hL : L ≤ 2048) (he : (mG L (fun _ => 0)).1 M pc = some (.arraylength, nx, x, y)) (hw : wp iv L Rp cs d M nx ls (vi L :: st) s Q) : wp iv L Rp cs d M pc ls (vr 0 :: st) s Q :=
  wp_os he (fun _ h2 => ⟨okS_ci (by unfold inR; omega) (okS_t h2), fun h lc _ => by
    show okk nx lc (.int (Int32.ofNat L) :: ems st) h = some (Sum.inl (nx, lc, .int (Int32.ofInt (L : Int)) :: ems st, h, 0, 0))
    rw [Int32.ofInt_eq_ofNat]
    rfl⟩) hw
theorem w_scr {i : Int} (he : (mG L (fun _ => 0)).1 M pc = some (.iaload, nx, x, y)) (hi : 0 ≤ i ∧ i < L) (hw : wp (ivS L xs) L Rp cs d M nx ls (vi (xs i.toNat).toInt :: st) s Q) : wp (ivS L xs) L Rp cs d M pc ls (vi i :: vr 0 :: st) s Q :=
  wp_os he (fun _ h2 => ⟨okS_ci (i32_ok _).2 (okS_t (okS_t h2)), fun h lc _ => by
    have hr := okS_h h2
    show (if vin (Int32.ofInt i) L && isI (symv (ivS L xs) (Int32.ofInt i).toNatClampNeg) then okk nx lc (symv (ivS L xs) (Int32.ofInt i).toNatClampNeg :: ems st) h else none) = _
    have e : symv (ivS L xs) i.toNat = .int (Int32.ofInt (xs i.toNat).toInt) := by
      unfold symv
      rw [ivS_at (by have := Nat.le_max_left L 6; omega)]
      simp
    rw [i_cl hr, e, i_vin hr hi.1 hi.2]
    rfl⟩) hw
theorem w_and63 {a : Int} (he : (mG L (fun _ => 0)).1 M pc = some (.iand, nx, x, y)) (hw : wp iv L Rp cs d M nx ls (vi (Int32.ofInt a &&& 63).toInt :: st) s Q) : wp iv L Rp cs d M pc ls (vi 63 :: vi a :: st) s Q :=
  wp_os he (fun _ h2 => ⟨okS_ci (i32_ok _).2 (okS_t (okS_t h2)), fun h lc _ => by
    show okk nx lc (.int (Int32.ofInt a &&& Int32.ofInt 63) :: ems st) h = some (Sum.inl (nx, lc, .int (Int32.ofInt (Int32.ofInt a &&& 63).toInt) :: ems st, h, 0, 0))
    rw [(i32_ok _).1]
    rfl⟩) hw
theorem w_pop2 {z : Int} (he : (mG L (fun _ => 0)).1 M pc = some (.pop2, nx, x, y)) (hw : wp iv L Rp cs d M nx ls st s Q) : wp iv L Rp cs d M pc ls (vl z :: st) s Q :=
  wp_os he (fun _ h2 => ⟨okS_t h2, fun h lc _ => rfl⟩) hw
end
theorem cnz_all {f : Int → Nat} (h : ∀ i, f i = 2) : ∀ n : Nat, cnz f n = n := by
  intro n
  induction n with
  | zero => rfl
  | succ n ih =>
    show cnz f n + (if f n = 2 then 1 else 0) = n + 1
    rw [ih, if_pos (h n)]
theorem PHI00 : PHI c00 = 1880 := by
  unfold PHI
  rw [cnz_all (nilC_ok (by decide +kernel)), cnz_all (nilC_ok (by decide +kernel)), cnz_all (nilC_ok (by decide +kernel)), cnz_all (nilC_ok (by decide +kernel))]
end
section
/-! A call by the law, of an object, by its run. -/
section
variable {iv : List (Int × Int)} {L : Nat} {d M pc nx x y : Nat} {ls : LV} {st : List VV} {Q : Option VV → CS → Prop}
theorem law_virt {n p f k n0 k1 n1 : Nat} {H h1 : MH} {ci : Nat} {fs : List Value} {as r : List VV} {w1 : Option VV} (he : (mG L (fun _ => 0)).1 M pc = some (.invokevirtual n, nx, x, y)) (hx : (Nat.beq x 9001 || Nat.beq x 9002) = false) (hs : st = as.reverse ++ (vr p :: r)) (hy : y = as.length) (hp : p ≠ 2) (hg : mget H p = some (.inr (ci, fs))) (hc : ci = (mG L (fun _ => 0)).2.2.2.2.2.2 x) (hm : (Nat.ble (r.map cat2).sum 8 && (Nat.ble ((vr p :: as).map cat2).sum ((mG L (fun _ => 0)).2.1 x) && Nat.ble ((mG L (fun _ => 0)).2.1 x) 21)) = true) (run : mrun iv (mG L (fun _ => 0)) f d x 0 (ment 0 (ems (vr p :: as))) [] H 0 0 = some (w1.map emb, h1, k1, n1)) (ok : ∀ w, w1 = some w → okV w) (hw : wp iv L RpK csK (d + 1) M nx ls (w1.toList ++ r) (h1, k + k1, n0 + n1) Q) : wp iv L RpK csK (d + 1) M pc ls st (H, k, n0) Q := by
  intro g1 g2 H0 lc hl hr
  have hr : H0 = H := hr
  subst hr
  subst hs
  have h4 : okS r := fun w hw => g2 w (List.mem_append_right _ (List.mem_cons_of_mem _ hw))
  have h5 : okS (w1.toList ++ r) := fun w hw => by
    rcases List.mem_append.mp hw with h | h
    · exact ok w (by cases w1 with
        | none => cases h
        | some u => rw [List.mem_singleton.mp h])
    · exact h4 w h
  obtain ⟨f2, v2, h2', k2, n2, s2, p1, p2, p3, p4, p5, p6⟩ := hw g1 h5 h1 lc hl rfl
  simp only [Bool.and_eq_true] at hm
  have hz : stepI iv (mG L (fun _ => 0)) M pc (.invokevirtual n) nx x y lc (ems (as.reverse ++ (vr p :: r))) H0 = some (.inr (.inl (x, ems (vr p :: as), ems r, nx))) := by
    subst hy
    have q1 : ¬ x = 9001 := by intro h; rw [h] at hx; cases hx
    have q2 : ¬ x = 9002 := by intro h; rw [h] at hx; cases hx
    have hl : (ems as.reverse).length = as.length := by simp [ems]
    have e0 : ems (as.reverse ++ (vr p :: r)) = ems as.reverse ++ (Value.ref p :: ems r) := by
      unfold ems
      rw [List.map_append, List.map_cons, emb_r hp]
    show (if x = 9001 then _ else if x = 9002 then _ else match (ems (as.reverse ++ (vr p :: r))).drop as.length with
      | .ref b :: r1 => (match mget H0 b with
        | some (.inr (ci, _)) => if ci = (mG L (fun _ => 0)).2.2.2.2.2.2 x then some (Sum.inr (Sum.inl (x, Value.ref b :: ((ems (as.reverse ++ (vr p :: r))).take as.length).reverse, r1, nx))) else none
        | _ => none)
      | _ => none) = _
    rw [if_neg q1, if_neg q2, e0, ← hl, List.take_left, List.drop_left]
    simp only
    rw [hg]
    simp only
    rw [if_pos hc]
    have e1 : ems (vr p :: as) = Value.ref p :: ems as := by
      unfold ems
      rw [List.map_cons, emb_r hp]
    rw [e1]
    simp [ems]
  refine ⟨max f f2 + 1, v2, h2', k1 + k2, n1 + n2, s2, ?_, p2, p3, by have p4 : k + k1 + k2 = s2.2.1 := p4; show k + (k1 + k2) = s2.2.1; omega, by have p5 : n0 + n1 + n2 = s2.2.2 := p5; show n0 + (n1 + n2) = s2.2.2; omega, p6⟩
  rw [mrun_s]
  unfold mstep
  rw [he]
  simp only
  rw [hz]
  simp only
  rw [if_pos (by rw [mwid_em, mwid_em]; simp only [Bool.and_eq_true, decide_eq_true_eq]; exact ⟨Nat.le_of_ble_eq_true hm.1, Nat.le_of_ble_eq_true hm.2.1, Nat.le_of_ble_eq_true hm.2.2⟩)]
  rw [mrun_f f (max f f2) d d _ _ _ _ _ _ _ _ (Nat.le_max_left ..) (Nat.le_refl _) run]
  have p7 := mrun_k _ _ _ _ _ _ _ _ _ _ _ _ _ k1 n1 (mrun_f f2 (max f f2) (d + 1) (d + 1) _ _ _ _ _ _ _ _ (Nat.le_max_right ..) (Nat.le_refl _) p1)
  simp only [Nat.add_zero, Nat.zero_add] at p7 ⊢
  rw [← p7]
  congr 1
  unfold ems
  cases w1 <;> rfl
end
end

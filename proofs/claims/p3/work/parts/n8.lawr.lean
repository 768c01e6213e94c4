/-! The law's own steps: the state is the heap as it is, with cells and slots made. -/
abbrev CS : Type := MH × Nat × Nat
def RpK (S : CS) (h : MH) : Prop := h = S.1
def csK (S : CS) : Nat × Nat := S.2
/-- the script's ints as bounds -/
def ivS (L : Nat) (xs : Nat → Int32) : List (Int × Int) := (List.range (max L 6)).map (fun j => ((xs j).toInt, (xs j).toInt))
theorem ivS_at {L j : Nat} {xs : Nat → Int32} (h : j < max L 6) : (ivS L xs)[j]? = some ((xs j).toInt, (xs j).toInt) := by
  unfold ivS
  rw [List.getElem?_map, List.getElem?_range h]
  rfl
theorem ivS_len {L : Nat} {xs : Nat → Int32} : (ivS L xs).length = max L 6 := by unfold ivS; rw [List.length_map, List.length_range]
theorem ivS_6 {L : Nat} {xs : Nat → Int32} : 6 ≤ (ivS L xs).length ∧ ∀ j, j < 6 → ∃ a, (ivS L xs)[j]? = some (a, a) := ⟨by rw [ivS_len]; exact Nat.le_max_right _ _, fun j hj => ⟨_, ivS_at (Nat.lt_of_lt_of_le hj (Nat.le_max_right _ _))⟩⟩
section
variable {S : Type} {iv : List (Int × Int)} {L : Nat} {Rp : S → MH → Prop} {cs : S → Nat × Nat} {d M pc nx x y : Nat} {ls : LV} {st : List VV} {s : S} {Q : Option VV → S → Prop} {xs : Nat → Int32}
theorem w_len0 (hL : L ≤ 2048) (he : (mG L (fun _ => 0)).1 M pc = some (.arraylength, nx, x, y)) (hw : wp iv L Rp cs d M nx ls (vi L :: st) s Q) : wp iv L Rp cs d M pc ls (vr 0 :: st) s Q :=
  wp_os he (fun _ h2 => ⟨okS_ci (by unfold inR; omega) (okS_t h2), fun h lc _ => by
    show okk nx lc (.int (Int32.ofNat L) :: ems st) h = some (Sum.inl (nx, lc, .int (Int32.ofInt (L : Int)) :: ems st, h, 0, 0))
    rw [Int32.ofInt_eq_ofNat]
    rfl⟩) hw
theorem w_scr {i : Int} (he : (mG L (fun _ => 0)).1 M pc = some (.iaload, nx, x, y)) (hi : 0 ≤ i ∧ i < L) (hw : wp (ivS L xs) L Rp cs d M nx ls (vi (xs i.toNat).toInt :: st) s Q) : wp (ivS L xs) L Rp cs d M pc ls (vi i :: vr 0 :: st) s Q :=
  wp_os he (fun _ h2 => ⟨okS_ci (i32_ok _).2 (okS_t (okS_t h2)), fun h lc _ => by
    have hr := okS_h h2
    show (if vin (Int32.ofInt i) L && isI (symv (ivS L xs) (Int32.ofInt i).toNatClampNeg) then okk nx lc (symv (ivS L xs) (Int32.ofInt i).toNatClampNeg :: ems st) h else none) = _
    have e : symv (ivS L xs) i.toNat = .int (Int32.ofInt (xs i.toNat).toInt) := by
      unfold symv
      rw [ivS_at (by have := Nat.le_max_left L 6; omega)]
      simp
    rw [i_cl hr, e, i_vin hr hi.1 hi.2]
    rfl⟩) hw
theorem w_and63 {a : Int} (he : (mG L (fun _ => 0)).1 M pc = some (.iand, nx, x, y)) (hw : wp iv L Rp cs d M nx ls (vi (Int32.ofInt a &&& 63).toInt :: st) s Q) : wp iv L Rp cs d M pc ls (vi 63 :: vi a :: st) s Q :=
  wp_os he (fun _ h2 => ⟨okS_ci (i32_ok _).2 (okS_t (okS_t h2)), fun h lc _ => by
    show okk nx lc (.int (Int32.ofInt a &&& Int32.ofInt 63) :: ems st) h = some (Sum.inl (nx, lc, .int (Int32.ofInt (Int32.ofInt a &&& 63).toInt) :: ems st, h, 0, 0))
    rw [(i32_ok _).1]
    rfl⟩) hw
theorem w_pop2 {z : Int} (he : (mG L (fun _ => 0)).1 M pc = some (.pop2, nx, x, y)) (hw : wp iv L Rp cs d M nx ls st s Q) : wp iv L Rp cs d M pc ls (vl z :: st) s Q :=
  wp_os he (fun _ h2 => ⟨okS_t h2, fun h lc _ => rfl⟩) hw
end
theorem cnz_all {f : Int → Nat} (h : ∀ i, f i = 2) : ∀ n : Nat, cnz f n = n := by
  intro n
  induction n with
  | zero => rfl
  | succ n ih =>
    show cnz f n + (if f n = 2 then 1 else 0) = n + 1
    rw [ih, if_pos (h n)]
theorem PHI00 : PHI c00 = 1880 := by
  unfold PHI
  rw [cnz_all (nilC_ok (by decide +kernel)), cnz_all (nilC_ok (by decide +kernel)), cnz_all (nilC_ok (by decide +kernel)), cnz_all (nilC_ok (by decide +kernel))]

/-! The reference works as evw says: an act, a node. -/
abbrev EV (σ : SM) (most : Int) (n : Nat) : EW × EO := evw (σ.2 9) (σ.2 10) (σ.2 14) (σ.2 21) (σ.2 42) most n
def WCO (iv : List (Int × Int)) (L : Nat) (h0 : MH) (σ : SM) (t : Term) (most B C : Int) (n : Nat) : Prop := ∀ (b e st : Int) (E : Term) (s : SM), b ∈ fl t → isE 26 E → VN σ t E → cov σ b E → VR s B (s.1 52) C (s.1 54) E e → WS σ most B C n st 0 s → cm iv L h0 (3 * n + 8) 126 [vr 307, vi b, vi e] s (qi (WP B C 0 0 s st ((EV σ most n).1 b E st)))
def OCO (iv : List (Int × Int)) (L : Nat) (h0 : MH) (σ : SM) (t : Term) (most B C lo hi elo ehi : Int) (n : Nat) : Prop := ∀ (v st : Int) (V : Term) (s : SM), isV V = true → VO σ t V → VR s lo hi elo ehi V v → WS σ most B C n st 0 s → cm iv L h0 (3 * n + 8) 132 [vr 307, vi v] s (qi (WP B C 0 0 s st ((EV σ most n).2 V st)))
/-- nodes are as they were when it began -/
theorem WS.row {σ s : SM} {most B C st k : Int} {n : Nat} (h : WS σ most B C n st k s) {f : Nat} (hf : f ≠ 46 ∧ f ≠ 47 ∧ f ≠ 48 ∧ f ≠ 49 ∧ f ≠ 50 ∧ f ≠ 51 ∧ f ≠ 53) : s.2 f = σ.2 f := h.1.2 f (by simp; omega)
section
variable {iv : List (Int × Int)} {L : Nat} {h0 : MH} {σ s : SM} {t : Term} {d n : Nat} {most B C st k : Int}
theorem reck_ok {b x y : Int} {X Y : Term} {F : Int → SM → Prop} (hX : WCX σ t most B C) (hS : WS σ most B C n st k s) (hk : 0 ≤ k) (hb : b ∈ fl t) (hso : σ.2 9 b = 4 ∨ σ.2 9 b = 5 ∨ σ.2 9 b = 6 ∨ σ.2 9 b = 7) (hx : isV X = true ∧ VR s B (s.1 52) C (s.1 54) X x) (hy : isV Y = true ∧ VR s B (s.1 52) C (s.1 54) Y y) (hF : ∀ r w, WP B C 1 0 s st (rckE (σ.2 9 b) b X Y st) r w → F r w) : cm iv L h0 (d + 1) 129 [vr 307, vi b, vi x, vi y] s (qi F) := by
  obtain ⟨m1, m2⟩ := hX.bc
  have hbl := hX.1.1.lt hb
  have h52 : B ≤ s.1 52 ∧ s.1 52 ≤ 1300 * σ.1 55 + 610 := by obtain ⟨a1, a2, a3, a4, a5⟩ := hS; omega
  have e9 : s.2 9 = σ.2 9 := hS.row (by decide)
  obtain ⟨kx1, kx2, kx3⟩ := VR_kind hx.1 hx.2
  obtain ⟨ky1, ky2, ky3⟩ := VR_kind hy.1 hy.2
  unfold rckE at hF
  have lft : (isW X || isW Y) = true → cm iv L h0 d 121 [vr 307, vi 7, vi b, vi x, vi y, vi (-9)] s (qi fun r4 s3 => F r4 s3) := fun q => by
    rw [if_pos q] at hF
    exact wp_lft hX hS hk hbl.1 hx (Or.inr ⟨isV_nn hy.1, hy.2⟩) (Or.inl ⟨rfl, rfl⟩) (fun w hw => hF _ w hw)
  refine B129 (isLeft_ok hx.1 hx.2 (by omega) ⟨fun q => lft ?_, fun q => isLeft_ok hy.1 hy.2 (by omega) ⟨fun q2 => ?_, fun q2 => lft ?_⟩⟩)
  · have : isW X = true := Classical.byContradiction fun c => by rw [if_neg c] at q; exact q rfl
    rw [this]; rfl
  · have wx : isW X = false := by
      cases h : isW X with
      | false => rfl
      | true => rw [h] at q; cases q
    have wy : isW Y = false := by
      cases h : isW Y with
      | false => rfl
      | true => rw [h] at q2; cases q2
    rw [wx, wy, if_neg (by decide)] at hF
    have clash : (∀ m n, ¬ (X = .int m ∧ Y = .int n)) → ∀ r w, WP B C 1 0 s st (rst st 3 b) r w → F r w := fun hno r w hw => by
      refine hF r w ?_
      split
      · exact absurd ⟨rfl, rfl⟩ (hno _ _)
      · exact hw
    have stop3 : (∀ m n, ¬ (X = .int m ∧ Y = .int n)) → cm iv L h0 d 124 [vr 307, vi 3, vi b] s (qi fun r9 s8 => F r9 s8) := fun hno => wp_stop hS (fun w hw => clash hno _ w (hw.up (by decide) (by decide))) (by decide)
    have i0 : ∀ {V : Term}, isV V = true → vkd V = 0 → ∃ z, V = .int z := fun {V} h1 h2 => by
      cases V with
      | int z => exact ⟨z, rfl⟩
      | sub d E => cases h2
      | _ => first | (cases h2) | (cases h1)
    refine ⟨by omega, fun q3 => stop3 (fun m n e => ?_), fun q3 => ⟨by omega, fun q4 => ?_, fun q4 => stop3 (fun m n e => ?_)⟩⟩
    · rw [e.1] at kx1; exact q3 kx1
    · obtain ⟨zx, rfl⟩ := i0 hx.1 (by rw [← kx1]; exact q3)
      obtain ⟨zy, rfl⟩ := i0 hy.1 (by rw [← ky1]; exact q4)
      have nx : s.2 47 x = zx.toInt := hx.2.2.2.1
      have ny : s.2 47 y = zy.toInt := hy.2.2.2.1
      have rx : inR zx.toInt := ⟨Int32.le_toInt zx, by have := Int32.toInt_lt zx; omega⟩
      rw [e9, nx, ny]
      have val : ∀ z : Int, inR z → (∀ r w, WP B C 1 0 s st (rok st (.int (Int32.ofInt z))) r w → F r w) → cm iv L h0 d 121 [vr 307, vi 0, vi z, vi (-9), vi (-9), vi (-9)] s (qi fun r15 s14 => F r15 s14) := fun z hz hG =>
        wp_new hX hS hk (fun q => by cases q) (fun w hw _ hlo h54 => by
          show cel w B (w.1 52) (s.1 52) 0 (Int32.ofInt z).toInt (-9) (-9) (-9) 0
          rw [i_to hz]
          exact vcel hw hlo (by rw [if_neg (by omega)])) (fun w hw => hG _ w hw)
      have tr : ∀ m : Nat, m ≤ 1 → (∀ r w, WP B C 1 0 s st (rok st (.arg m)) r w → F r w) → cm iv L h0 d 121 [vr 307, vi 1, vi (m : Int), vi (-9), vi (-9), vi (-9)] s (qi fun r15 s14 => F r15 s14) := fun m hm hG =>
        wp_new (V := .arg m) hX hS hk (fun q => by cases q) (fun w hw _ hlo h54 => vcel hw hlo (by rw [if_neg (by omega)])) (fun w hw => hG _ w hw)
      have hF' : ∀ r w, WP B C 1 0 s st (if σ.2 9 b = 7 then rok st (.arg (if zx.toInt < zy.toInt then 1 else 0)) else if σ.2 9 b = 6 ∧ zy.toInt = 0 then rst st 2 b else rok st (.int (Int32.ofInt (wh2 (σ.2 9 b) zx.toInt zy.toInt)))) r w → F r w := hF
      have w4 : σ.2 9 b = 4 → cm iv L h0 d 121 [vr 307, vi 0, vi (w32 (zx.toInt + zy.toInt)), vi (-9), vi (-9), vi (-9)] s (qi fun r15 s14 => F r15 s14) := fun e => val _ (w32_in _) (fun r w hw => hF' r w (by rw [if_neg (by omega), if_neg (by omega), e]; exact hw))
      have w5 : σ.2 9 b = 5 → cm iv L h0 d 121 [vr 307, vi 0, vi (w32 (zx.toInt * zy.toInt)), vi (-9), vi (-9), vi (-9)] s (qi fun r15 s14 => F r15 s14) := fun e => val _ (w32_in _) (fun r w hw => hF' r w (by rw [if_neg (by omega), if_neg (by omega), e]; exact hw))
      have w6 : σ.2 9 b = 6 → zy.toInt ≠ 0 → ((zy.toInt ≠ (-1) → (zy.toInt ≠ 0) ∧ (-2147483648 ≤ zx.toInt.tdiv zy.toInt ∧ zx.toInt.tdiv zy.toInt ≤ 2147483647) ∧ cm iv L h0 d 121 [vr 307, vi 0, vi (zx.toInt.tdiv zy.toInt), vi (-9), vi (-9), vi (-9)] s (qi fun r15 s14 => F r15 s14)) ∧ (zy.toInt = (-1) → cm iv L h0 d 121 [vr 307, vi 0, vi (w32 (-zx.toInt)), vi (-9), vi (-9), vi (-9)] s (qi fun r17 s16 => F r17 s16))) := fun e e0 => by
        have ew : wh2 6 zx.toInt zy.toInt = w32 (zx.toInt.tdiv zy.toInt) := rfl
        refine ⟨fun e1 => ⟨e0, tdiv_in rx e0 e1, val _ (tdiv_in rx e0 e1) (fun r w hw => hF' r w ?_)⟩, fun e1 => val _ (w32_in _) (fun r w hw => hF' r w ?_)⟩
        · rw [if_neg (by omega), if_neg (fun c => e0 c.2), e, ew, w32_id (tdiv_in rx e0 e1)]
          exact hw
        · rw [if_neg (by omega), if_neg (fun c => e0 c.2), e, ew, e1, show zx.toInt.tdiv (-1) = -zx.toInt from by rw [Int.tdiv_neg, Int.tdiv_one]]
          exact hw
      refine ⟨by omega, fun e7 => ⟨fun e6 => ⟨fun e4 => ⟨fun e5 => by exfalso; omega, fun e5 => w5 e5⟩, fun e4 => w4 e4⟩, fun e6 => ⟨fun e0 => ⟨fun e4 => ⟨fun e5 => w6 e6 e0, fun e5 => w5 e5⟩, fun e4 => w4 e4⟩, fun e0 => ?_⟩⟩, fun e7 => ⟨fun e => ?_, fun e => ?_⟩⟩
      · exact wp_stop hS (fun w hw => hF' _ w (by rw [if_neg e7, if_pos ⟨e6, e0⟩]; exact hw.up (by decide) (by decide))) (by decide)
      · exact tr 0 (by decide) (fun r w hw => hF' r w (by rw [if_pos e7, if_neg (by omega)]; exact hw))
      · exact tr 1 (by decide) (fun r w hw => hF' r w (by rw [if_pos e7, if_pos e]; exact hw))
    · rw [e.2] at ky1; exact q4 ky1
  · have : isW Y = true := Classical.byContradiction fun c => by rw [if_neg c] at q2; exact q2 rfl
    rw [this]; simp
end

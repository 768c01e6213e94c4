/-! The whole run, by fuel. -/
section RUN
variable {l : Launch} {D : va_G} {cl : List vw_C} {dA : Nat → ClassId} {pre : Nat → Nat} {base : Nat} {ρ : Nat → Int32} {tyL : List FieldType} {Ts NW : List Cond} {G : GI} {YB : YT} {iv : List (Int × Int)}
variable {p : Program} {e : Env} {R : Room} {s : State} {m : MethodId} {args : Array Value} {below : List Frame} {meth : Method} {c : Code} {Q : State → Prop}
theorem good_cons {y : Nat} {Ts : List Cond} {G : GI} {YB : YT} {n : Nat} (hG : ∀ w ∈ Ts, goodWord w = true) (hC : CFok Ts G YB y n) : GoodIn Ts (Cond.code (YB y).1 (YB y).2 (G.2.1 y) (G.2.2.2.2.2.1 y) :: Ts) := by
  intro w hw
  rcases List.mem_cons.mp hw with rfl | hw
  · exact ⟨hC.1, good_of_word (hG _ hC.1)⟩
  · exact ⟨hw, good_of_word (hG _ hw)⟩
theorem drop_ref {st r : List Value} {y b : Nat} (h : st.drop y = .ref b :: r) (pre : Nat → Nat) (base : Nat) (ρ : Nat → Int32) : st.map (emv pre base ρ) = (((st.take y).reverse).map (emv pre base ρ)).reverse ++ .ref (mad pre base b) :: r.map (emv pre base ρ) ∧ (((st.take y).reverse).map (emv pre base ρ)).length = y := by
  have hl : y < st.length := by
    rcases Nat.lt_or_ge y st.length with h1 | h1
    · exact h1
    · rw [List.drop_eq_nil_of_le h1] at h
      cases h
  constructor
  · have h1 : st = st.take y ++ (.ref b :: r) := by rw [← h, List.take_append_drop]
    have h2 : st.map (emv pre base ρ) = (st.take y ++ (.ref b :: r)).map (emv pre base ρ) := congrArg _ h1
    rw [h2, List.map_append, List.map_reverse, List.reverse_reverse]
    rfl
  · rw [List.length_map, List.length_reverse, List.length_take]
    omega
/-- a call: what the small machine asks of it is what the machine asks -/
theorem stp_call {M pc nx x y d K N cells slots : Nat} {i : Instr} {ls : ML} {st as r : List Value} {h h1 : MH} {cy pc' k1 n1 : Nat} {v1 : Option Value}
    (hNW : ∀ w ∈ NW, nst w) (hG : ∀ w ∈ Ts, goodWord w = true)
    (X : mCx p s m args c D cl dA pre base ρ tyL Ts G (YB M).2 (YB M).1.cls (G.2.1 M)) (hF : mFx D cl dA pre base ρ tyL NW G s)
    (hE : EOK Ts NW cl tyL G YB M pc i nx x y) (hk : ikd i = 3) (hz : stepI iv G M pc i nx x y ls st h = some (.inr (.inl (cy, as, r, pc'))))
    (hr8 : mwid r ≤ 8) (hw : mwid as ≤ G.2.1 cy) (h21 : G.2.1 cy ≤ 21) (hB : mBody l D cl dA pre base ρ tyL Ts NW G YB d cy 0 (ment 0 as) [] h 0 0 v1 h1 k1 n1)
    (hck : cells + k1 ≤ K) (hcn : slots + n1 ≤ N)
    (kk : mGo p l e (rmOf (d + 1) K N) s m args below meth c Q D cl dA pre base ρ (G.2.1 M) pc' ls (v1.toList ++ r) h1 (cells + k1) (slots + n1)) :
    mGo p l e (rmOf (d + 1) K N) s m args below meth c Q D cl dA pre base ρ (G.2.1 M) pc ls st h cells slots := by
  have hroom : (rmOf d k1 n1).frames + 1 ≤ (rmOf (d + 1) K N).frames ∧ 8 + (G.2.1 cy + 11) + (rmOf d k1 n1).locals ≤ (rmOf (d + 1) K N).locals := by
    unfold rmOf
    constructor
    · simp only; omega
    · simp only; omega
  have hfix : CallFix p m c (YB M).2 (G.2.1 M) s args Ts (YB M).1.cls := ⟨X.1, X.2.1, X.2.2.1, X.2.2.2.1, X.2.2.2.2.1⟩
  have hts := X.2.2.2.2.1
  have hmon : ∀ (lsA : Array Slot) (stA : List Value), 2 * (F0 m pc lsA stA).monitorRoom + ((r.map (emv pre base ρ)).map fun v => v.category).sum ≤ 8 := fun lsA stA => by
    rw [mwid_map]
    show 2 * 0 + _ ≤ 8
    omega
  cases i with
  | invokevirtual idx =>
    rcases hE.2 with ⟨hx, -⟩ | ⟨hx, -⟩ | ⟨n1', n2', hC, hl, hin, hse, T, N', hcl⟩
    · have hz1 : (if x = 9001 then _ else _) = _ := hz
      rw [if_pos hx] at hz1
      obtain ⟨i, r1, rfl, hz2⟩ := s1i_ok hz1
      obtain ⟨a, r2, rfl, hz3⟩ := s1r_ok hz2
      obtain ⟨-, hz4⟩ := if_ok hz3
      split at hz4
      · obtain ⟨-, hz5⟩ := if_ok hz4
        cases hz5
      · cases hz4
    · have hz1 : (if x = 9001 then _ else if x = 9002 then _ else _) = _ := hz
      rw [if_neg (by omega), if_pos hx] at hz1
      obtain ⟨a, r2, rfl, hz3⟩ := s1r_ok hz1
      obtain ⟨-, hz4⟩ := if_ok hz3
      split at hz4
      · obtain ⟨-, hz5⟩ := if_ok hz4
        cases hz5
      · cases hz4
    have hz1 : (if x = 9001 then _ else if x = 9002 then _ else _) = _ := hz
    rw [if_neg n1', if_neg n2'] at hz1
    cases hd : st.drop y with
    | nil => rw [hd] at hz1; cases hz1
    | cons v0 r0 =>
      rw [hd] at hz1
      cases v0 with
      | ref b =>
        simp only at hz1
        cases hg : mget h b with
        | none => rw [hg] at hz1; cases hz1
        | some w =>
          rw [hg] at hz1
          rcases w with w | ⟨ci, fs⟩
          · cases hz1
          · obtain ⟨hci, hz2⟩ := if_ok hz1
            cases hz2
            have hpc : nx = pc + 3 := hE.1.2
            subst hpc
            intro lsA H locs hL hR hS hZ
            obtain ⟨g1, g2⟩ := drop_ref hd pre base ρ
            refine cl_go (va_runV (C := (YB x).1.cls) (b := mad pre base b) (As := ((st.take y).reverse).map (emv pre base ρ)) (rest := r.map (emv pre base ρ)) hfix (met_of hC hw hB) ⟨callB_of y hts (good_cons hG hC) rfl rfl rfl (hts _ hC.2.1) (hts _ hl) ⟨hC.2.2.2.1.1, hC.2.2.2.1.2, hC.2.2.2.2⟩ hroom, hts _ hin, hts _ hse⟩ ⟨mPc_blind hNW, ?_, fun U hU hW => ⟨rfl, by rw [hU]; exact hR, mFx_on hNW hF hS hU hW⟩⟩ rfl g2 hL.1 g1 (hmon _ _) hE.1.1 ⟨hck, hcn⟩) hL hS hZ kk
            rw [← hci] at hcl
            exact va_recv X.2.2.2.2.2.1 hR.2.1 hcl (mws_get hR.1 hg)
      | _ => cases hz1
  | invokespecial idx =>
    rcases hE.2 with ⟨hx, -⟩ | ⟨hx, hC, hl, hin, hnm, hret⟩
    · have hz1 : (if x = 0 then _ else _) = _ := hz
      rw [if_pos hx] at hz1
      obtain ⟨a, r0, rfl, hz2⟩ := s1r_ok hz1
      obtain ⟨-, hz3⟩ := if_ok hz2
      cases hz3
    · have hz1 : (if x = 0 then _ else _) = _ := hz
      rw [if_neg hx] at hz1
      cases hd : st.drop y with
      | nil => rw [hd] at hz1; cases hz1
      | cons v0 r0 =>
        rw [hd] at hz1
        cases v0 with
        | ref b =>
          cases hz1
          have hpc : nx = pc + 3 := hE.1.2
          subst hpc
          intro lsA H locs hL hR hS hZ
          obtain ⟨g1, g2⟩ := drop_ref hd pre base ρ
          have hMet := met_of (l := l) hC hw hB
          have hgood := good_cons hG hC
          rw [hret] at hMet hgood
          have hPS : PreS s H (mPc D cl dA pre base ρ tyL NW G (.ref b :: (st.take y).reverse) h) (.ref (mad pre base b) :: ((st.take y).reverse).map (emv pre base ρ)) := ⟨mPc_blind hNW, fun U hU hW => ⟨rfl, by rw [hU]; exact hR, mFx_on hNW hF hS hU hW⟩⟩
          rcases hl with hl | ⟨host, hl⟩
          · exact cl_go (va_runI (b := mad pre base b) (As := ((st.take y).reverse).map (emv pre base ρ)) (rest := r.map (emv pre base ρ)) hfix hMet ⟨callB_of y hts hgood rfl rfl rfl (hts _ hC.2.1) (hts _ hl) ⟨hC.2.2.2.1.1, hC.2.2.2.1.2, hC.2.2.2.2⟩ hroom, hnm, hts _ hin⟩ hPS rfl g2 hL.1 g1 (hmon _ _) hE.1.1 ⟨hck, hcn⟩) hL hS hZ kk
          · exact cl_go (va_runIN (host := host) (b := mad pre base b) (As := ((st.take y).reverse).map (emv pre base ρ)) (rest := r.map (emv pre base ρ)) hfix hMet ⟨va_cnB y hts hgood rfl rfl rfl (hF.2.2.2.1 _ hl) (hts _ hC.2.1) ⟨hC.2.2.2.1.1, hC.2.2.2.1.2, hC.2.2.2.2⟩ hroom, hnm, hts _ hin⟩ hPS rfl g2 hL.1 g1 (hmon _ _) hE.1.1 ⟨hck, hcn⟩) hL hS hZ kk
        | _ => cases hz1
  | invokestatic idx =>
    rcases hE.2 with ⟨hx, -⟩ | ⟨hx, hC, hl, hstt⟩
    · have hz1 : (if x = 9000 then _ else _) = _ := hz
      rw [if_pos hx] at hz1
      obtain ⟨a, b, r0, rfl, hz2⟩ := s2i_ok hz1
      obtain ⟨-, hz3⟩ := if_ok hz2
      cases hz3
    · have hz1 : (if x = 9000 then _ else _) = _ := hz
      rw [if_neg hx] at hz1
      obtain ⟨hlen, hz2⟩ := if_ok hz1
      cases hz2
      have hpc : nx = pc + 3 := hE.1.2
      subst hpc
      intro lsA H locs hL hR hS hZ
      have g1 : st.map (emv pre base ρ) = (((st.take y).reverse).map (emv pre base ρ)).reverse ++ (st.drop y).map (emv pre base ρ) := by
        rw [List.map_reverse, List.reverse_reverse, ← List.map_append, List.take_append_drop]
      have g2 : (((st.take y).reverse).map (emv pre base ρ)).length = y := by
        rw [List.length_map, List.length_reverse, List.length_take]
        omega
      have hPS : PreS s H (mPc D cl dA pre base ρ tyL NW G ((st.take y).reverse) h) (((st.take y).reverse).map (emv pre base ρ)) := ⟨mPc_blind hNW, fun U hU hW => ⟨rfl, by rw [hU]; exact hR, mFx_on hNW hF hS hU hW⟩⟩
      have hgood := good_cons hG hC
      rcases hl with hl | ⟨host, hl⟩
      · exact cl_go (va_runS (As := ((st.take y).reverse).map (emv pre base ρ)) (rest := (st.drop y).map (emv pre base ρ)) hfix (met_of hC hw hB) ⟨callB_of y hts hgood rfl rfl rfl (hts _ hC.2.1) (hts _ hl) ⟨hC.2.2.2.1.1, hC.2.2.2.1.2, hC.2.2.2.2⟩ hroom, hts _ hstt⟩ hPS rfl g2 hL.1 g1 (hmon _ _) hE.1.1 ⟨hck, hcn⟩) hL hS hZ kk
      · exact cl_go (va_runSN (host := host) (As := ((st.take y).reverse).map (emv pre base ρ)) (rest := (st.drop y).map (emv pre base ρ)) hfix (met_of hC hw hB) ⟨va_cnB y hts hgood rfl rfl rfl (hF.2.2.2.1 _ hl) (hts _ hC.2.1) ⟨hC.2.2.2.1.1, hC.2.2.2.1.2, hC.2.2.2.2⟩ hroom, hts _ hstt, trivial⟩ hPS rfl g2 hL.1 g1 (hmon _ _) hE.1.1 ⟨hck, hcn⟩) hL hS hZ kk
  | _ => first | exact absurd (show (0 : Nat) = 3 from hk) (by decide) | exact absurd (show (1 : Nat) = 3 from hk) (by decide) | exact absurd (show (2 : Nat) = 3 from hk) (by decide) | exact absurd (show (4 : Nat) = 3 from hk) (by decide)
theorem stp_no {M pc nx x y : Nat} {i : Instr} {ls : ML} {st : List Value} {h : MH} {w : Option Value} (hk : ikd i = 3) : ¬ stepI iv G M pc i nx x y ls st h = some (.inr (.inr (.inl w))) := by
  intro hz
  cases i <;> first
    | (exact absurd (show (0 : Nat) = 3 from hk) (by decide)) | (exact absurd (show (1 : Nat) = 3 from hk) (by decide)) | (exact absurd (show (2 : Nat) = 3 from hk) (by decide)) | (exact absurd (show (4 : Nat) = 3 from hk) (by decide))
    | (simp only [stepI, okk, s2i, s1i, s1r, s1n, s1] at hz
       repeat' split at hz
       all_goals (cases hz; done))
theorem stp_no2 {M pc nx x y : Nat} {i : Instr} {ls : ML} {st : List Value} {h : MH} {w : List (CD × Nat) × ML × List Value} (hk : ikd i = 3) : ¬ stepI iv G M pc i nx x y ls st h = some (.inr (.inr (.inr w))) := by
  intro hz
  cases i <;> first
    | (exact absurd (show (0 : Nat) = 3 from hk) (by decide)) | (exact absurd (show (1 : Nat) = 3 from hk) (by decide)) | (exact absurd (show (2 : Nat) = 3 from hk) (by decide)) | (exact absurd (show (4 : Nat) = 3 from hk) (by decide))
    | (simp only [stepI, okk, s2i, s1i, s1r, s1n, s1] at hz
       repeat' split at hz
       all_goals (cases hz; done))
/-- a sign of a text -/
theorem so_charAt {M pc nx x y d K N cells slots idx : Nat} {ls : ML} {st : List Value} {h : MH} {z : Nat × ML × List Value × MH × Nat × Nat} (hG : ∀ w ∈ Ts, goodWord w = true)
    (X : mCx p s m args c D cl dA pre base ρ tyL Ts G (YB M).2 (YB M).1.cls (G.2.1 M)) (hF : mFx D cl dA pre base ρ tyL NW G s) (hd : decode (YB M).2 pc = .ok (.invokevirtual idx, 3)) (hnx : nx = pc + 3) (hx : x = 9001) (hl : Cond.methodLink (YB M).1.cls idx yCA ∈ Ts) (hw : ∀ w ∈ strL, w ∈ Ts) (hc : cells + z.2.2.2.2.1 ≤ K) (hn : slots + z.2.2.2.2.2 ≤ N)
    (hz : stepI iv G M pc (.invokevirtual idx) nx x y ls st h = some (.inl z))
    (kk : mGo p l e (rmOf d K N) s m args below meth c Q D cl dA pre base ρ (G.2.1 M) z.1 z.2.1 z.2.2.1 z.2.2.2.1 (cells + z.2.2.2.2.1) (slots + z.2.2.2.2.2)) :
    mGo p l e (rmOf d K N) s m args below meth c Q D cl dA pre base ρ (G.2.1 M) pc ls st h cells slots := by
  have hz1 : (if x = 9001 then _ else _) = _ := hz
  rw [if_pos hx] at hz1
  obtain ⟨i, r1, rfl, hz2⟩ := s1i_ok hz1
  obtain ⟨a, r, rfl, hz3⟩ := s1r_ok hz2
  clear hz hz1 hz2
  obtain ⟨⟨h8, h9⟩, hz4⟩ := if_ok hz3
  cases hg : G.2.2.1 a with
  | none => rw [hg] at hz4; cases hz4
  | some w =>
    obtain ⟨n, f⟩ := w
    rw [hg] at hz4
    obtain ⟨hv, hz5⟩ := if_ok hz4
    simp only [Bool.and_eq_true, decide_eq_true_eq] at hv
    cases okk_ok hz5
    subst hnx
    intro lsA H locs hL hR hS hZ
    obtain ⟨-, -, -, -, -, f6, f7, -, f9⟩ := hF
    obtain ⟨g1, g2, g3⟩ := f9 a n f hg h8 h9
    have hts := X.2.2.2.2.1
    have hfix : CallFix p m c (YB M).2 (G.2.1 M) s args Ts (YB M).1.cls := ⟨X.1, X.2.1, X.2.2.1, X.2.2.2.1, hts⟩
    have hm : mad pre base a = pre a := by unfold mad; rw [if_pos (Nat.lt_trans h9 (by decide))]
    have hmon : 2 * (F0 m pc lsA ((Value.int i :: Value.ref a :: r).map (emv pre base ρ))).monitorRoom + ((r.map (emv pre base ρ)).map fun v => v.category).sum ≤ 8 := by
      rw [mwid_map]
      show 2 * 0 + _ ≤ 8
      omega
    have hroom : (rmS 3).frames + 1 ≤ (rmOf d K N).frames ∧ 8 + (2 + 11) + (rmS 3).locals ≤ (rmOf d K N).locals := by
      unfold rmS rmOf
      constructor
      · simp only; omega
      · simp only; omega
    have hrecv : ∃ cellB : Cell, H[pre a]? = some cellB ∧ cellB.vm.isStatics = false ∧ s.vm.findClass "java/lang/String" = some cellB.cls := by
      obtain ⟨qv, t1, -⟩ := g1
      obtain ⟨cell, k1, k2, k3, -⟩ := t1.kept hS.2.1
      exact ⟨cell, k1, k2, k3⟩
    have hH : ∀ U : State, U.heap = H → ∀ q : Nat, q < s.heap.size → ¬ base ≤ q → U.heap[q]? = s.heap[q]? := fun U hU q q1 q2 => by rw [hU]; exact hS.2.1 q q1 q2
    refine W.callX (W.runV (y := yCA) (C := "java/lang/String") (b := pre a) (bytes := bCA) (maxL := 2) (ret := some .char) (n := 1) (As := [.int i]) (rest := r.map (emv pre base ρ)) hfix (c_CA l hG hw base (pre a) n f i (vin_ok hv.1) g2) ⟨callB_of 1 hts (goodS hG (strL_at hw 20 rfl)) rfl rfl rfl (hts _ (strL_at hw 7 rfl)) (hts _ hl) ⟨by decide, by decide, by decide +kernel⟩ hroom, hts _ (strL_at hw 21 rfl), hts _ (strL_at hw 22 rfl)⟩ ⟨fun a U g mk h => ⟨h.1, txF_on (U := U.calling g mk a) h.2.1 (Vm.Alike.refl U.vm) (fun _ _ _ => rfl), csF_on (U := U.calling g mk a) h.2.2.1 (Vm.Alike.refl U.vm) (fun _ _ _ => rfl), zqS_on (U := U.calling g mk a) h.2.2.2 (Vm.Alike.refl U.vm) (fun _ _ _ => rfl)⟩, hrecv, fun U hU hW => ⟨rfl, txF_on g1 hW.alike (hH U hU), csF_on f7 hW.alike (hH U hU), zqS_on f6 hW.alike (hH U hU)⟩⟩ rfl rfl hL.1 (by rw [List.map_cons, List.map_cons, show emv pre base ρ (.ref a) = .ref (pre a) from congrArg Value.ref hm]; rfl) hmon hd ⟨hc, hn⟩) (fun q h => h.elim) (fun v st₀ t k1 k2 => ?_)
    obtain ⟨k3, k4⟩ := k2
    cases k3
    rw [k4, k1]
    have hlt : i.toNatClampNeg < n := Nat.not_le.mp fun q => vin_ok hv.1 (Or.inr q)
    rw [g3 _ hlt]
    exact kk lsA H locs hL hR hS hZ
theorem so_length {M pc nx x y d K N cells slots idx : Nat} {ls : ML} {st : List Value} {h : MH} {z : Nat × ML × List Value × MH × Nat × Nat} (hG : ∀ w ∈ Ts, goodWord w = true)
    (X : mCx p s m args c D cl dA pre base ρ tyL Ts G (YB M).2 (YB M).1.cls (G.2.1 M)) (hF : mFx D cl dA pre base ρ tyL NW G s) (hd : decode (YB M).2 pc = .ok (.invokevirtual idx, 3)) (hnx : nx = pc + 3) (hx : x = 9002) (hl : Cond.methodLink (YB M).1.cls idx yLN ∈ Ts) (hw : ∀ w ∈ strL, w ∈ Ts) (hc : cells + z.2.2.2.2.1 ≤ K) (hn : slots + z.2.2.2.2.2 ≤ N)
    (hz : stepI iv G M pc (.invokevirtual idx) nx x y ls st h = some (.inl z))
    (kk : mGo p l e (rmOf d K N) s m args below meth c Q D cl dA pre base ρ (G.2.1 M) z.1 z.2.1 z.2.2.1 z.2.2.2.1 (cells + z.2.2.2.2.1) (slots + z.2.2.2.2.2)) :
    mGo p l e (rmOf d K N) s m args below meth c Q D cl dA pre base ρ (G.2.1 M) pc ls st h cells slots := by
  have hz1 : (if x = 9001 then _ else if x = 9002 then _ else _) = _ := hz
  rw [if_neg (by omega), if_pos hx] at hz1
  obtain ⟨a, r, rfl, hz3⟩ := s1r_ok hz1
  clear hz hz1
  obtain ⟨⟨h8, h9⟩, hz4⟩ := if_ok hz3
  cases hg : G.2.2.1 a with
  | none => rw [hg] at hz4; cases hz4
  | some w =>
    obtain ⟨n, f⟩ := w
    rw [hg] at hz4
    obtain ⟨hv, hz5⟩ := if_ok hz4
    cases okk_ok hz5
    subst hnx
    intro lsA H locs hL hR hS hZ
    obtain ⟨-, -, -, -, -, f6, f7, -, f9⟩ := hF
    obtain ⟨g1, g2, g3⟩ := f9 a n f hg h8 h9
    have hts := X.2.2.2.2.1
    have hfix : CallFix p m c (YB M).2 (G.2.1 M) s args Ts (YB M).1.cls := ⟨X.1, X.2.1, X.2.2.1, X.2.2.2.1, hts⟩
    have hm : mad pre base a = pre a := by unfold mad; rw [if_pos (Nat.lt_trans h9 (by decide))]
    have hmon : 2 * (F0 m pc lsA ((Value.ref a :: r).map (emv pre base ρ))).monitorRoom + ((r.map (emv pre base ρ)).map fun v => v.category).sum ≤ 8 := by
      rw [mwid_map]
      show 2 * 0 + _ ≤ 8
      omega
    have hroom : (rmS 1).frames + 1 ≤ (rmOf d K N).frames ∧ 8 + (1 + 11) + (rmS 1).locals ≤ (rmOf d K N).locals := by
      unfold rmS rmOf
      constructor
      · simp only; omega
      · simp only; omega
    have hrecv : ∃ cellB : Cell, H[pre a]? = some cellB ∧ cellB.vm.isStatics = false ∧ s.vm.findClass "java/lang/String" = some cellB.cls := by
      obtain ⟨qv, t1, -⟩ := g1
      obtain ⟨cell, k1, k2, k3, -⟩ := t1.kept hS.2.1
      exact ⟨cell, k1, k2, k3⟩
    have hH : ∀ U : State, U.heap = H → ∀ q : Nat, q < s.heap.size → ¬ base ≤ q → U.heap[q]? = s.heap[q]? := fun U hU q q1 q2 => by rw [hU]; exact hS.2.1 q q1 q2
    refine W.callX (W.runV (y := yLN) (C := "java/lang/String") (b := pre a) (bytes := bLN) (maxL := 1) (ret := some .int) (n := 0) (As := []) (rest := r.map (emv pre base ρ)) hfix (c_LN l hG hw base (pre a) n f) ⟨callB_of 0 hts (goodS hG (strL_at hw 27 rfl)) rfl rfl rfl (hts _ (strL_at hw 7 rfl)) (hts _ hl) ⟨by decide, by decide, by decide +kernel⟩ hroom, hts _ (strL_at hw 28 rfl), hts _ (strL_at hw 29 rfl)⟩ ⟨fun a U g mk h => ⟨h.1, txF_on (U := U.calling g mk a) h.2.1 (Vm.Alike.refl U.vm) (fun _ _ _ => rfl), csF_on (U := U.calling g mk a) h.2.2 (Vm.Alike.refl U.vm) (fun _ _ _ => rfl)⟩, hrecv, fun U hU hW => ⟨rfl, txF_on g1 hW.alike (hH U hU), csF_on f7 hW.alike (hH U hU)⟩⟩ rfl rfl hL.1 (by rw [List.map_cons, show emv pre base ρ (.ref a) = .ref (pre a) from congrArg Value.ref hm]; rfl) hmon hd ⟨hc, hn⟩) (fun q h => h.elim) (fun v st₀ t k1 k2 => ?_)
    obtain ⟨k3, k4⟩ := k2
    cases k3
    rw [k4, k1]
    exact kk lsA H locs hL hR hS hZ
/-- the calls that the small machine makes at one step: Object's constructor, Math.min, a sign of a text -/
theorem stp_sp {M pc nx x y d K N cells slots : Nat} {i : Instr} {ls : ML} {st : List Value} {h : MH} {z : Nat × ML × List Value × MH × Nat × Nat} (hG : ∀ w ∈ Ts, goodWord w = true)
    (X : mCx p s m args c D cl dA pre base ρ tyL Ts G (YB M).2 (YB M).1.cls (G.2.1 M)) (hF : mFx D cl dA pre base ρ tyL NW G s)
    (hE : EOK Ts NW cl tyL G YB M pc i nx x y) (hk : ikd i = 3) (hc : cells + z.2.2.2.2.1 ≤ K) (hn : slots + z.2.2.2.2.2 ≤ N) (hz : stepI iv G M pc i nx x y ls st h = some (.inl z))
    (kk : mGo p l e (rmOf d K N) s m args below meth c Q D cl dA pre base ρ (G.2.1 M) z.1 z.2.1 z.2.2.1 z.2.2.2.1 (cells + z.2.2.2.2.1) (slots + z.2.2.2.2.2)) :
    mGo p l e (rmOf d K N) s m args below meth c Q D cl dA pre base ρ (G.2.1 M) pc ls st h cells slots := by
  have hRf : 1 ≤ (rmOf d K N).frames := by unfold rmOf; simp only; omega
  have hRl : 21 ≤ (rmOf d K N).locals := by unfold rmOf; simp only; omega
  cases i with
  | invokevirtual idx =>
    rcases hE.2 with ⟨hx, hl, hw⟩ | ⟨hx, hl, hw⟩ | ⟨n1', n2', -⟩
    · exact so_charAt hG X hF hE.1.1 hE.1.2 hx hl hw hc hn hz kk
    · exact so_length hG X hF hE.1.1 hE.1.2 hx hl hw hc hn hz kk
    have hz1 : (if x = 9001 then _ else if x = 9002 then _ else _) = _ := hz
    rw [if_neg n1', if_neg n2'] at hz1
    split at hz1
    · split at hz1
      · obtain ⟨-, hz2⟩ := if_ok hz1
        cases hz2
      · cases hz1
    · cases hz1
  | invokespecial idx =>
    rcases hE.2 with ⟨hx, h1, h2, h3⟩ | ⟨hx, -⟩
    · exact so_objInit X hE.1.1 hE.1.2 hx h1 h2 h3 hRf (Nat.le_of_succ_le hRl) hz kk
    · have hz1 : (if x = 0 then _ else _) = _ := hz
      rw [if_neg hx] at hz1
      split at hz1
      · cases hz1
      · cases hz1
  | invokestatic idx =>
    rcases hE.2 with ⟨hx, h1, h2, h3, h4⟩ | ⟨hx, -⟩
    · exact so_mmin X hE.1.1 hE.1.2 hx h1 h2 h3 h4 hRf hRl hc hn hz kk
    · have hz1 : (if x = 9000 then _ else _) = _ := hz
      rw [if_neg hx] at hz1
      obtain ⟨-, hz2⟩ := if_ok hz1
      cases hz2
  | _ => first | exact absurd (show (0 : Nat) = 3 from hk) (by decide) | exact absurd (show (1 : Nat) = 3 from hk) (by decide) | exact absurd (show (2 : Nat) = 3 from hk) (by decide) | exact absurd (show (4 : Nat) = 3 from hk) (by decide)
/-- cells and slots are only made -/
theorem mrun_mono {iv : List (Int × Int)} {G : GI} : ∀ (f d M pc : Nat) (ls : ML) (st : List Value) (h : MH) (k n : Nat) (v : Option Value) (h' : MH) (k' n' : Nat), mrun iv G f d M pc ls st h k n = some (v, h', k', n') → k ≤ k' ∧ n ≤ n' := by
  intro f
  induction f with
  | zero => intro d M pc ls st h k n v h' k' n' hr; rw [mrun_0] at hr; cases hr
  | succ f ih =>
    intro d M pc ls st h k n v h' k' n' hr
    rw [mrun_s] at hr
    cases hst : mstep iv G M pc ls st h with
    | none => rw [hst] at hr; cases hr
    | some z =>
      rw [hst] at hr
      rcases z with ⟨pc', ls', st', h1, dk, dn⟩ | ⟨y, as, r, pc'⟩ | w | ⟨alts, ls', st'⟩
      · have := ih _ _ _ _ _ _ _ _ _ _ _ _ hr
        omega
      · obtain ⟨-, hr⟩ := if_ok hr
        cases d with
        | zero => cases hr
        | succ d =>
          simp only at hr
          cases hcal : mrun iv G f d y 0 (ment 0 as) [] h 0 0 with
          | none => rw [hcal] at hr; cases hr
          | some q =>
            obtain ⟨v1, h1, k1, n1⟩ := q
            rw [hcal] at hr
            have := ih _ _ _ _ _ _ _ _ _ _ _ _ hr
            omega
      · cases hr
        exact ⟨Nat.le_refl _, Nat.le_refl _⟩
      · simp only at hr
        cases hfind : alts.find? (fun q => ent iv q.1) with
        | none => rw [hfind] at hr; cases hr
        | some q =>
          rw [hfind] at hr
          exact ih _ _ _ _ _ _ _ _ _ _ _ _ hr
/-- A RUN OF THE SMALL MACHINE IS A RUN OF THE MACHINE. -/
theorem mrun_ok (hI : ivP ρ iv) (hTL : mTL tyL) (hNW : ∀ w ∈ NW, nst w) (hG : ∀ w ∈ Ts, goodWord w = true) (hE : ∀ (M pc : Nat) (i : Instr) (nx x y : Nat), G.1 M pc = some (i, nx, x, y) → ¬ ikd i = 4 → EOK Ts NW cl tyL G YB M pc i nx x y) :
    ∀ (f d M pc : Nat) (ls : ML) (st : List Value) (h : MH) (k n : Nat) (v : Option Value) (h' : MH) (k' n' : Nat), mrun iv G f d M pc ls st h k n = some (v, h', k', n') → mBody l D cl dA pre base ρ tyL Ts NW G YB d M pc ls st h k n v h' k' n' := by
  intro f
  induction f with
  | zero => intro d M pc ls st h k n v h' k' n' hr; rw [mrun_0] at hr; cases hr
  | succ f ih =>
    intro d M pc ls st h k n v h' k' n' hr
    rw [mrun_s] at hr
    cases hst : mstep iv G M pc ls st h with
    | none => rw [hst] at hr; cases hr
    | some z =>
      rw [hst] at hr
      unfold mstep at hst
      cases he : G.1 M pc with
      | none => rw [he] at hst; cases hst
      | some en =>
        obtain ⟨i, nx, x, y⟩ := en
        rw [he] at hst
        have hst : stepI iv G M pc i nx x y ls st h = some z := hst
        have hE1 := hE M pc i nx x y he
        by_cases hk4 : ikd i = 4
        · exact (no_only hk4 hst).elim
        have hE1 := hE1 hk4
        intro p e s m args below meth c X hF hlocks hret hname
        have hkd : ikd i = 0 ∨ ikd i = 1 ∨ ikd i = 2 ∨ ikd i = 3 ∨ ikd i = 4 := by cases i <;> first | exact Or.inl rfl | exact Or.inr (Or.inl rfl) | exact Or.inr (Or.inr (Or.inl rfl)) | exact Or.inr (Or.inr (Or.inr (Or.inl rfl))) | exact Or.inr (Or.inr (Or.inr (Or.inr rfl)))
        have onStep : ∀ q : Nat × ML × List Value × MH × Nat × Nat, z = .inl q → (∀ (kk : mGo p l e (rmOf d k' n') s m args below meth c (MQ below (mQc D cl dA pre base ρ v h' k') args s k' n' (fun q => base ≤ q)) D cl dA pre base ρ (G.2.1 M) q.1 q.2.1 q.2.2.1 q.2.2.2.1 (k + q.2.2.2.2.1) (n + q.2.2.2.2.2)), k + q.2.2.2.2.1 ≤ k' → n + q.2.2.2.2.2 ≤ n' → mGo p l e (rmOf d k' n') s m args below meth c (MQ below (mQc D cl dA pre base ρ v h' k') args s k' n' (fun q => base ≤ q)) D cl dA pre base ρ (G.2.1 M) pc ls st h k n) → mGo p l e (rmOf d k' n') s m args below meth c (MQ below (mQc D cl dA pre base ρ v h' k') args s k' n' (fun q => base ≤ q)) D cl dA pre base ρ (G.2.1 M) pc ls st h k n := by
          intro q hq hgo
          subst hq
          obtain ⟨pc', ls', st', h1, dk, dn⟩ := q
          have hm := mrun_mono _ _ _ _ _ _ _ _ _ _ _ _ _ hr
          exact hgo (ih _ _ _ _ _ _ _ _ _ _ _ _ hr p e s m args below meth c X hF hlocks hret hname) hm.1 hm.2
        rcases hkd with hk | hk | hk | hk | hk
        · obtain ⟨q, hq⟩ := on_only hk hst
          refine onStep q hq fun kk hc hn => ?_
          rw [hq] at hst
          exact stp_on X hI hF hTL hname hE1 hk hc hn hst kk
        · obtain ⟨alts, ls', st', hq⟩ := br_only hk hst
          subst hq
          simp only at hr
          cases hfind : alts.find? (fun q => ent iv q.1) with
          | none => rw [hfind] at hr; cases hr
          | some q =>
            obtain ⟨b, pc'⟩ := q
            rw [hfind] at hr
            have h1 := List.mem_of_find?_eq_some hfind
            have h2 : ent iv b = true := by simpa using List.find?_some hfind
            exact stp_br X hE1 hk hst h1 (ent_ok hI h2) (ih _ _ _ _ _ _ _ _ _ _ _ _ hr p e s m args below meth c X hF hlocks hret hname)
        · obtain ⟨w, hq⟩ := rt_only hk hst
          subst hq
          cases hr
          exact stp_rt X hlocks hret hE1 hk hst
        · rcases z with q | ⟨cy, as, r, pc'⟩ | w | ⟨alts, ls', st'⟩
          · refine onStep q rfl fun kk hc hn => ?_
            exact stp_sp hG X hF hE1 hk hc hn hst kk
          · obtain ⟨hchk, hr⟩ := if_ok hr
            simp only [Bool.and_eq_true, decide_eq_true_eq] at hchk
            cases d with
            | zero => cases hr
            | succ d =>
              simp only at hr
              cases hcal : mrun iv G f d cy 0 (ment 0 as) [] h 0 0 with
              | none => rw [hcal] at hr; cases hr
              | some q =>
                obtain ⟨v1, h1, k1, n1⟩ := q
                rw [hcal] at hr
                have hm := mrun_mono _ _ _ _ _ _ _ _ _ _ _ _ _ hr
                exact stp_call hNW hG X hF hE1 hk hst hchk.1 hchk.2.1 hchk.2.2 (ih _ _ _ _ _ _ _ _ _ _ _ _ hcal) hm.1 hm.2 (ih _ _ _ _ _ _ _ _ _ _ _ _ hr p e s m args below meth c X hF hlocks hret hname)
          · exact absurd hst (stp_no hk)
          · exact absurd hst (stp_no2 hk)
        · exact (no_only hk hst).elim
end RUN

/-! Branches and answers: a step of the small machine is a step of the machine. -/
section SO
variable {p : Program} {l : Launch} {e : Env} {R : Room} {s : State} {m : MethodId} {args : Array Value} {below : List Frame} {meth : Method} {c : Code} {Q : State → Prop}
variable {D : va_G} {cl : List vw_C} {dA : Nat → ClassId} {pre : Nat → Nat} {base : Nat} {ρ : Nat → Int32} {tyL : List FieldType} {Ts : List Cond} {G : GI} {cc : ByteArray} {own : String} {nL : Nat} {iv : List (Int × Int)}
variable {M pc nx x y : Nat} {ls : ML} {st : List Value} {h : MH} {cells slots : Nat} {alts : List (CD × Nat)} {ls' : ML} {st' : List Value} {pc' : Nat} {cd : CD}
theorem brr_ok {n : Nat} {v w : Value} {x nx : Nat} {ls ls' : ML} {st st' : List Value} {alts : List (CD × Nat)} {pc' : Nat} {cd : CD} (e : brr n v w x nx ls st = some (.inr (.inr (.inr (alts, ls', st'))))) (hq : (cd, pc') ∈ alts) : ls' = ls ∧ st' = st ∧ ((cd = (n, v, w) ∧ pc' = x) ∨ (cd = (cno n, v, w) ∧ pc' = nx)) := by
  unfold brr at e
  cases e
  refine ⟨rfl, rfl, ?_⟩
  rcases List.mem_cons.mp hq with h1 | h1
  · cases h1
    exact Or.inl ⟨rfl, rfl⟩
  · rcases List.mem_cons.mp h1 with h2 | h2
    · cases h2
      exact Or.inr ⟨rfl, rfl⟩
    · cases h2
theorem so_if_eq {off : Int} (X : mCx p s m args c D cl dA pre base ρ tyL Ts G cc own nL) (hd : decode cc pc = .ok (.ifCond .eq off, 3)) (hnx : nx = pc + 3) (ht : (pc : Int) + off = (x : Int)) (hz : stepI iv G M pc (.ifCond .eq off) nx x y ls st h = some (.inr (.inr (.inr (alts, ls', st'))))) (hq : (cd, pc') ∈ alts) (hcd : cdP ρ cd) (kk : mGo p l e R s m args below meth c Q D cl dA pre base ρ nL pc' ls' st' h cells slots) : mGo p l e R s m args below meth c Q D cl dA pre base ρ nL pc ls st h cells slots := by
  obtain ⟨a, r, rfl, ha, hz1⟩ := s1n_ok hz
  obtain ⟨rfl, rfl, hb0⟩ := brr_ok hz1 hq
  clear hz
  intro lsA H locs hL hR hS hZ
  have k2 := kk lsA H locs hL hR hS hZ
  rw [List.map_cons, isI_em ha]
  rcases hb0 with ⟨rfl, rfl⟩ | ⟨rfl, rfl⟩
  · exact lv_if_eq X.1 X.2.1 hd ht (fun _ => k2) (fun q => absurd hcd q)
  · subst hnx
    exact lv_if_eq X.1 X.2.1 hd ht (fun q => absurd q hcd) (fun _ => k2)
theorem so_icmp_eq {off : Int} (X : mCx p s m args c D cl dA pre base ρ tyL Ts G cc own nL) (hd : decode cc pc = .ok (.if_icmp .eq off, 3)) (hnx : nx = pc + 3) (ht : (pc : Int) + off = (x : Int)) (hz : stepI iv G M pc (.if_icmp .eq off) nx x y ls st h = some (.inr (.inr (.inr (alts, ls', st'))))) (hq : (cd, pc') ∈ alts) (hcd : cdP ρ cd) (kk : mGo p l e R s m args below meth c Q D cl dA pre base ρ nL pc' ls' st' h cells slots) : mGo p l e R s m args below meth c Q D cl dA pre base ρ nL pc ls st h cells slots := by
  obtain ⟨b, r1, rfl, hb, hz0⟩ := s1n_ok hz
  obtain ⟨a, r, rfl, ha, hz1⟩ := s1n_ok hz0
  clear hz0
  obtain ⟨rfl, rfl, hb0⟩ := brr_ok hz1 hq
  clear hz
  intro lsA H locs hL hR hS hZ
  have k2 := kk lsA H locs hL hR hS hZ
  rw [List.map_cons, List.map_cons, isI_em hb, isI_em ha]
  rcases hb0 with ⟨rfl, rfl⟩ | ⟨rfl, rfl⟩
  · exact lv_icmp_eq X.1 X.2.1 hd ht (fun _ => k2) (fun q => absurd hcd q)
  · subst hnx
    exact lv_icmp_eq X.1 X.2.1 hd ht (fun q => absurd q hcd) (fun _ => k2)
theorem so_if_ne {off : Int} (X : mCx p s m args c D cl dA pre base ρ tyL Ts G cc own nL) (hd : decode cc pc = .ok (.ifCond .ne off, 3)) (hnx : nx = pc + 3) (ht : (pc : Int) + off = (x : Int)) (hz : stepI iv G M pc (.ifCond .ne off) nx x y ls st h = some (.inr (.inr (.inr (alts, ls', st'))))) (hq : (cd, pc') ∈ alts) (hcd : cdP ρ cd) (kk : mGo p l e R s m args below meth c Q D cl dA pre base ρ nL pc' ls' st' h cells slots) : mGo p l e R s m args below meth c Q D cl dA pre base ρ nL pc ls st h cells slots := by
  obtain ⟨a, r, rfl, ha, hz1⟩ := s1n_ok hz
  obtain ⟨rfl, rfl, hb0⟩ := brr_ok hz1 hq
  clear hz
  intro lsA H locs hL hR hS hZ
  have k2 := kk lsA H locs hL hR hS hZ
  rw [List.map_cons, isI_em ha]
  rcases hb0 with ⟨rfl, rfl⟩ | ⟨rfl, rfl⟩
  · exact lv_if_ne X.1 X.2.1 hd ht (fun _ => k2) (fun q => absurd q hcd)
  · subst hnx
    exact lv_if_ne X.1 X.2.1 hd ht (fun q => absurd hcd q) (fun _ => k2)
theorem so_icmp_ne {off : Int} (X : mCx p s m args c D cl dA pre base ρ tyL Ts G cc own nL) (hd : decode cc pc = .ok (.if_icmp .ne off, 3)) (hnx : nx = pc + 3) (ht : (pc : Int) + off = (x : Int)) (hz : stepI iv G M pc (.if_icmp .ne off) nx x y ls st h = some (.inr (.inr (.inr (alts, ls', st'))))) (hq : (cd, pc') ∈ alts) (hcd : cdP ρ cd) (kk : mGo p l e R s m args below meth c Q D cl dA pre base ρ nL pc' ls' st' h cells slots) : mGo p l e R s m args below meth c Q D cl dA pre base ρ nL pc ls st h cells slots := by
  obtain ⟨b, r1, rfl, hb, hz0⟩ := s1n_ok hz
  obtain ⟨a, r, rfl, ha, hz1⟩ := s1n_ok hz0
  clear hz0
  obtain ⟨rfl, rfl, hb0⟩ := brr_ok hz1 hq
  clear hz
  intro lsA H locs hL hR hS hZ
  have k2 := kk lsA H locs hL hR hS hZ
  rw [List.map_cons, List.map_cons, isI_em hb, isI_em ha]
  rcases hb0 with ⟨rfl, rfl⟩ | ⟨rfl, rfl⟩
  · exact lv_icmp_ne X.1 X.2.1 hd ht (fun _ => k2) (fun q => absurd q hcd)
  · subst hnx
    exact lv_icmp_ne X.1 X.2.1 hd ht (fun q => absurd hcd q) (fun _ => k2)
theorem so_if_lt {off : Int} (X : mCx p s m args c D cl dA pre base ρ tyL Ts G cc own nL) (hd : decode cc pc = .ok (.ifCond .lt off, 3)) (hnx : nx = pc + 3) (ht : (pc : Int) + off = (x : Int)) (hz : stepI iv G M pc (.ifCond .lt off) nx x y ls st h = some (.inr (.inr (.inr (alts, ls', st'))))) (hq : (cd, pc') ∈ alts) (hcd : cdP ρ cd) (kk : mGo p l e R s m args below meth c Q D cl dA pre base ρ nL pc' ls' st' h cells slots) : mGo p l e R s m args below meth c Q D cl dA pre base ρ nL pc ls st h cells slots := by
  obtain ⟨a, r, rfl, ha, hz1⟩ := s1n_ok hz
  obtain ⟨rfl, rfl, hb0⟩ := brr_ok hz1 hq
  clear hz
  intro lsA H locs hL hR hS hZ
  have k2 := kk lsA H locs hL hR hS hZ
  rw [List.map_cons, isI_em ha]
  rcases hb0 with ⟨rfl, rfl⟩ | ⟨rfl, rfl⟩
  · exact lv_if_lt X.1 X.2.1 hd ht (fun _ => k2) (fun q => absurd hcd q)
  · subst hnx
    exact lv_if_lt X.1 X.2.1 hd ht (fun q => absurd q (Int32.not_lt.mpr hcd)) (fun _ => k2)
theorem so_icmp_lt {off : Int} (X : mCx p s m args c D cl dA pre base ρ tyL Ts G cc own nL) (hd : decode cc pc = .ok (.if_icmp .lt off, 3)) (hnx : nx = pc + 3) (ht : (pc : Int) + off = (x : Int)) (hz : stepI iv G M pc (.if_icmp .lt off) nx x y ls st h = some (.inr (.inr (.inr (alts, ls', st'))))) (hq : (cd, pc') ∈ alts) (hcd : cdP ρ cd) (kk : mGo p l e R s m args below meth c Q D cl dA pre base ρ nL pc' ls' st' h cells slots) : mGo p l e R s m args below meth c Q D cl dA pre base ρ nL pc ls st h cells slots := by
  obtain ⟨b, r1, rfl, hb, hz0⟩ := s1n_ok hz
  obtain ⟨a, r, rfl, ha, hz1⟩ := s1n_ok hz0
  clear hz0
  obtain ⟨rfl, rfl, hb0⟩ := brr_ok hz1 hq
  clear hz
  intro lsA H locs hL hR hS hZ
  have k2 := kk lsA H locs hL hR hS hZ
  rw [List.map_cons, List.map_cons, isI_em hb, isI_em ha]
  rcases hb0 with ⟨rfl, rfl⟩ | ⟨rfl, rfl⟩
  · exact lv_icmp_lt X.1 X.2.1 hd ht (fun _ => k2) (fun q => absurd hcd q)
  · subst hnx
    exact lv_icmp_lt X.1 X.2.1 hd ht (fun q => absurd q (Int32.not_lt.mpr hcd)) (fun _ => k2)
theorem so_if_ge {off : Int} (X : mCx p s m args c D cl dA pre base ρ tyL Ts G cc own nL) (hd : decode cc pc = .ok (.ifCond .ge off, 3)) (hnx : nx = pc + 3) (ht : (pc : Int) + off = (x : Int)) (hz : stepI iv G M pc (.ifCond .ge off) nx x y ls st h = some (.inr (.inr (.inr (alts, ls', st'))))) (hq : (cd, pc') ∈ alts) (hcd : cdP ρ cd) (kk : mGo p l e R s m args below meth c Q D cl dA pre base ρ nL pc' ls' st' h cells slots) : mGo p l e R s m args below meth c Q D cl dA pre base ρ nL pc ls st h cells slots := by
  obtain ⟨a, r, rfl, ha, hz1⟩ := s1n_ok hz
  obtain ⟨rfl, rfl, hb0⟩ := brr_ok hz1 hq
  clear hz
  intro lsA H locs hL hR hS hZ
  have k2 := kk lsA H locs hL hR hS hZ
  rw [List.map_cons, isI_em ha]
  rcases hb0 with ⟨rfl, rfl⟩ | ⟨rfl, rfl⟩
  · exact lv_if_ge X.1 X.2.1 hd ht (fun _ => k2) (fun q => absurd hcd q)
  · subst hnx
    exact lv_if_ge X.1 X.2.1 hd ht (fun q => absurd q (Int32.not_le.mpr hcd)) (fun _ => k2)
theorem so_icmp_ge {off : Int} (X : mCx p s m args c D cl dA pre base ρ tyL Ts G cc own nL) (hd : decode cc pc = .ok (.if_icmp .ge off, 3)) (hnx : nx = pc + 3) (ht : (pc : Int) + off = (x : Int)) (hz : stepI iv G M pc (.if_icmp .ge off) nx x y ls st h = some (.inr (.inr (.inr (alts, ls', st'))))) (hq : (cd, pc') ∈ alts) (hcd : cdP ρ cd) (kk : mGo p l e R s m args below meth c Q D cl dA pre base ρ nL pc' ls' st' h cells slots) : mGo p l e R s m args below meth c Q D cl dA pre base ρ nL pc ls st h cells slots := by
  obtain ⟨b, r1, rfl, hb, hz0⟩ := s1n_ok hz
  obtain ⟨a, r, rfl, ha, hz1⟩ := s1n_ok hz0
  clear hz0
  obtain ⟨rfl, rfl, hb0⟩ := brr_ok hz1 hq
  clear hz
  intro lsA H locs hL hR hS hZ
  have k2 := kk lsA H locs hL hR hS hZ
  rw [List.map_cons, List.map_cons, isI_em hb, isI_em ha]
  rcases hb0 with ⟨rfl, rfl⟩ | ⟨rfl, rfl⟩
  · exact lv_icmp_ge X.1 X.2.1 hd ht (fun _ => k2) (fun q => absurd hcd q)
  · subst hnx
    exact lv_icmp_ge X.1 X.2.1 hd ht (fun q => absurd q (Int32.not_le.mpr hcd)) (fun _ => k2)
theorem so_if_gt {off : Int} (X : mCx p s m args c D cl dA pre base ρ tyL Ts G cc own nL) (hd : decode cc pc = .ok (.ifCond .gt off, 3)) (hnx : nx = pc + 3) (ht : (pc : Int) + off = (x : Int)) (hz : stepI iv G M pc (.ifCond .gt off) nx x y ls st h = some (.inr (.inr (.inr (alts, ls', st'))))) (hq : (cd, pc') ∈ alts) (hcd : cdP ρ cd) (kk : mGo p l e R s m args below meth c Q D cl dA pre base ρ nL pc' ls' st' h cells slots) : mGo p l e R s m args below meth c Q D cl dA pre base ρ nL pc ls st h cells slots := by
  obtain ⟨a, r, rfl, ha, hz1⟩ := s1n_ok hz
  obtain ⟨rfl, rfl, hb0⟩ := brr_ok hz1 hq
  clear hz
  intro lsA H locs hL hR hS hZ
  have k2 := kk lsA H locs hL hR hS hZ
  rw [List.map_cons, isI_em ha]
  rcases hb0 with ⟨rfl, rfl⟩ | ⟨rfl, rfl⟩
  · exact lv_if_gt X.1 X.2.1 hd ht (fun _ => k2) (fun q => absurd hcd q)
  · subst hnx
    exact lv_if_gt X.1 X.2.1 hd ht (fun q => absurd q (Int32.not_lt.mpr hcd)) (fun _ => k2)
theorem so_icmp_gt {off : Int} (X : mCx p s m args c D cl dA pre base ρ tyL Ts G cc own nL) (hd : decode cc pc = .ok (.if_icmp .gt off, 3)) (hnx : nx = pc + 3) (ht : (pc : Int) + off = (x : Int)) (hz : stepI iv G M pc (.if_icmp .gt off) nx x y ls st h = some (.inr (.inr (.inr (alts, ls', st'))))) (hq : (cd, pc') ∈ alts) (hcd : cdP ρ cd) (kk : mGo p l e R s m args below meth c Q D cl dA pre base ρ nL pc' ls' st' h cells slots) : mGo p l e R s m args below meth c Q D cl dA pre base ρ nL pc ls st h cells slots := by
  obtain ⟨b, r1, rfl, hb, hz0⟩ := s1n_ok hz
  obtain ⟨a, r, rfl, ha, hz1⟩ := s1n_ok hz0
  clear hz0
  obtain ⟨rfl, rfl, hb0⟩ := brr_ok hz1 hq
  clear hz
  intro lsA H locs hL hR hS hZ
  have k2 := kk lsA H locs hL hR hS hZ
  rw [List.map_cons, List.map_cons, isI_em hb, isI_em ha]
  rcases hb0 with ⟨rfl, rfl⟩ | ⟨rfl, rfl⟩
  · exact lv_icmp_gt X.1 X.2.1 hd ht (fun _ => k2) (fun q => absurd hcd q)
  · subst hnx
    exact lv_icmp_gt X.1 X.2.1 hd ht (fun q => absurd q (Int32.not_lt.mpr hcd)) (fun _ => k2)
theorem so_if_le {off : Int} (X : mCx p s m args c D cl dA pre base ρ tyL Ts G cc own nL) (hd : decode cc pc = .ok (.ifCond .le off, 3)) (hnx : nx = pc + 3) (ht : (pc : Int) + off = (x : Int)) (hz : stepI iv G M pc (.ifCond .le off) nx x y ls st h = some (.inr (.inr (.inr (alts, ls', st'))))) (hq : (cd, pc') ∈ alts) (hcd : cdP ρ cd) (kk : mGo p l e R s m args below meth c Q D cl dA pre base ρ nL pc' ls' st' h cells slots) : mGo p l e R s m args below meth c Q D cl dA pre base ρ nL pc ls st h cells slots := by
  obtain ⟨a, r, rfl, ha, hz1⟩ := s1n_ok hz
  obtain ⟨rfl, rfl, hb0⟩ := brr_ok hz1 hq
  clear hz
  intro lsA H locs hL hR hS hZ
  have k2 := kk lsA H locs hL hR hS hZ
  rw [List.map_cons, isI_em ha]
  rcases hb0 with ⟨rfl, rfl⟩ | ⟨rfl, rfl⟩
  · exact lv_if_le X.1 X.2.1 hd ht (fun _ => k2) (fun q => absurd hcd q)
  · subst hnx
    exact lv_if_le X.1 X.2.1 hd ht (fun q => absurd q (Int32.not_le.mpr hcd)) (fun _ => k2)
theorem so_icmp_le {off : Int} (X : mCx p s m args c D cl dA pre base ρ tyL Ts G cc own nL) (hd : decode cc pc = .ok (.if_icmp .le off, 3)) (hnx : nx = pc + 3) (ht : (pc : Int) + off = (x : Int)) (hz : stepI iv G M pc (.if_icmp .le off) nx x y ls st h = some (.inr (.inr (.inr (alts, ls', st'))))) (hq : (cd, pc') ∈ alts) (hcd : cdP ρ cd) (kk : mGo p l e R s m args below meth c Q D cl dA pre base ρ nL pc' ls' st' h cells slots) : mGo p l e R s m args below meth c Q D cl dA pre base ρ nL pc ls st h cells slots := by
  obtain ⟨b, r1, rfl, hb, hz0⟩ := s1n_ok hz
  obtain ⟨a, r, rfl, ha, hz1⟩ := s1n_ok hz0
  clear hz0
  obtain ⟨rfl, rfl, hb0⟩ := brr_ok hz1 hq
  clear hz
  intro lsA H locs hL hR hS hZ
  have k2 := kk lsA H locs hL hR hS hZ
  rw [List.map_cons, List.map_cons, isI_em hb, isI_em ha]
  rcases hb0 with ⟨rfl, rfl⟩ | ⟨rfl, rfl⟩
  · exact lv_icmp_le X.1 X.2.1 hd ht (fun _ => k2) (fun q => absurd hcd q)
  · subst hnx
    exact lv_icmp_le X.1 X.2.1 hd ht (fun q => absurd q (Int32.not_le.mpr hcd)) (fun _ => k2)
theorem swAlts_ok {v : Value} {pc' : Nat} {cd : CD} : ∀ {offs : List Nat} {lo : Int}, (cd, pc') ∈ swAlts v lo offs → ∃ k : Nat, cd = (0, v, .int (Int32.ofInt (lo + k))) ∧ offs[k]? = some pc' := by
  intro offs
  induction offs with
  | nil => intro lo h; cases h
  | cons o r ih =>
    intro lo h
    rcases List.mem_cons.mp h with h1 | h1
    · cases h1
      exact ⟨0, by simp, rfl⟩
    · obtain ⟨k, h2, h3⟩ := ih h1
      exact ⟨k + 1, by rw [h2, show lo + 1 + (k : Int) = lo + ((k + 1 : Nat) : Int) by omega], h3⟩
theorem ofI_toInt {n : Int} (h1 : -2147483648 ≤ n) (h2 : n ≤ 2147483647) : (Int32.ofInt n).toInt = n := Int32.toInt_ofInt_of_le (by omega) (by omega)
theorem so_tsw {d lo hi : Int} {offs : Array Int} {len : Nat} (X : mCx p s m args c D cl dA pre base ρ tyL Ts G cc own nL) (hd : decode cc pc = .ok (.tableswitch d lo hi offs, len)) (htd : 0 ≤ (pc : Int) + d) (hto : ∀ o ∈ offs.toList, 0 ≤ (pc : Int) + o) (hsz : lo + offs.toList.length ≤ hi + 1) (hz : stepI iv G M pc (.tableswitch d lo hi offs) nx x y ls st h = some (.inr (.inr (.inr (alts, ls', st'))))) (hq : (cd, pc') ∈ alts) (hcd : cdP ρ cd) (kk : mGo p l e R s m args below meth c Q D cl dA pre base ρ nL pc' ls' st' h cells slots) : mGo p l e R s m args below meth c Q D cl dA pre base ρ nL pc ls st h cells slots := by
  obtain ⟨a, r, rfl, ha, hz1⟩ := s1n_ok hz
  clear hz
  obtain ⟨hlh, hz2⟩ := if_ok hz1
  simp only [Bool.and_eq_true, decide_eq_true_eq] at hlh
  cases hz2
  intro lsA H locs hL hR hS hZ
  have k2 := kk lsA H locs hL hR hS hZ
  rw [List.map_cons, isI_em ha]
  rcases List.mem_cons.mp hq with h1 | h1
  · cases h1
    have h3 : (emI ρ a).toInt < lo := by
      have h2 := Int32.lt_iff_toInt_lt.mp hcd
      rcases Int.lt_or_le 2147483647 lo with h4 | h4
      · have := (emI ρ a).toInt_lt; omega
      · rw [show emI ρ (.int (Int32.ofInt lo)) = Int32.ofInt lo from rfl, ofI_toInt hlh.1 h4] at h2; exact h2
    exact lv_tableOut X.1 X.2.1 hd (Or.inl h3) (by unfold natI; omega) k2
  · rcases List.mem_cons.mp h1 with h2 | h2
    · cases h2
      have h3 : hi < (emI ρ a).toInt := by
        have h2 := Int32.lt_iff_toInt_lt.mp hcd
        rcases Int.lt_or_le hi (-2147483648) with h4 | h4
        · have := (emI ρ a).le_toInt; omega
        · rw [show emI ρ (.int (Int32.ofInt hi)) = Int32.ofInt hi from rfl, ofI_toInt h4 hlh.2] at h2; exact h2
      exact lv_tableOut X.1 X.2.1 hd (Or.inr h3) (by unfold natI; omega) k2
    · obtain ⟨k, rfl, h3⟩ := swAlts_ok h2
      rw [List.getElem?_map] at h3
      obtain ⟨o, h4, rfl⟩ := Option.map_eq_some_iff.mp h3
      have h5 := hto o (List.mem_of_getElem? h4)
      have h6 := (List.getElem?_eq_some_iff.mp h4).1
      have h7 : (emI ρ a).toInt = lo + (k : Int) := by
        have h8 : emI ρ a = Int32.ofInt (lo + (k : Int)) := hcd
        rw [h8, ofI_toInt (by omega) (by omega)]
      refine lv_tableIn X.1 X.2.1 hd (by omega) (by omega) (off := o) ?_ (by unfold natI; omega) k2
      rw [h7, show (lo + (k : Int) - lo).toNat = k by omega, ← Array.getElem?_toList]
      exact h4
/-- what an answer has to say: the answer, the cells behind it -/
def mQc (D : va_G) (cl : List vw_C) (dA : Nat → ClassId) (pre : Nat → Nat) (base : Nat) (ρ : Nat → Int32) (v : Option Value) (h : MH) (k : Nat) : Array Value → State → Outcome → State → Prop := fun _ U o t =>
  o = .returned (v.map (emv pre base ρ)) ∧ mR D cl dA pre base ρ h t.heap ∧ t.heap.size = U.heap.size + k ∧ (∀ q : Nat, q < U.heap.size → ¬ base ≤ q → t.heap[q]? = U.heap[q]?)
theorem mQc_of {D : va_G} {cl : List vw_C} {dA : Nat → ClassId} {pre : Nat → Nat} {base : Nat} {ρ : Nat → Int32} {v : Option Value} {h : MH} {k : Nat} {a : Array Value} {U t : State} {o : Outcome} {H : Heap} {locs : List Loc} (hR : mR D cl dA pre base ρ h H) (hS : va_S (fun q => base ≤ q) U.heap H locs) (hZ : U.heap.size + k = H.size) (ht : t.heap = H) (ho : o = .returned (v.map (emv pre base ρ))) : mQc D cl dA pre base ρ v h k a U o t :=
  ⟨ho, by rw [ht]; exact hR, by rw [ht]; exact hZ.symm, fun q h1 h2 => by rw [ht]; exact hS.2.1 q h1 h2⟩
theorem so_ireturn {v : Option Value} (X : mCx p s m args c D cl dA pre base ρ tyL Ts G cc own nL) (hd : decode cc pc = .ok (.ireturn, 1)) (hlocks : meth.locks = false) (hret : meth.sig.returnType = G.2.2.2.2.2.1 M) (hz : stepI iv G M pc (.ireturn) nx x y ls st h = some (.inr (.inr (.inl v)))) : mGo p l e R s m args below meth c (MQ below (mQc D cl dA pre base ρ v h cells) args s cells slots (fun q => base ≤ q)) D cl dA pre base ρ nL pc ls st h cells slots := by
  have hz1 : (match st with | [w] => _ | _ => none) = _ := hz
  clear hz
  rcases st with _ | ⟨w, _ | ⟨w2, r⟩⟩
  · cases hz1
  · obtain ⟨h1, h2⟩ := if_ok hz1
    simp only [Bool.and_eq_true, decide_eq_true_eq] at h1
    cases h2
    intro lsA H locs hL hR hS hZ
    cases hty : G.2.2.2.2.2.1 M with
    | none => rw [hty] at h1; exact absurd h1.2 (by intro q; cases q)
    | some ty =>
      rw [hty] at h1 hret
      cases w with
      | int a => exact W.zret X.1 X.2.1 hret (fitB_ok (pre := pre) (base := base) (ρ := ρ) h1.2).1 (fun t ht _ => mQc_of hR hS hZ ht rfl) hS.2.2 hd hlocks
      | retAddr j => exact W.zret (v := ρ j) X.1 X.2.1 hret (fitB_ok (pre := pre) (base := base) (ρ := ρ) h1.2).1 (fun t ht _ => mQc_of hR hS hZ ht rfl) hS.2.2 hd hlocks
      | _ => exact absurd h1.1 (by simp [isI])
  · cases hz1
theorem so_lreturn {v : Option Value} (X : mCx p s m args c D cl dA pre base ρ tyL Ts G cc own nL) (hd : decode cc pc = .ok (.lreturn, 1)) (hlocks : meth.locks = false) (hret : meth.sig.returnType = G.2.2.2.2.2.1 M) (hz : stepI iv G M pc (.lreturn) nx x y ls st h = some (.inr (.inr (.inl v)))) : mGo p l e R s m args below meth c (MQ below (mQc D cl dA pre base ρ v h cells) args s cells slots (fun q => base ≤ q)) D cl dA pre base ρ nL pc ls st h cells slots := by
  have hz1 : (match st with | [w] => _ | _ => none) = _ := hz
  clear hz
  rcases st with _ | ⟨w, _ | ⟨w2, r⟩⟩
  · cases hz1
  · obtain ⟨h1, h2⟩ := if_ok hz1
    simp only [Bool.and_eq_true, decide_eq_true_eq] at h1
    cases h2
    intro lsA H locs hL hR hS hZ
    rw [h1.2] at hret
    cases w with
    | long a => exact W.lret X.1 X.2.1 hret (fun t ht _ => mQc_of hR hS hZ ht rfl) hS.2.2 hd hlocks
    | _ => exact absurd h1.1 (by simp [isL])
  · cases hz1
theorem so_areturn {v : Option Value} (X : mCx p s m args c D cl dA pre base ρ tyL Ts G cc own nL) (hd : decode cc pc = .ok (.areturn, 1)) (hlocks : meth.locks = false) (hret : meth.sig.returnType = G.2.2.2.2.2.1 M) (hz : stepI iv G M pc (.areturn) nx x y ls st h = some (.inr (.inr (.inl v)))) : mGo p l e R s m args below meth c (MQ below (mQc D cl dA pre base ρ v h cells) args s cells slots (fun q => base ≤ q)) D cl dA pre base ρ nL pc ls st h cells slots := by
  have hz1 : (match st with | [w] => _ | _ => none) = _ := hz
  clear hz
  rcases st with _ | ⟨w, _ | ⟨w2, r⟩⟩
  · cases hz1
  · obtain ⟨h1, h2⟩ := if_ok hz1
    simp only [Bool.and_eq_true, decide_eq_true_eq] at h1
    cases h2
    intro lsA H locs hL hR hS hZ
    cases hty : G.2.2.2.2.2.1 M with
    | none => rw [hty] at h1; exact absurd h1.2 (by intro q; cases q)
    | some ty =>
      rw [hty] at h1 hret
      cases ty with
      | object C =>
        cases w with
        | ref a => exact W.aret X.1 X.2.1 hret (Or.inl ⟨C, rfl⟩) (Or.inr ⟨mad pre base a, rfl⟩) (fun t ht _ => mQc_of hR hS hZ ht rfl) hS.2.2 hd hlocks
        | null => exact W.aret X.1 X.2.1 hret (Or.inl ⟨C, rfl⟩) (Or.inl rfl) (fun t ht _ => mQc_of hR hS hZ ht rfl) hS.2.2 hd hlocks
        | _ => exact absurd h1.1 (by simp [isR])
      | _ => exact absurd h1.2 (by intro q; cases q)
  · cases hz1
theorem so_return {v : Option Value} (X : mCx p s m args c D cl dA pre base ρ tyL Ts G cc own nL) (hd : decode cc pc = .ok (.return_, 1)) (hlocks : meth.locks = false) (hret : meth.sig.returnType = G.2.2.2.2.2.1 M) (hz : stepI iv G M pc (.return_) nx x y ls st h = some (.inr (.inr (.inl v)))) : mGo p l e R s m args below meth c (MQ below (mQc D cl dA pre base ρ v h cells) args s cells slots (fun q => base ≤ q)) D cl dA pre base ρ nL pc ls st h cells slots := by
  obtain ⟨h1, h2⟩ := if_ok (show (if (decide (G.2.2.2.2.2.1 M = none) && st.isEmpty) = true then _ else none) = _ from hz)
  simp only [Bool.and_eq_true, decide_eq_true_eq] at h1
  cases h2
  rw [h1.1] at hret
  have h3 : st = [] := by cases st with
    | nil => rfl
    | cons _ _ => exact absurd h1.2 (by simp)
  subst h3
  intro lsA H locs hL hR hS hZ
  exact W.vret X.1 X.2.1 hret (fun t ht _ => mQc_of hR hS hZ ht rfl) hS.2.2 hd hlocks
end SO

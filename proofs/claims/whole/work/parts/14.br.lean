/-! Branches and answers: a step of the small machine is a step of the machine. -/
section SO
variable {p : Program} {l : Launch} {e : Env} {R : Room} {s : State} {m : MethodId} {args : Array Value} {below : List Frame} {meth : Method} {c : Code} {Q : State → Prop}
variable {D : va_G} {cl : List vw_C} {dA : Nat → ClassId} {pre : Nat → Nat} {base : Nat} {tyL : List FieldType} {Ts : List Cond} {G : GI} {cc : ByteArray} {own : String} {nL : Nat}
variable {M pc nx x y : Nat} {ls : ML} {st : List Value} {h : MH} {cells slots : Nat} {alts : List (Bool × Nat)} {ls' : ML} {st' : List Value} {pc' : Nat}
theorem brr_ok {b : Bool} {x nx : Nat} {ls ls' : ML} {st st' : List Value} {alts : List (Bool × Nat)} {pc' : Nat} (e : brr b x nx ls st = some (.inr (.inr (.inr (alts, ls', st'))))) (hq : (true, pc') ∈ alts) : ls' = ls ∧ st' = st ∧ ((b = true ∧ pc' = x) ∨ (b = false ∧ pc' = nx)) := by
  unfold brr at e
  cases e
  refine ⟨rfl, rfl, ?_⟩
  rcases List.mem_cons.mp hq with h1 | h1
  · cases h1
    exact Or.inl ⟨rfl, rfl⟩
  · rcases List.mem_cons.mp h1 with h2 | h2
    · obtain ⟨h3, h4⟩ := Prod.mk.inj h2
      exact Or.inr ⟨(by cases b with
        | false => rfl
        | true => cases h3), h4⟩
    · cases h2
theorem so_if_eq {off : Int} (X : mCx p s m args c D cl dA pre base tyL Ts G cc own nL) (hd : decode cc pc = .ok (.ifCond .eq off, 3)) (hnx : nx = pc + 3) (ht : (pc : Int) + off = (x : Int)) (hz : stepI G M pc (.ifCond .eq off) nx x y ls st h = some (.inr (.inr (.inr (alts, ls', st'))))) (hq : (true, pc') ∈ alts) (kk : mGo p l e R s m args below meth c Q D cl dA pre base nL pc' ls' st' h cells slots) : mGo p l e R s m args below meth c Q D cl dA pre base nL pc ls st h cells slots := by
  obtain ⟨a, r, rfl, hz1⟩ := s1i_ok hz
  obtain ⟨rfl, rfl, hb⟩ := brr_ok hz1 hq
  clear hz
  intro lsA H locs hL hR hS hZ
  rcases hb with ⟨h1, rfl⟩ | ⟨h1, rfl⟩
  · have h1 : a = 0 := of_decide_eq_true h1
    exact lv_if_eq X.1 X.2.1 hd ht (fun _ => (kk lsA H locs hL hR hS hZ)) (fun q => absurd h1 q)
  · have h1 : ¬ (a = 0) := of_decide_eq_false h1
    subst hnx
    exact lv_if_eq X.1 X.2.1 hd ht (fun q => absurd q h1) (fun _ => (kk lsA H locs hL hR hS hZ))
theorem so_icmp_eq {off : Int} (X : mCx p s m args c D cl dA pre base tyL Ts G cc own nL) (hd : decode cc pc = .ok (.if_icmp .eq off, 3)) (hnx : nx = pc + 3) (ht : (pc : Int) + off = (x : Int)) (hz : stepI G M pc (.if_icmp .eq off) nx x y ls st h = some (.inr (.inr (.inr (alts, ls', st'))))) (hq : (true, pc') ∈ alts) (kk : mGo p l e R s m args below meth c Q D cl dA pre base nL pc' ls' st' h cells slots) : mGo p l e R s m args below meth c Q D cl dA pre base nL pc ls st h cells slots := by
  obtain ⟨a, b, r, rfl, hz1⟩ := s2i_ok hz
  obtain ⟨rfl, rfl, hb⟩ := brr_ok hz1 hq
  clear hz
  intro lsA H locs hL hR hS hZ
  rcases hb with ⟨h1, rfl⟩ | ⟨h1, rfl⟩
  · have h1 : a = b := of_decide_eq_true h1
    exact lv_icmp_eq X.1 X.2.1 hd ht (fun _ => (kk lsA H locs hL hR hS hZ)) (fun q => absurd h1 q)
  · have h1 : ¬ (a = b) := of_decide_eq_false h1
    subst hnx
    exact lv_icmp_eq X.1 X.2.1 hd ht (fun q => absurd q h1) (fun _ => (kk lsA H locs hL hR hS hZ))
theorem so_if_ne {off : Int} (X : mCx p s m args c D cl dA pre base tyL Ts G cc own nL) (hd : decode cc pc = .ok (.ifCond .ne off, 3)) (hnx : nx = pc + 3) (ht : (pc : Int) + off = (x : Int)) (hz : stepI G M pc (.ifCond .ne off) nx x y ls st h = some (.inr (.inr (.inr (alts, ls', st'))))) (hq : (true, pc') ∈ alts) (kk : mGo p l e R s m args below meth c Q D cl dA pre base nL pc' ls' st' h cells slots) : mGo p l e R s m args below meth c Q D cl dA pre base nL pc ls st h cells slots := by
  obtain ⟨a, r, rfl, hz1⟩ := s1i_ok hz
  obtain ⟨rfl, rfl, hb⟩ := brr_ok hz1 hq
  clear hz
  intro lsA H locs hL hR hS hZ
  rcases hb with ⟨h1, rfl⟩ | ⟨h1, rfl⟩
  · have h1 : ¬ a = 0 := of_decide_eq_true h1
    exact lv_if_ne X.1 X.2.1 hd ht (fun _ => (kk lsA H locs hL hR hS hZ)) (fun q => absurd q h1)
  · have h1 : ¬ (¬ a = 0) := of_decide_eq_false h1
    subst hnx
    exact lv_if_ne X.1 X.2.1 hd ht (fun q => absurd (Decidable.not_not.mp h1) q) (fun _ => (kk lsA H locs hL hR hS hZ))
theorem so_icmp_ne {off : Int} (X : mCx p s m args c D cl dA pre base tyL Ts G cc own nL) (hd : decode cc pc = .ok (.if_icmp .ne off, 3)) (hnx : nx = pc + 3) (ht : (pc : Int) + off = (x : Int)) (hz : stepI G M pc (.if_icmp .ne off) nx x y ls st h = some (.inr (.inr (.inr (alts, ls', st'))))) (hq : (true, pc') ∈ alts) (kk : mGo p l e R s m args below meth c Q D cl dA pre base nL pc' ls' st' h cells slots) : mGo p l e R s m args below meth c Q D cl dA pre base nL pc ls st h cells slots := by
  obtain ⟨a, b, r, rfl, hz1⟩ := s2i_ok hz
  obtain ⟨rfl, rfl, hb⟩ := brr_ok hz1 hq
  clear hz
  intro lsA H locs hL hR hS hZ
  rcases hb with ⟨h1, rfl⟩ | ⟨h1, rfl⟩
  · have h1 : ¬ a = b := of_decide_eq_true h1
    exact lv_icmp_ne X.1 X.2.1 hd ht (fun _ => (kk lsA H locs hL hR hS hZ)) (fun q => absurd q h1)
  · have h1 : ¬ (¬ a = b) := of_decide_eq_false h1
    subst hnx
    exact lv_icmp_ne X.1 X.2.1 hd ht (fun q => absurd (Decidable.not_not.mp h1) q) (fun _ => (kk lsA H locs hL hR hS hZ))
theorem so_if_lt {off : Int} (X : mCx p s m args c D cl dA pre base tyL Ts G cc own nL) (hd : decode cc pc = .ok (.ifCond .lt off, 3)) (hnx : nx = pc + 3) (ht : (pc : Int) + off = (x : Int)) (hz : stepI G M pc (.ifCond .lt off) nx x y ls st h = some (.inr (.inr (.inr (alts, ls', st'))))) (hq : (true, pc') ∈ alts) (kk : mGo p l e R s m args below meth c Q D cl dA pre base nL pc' ls' st' h cells slots) : mGo p l e R s m args below meth c Q D cl dA pre base nL pc ls st h cells slots := by
  obtain ⟨a, r, rfl, hz1⟩ := s1i_ok hz
  obtain ⟨rfl, rfl, hb⟩ := brr_ok hz1 hq
  clear hz
  intro lsA H locs hL hR hS hZ
  rcases hb with ⟨h1, rfl⟩ | ⟨h1, rfl⟩
  · have h1 : a < 0 := of_decide_eq_true h1
    exact lv_if_lt X.1 X.2.1 hd ht (fun _ => (kk lsA H locs hL hR hS hZ)) (fun q => absurd h1 q)
  · have h1 : ¬ (a < 0) := of_decide_eq_false h1
    subst hnx
    exact lv_if_lt X.1 X.2.1 hd ht (fun q => absurd q h1) (fun _ => (kk lsA H locs hL hR hS hZ))
theorem so_icmp_lt {off : Int} (X : mCx p s m args c D cl dA pre base tyL Ts G cc own nL) (hd : decode cc pc = .ok (.if_icmp .lt off, 3)) (hnx : nx = pc + 3) (ht : (pc : Int) + off = (x : Int)) (hz : stepI G M pc (.if_icmp .lt off) nx x y ls st h = some (.inr (.inr (.inr (alts, ls', st'))))) (hq : (true, pc') ∈ alts) (kk : mGo p l e R s m args below meth c Q D cl dA pre base nL pc' ls' st' h cells slots) : mGo p l e R s m args below meth c Q D cl dA pre base nL pc ls st h cells slots := by
  obtain ⟨a, b, r, rfl, hz1⟩ := s2i_ok hz
  obtain ⟨rfl, rfl, hb⟩ := brr_ok hz1 hq
  clear hz
  intro lsA H locs hL hR hS hZ
  rcases hb with ⟨h1, rfl⟩ | ⟨h1, rfl⟩
  · have h1 : a < b := of_decide_eq_true h1
    exact lv_icmp_lt X.1 X.2.1 hd ht (fun _ => (kk lsA H locs hL hR hS hZ)) (fun q => absurd h1 q)
  · have h1 : ¬ (a < b) := of_decide_eq_false h1
    subst hnx
    exact lv_icmp_lt X.1 X.2.1 hd ht (fun q => absurd q h1) (fun _ => (kk lsA H locs hL hR hS hZ))
theorem so_if_ge {off : Int} (X : mCx p s m args c D cl dA pre base tyL Ts G cc own nL) (hd : decode cc pc = .ok (.ifCond .ge off, 3)) (hnx : nx = pc + 3) (ht : (pc : Int) + off = (x : Int)) (hz : stepI G M pc (.ifCond .ge off) nx x y ls st h = some (.inr (.inr (.inr (alts, ls', st'))))) (hq : (true, pc') ∈ alts) (kk : mGo p l e R s m args below meth c Q D cl dA pre base nL pc' ls' st' h cells slots) : mGo p l e R s m args below meth c Q D cl dA pre base nL pc ls st h cells slots := by
  obtain ⟨a, r, rfl, hz1⟩ := s1i_ok hz
  obtain ⟨rfl, rfl, hb⟩ := brr_ok hz1 hq
  clear hz
  intro lsA H locs hL hR hS hZ
  rcases hb with ⟨h1, rfl⟩ | ⟨h1, rfl⟩
  · have h1 : 0 ≤ a := of_decide_eq_true h1
    exact lv_if_ge X.1 X.2.1 hd ht (fun _ => (kk lsA H locs hL hR hS hZ)) (fun q => absurd h1 q)
  · have h1 : ¬ (0 ≤ a) := of_decide_eq_false h1
    subst hnx
    exact lv_if_ge X.1 X.2.1 hd ht (fun q => absurd q h1) (fun _ => (kk lsA H locs hL hR hS hZ))
theorem so_icmp_ge {off : Int} (X : mCx p s m args c D cl dA pre base tyL Ts G cc own nL) (hd : decode cc pc = .ok (.if_icmp .ge off, 3)) (hnx : nx = pc + 3) (ht : (pc : Int) + off = (x : Int)) (hz : stepI G M pc (.if_icmp .ge off) nx x y ls st h = some (.inr (.inr (.inr (alts, ls', st'))))) (hq : (true, pc') ∈ alts) (kk : mGo p l e R s m args below meth c Q D cl dA pre base nL pc' ls' st' h cells slots) : mGo p l e R s m args below meth c Q D cl dA pre base nL pc ls st h cells slots := by
  obtain ⟨a, b, r, rfl, hz1⟩ := s2i_ok hz
  obtain ⟨rfl, rfl, hb⟩ := brr_ok hz1 hq
  clear hz
  intro lsA H locs hL hR hS hZ
  rcases hb with ⟨h1, rfl⟩ | ⟨h1, rfl⟩
  · have h1 : b ≤ a := of_decide_eq_true h1
    exact lv_icmp_ge X.1 X.2.1 hd ht (fun _ => (kk lsA H locs hL hR hS hZ)) (fun q => absurd h1 q)
  · have h1 : ¬ (b ≤ a) := of_decide_eq_false h1
    subst hnx
    exact lv_icmp_ge X.1 X.2.1 hd ht (fun q => absurd q h1) (fun _ => (kk lsA H locs hL hR hS hZ))
theorem so_if_gt {off : Int} (X : mCx p s m args c D cl dA pre base tyL Ts G cc own nL) (hd : decode cc pc = .ok (.ifCond .gt off, 3)) (hnx : nx = pc + 3) (ht : (pc : Int) + off = (x : Int)) (hz : stepI G M pc (.ifCond .gt off) nx x y ls st h = some (.inr (.inr (.inr (alts, ls', st'))))) (hq : (true, pc') ∈ alts) (kk : mGo p l e R s m args below meth c Q D cl dA pre base nL pc' ls' st' h cells slots) : mGo p l e R s m args below meth c Q D cl dA pre base nL pc ls st h cells slots := by
  obtain ⟨a, r, rfl, hz1⟩ := s1i_ok hz
  obtain ⟨rfl, rfl, hb⟩ := brr_ok hz1 hq
  clear hz
  intro lsA H locs hL hR hS hZ
  rcases hb with ⟨h1, rfl⟩ | ⟨h1, rfl⟩
  · have h1 : 0 < a := of_decide_eq_true h1
    exact lv_if_gt X.1 X.2.1 hd ht (fun _ => (kk lsA H locs hL hR hS hZ)) (fun q => absurd h1 q)
  · have h1 : ¬ (0 < a) := of_decide_eq_false h1
    subst hnx
    exact lv_if_gt X.1 X.2.1 hd ht (fun q => absurd q h1) (fun _ => (kk lsA H locs hL hR hS hZ))
theorem so_icmp_gt {off : Int} (X : mCx p s m args c D cl dA pre base tyL Ts G cc own nL) (hd : decode cc pc = .ok (.if_icmp .gt off, 3)) (hnx : nx = pc + 3) (ht : (pc : Int) + off = (x : Int)) (hz : stepI G M pc (.if_icmp .gt off) nx x y ls st h = some (.inr (.inr (.inr (alts, ls', st'))))) (hq : (true, pc') ∈ alts) (kk : mGo p l e R s m args below meth c Q D cl dA pre base nL pc' ls' st' h cells slots) : mGo p l e R s m args below meth c Q D cl dA pre base nL pc ls st h cells slots := by
  obtain ⟨a, b, r, rfl, hz1⟩ := s2i_ok hz
  obtain ⟨rfl, rfl, hb⟩ := brr_ok hz1 hq
  clear hz
  intro lsA H locs hL hR hS hZ
  rcases hb with ⟨h1, rfl⟩ | ⟨h1, rfl⟩
  · have h1 : b < a := of_decide_eq_true h1
    exact lv_icmp_gt X.1 X.2.1 hd ht (fun _ => (kk lsA H locs hL hR hS hZ)) (fun q => absurd h1 q)
  · have h1 : ¬ (b < a) := of_decide_eq_false h1
    subst hnx
    exact lv_icmp_gt X.1 X.2.1 hd ht (fun q => absurd q h1) (fun _ => (kk lsA H locs hL hR hS hZ))
theorem so_if_le {off : Int} (X : mCx p s m args c D cl dA pre base tyL Ts G cc own nL) (hd : decode cc pc = .ok (.ifCond .le off, 3)) (hnx : nx = pc + 3) (ht : (pc : Int) + off = (x : Int)) (hz : stepI G M pc (.ifCond .le off) nx x y ls st h = some (.inr (.inr (.inr (alts, ls', st'))))) (hq : (true, pc') ∈ alts) (kk : mGo p l e R s m args below meth c Q D cl dA pre base nL pc' ls' st' h cells slots) : mGo p l e R s m args below meth c Q D cl dA pre base nL pc ls st h cells slots := by
  obtain ⟨a, r, rfl, hz1⟩ := s1i_ok hz
  obtain ⟨rfl, rfl, hb⟩ := brr_ok hz1 hq
  clear hz
  intro lsA H locs hL hR hS hZ
  rcases hb with ⟨h1, rfl⟩ | ⟨h1, rfl⟩
  · have h1 : a ≤ 0 := of_decide_eq_true h1
    exact lv_if_le X.1 X.2.1 hd ht (fun _ => (kk lsA H locs hL hR hS hZ)) (fun q => absurd h1 q)
  · have h1 : ¬ (a ≤ 0) := of_decide_eq_false h1
    subst hnx
    exact lv_if_le X.1 X.2.1 hd ht (fun q => absurd q h1) (fun _ => (kk lsA H locs hL hR hS hZ))
theorem so_icmp_le {off : Int} (X : mCx p s m args c D cl dA pre base tyL Ts G cc own nL) (hd : decode cc pc = .ok (.if_icmp .le off, 3)) (hnx : nx = pc + 3) (ht : (pc : Int) + off = (x : Int)) (hz : stepI G M pc (.if_icmp .le off) nx x y ls st h = some (.inr (.inr (.inr (alts, ls', st'))))) (hq : (true, pc') ∈ alts) (kk : mGo p l e R s m args below meth c Q D cl dA pre base nL pc' ls' st' h cells slots) : mGo p l e R s m args below meth c Q D cl dA pre base nL pc ls st h cells slots := by
  obtain ⟨a, b, r, rfl, hz1⟩ := s2i_ok hz
  obtain ⟨rfl, rfl, hb⟩ := brr_ok hz1 hq
  clear hz
  intro lsA H locs hL hR hS hZ
  rcases hb with ⟨h1, rfl⟩ | ⟨h1, rfl⟩
  · have h1 : a ≤ b := of_decide_eq_true h1
    exact lv_icmp_le X.1 X.2.1 hd ht (fun _ => (kk lsA H locs hL hR hS hZ)) (fun q => absurd h1 q)
  · have h1 : ¬ (a ≤ b) := of_decide_eq_false h1
    subst hnx
    exact lv_icmp_le X.1 X.2.1 hd ht (fun q => absurd q h1) (fun _ => (kk lsA H locs hL hR hS hZ))
theorem swAlts_ok {v : Int} {pc' : Nat} : ∀ {offs : List Nat} {lo : Int}, (true, pc') ∈ swAlts v lo offs → ∃ k : Nat, v = lo + k ∧ offs[k]? = some pc' := by
  intro offs
  induction offs with
  | nil => intro lo h; cases h
  | cons o r ih =>
    intro lo h
    rcases List.mem_cons.mp h with h1 | h1
    · obtain ⟨h2, h3⟩ := Prod.mk.inj h1
      exact ⟨0, by have := of_decide_eq_true h2.symm; omega, by rw [h3]; rfl⟩
    · obtain ⟨k, h2, h3⟩ := ih h1
      exact ⟨k + 1, by omega, h3⟩
theorem so_tsw {d lo hi : Int} {offs : Array Int} {len : Nat} (X : mCx p s m args c D cl dA pre base tyL Ts G cc own nL) (hd : decode cc pc = .ok (.tableswitch d lo hi offs, len)) (htd : 0 ≤ (pc : Int) + d) (hto : ∀ o ∈ offs.toList, 0 ≤ (pc : Int) + o) (hsz : lo + offs.toList.length ≤ hi + 1) (hz : stepI G M pc (.tableswitch d lo hi offs) nx x y ls st h = some (.inr (.inr (.inr (alts, ls', st'))))) (hq : (true, pc') ∈ alts) (kk : mGo p l e R s m args below meth c Q D cl dA pre base nL pc' ls' st' h cells slots) : mGo p l e R s m args below meth c Q D cl dA pre base nL pc ls st h cells slots := by
  obtain ⟨a, r, rfl, hz1⟩ := s1i_ok hz
  clear hz
  cases hz1
  intro lsA H locs hL hR hS hZ
  rcases List.mem_cons.mp hq with h1 | h1
  · obtain ⟨h2, rfl⟩ := Prod.mk.inj h1
    exact lv_tableOut X.1 X.2.1 hd (of_decide_eq_true h2.symm) (by unfold natI; omega) (kk lsA H locs hL hR hS hZ)
  · obtain ⟨k, h2, h3⟩ := swAlts_ok h1
    rw [List.getElem?_map] at h3
    obtain ⟨o, h4, rfl⟩ := Option.map_eq_some_iff.mp h3
    have h5 := hto o (List.mem_of_getElem? h4)
    have h6 := (List.getElem?_eq_some_iff.mp h4).1
    refine lv_tableIn X.1 X.2.1 hd (by omega) (by omega) (off := o) ?_ (by unfold natI; omega) (kk lsA H locs hL hR hS hZ)
    rw [h2, show (lo + (k : Int) - lo).toNat = k by omega, ← Array.getElem?_toList]
    exact h4
/-- what an answer has to say: the answer, the cells behind it -/
def mQc (D : va_G) (cl : List vw_C) (dA : Nat → ClassId) (pre : Nat → Nat) (base : Nat) (v : Option Value) (h : MH) (k : Nat) : Array Value → State → Outcome → State → Prop := fun _ U o t =>
  o = .returned (v.map (emv pre base)) ∧ mR D cl dA pre base h t.heap ∧ t.heap.size = U.heap.size + k ∧ (∀ q : Nat, q < U.heap.size → ¬ base ≤ q → t.heap[q]? = U.heap[q]?)
theorem mQc_of {D : va_G} {cl : List vw_C} {dA : Nat → ClassId} {pre : Nat → Nat} {base : Nat} {v : Option Value} {h : MH} {k : Nat} {a : Array Value} {U t : State} {o : Outcome} {H : Heap} {locs : List Loc} (hR : mR D cl dA pre base h H) (hS : va_S (fun q => base ≤ q) U.heap H locs) (hZ : U.heap.size + k = H.size) (ht : t.heap = H) (ho : o = .returned (v.map (emv pre base))) : mQc D cl dA pre base v h k a U o t :=
  ⟨ho, by rw [ht]; exact hR, by rw [ht]; exact hZ.symm, fun q h1 h2 => by rw [ht]; exact hS.2.1 q h1 h2⟩
theorem so_ireturn {v : Option Value} (X : mCx p s m args c D cl dA pre base tyL Ts G cc own nL) (hd : decode cc pc = .ok (.ireturn, 1)) (hlocks : meth.locks = false) (hret : meth.sig.returnType = G.2.2.2.2.2.1 M) (hz : stepI G M pc (.ireturn) nx x y ls st h = some (.inr (.inr (.inl v)))) : mGo p l e R s m args below meth c (MQ below (mQc D cl dA pre base v h cells) args s cells slots (fun q => base ≤ q)) D cl dA pre base nL pc ls st h cells slots := by
  have hz1 : (match st with | [w] => _ | _ => none) = _ := hz
  clear hz
  rcases st with _ | ⟨w, _ | ⟨w2, r⟩⟩
  · cases hz1
  · obtain ⟨h1, h2⟩ := if_ok hz1
    simp only [Bool.and_eq_true, decide_eq_true_eq] at h1
    cases h2
    intro lsA H locs hL hR hS hZ
    cases hty : G.2.2.2.2.2.1 M with
    | none => rw [hty] at h1; exact absurd h1.2 (by intro q; cases q)
    | some ty =>
      rw [hty] at h1 hret
      cases w with
      | int a => exact W.zret X.1 X.2.1 hret (fitB_ok (pre := pre) (base := base) h1.2).1 (fun t ht _ => mQc_of hR hS hZ ht rfl) hS.2.2 hd hlocks
      | _ => exact absurd h1.1 (by simp [isI])
  · cases hz1
theorem so_lreturn {v : Option Value} (X : mCx p s m args c D cl dA pre base tyL Ts G cc own nL) (hd : decode cc pc = .ok (.lreturn, 1)) (hlocks : meth.locks = false) (hret : meth.sig.returnType = G.2.2.2.2.2.1 M) (hz : stepI G M pc (.lreturn) nx x y ls st h = some (.inr (.inr (.inl v)))) : mGo p l e R s m args below meth c (MQ below (mQc D cl dA pre base v h cells) args s cells slots (fun q => base ≤ q)) D cl dA pre base nL pc ls st h cells slots := by
  have hz1 : (match st with | [w] => _ | _ => none) = _ := hz
  clear hz
  rcases st with _ | ⟨w, _ | ⟨w2, r⟩⟩
  · cases hz1
  · obtain ⟨h1, h2⟩ := if_ok hz1
    simp only [Bool.and_eq_true, decide_eq_true_eq] at h1
    cases h2
    intro lsA H locs hL hR hS hZ
    rw [h1.2] at hret
    cases w with
    | long a => exact W.lret X.1 X.2.1 hret (fun t ht _ => mQc_of hR hS hZ ht rfl) hS.2.2 hd hlocks
    | _ => exact absurd h1.1 (by simp [isL])
  · cases hz1
theorem so_areturn {v : Option Value} (X : mCx p s m args c D cl dA pre base tyL Ts G cc own nL) (hd : decode cc pc = .ok (.areturn, 1)) (hlocks : meth.locks = false) (hret : meth.sig.returnType = G.2.2.2.2.2.1 M) (hz : stepI G M pc (.areturn) nx x y ls st h = some (.inr (.inr (.inl v)))) : mGo p l e R s m args below meth c (MQ below (mQc D cl dA pre base v h cells) args s cells slots (fun q => base ≤ q)) D cl dA pre base nL pc ls st h cells slots := by
  have hz1 : (match st with | [w] => _ | _ => none) = _ := hz
  clear hz
  rcases st with _ | ⟨w, _ | ⟨w2, r⟩⟩
  · cases hz1
  · obtain ⟨h1, h2⟩ := if_ok hz1
    simp only [Bool.and_eq_true, decide_eq_true_eq] at h1
    cases h2
    intro lsA H locs hL hR hS hZ
    cases hty : G.2.2.2.2.2.1 M with
    | none => rw [hty] at h1; exact absurd h1.2 (by intro q; cases q)
    | some ty =>
      rw [hty] at h1 hret
      cases ty with
      | object C =>
        cases w with
        | ref a => exact W.aret X.1 X.2.1 hret (Or.inl ⟨C, rfl⟩) (Or.inr ⟨mad pre base a, rfl⟩) (fun t ht _ => mQc_of hR hS hZ ht rfl) hS.2.2 hd hlocks
        | null => exact W.aret X.1 X.2.1 hret (Or.inl ⟨C, rfl⟩) (Or.inl rfl) (fun t ht _ => mQc_of hR hS hZ ht rfl) hS.2.2 hd hlocks
        | _ => exact absurd h1.1 (by simp [isR])
      | _ => exact absurd h1.2 (by intro q; cases q)
  · cases hz1
theorem so_return {v : Option Value} (X : mCx p s m args c D cl dA pre base tyL Ts G cc own nL) (hd : decode cc pc = .ok (.return_, 1)) (hlocks : meth.locks = false) (hret : meth.sig.returnType = G.2.2.2.2.2.1 M) (hz : stepI G M pc (.return_) nx x y ls st h = some (.inr (.inr (.inl v)))) : mGo p l e R s m args below meth c (MQ below (mQc D cl dA pre base v h cells) args s cells slots (fun q => base ≤ q)) D cl dA pre base nL pc ls st h cells slots := by
  obtain ⟨h1, h2⟩ := if_ok (show (if (decide (G.2.2.2.2.2.1 M = none) && st.isEmpty) = true then _ else none) = _ from hz)
  simp only [Bool.and_eq_true, decide_eq_true_eq] at h1
  cases h2
  rw [h1.1] at hret
  have h3 : st = [] := by cases st with
    | nil => rfl
    | cons _ _ => exact absurd h1.2 (by simp)
  subst h3
  intro lsA H locs hL hR hS hZ
  exact W.vret X.1 X.2.1 hret (fun t ht _ => mQc_of hR hS hZ ht rfl) hS.2.2 hd hlocks
end SO

/-! .. runs. -/
theorem ko_only {nx : Nat} {ls : ML} {st : List Value} {h : MH} {z : ST} (e : okk nx ls st h = some z) : ∃ q, z = .inl q := by
  unfold okk at e
  cases e
  exact ⟨_, rfl⟩
section
variable {iv : List (Int × Int)} {G : GI} {M pc nx x y : Nat} {i : Instr} {ls : ML} {st : List Value} {h : MH} {z : ST}
theorem ko_on (hk : ikd i = 0) (hz : stepI iv G M pc i nx x y ls st h = some z) : ∃ q, z = .inl q := by
  cases i <;> first
    | (exact absurd (show (1 : Nat) = 0 from hk) (by decide)) | (exact absurd (show (2 : Nat) = 0 from hk) (by decide)) | (exact absurd (show (3 : Nat) = 0 from hk) (by decide)) | (exact absurd (show (4 : Nat) = 0 from hk) (by decide))
    | (exact ko_only hz)
    | (cases hz; exact ⟨_, rfl⟩)
    | (simp only [stepI, stload, ststore1, ststore2, s2i, s2l, s1i, s1l, s1r, s1n, s1] at hz
       repeat' split at hz
       all_goals first | (cases hz; done) | (exact ko_only hz) | (cases hz; exact ⟨_, rfl⟩))
theorem ko_rt (hk : ikd i = 2) (hz : stepI iv G M pc i nx x y ls st h = some z) : ∃ v, z = .inr (.inr (.inl v)) := by
  cases i <;> first
    | (exact absurd (show (0 : Nat) = 2 from hk) (by decide)) | (exact absurd (show (1 : Nat) = 2 from hk) (by decide)) | (exact absurd (show (3 : Nat) = 2 from hk) (by decide)) | (exact absurd (show (4 : Nat) = 2 from hk) (by decide))
    | (simp only [stepI] at hz
       repeat' split at hz
       all_goals first | (cases hz; done) | (cases hz; exact ⟨_, rfl⟩))
theorem ko_no (hk : ikd i = 4) (hz : stepI iv G M pc i nx x y ls st h = some z) : False := by
  cases i <;> first
    | (exact absurd (show (0 : Nat) = 4 from hk) (by decide)) | (exact absurd (show (1 : Nat) = 4 from hk) (by decide)) | (exact absurd (show (2 : Nat) = 4 from hk) (by decide)) | (exact absurd (show (3 : Nat) = 4 from hk) (by decide))
    | (cases hz; done)
theorem ko_ca {w : List (CD × Nat) × ML × List Value} (hk : ikd i = 3) : ¬ stepI iv G M pc i nx x y ls st h = some (.inr (.inr (.inr w))) := by
  intro hz
  cases i <;> first
    | (exact absurd (show (0 : Nat) = 3 from hk) (by decide)) | (exact absurd (show (1 : Nat) = 3 from hk) (by decide)) | (exact absurd (show (2 : Nat) = 3 from hk) (by decide)) | (exact absurd (show (4 : Nat) = 3 from hk) (by decide))
    | (simp only [stepI, okk, s2i, s1i, s1r, s1n, s1] at hz
       repeat' split at hz
       all_goals (cases hz; done))
theorem kd_in : ikd i ≤ 4 := by
  cases i <;> exact Nat.le_of_ble_eq_true rfl
theorem kd_br {w : List (CD × Nat) × ML × List Value} (hz : stepI iv G M pc i nx x y ls st h = some (.inr (.inr (.inr w)))) : ikd i = 1 := by
  have := kd_in (i := i)
  rcases (show ikd i = 0 ∨ ikd i = 1 ∨ ikd i = 2 ∨ ikd i = 3 ∨ ikd i = 4 by omega) with e | e | e | e | e
  · obtain ⟨q, hq⟩ := ko_on e hz
    cases hq
  · exact e
  · obtain ⟨q, hq⟩ := ko_rt e hz
    cases hq
  · exact absurd hz (ko_ca e)
  · exact (ko_no e hz).elim
end
theorem step_alts {iv : List (Int × Int)} {G : GI} {M pc nx x y : Nat} {i : Instr} {ls ls' : ML} {st st' : List Value} {h : MH} {alts : List (CD × Nat)} (hk : ikd i = 1) (hs : stepI iv G M pc i nx x y ls st h = some (.inr (.inr (.inr (alts, ls', st'))))) : altS alts := by
  cases i
  case ifCond c k =>
    unfold stepI at hs
    cases st with
    | nil => cases hs
    | cons v r =>
      simp only [s1n, s1] at hs
      obtain ⟨-, hs⟩ := if_ok hs
      unfold brr at hs
      injection hs with hs
      injection hs with hs
      injection hs with hs
      injection hs with hs
      injection hs with h1 h2
      exact Or.inl ⟨_, _, _, _, _, h1.symm⟩
  case if_icmp c k =>
    unfold stepI at hs
    cases st with
    | nil => cases hs
    | cons v r =>
      simp only [s1n, s1] at hs
      obtain ⟨-, hs⟩ := if_ok hs
      cases r with
      | nil => cases hs
      | cons w r =>
        simp only at hs
        obtain ⟨-, hs⟩ := if_ok hs
        unfold brr at hs
        injection hs with hs
        injection hs with hs
        injection hs with hs
        injection hs with hs
        injection hs with h1 h2
        exact Or.inl ⟨_, _, _, _, _, h1.symm⟩
  case tableswitch d lo hi offs =>
    unfold stepI at hs
    cases st with
    | nil => cases hs
    | cons v r =>
      simp only [s1n, s1] at hs
      obtain ⟨-, hs⟩ := if_ok hs
      obtain ⟨-, hs⟩ := if_ok hs
      injection hs with hs
      injection hs with hs
      injection hs with hs
      injection hs with hs
      injection hs with h1 h2
      refine Or.inr ⟨v, fun q hq => ?_⟩
      rw [← h1] at hq
      rcases List.mem_cons.mp hq with rfl | hq
      · exact ⟨rfl, _, rfl⟩
      · rcases List.mem_cons.mp hq with rfl | hq
        · exact ⟨rfl, _, rfl⟩
        · exact sw_alts _ _ q hq
  all_goals first | exact absurd (show (0 : Nat) = 1 from hk) (by decide) | exact absurd (show (2 : Nat) = 1 from hk) (by decide) | exact absurd (show (3 : Nat) = 1 from hk) (by decide) | exact absurd (show (4 : Nat) = 1 from hk) (by decide)
/-- a run without the script is a run with any -/
theorem run_ext {iv : List (Int × Int)} {L : Nat} (h6 : 6 ≤ iv.length) (hI : ∀ j, j < 6 → ∃ a, iv[j]? = some (a, a)) : ∀ (f d M pc : Nat) (ls : ML) (st : List Value) (h : MH) (k n : Nat) (r : Option Value × MH × Nat × Nat), mrun iv6 mGn f d M pc ls st h k n = some r → mrun iv (mG L (fun _ => 0)) f d M pc ls st h k n = some r := by
  intro f
  induction f with
  | zero => intro d M pc ls st h k n r hr; rw [mrun_0] at hr; cases hr
  | succ f ih =>
    intro d M pc ls st h k n r hr
    rw [mrun_s] at hr ⊢
    cases hst : mstep iv6 mGn M pc ls st h with
    | none => rw [hst] at hr; cases hr
    | some z =>
      have hst2 : mstep iv (mG L (fun _ => 0)) M pc ls st h = some z ∧ ∀ alts ls' st', z = .inr (.inr (.inr (alts, ls', st'))) → altS alts := by
        unfold mstep at hst ⊢
        have e0 : (mG L (fun _ => 0)).1 M pc = mGn.1 M pc := rfl
        rw [e0]
        cases e : mGn.1 M pc with
        | none => rw [e] at hst; cases hst
        | some q =>
          obtain ⟨i, nx, x, y⟩ := q
          rw [e] at hst
          exact ⟨step_ext h6 hst, fun alts ls' st' hz => by
            have hst : stepI iv6 mGn M pc i nx x y ls st h = some z := hst
            rw [hz] at hst
            exact step_alts (kd_br hst) hst⟩
      rw [hst] at hr
      rw [hst2.1]
      rcases z with ⟨pc', ls', st', h1, dk, dn⟩ | ⟨y, as, r1, pc'⟩ | w | ⟨alts, ls', st'⟩
      · exact ih _ _ _ _ _ _ _ _ _ hr
      · obtain ⟨hc, hr⟩ := if_ok hr
        have hc : (decide (mwid r1 ≤ 8) && (decide (mwid as ≤ (mG L (fun _ => 0)).2.1 y) && decide ((mG L (fun _ => 0)).2.1 y ≤ 21))) = true := hc
        simp only [if_pos hc]
        cases d with
        | zero => cases hr
        | succ d =>
          simp only at hr ⊢
          cases hcal : mrun iv6 mGn f d y 0 (ment 0 as) [] h 0 0 with
          | none => rw [hcal] at hr; cases hr
          | some q =>
            rw [hcal] at hr
            rw [ih d _ _ _ _ _ _ _ _ hcal]
            obtain ⟨v1, h1, k1, n1⟩ := q
            exact ih _ _ _ _ _ _ _ _ _ hr
      · exact hr
      · simp only at hr ⊢
        cases hfind : alts.find? (fun q => ent iv6 q.1) with
        | none => rw [hfind] at hr; cases hr
        | some q =>
          rw [hfind] at hr
          rw [find_ext hI (hst2.2 _ _ _ rfl) hfind]
          exact ih _ _ _ _ _ _ _ _ _ hr

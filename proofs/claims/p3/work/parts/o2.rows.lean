/-! The rows of the law, its loop. Printed by wip/gen2/lawgen.py. -/
section
variable {L m : Nat} {xs : Nat → Int32} {S : CS} {i : Int} {Q : Option VV → CS → Prop}
/-- kind -/
theorem lc_0 (hI : LI m S) (hm : (m : Int) < 512) (hi : 0 ≤ i) (hL : i + 3 < L) (h20 : L ≤ 2048) (hK : ∀ S, LI (m + 1) S → wp (ivS L xs) L RpK csK 413 255 1192 [lr 0, lr 64, lr 307, li i] [] S Q) : wp (ivS L xs) L RpK csK 413 255 200 [lr 0, lr 64, lr 307, li i] [] S Q := by
  obtain ⟨H, k, n0⟩ := S
  have b1 : 0 ≤ i + 1 ∧ i + 1 < (L : Int) := by omega
  have r1 : inR (i + 1) := by unfold inR; omega
  have b2 : 0 ≤ i + 2 ∧ i + 2 < (L : Int) := by omega
  have r2 : inR (i + 2) := by unfold inR; omega
  have b3 : 0 ≤ i + 3 ∧ i + 3 < (L : Int) := by omega
  have r3 : inR (i + 3) := by unfold inR; omega
  obtain ⟨⟨fx, gx⟩, v, v', f, k1, n1, h1, ⟨z, rfl, rfl⟩, ⟨oM, oX⟩, rx, ⟨fm, gm⟩, f2, h2, rm, hI'⟩ := two_i (iv := ivS L xs) (L := L) (M := 68) (X := 2) (asM := [vr 307, vi (b01 (xs (i + 1).toNat).toInt), vi (xs (i + 2).toNat).toInt, vi (xs (i + 3).toNat).toInt]) (asX := [vr 64, vi (b01 (xs (i + 1).toNat).toInt), vi (xs (i + 2).toNat).toInt, vi (xs (i + 3).toNat).toInt]) hI (fun s c hp h0 => ps_kind hp (by decide) (by decide)) (okS_c trivial (okS_ci (b01_in _) (okS_ci (i32_ok _).2 (okS_ci (i32_ok _).2 okS_n)))) (okS_c trivial (okS_ci (b01_in _) (okS_ci (i32_ok _).2 (okS_ci (i32_ok _).2 okS_n))))
  refine w_aload_n rfl rfl ?_
  refine w_aload_n rfl rfl ?_
  refine w_iload_n rfl rfl ?_
  refine w_iconst rfl rfl ?_
  refine w_iadd rfl r1 ?_
  refine w_scr rfl b1 ?_
  refine w_bool rfl rfl rfl rfl ?_
  refine w_aload_n rfl rfl ?_
  refine w_iload_n rfl rfl ?_
  refine w_iconst rfl rfl ?_
  refine w_iadd rfl r2 ?_
  refine w_scr rfl b2 ?_
  refine w_aload_n rfl rfl ?_
  refine w_iload_n rfl rfl ?_
  refine w_iconst rfl rfl ?_
  refine w_iadd rfl r3 ?_
  refine w_scr rfl b3 ?_
  refine law_virt (p := 64) (as := [vi (b01 (xs (i + 1).toNat).toInt), vi (xs (i + 2).toNat).toInt, vi (xs (i + 3).toNat).toInt]) (r := []) rfl rfl rfl rfl (by decide) gx rfl rfl rx (fun _ e => by cases e; exact oX) ?_
  show wp (ivS L xs) L RpK csK 413 255 227 [lr 0, lr 64, lr 307, li i] [vi z] (h1, k + k1, n0 + n1) Q
  refine w_pop rfl rfl ?_
  refine w_aload_n rfl rfl ?_
  refine w_aload_n rfl rfl ?_
  refine w_iload_n rfl rfl ?_
  refine w_iconst rfl rfl ?_
  refine w_iadd rfl r1 ?_
  refine w_scr rfl b1 ?_
  refine w_bool rfl rfl rfl rfl ?_
  refine w_aload_n rfl rfl ?_
  refine w_iload_n rfl rfl ?_
  refine w_iconst rfl rfl ?_
  refine w_iadd rfl r2 ?_
  refine w_scr rfl b2 ?_
  refine w_aload_n rfl rfl ?_
  refine w_iload_n rfl rfl ?_
  refine w_iconst rfl rfl ?_
  refine w_iadd rfl r3 ?_
  refine w_scr rfl b3 ?_
  refine law_virt (p := 307) (as := [vi (b01 (xs (i + 1).toNat).toInt), vi (xs (i + 2).toNat).toInt, vi (xs (i + 3).toNat).toInt]) (r := []) rfl rfl rfl rfl (by decide) gm rfl rfl rm (fun _ e => by cases e; exact oM) ?_
  show wp (ivS L xs) L RpK csK 413 255 255 [lr 0, lr 64, lr 307, li i] [vi z] (h2, k + k1 + 0, n0 + n1 + 0) Q
  refine w_pop rfl rfl ?_
  refine w_goto rfl ?_
  exact hK _ hI'
/-- kindOf -/
theorem lc_1 (hI : LI m S) (hm : (m : Int) < 512) (hi : 0 ≤ i) (hL : i + 3 < L) (h20 : L ≤ 2048) (hK : ∀ S, LI (m + 1) S → wp (ivS L xs) L RpK csK 413 255 1192 [lr 0, lr 64, lr 307, li i] [] S Q) : wp (ivS L xs) L RpK csK 413 255 259 [lr 0, lr 64, lr 307, li i] [] S Q := by
  obtain ⟨H, k, n0⟩ := S
  have b1 : 0 ≤ i + 1 ∧ i + 1 < (L : Int) := by omega
  have r1 : inR (i + 1) := by unfold inR; omega
  have b2 : 0 ≤ i + 2 ∧ i + 2 < (L : Int) := by omega
  have r2 : inR (i + 2) := by unfold inR; omega
  obtain ⟨⟨fx, gx⟩, v, v', f, k1, n1, h1, ⟨z, rfl, rfl⟩, ⟨oM, oX⟩, rx, ⟨fm, gm⟩, f2, h2, rm, hI'⟩ := two_i (iv := ivS L xs) (L := L) (M := 69) (X := 3) (asM := [vr 307, vi (xs (i + 1).toNat).toInt, vi (xs (i + 2).toNat).toInt]) (asX := [vr 64, vi (xs (i + 1).toNat).toInt, vi (xs (i + 2).toNat).toInt]) hI (fun s c hp h0 => ps_kindOf hp (by decide) (by decide)) (okS_c trivial (okS_ci (i32_ok _).2 (okS_ci (i32_ok _).2 okS_n))) (okS_c trivial (okS_ci (i32_ok _).2 (okS_ci (i32_ok _).2 okS_n)))
  refine w_aload_n rfl rfl ?_
  refine w_aload_n rfl rfl ?_
  refine w_iload_n rfl rfl ?_
  refine w_iconst rfl rfl ?_
  refine w_iadd rfl r1 ?_
  refine w_scr rfl b1 ?_
  refine w_aload_n rfl rfl ?_
  refine w_iload_n rfl rfl ?_
  refine w_iconst rfl rfl ?_
  refine w_iadd rfl r2 ?_
  refine w_scr rfl b2 ?_
  refine law_virt (p := 64) (as := [vi (xs (i + 1).toNat).toInt, vi (xs (i + 2).toNat).toInt]) (r := []) rfl rfl rfl rfl (by decide) gx rfl rfl rx (fun _ e => by cases e; exact oX) ?_
  show wp (ivS L xs) L RpK csK 413 255 273 [lr 0, lr 64, lr 307, li i] [vi z] (h1, k + k1, n0 + n1) Q
  refine w_aload_n rfl rfl ?_
  refine w_aload_n rfl rfl ?_
  refine w_iload_n rfl rfl ?_
  refine w_iconst rfl rfl ?_
  refine w_iadd rfl r1 ?_
  refine w_scr rfl b1 ?_
  refine w_aload_n rfl rfl ?_
  refine w_iload_n rfl rfl ?_
  refine w_iconst rfl rfl ?_
  refine w_iadd rfl r2 ?_
  refine w_scr rfl b2 ?_
  refine law_virt (p := 307) (as := [vi (xs (i + 1).toNat).toInt, vi (xs (i + 2).toNat).toInt]) (r := [vi z]) rfl rfl rfl rfl (by decide) gm rfl rfl rm (fun _ e => by cases e; exact oM) ?_
  show wp (ivS L xs) L RpK csK 413 255 287 [lr 0, lr 64, lr 307, li i] [vi z, vi z] (h2, k + k1 + 0, n0 + n1 + 0) Q
  refine w_icmp_eq rfl (fun _ => ?_) (fun h => absurd rfl h)
  exact hK _ hI'
/-- meet -/
theorem lc_2 (hI : LI m S) (hm : (m : Int) < 512) (hi : 0 ≤ i) (hL : i + 3 < L) (h20 : L ≤ 2048) (hK : ∀ S, LI (m + 1) S → wp (ivS L xs) L RpK csK 413 255 1192 [lr 0, lr 64, lr 307, li i] [] S Q) : wp (ivS L xs) L RpK csK 413 255 292 [lr 0, lr 64, lr 307, li i] [] S Q := by
  obtain ⟨H, k, n0⟩ := S
  have b1 : 0 ≤ i + 1 ∧ i + 1 < (L : Int) := by omega
  have r1 : inR (i + 1) := by unfold inR; omega
  have b2 : 0 ≤ i + 2 ∧ i + 2 < (L : Int) := by omega
  have r2 : inR (i + 2) := by unfold inR; omega
  obtain ⟨⟨fx, gx⟩, v, v', f, k1, n1, h1, ⟨z, rfl, rfl⟩, ⟨oM, oX⟩, rx, ⟨fm, gm⟩, f2, h2, rm, hI'⟩ := two_i (iv := ivS L xs) (L := L) (M := 72) (X := 4) (asM := [vr 307, vi (xs (i + 1).toNat).toInt, vi (xs (i + 2).toNat).toInt]) (asX := [vr 64, vi (xs (i + 1).toNat).toInt, vi (xs (i + 2).toNat).toInt]) hI (fun s c hp h0 => ps_meet hp (by decide) (by decide)) (okS_c trivial (okS_ci (i32_ok _).2 (okS_ci (i32_ok _).2 okS_n))) (okS_c trivial (okS_ci (i32_ok _).2 (okS_ci (i32_ok _).2 okS_n)))
  refine w_aload_n rfl rfl ?_
  refine w_aload_n rfl rfl ?_
  refine w_iload_n rfl rfl ?_
  refine w_iconst rfl rfl ?_
  refine w_iadd rfl r1 ?_
  refine w_scr rfl b1 ?_
  refine w_aload_n rfl rfl ?_
  refine w_iload_n rfl rfl ?_
  refine w_iconst rfl rfl ?_
  refine w_iadd rfl r2 ?_
  refine w_scr rfl b2 ?_
  refine law_virt (p := 64) (as := [vi (xs (i + 1).toNat).toInt, vi (xs (i + 2).toNat).toInt]) (r := []) rfl rfl rfl rfl (by decide) gx rfl rfl rx (fun _ e => by cases e; exact oX) ?_
  show wp (ivS L xs) L RpK csK 413 255 306 [lr 0, lr 64, lr 307, li i] [vi z] (h1, k + k1, n0 + n1) Q
  refine w_pop rfl rfl ?_
  refine w_aload_n rfl rfl ?_
  refine w_aload_n rfl rfl ?_
  refine w_iload_n rfl rfl ?_
  refine w_iconst rfl rfl ?_
  refine w_iadd rfl r1 ?_
  refine w_scr rfl b1 ?_
  refine w_aload_n rfl rfl ?_
  refine w_iload_n rfl rfl ?_
  refine w_iconst rfl rfl ?_
  refine w_iadd rfl r2 ?_
  refine w_scr rfl b2 ?_
  refine law_virt (p := 307) (as := [vi (xs (i + 1).toNat).toInt, vi (xs (i + 2).toNat).toInt]) (r := []) rfl rfl rfl rfl (by decide) gm rfl rfl rm (fun _ e => by cases e; exact oM) ?_
  show wp (ivS L xs) L RpK csK 413 255 321 [lr 0, lr 64, lr 307, li i] [vi z] (h2, k + k1 + 0, n0 + n1 + 0) Q
  refine w_pop rfl rfl ?_
  refine w_goto rfl ?_
  exact hK _ hI'
/-- nodes -/
theorem lc_3 (hI : LI m S) (hm : (m : Int) < 512) (hi : 0 ≤ i) (hL : i + 3 < L) (h20 : L ≤ 2048) (hK : ∀ S, LI (m + 1) S → wp (ivS L xs) L RpK csK 413 255 1192 [lr 0, lr 64, lr 307, li i] [] S Q) : wp (ivS L xs) L RpK csK 413 255 325 [lr 0, lr 64, lr 307, li i] [] S Q := by
  obtain ⟨H, k, n0⟩ := S
  obtain ⟨⟨fx, gx⟩, v, v', f, k1, n1, h1, ⟨z, rfl, rfl⟩, ⟨oM, oX⟩, rx, ⟨fm, gm⟩, f2, h2, rm, hI'⟩ := two_i (iv := ivS L xs) (L := L) (M := 82) (X := 5) (asM := [vr 307]) (asX := [vr 64]) hI (fun s c hp h0 => ps_nodes hp (by decide) (by decide)) (okS_c trivial okS_n) (okS_c trivial okS_n)
  refine w_aload_n rfl rfl ?_
  refine law_virt (p := 64) (as := []) (r := []) rfl rfl rfl rfl (by decide) gx rfl rfl rx (fun _ e => by cases e; exact oX) ?_
  show wp (ivS L xs) L RpK csK 413 255 329 [lr 0, lr 64, lr 307, li i] [vi z] (h1, k + k1, n0 + n1) Q
  refine w_pop rfl rfl ?_
  refine w_aload_n rfl rfl ?_
  refine law_virt (p := 307) (as := []) (r := []) rfl rfl rfl rfl (by decide) gm rfl rfl rm (fun _ e => by cases e; exact oM) ?_
  show wp (ivS L xs) L RpK csK 413 255 334 [lr 0, lr 64, lr 307, li i] [vi z] (h2, k + k1 + 0, n0 + n1 + 0) Q
  refine w_pop rfl rfl ?_
  refine w_goto rfl ?_
  exact hK _ hI'
/-- cursor -/
theorem lc_4 (hI : LI m S) (hm : (m : Int) < 512) (hi : 0 ≤ i) (hL : i + 3 < L) (h20 : L ≤ 2048) (hK : ∀ S, LI (m + 1) S → wp (ivS L xs) L RpK csK 413 255 1192 [lr 0, lr 64, lr 307, li i] [] S Q) : wp (ivS L xs) L RpK csK 413 255 338 [lr 0, lr 64, lr 307, li i] [] S Q := by
  obtain ⟨H, k, n0⟩ := S
  obtain ⟨⟨fx, gx⟩, v, v', f, k1, n1, h1, ⟨z, rfl, rfl⟩, ⟨oM, oX⟩, rx, ⟨fm, gm⟩, f2, h2, rm, hI'⟩ := two_i (iv := ivS L xs) (L := L) (M := 83) (X := 6) (asM := [vr 307]) (asX := [vr 64]) hI (fun s c hp h0 => ps_cursor hp (by decide) (by decide)) (okS_c trivial okS_n) (okS_c trivial okS_n)
  refine w_aload_n rfl rfl ?_
  refine law_virt (p := 64) (as := []) (r := []) rfl rfl rfl rfl (by decide) gx rfl rfl rx (fun _ e => by cases e; exact oX) ?_
  show wp (ivS L xs) L RpK csK 413 255 342 [lr 0, lr 64, lr 307, li i] [vi z] (h1, k + k1, n0 + n1) Q
  refine w_pop rfl rfl ?_
  refine w_aload_n rfl rfl ?_
  refine law_virt (p := 307) (as := []) (r := []) rfl rfl rfl rfl (by decide) gm rfl rfl rm (fun _ e => by cases e; exact oM) ?_
  show wp (ivS L xs) L RpK csK 413 255 347 [lr 0, lr 64, lr 307, li i] [vi z] (h2, k + k1 + 0, n0 + n1 + 0) Q
  refine w_pop rfl rfl ?_
  refine w_goto rfl ?_
  exact hK _ hI'
/-- told -/
theorem lc_5 (hI : LI m S) (hm : (m : Int) < 512) (hi : 0 ≤ i) (hL : i + 3 < L) (h20 : L ≤ 2048) (hK : ∀ S, LI (m + 1) S → wp (ivS L xs) L RpK csK 413 255 1192 [lr 0, lr 64, lr 307, li i] [] S Q) : wp (ivS L xs) L RpK csK 413 255 351 [lr 0, lr 64, lr 307, li i] [] S Q := by
  obtain ⟨H, k, n0⟩ := S
  have b1 : 0 ≤ i + 1 ∧ i + 1 < (L : Int) := by omega
  have r1 : inR (i + 1) := by unfold inR; omega
  have b2 : 0 ≤ i + 2 ∧ i + 2 < (L : Int) := by omega
  have r2 : inR (i + 2) := by unfold inR; omega
  obtain ⟨⟨fx, gx⟩, v, v', f, k1, n1, h1, ⟨z, rfl, rfl⟩, ⟨oM, oX⟩, rx, ⟨fm, gm⟩, f2, h2, rm, hI'⟩ := two_i (iv := ivS L xs) (L := L) (M := 94) (X := 7) (asM := [vr 307, vi (xs (i + 1).toNat).toInt, vi (xs (i + 2).toNat).toInt]) (asX := [vr 64, vi (xs (i + 1).toNat).toInt, vi (xs (i + 2).toNat).toInt]) hI (fun s c hp h0 => ps_told hp (by decide) (by decide)) (okS_c trivial (okS_ci (i32_ok _).2 (okS_ci (i32_ok _).2 okS_n))) (okS_c trivial (okS_ci (i32_ok _).2 (okS_ci (i32_ok _).2 okS_n)))
  refine w_aload_n rfl rfl ?_
  refine w_aload_n rfl rfl ?_
  refine w_iload_n rfl rfl ?_
  refine w_iconst rfl rfl ?_
  refine w_iadd rfl r1 ?_
  refine w_scr rfl b1 ?_
  refine w_aload_n rfl rfl ?_
  refine w_iload_n rfl rfl ?_
  refine w_iconst rfl rfl ?_
  refine w_iadd rfl r2 ?_
  refine w_scr rfl b2 ?_
  refine law_virt (p := 64) (as := [vi (xs (i + 1).toNat).toInt, vi (xs (i + 2).toNat).toInt]) (r := []) rfl rfl rfl rfl (by decide) gx rfl rfl rx (fun _ e => by cases e; exact oX) ?_
  show wp (ivS L xs) L RpK csK 413 255 365 [lr 0, lr 64, lr 307, li i] [vi z] (h1, k + k1, n0 + n1) Q
  refine w_pop rfl rfl ?_
  refine w_aload_n rfl rfl ?_
  refine w_aload_n rfl rfl ?_
  refine w_iload_n rfl rfl ?_
  refine w_iconst rfl rfl ?_
  refine w_iadd rfl r1 ?_
  refine w_scr rfl b1 ?_
  refine w_aload_n rfl rfl ?_
  refine w_iload_n rfl rfl ?_
  refine w_iconst rfl rfl ?_
  refine w_iadd rfl r2 ?_
  refine w_scr rfl b2 ?_
  refine law_virt (p := 307) (as := [vi (xs (i + 1).toNat).toInt, vi (xs (i + 2).toNat).toInt]) (r := []) rfl rfl rfl rfl (by decide) gm rfl rfl rm (fun _ e => by cases e; exact oM) ?_
  show wp (ivS L xs) L RpK csK 413 255 380 [lr 0, lr 64, lr 307, li i] [vi z] (h2, k + k1 + 0, n0 + n1 + 0) Q
  refine w_pop rfl rfl ?_
  refine w_goto rfl ?_
  exact hK _ hI'
/-- part -/
theorem lc_6 (hI : LI m S) (hm : (m : Int) < 512) (hi : 0 ≤ i) (hL : i + 3 < L) (h20 : L ≤ 2048) (hK : ∀ S, LI (m + 1) S → wp (ivS L xs) L RpK csK 413 255 1192 [lr 0, lr 64, lr 307, li i] [] S Q) : wp (ivS L xs) L RpK csK 413 255 384 [lr 0, lr 64, lr 307, li i] [] S Q := by
  obtain ⟨H, k, n0⟩ := S
  have b1 : 0 ≤ i + 1 ∧ i + 1 < (L : Int) := by omega
  have r1 : inR (i + 1) := by unfold inR; omega
  have b2 : 0 ≤ i + 2 ∧ i + 2 < (L : Int) := by omega
  have r2 : inR (i + 2) := by unfold inR; omega
  obtain ⟨⟨fx, gx⟩, v, v', f, k1, n1, h1, ⟨z, rfl, rfl⟩, ⟨oM, oX⟩, rx, ⟨fm, gm⟩, f2, h2, rm, hI'⟩ := two_i (iv := ivS L xs) (L := L) (M := 95) (X := 8) (asM := [vr 307, vi (xs (i + 1).toNat).toInt, vi (xs (i + 2).toNat).toInt]) (asX := [vr 64, vi (xs (i + 1).toNat).toInt, vi (xs (i + 2).toNat).toInt]) hI (fun s c hp h0 => ps_part hp (by omega) (by decide) (by decide)) (okS_c trivial (okS_ci (i32_ok _).2 (okS_ci (i32_ok _).2 okS_n))) (okS_c trivial (okS_ci (i32_ok _).2 (okS_ci (i32_ok _).2 okS_n)))
  refine w_aload_n rfl rfl ?_
  refine w_aload_n rfl rfl ?_
  refine w_iload_n rfl rfl ?_
  refine w_iconst rfl rfl ?_
  refine w_iadd rfl r1 ?_
  refine w_scr rfl b1 ?_
  refine w_aload_n rfl rfl ?_
  refine w_iload_n rfl rfl ?_
  refine w_iconst rfl rfl ?_
  refine w_iadd rfl r2 ?_
  refine w_scr rfl b2 ?_
  refine law_virt (p := 64) (as := [vi (xs (i + 1).toNat).toInt, vi (xs (i + 2).toNat).toInt]) (r := []) rfl rfl rfl rfl (by decide) gx rfl rfl rx (fun _ e => by cases e; exact oX) ?_
  show wp (ivS L xs) L RpK csK 413 255 398 [lr 0, lr 64, lr 307, li i] [vi z] (h1, k + k1, n0 + n1) Q
  refine w_pop rfl rfl ?_
  refine w_aload_n rfl rfl ?_
  refine w_aload_n rfl rfl ?_
  refine w_iload_n rfl rfl ?_
  refine w_iconst rfl rfl ?_
  refine w_iadd rfl r1 ?_
  refine w_scr rfl b1 ?_
  refine w_aload_n rfl rfl ?_
  refine w_iload_n rfl rfl ?_
  refine w_iconst rfl rfl ?_
  refine w_iadd rfl r2 ?_
  refine w_scr rfl b2 ?_
  refine law_virt (p := 307) (as := [vi (xs (i + 1).toNat).toInt, vi (xs (i + 2).toNat).toInt]) (r := []) rfl rfl rfl rfl (by decide) gm rfl rfl rm (fun _ e => by cases e; exact oM) ?_
  show wp (ivS L xs) L RpK csK 413 255 413 [lr 0, lr 64, lr 307, li i] [vi z] (h2, k + k1 + 0, n0 + n1 + 0) Q
  refine w_pop rfl rfl ?_
  refine w_goto rfl ?_
  exact hK _ hI'
/-- sign -/
theorem lc_7 (hI : LI m S) (hm : (m : Int) < 512) (hi : 0 ≤ i) (hL : i + 3 < L) (h20 : L ≤ 2048) (hK : ∀ S, LI (m + 1) S → wp (ivS L xs) L RpK csK 413 255 1192 [lr 0, lr 64, lr 307, li i] [] S Q) : wp (ivS L xs) L RpK csK 413 255 417 [lr 0, lr 64, lr 307, li i] [] S Q := by
  obtain ⟨H, k, n0⟩ := S
  have b1 : 0 ≤ i + 1 ∧ i + 1 < (L : Int) := by omega
  have r1 : inR (i + 1) := by unfold inR; omega
  have b2 : 0 ≤ i + 2 ∧ i + 2 < (L : Int) := by omega
  have r2 : inR (i + 2) := by unfold inR; omega
  have b3 : 0 ≤ i + 3 ∧ i + 3 < (L : Int) := by omega
  have r3 : inR (i + 3) := by unfold inR; omega
  obtain ⟨⟨fx, gx⟩, v, v', f, k1, n1, h1, ⟨z, rfl, rfl⟩, ⟨oM, oX⟩, rx, ⟨fm, gm⟩, f2, h2, rm, hI'⟩ := two_i (iv := ivS L xs) (L := L) (M := 97) (X := 9) (asM := [vr 307, vi (xs (i + 1).toNat).toInt, vi (b01 (xs (i + 2).toNat).toInt), vi (xs (i + 3).toNat).toInt]) (asX := [vr 64, vi (xs (i + 1).toNat).toInt, vi (b01 (xs (i + 2).toNat).toInt), vi (xs (i + 3).toNat).toInt]) hI (fun s c hp h0 => ps_sign hp (by have := (i32_ok (xs (i + 3).toNat)).2.2; exact this) (by decide) (by decide)) (okS_c trivial (okS_ci (i32_ok _).2 (okS_ci (b01_in _) (okS_ci (i32_ok _).2 okS_n)))) (okS_c trivial (okS_ci (i32_ok _).2 (okS_ci (b01_in _) (okS_ci (i32_ok _).2 okS_n))))
  refine w_aload_n rfl rfl ?_
  refine w_aload_n rfl rfl ?_
  refine w_iload_n rfl rfl ?_
  refine w_iconst rfl rfl ?_
  refine w_iadd rfl r1 ?_
  refine w_scr rfl b1 ?_
  refine w_aload_n rfl rfl ?_
  refine w_iload_n rfl rfl ?_
  refine w_iconst rfl rfl ?_
  refine w_iadd rfl r2 ?_
  refine w_scr rfl b2 ?_
  refine w_bool rfl rfl rfl rfl ?_
  refine w_aload_n rfl rfl ?_
  refine w_iload_n rfl rfl ?_
  refine w_iconst rfl rfl ?_
  refine w_iadd rfl r3 ?_
  refine w_scr rfl b3 ?_
  refine law_virt (p := 64) (as := [vi (xs (i + 1).toNat).toInt, vi (b01 (xs (i + 2).toNat).toInt), vi (xs (i + 3).toNat).toInt]) (r := []) rfl rfl rfl rfl (by decide) gx rfl rfl rx (fun _ e => by cases e; exact oX) ?_
  show wp (ivS L xs) L RpK csK 413 255 444 [lr 0, lr 64, lr 307, li i] [vi z] (h1, k + k1, n0 + n1) Q
  refine w_pop rfl rfl ?_
  refine w_aload_n rfl rfl ?_
  refine w_aload_n rfl rfl ?_
  refine w_iload_n rfl rfl ?_
  refine w_iconst rfl rfl ?_
  refine w_iadd rfl r1 ?_
  refine w_scr rfl b1 ?_
  refine w_aload_n rfl rfl ?_
  refine w_iload_n rfl rfl ?_
  refine w_iconst rfl rfl ?_
  refine w_iadd rfl r2 ?_
  refine w_scr rfl b2 ?_
  refine w_bool rfl rfl rfl rfl ?_
  refine w_aload_n rfl rfl ?_
  refine w_iload_n rfl rfl ?_
  refine w_iconst rfl rfl ?_
  refine w_iadd rfl r3 ?_
  refine w_scr rfl b3 ?_
  refine law_virt (p := 307) (as := [vi (xs (i + 1).toNat).toInt, vi (b01 (xs (i + 2).toNat).toInt), vi (xs (i + 3).toNat).toInt]) (r := []) rfl rfl rfl rfl (by decide) gm rfl rfl rm (fun _ e => by cases e; exact oM) ?_
  show wp (ivS L xs) L RpK csK 413 255 472 [lr 0, lr 64, lr 307, li i] [vi z] (h2, k + k1 + 0, n0 + n1 + 0) Q
  refine w_pop rfl rfl ?_
  refine w_goto rfl ?_
  exact hK _ hI'
/-- hole -/
theorem lc_8 (hI : LI m S) (hm : (m : Int) < 512) (hi : 0 ≤ i) (hL : i + 3 < L) (h20 : L ≤ 2048) (hK : ∀ S, LI (m + 1) S → wp (ivS L xs) L RpK csK 413 255 1192 [lr 0, lr 64, lr 307, li i] [] S Q) : wp (ivS L xs) L RpK csK 413 255 476 [lr 0, lr 64, lr 307, li i] [] S Q := by
  obtain ⟨H, k, n0⟩ := S
  have b1 : 0 ≤ i + 1 ∧ i + 1 < (L : Int) := by omega
  have r1 : inR (i + 1) := by unfold inR; omega
  have b2 : 0 ≤ i + 2 ∧ i + 2 < (L : Int) := by omega
  have r2 : inR (i + 2) := by unfold inR; omega
  obtain ⟨⟨fx, gx⟩, v, v', f, k1, n1, h1, ⟨z, rfl, rfl⟩, ⟨oM, oX⟩, rx, ⟨fm, gm⟩, f2, h2, rm, hI'⟩ := two_i (iv := ivS L xs) (L := L) (M := 98) (X := 10) (asM := [vr 307, vi (xs (i + 1).toNat).toInt, vi (b01 (xs (i + 2).toNat).toInt)]) (asX := [vr 64, vi (xs (i + 1).toNat).toInt, vi (b01 (xs (i + 2).toNat).toInt)]) hI (fun s c hp h0 => ps_hole hp (by decide) (by decide)) (okS_c trivial (okS_ci (i32_ok _).2 (okS_ci (b01_in _) okS_n))) (okS_c trivial (okS_ci (i32_ok _).2 (okS_ci (b01_in _) okS_n)))
  refine w_aload_n rfl rfl ?_
  refine w_aload_n rfl rfl ?_
  refine w_iload_n rfl rfl ?_
  refine w_iconst rfl rfl ?_
  refine w_iadd rfl r1 ?_
  refine w_scr rfl b1 ?_
  refine w_aload_n rfl rfl ?_
  refine w_iload_n rfl rfl ?_
  refine w_iconst rfl rfl ?_
  refine w_iadd rfl r2 ?_
  refine w_scr rfl b2 ?_
  refine w_bool rfl rfl rfl rfl ?_
  refine law_virt (p := 64) (as := [vi (xs (i + 1).toNat).toInt, vi (b01 (xs (i + 2).toNat).toInt)]) (r := []) rfl rfl rfl rfl (by decide) gx rfl rfl rx (fun _ e => by cases e; exact oX) ?_
  show wp (ivS L xs) L RpK csK 413 255 498 [lr 0, lr 64, lr 307, li i] [vi z] (h1, k + k1, n0 + n1) Q
  refine w_pop rfl rfl ?_
  refine w_aload_n rfl rfl ?_
  refine w_aload_n rfl rfl ?_
  refine w_iload_n rfl rfl ?_
  refine w_iconst rfl rfl ?_
  refine w_iadd rfl r1 ?_
  refine w_scr rfl b1 ?_
  refine w_aload_n rfl rfl ?_
  refine w_iload_n rfl rfl ?_
  refine w_iconst rfl rfl ?_
  refine w_iadd rfl r2 ?_
  refine w_scr rfl b2 ?_
  refine w_bool rfl rfl rfl rfl ?_
  refine law_virt (p := 307) (as := [vi (xs (i + 1).toNat).toInt, vi (b01 (xs (i + 2).toNat).toInt)]) (r := []) rfl rfl rfl rfl (by decide) gm rfl rfl rm (fun _ e => by cases e; exact oM) ?_
  show wp (ivS L xs) L RpK csK 413 255 521 [lr 0, lr 64, lr 307, li i] [vi z] (h2, k + k1 + 0, n0 + n1 + 0) Q
  refine w_pop rfl rfl ?_
  refine w_goto rfl ?_
  exact hK _ hI'
/-- go -/
theorem lc_9 (hI : LI m S) (hm : (m : Int) < 512) (hi : 0 ≤ i) (hL : i + 3 < L) (h20 : L ≤ 2048) (hK : ∀ S, LI (m + 1) S → wp (ivS L xs) L RpK csK 413 255 1192 [lr 0, lr 64, lr 307, li i] [] S Q) : wp (ivS L xs) L RpK csK 413 255 525 [lr 0, lr 64, lr 307, li i] [] S Q := by
  obtain ⟨H, k, n0⟩ := S
  have b1 : 0 ≤ i + 1 ∧ i + 1 < (L : Int) := by omega
  have r1 : inR (i + 1) := by unfold inR; omega
  obtain ⟨⟨fx, gx⟩, v, v', f, k1, n1, h1, ⟨z, rfl, rfl⟩, ⟨oM, oX⟩, rx, ⟨fm, gm⟩, f2, h2, rm, hI'⟩ := two_i (iv := ivS L xs) (L := L) (M := 105) (X := 11) (asM := [vr 307, vi (xs (i + 1).toNat).toInt]) (asX := [vr 64, vi (xs (i + 1).toNat).toInt]) hI (fun s c hp h0 => ps_go hp (by decide) (by decide)) (okS_c trivial (okS_ci (i32_ok _).2 okS_n)) (okS_c trivial (okS_ci (i32_ok _).2 okS_n))
  refine w_aload_n rfl rfl ?_
  refine w_aload_n rfl rfl ?_
  refine w_iload_n rfl rfl ?_
  refine w_iconst rfl rfl ?_
  refine w_iadd rfl r1 ?_
  refine w_scr rfl b1 ?_
  refine law_virt (p := 64) (as := [vi (xs (i + 1).toNat).toInt]) (r := []) rfl rfl rfl rfl (by decide) gx rfl rfl rx (fun _ e => by cases e; exact oX) ?_
  show wp (ivS L xs) L RpK csK 413 255 534 [lr 0, lr 64, lr 307, li i] [vi z] (h1, k + k1, n0 + n1) Q
  refine w_pop rfl rfl ?_
  refine w_aload_n rfl rfl ?_
  refine w_aload_n rfl rfl ?_
  refine w_iload_n rfl rfl ?_
  refine w_iconst rfl rfl ?_
  refine w_iadd rfl r1 ?_
  refine w_scr rfl b1 ?_
  refine law_virt (p := 307) (as := [vi (xs (i + 1).toNat).toInt]) (r := []) rfl rfl rfl rfl (by decide) gm rfl rfl rm (fun _ e => by cases e; exact oM) ?_
  show wp (ivS L xs) L RpK csK 413 255 544 [lr 0, lr 64, lr 307, li i] [vi z] (h2, k + k1 + 0, n0 + n1 + 0) Q
  refine w_pop rfl rfl ?_
  refine w_goto rfl ?_
  exact hK _ hI'
/-- seek -/
theorem lc_10 (hI : LI m S) (hm : (m : Int) < 512) (hi : 0 ≤ i) (hL : i + 3 < L) (h20 : L ≤ 2048) (hK : ∀ S, LI (m + 1) S → wp (ivS L xs) L RpK csK 413 255 1192 [lr 0, lr 64, lr 307, li i] [] S Q) : wp (ivS L xs) L RpK csK 413 255 548 [lr 0, lr 64, lr 307, li i] [] S Q := by
  obtain ⟨H, k, n0⟩ := S
  have b1 : 0 ≤ i + 1 ∧ i + 1 < (L : Int) := by omega
  have r1 : inR (i + 1) := by unfold inR; omega
  obtain ⟨⟨fx, gx⟩, v, v', f, k1, n1, h1, ⟨z, rfl, rfl⟩, ⟨oM, oX⟩, rx, ⟨fm, gm⟩, f2, h2, rm, hI'⟩ := two_i (iv := ivS L xs) (L := L) (M := 106) (X := 12) (asM := [vr 307, vi (xs (i + 1).toNat).toInt]) (asX := [vr 64, vi (xs (i + 1).toNat).toInt]) hI (fun s c hp h0 => ps_seek hp (by decide) (by decide)) (okS_c trivial (okS_ci (i32_ok _).2 okS_n)) (okS_c trivial (okS_ci (i32_ok _).2 okS_n))
  refine w_aload_n rfl rfl ?_
  refine w_aload_n rfl rfl ?_
  refine w_iload_n rfl rfl ?_
  refine w_iconst rfl rfl ?_
  refine w_iadd rfl r1 ?_
  refine w_scr rfl b1 ?_
  refine law_virt (p := 64) (as := [vi (xs (i + 1).toNat).toInt]) (r := []) rfl rfl rfl rfl (by decide) gx rfl rfl rx (fun _ e => by cases e; exact oX) ?_
  show wp (ivS L xs) L RpK csK 413 255 557 [lr 0, lr 64, lr 307, li i] [vi z] (h1, k + k1, n0 + n1) Q
  refine w_pop rfl rfl ?_
  refine w_aload_n rfl rfl ?_
  refine w_aload_n rfl rfl ?_
  refine w_iload_n rfl rfl ?_
  refine w_iconst rfl rfl ?_
  refine w_iadd rfl r1 ?_
  refine w_scr rfl b1 ?_
  refine law_virt (p := 307) (as := [vi (xs (i + 1).toNat).toInt]) (r := []) rfl rfl rfl rfl (by decide) gm rfl rfl rm (fun _ e => by cases e; exact oM) ?_
  show wp (ivS L xs) L RpK csK 413 255 567 [lr 0, lr 64, lr 307, li i] [vi z] (h2, k + k1 + 0, n0 + n1 + 0) Q
  refine w_pop rfl rfl ?_
  refine w_goto rfl ?_
  exact hK _ hI'
/-- put -/
theorem lc_11 (hI : LI m S) (hm : (m : Int) < 512) (hi : 0 ≤ i) (hL : i + 3 < L) (h20 : L ≤ 2048) (hK : ∀ S, LI (m + 1) S → wp (ivS L xs) L RpK csK 413 255 1192 [lr 0, lr 64, lr 307, li i] [] S Q) : wp (ivS L xs) L RpK csK 413 255 571 [lr 0, lr 64, lr 307, li i] [] S Q := by
  obtain ⟨H, k, n0⟩ := S
  have b1 : 0 ≤ i + 1 ∧ i + 1 < (L : Int) := by omega
  have r1 : inR (i + 1) := by unfold inR; omega
  have b2 : 0 ≤ i + 2 ∧ i + 2 < (L : Int) := by omega
  have r2 : inR (i + 2) := by unfold inR; omega
  have b3 : 0 ≤ i + 3 ∧ i + 3 < (L : Int) := by omega
  have r3 : inR (i + 3) := by unfold inR; omega
  obtain ⟨⟨fx, gx⟩, v, v', f, k1, n1, h1, ⟨z, rfl, rfl⟩, ⟨oM, oX⟩, rx, ⟨fm, gm⟩, f2, h2, rm, hI'⟩ := two_i (iv := ivS L xs) (L := L) (M := 107) (X := 13) (asM := [vr 307, vi (xs (i + 1).toNat).toInt, vi (xs (i + 2).toNat).toInt, vi (xs (i + 3).toNat).toInt]) (asX := [vr 64, vi (xs (i + 1).toNat).toInt, vi (xs (i + 2).toNat).toInt, vi (xs (i + 3).toNat).toInt]) hI (fun s c hp h0 => ps_put hp (by decide) (by decide)) (okS_c trivial (okS_ci (i32_ok _).2 (okS_ci (i32_ok _).2 (okS_ci (i32_ok _).2 okS_n)))) (okS_c trivial (okS_ci (i32_ok _).2 (okS_ci (i32_ok _).2 (okS_ci (i32_ok _).2 okS_n))))
  refine w_aload_n rfl rfl ?_
  refine w_aload_n rfl rfl ?_
  refine w_iload_n rfl rfl ?_
  refine w_iconst rfl rfl ?_
  refine w_iadd rfl r1 ?_
  refine w_scr rfl b1 ?_
  refine w_aload_n rfl rfl ?_
  refine w_iload_n rfl rfl ?_
  refine w_iconst rfl rfl ?_
  refine w_iadd rfl r2 ?_
  refine w_scr rfl b2 ?_
  refine w_aload_n rfl rfl ?_
  refine w_iload_n rfl rfl ?_
  refine w_iconst rfl rfl ?_
  refine w_iadd rfl r3 ?_
  refine w_scr rfl b3 ?_
  refine law_virt (p := 64) (as := [vi (xs (i + 1).toNat).toInt, vi (xs (i + 2).toNat).toInt, vi (xs (i + 3).toNat).toInt]) (r := []) rfl rfl rfl rfl (by decide) gx rfl rfl rx (fun _ e => by cases e; exact oX) ?_
  show wp (ivS L xs) L RpK csK 413 255 590 [lr 0, lr 64, lr 307, li i] [vi z] (h1, k + k1, n0 + n1) Q
  refine w_pop rfl rfl ?_
  refine w_aload_n rfl rfl ?_
  refine w_aload_n rfl rfl ?_
  refine w_iload_n rfl rfl ?_
  refine w_iconst rfl rfl ?_
  refine w_iadd rfl r1 ?_
  refine w_scr rfl b1 ?_
  refine w_aload_n rfl rfl ?_
  refine w_iload_n rfl rfl ?_
  refine w_iconst rfl rfl ?_
  refine w_iadd rfl r2 ?_
  refine w_scr rfl b2 ?_
  refine w_aload_n rfl rfl ?_
  refine w_iload_n rfl rfl ?_
  refine w_iconst rfl rfl ?_
  refine w_iadd rfl r3 ?_
  refine w_scr rfl b3 ?_
  refine law_virt (p := 307) (as := [vi (xs (i + 1).toNat).toInt, vi (xs (i + 2).toNat).toInt, vi (xs (i + 3).toNat).toInt]) (r := []) rfl rfl rfl rfl (by decide) gm rfl rfl rm (fun _ e => by cases e; exact oM) ?_
  show wp (ivS L xs) L RpK csK 413 255 610 [lr 0, lr 64, lr 307, li i] [vi z] (h2, k + k1 + 0, n0 + n1 + 0) Q
  refine w_pop rfl rfl ?_
  refine w_goto rfl ?_
  exact hK _ hI'
/-- take -/
theorem lc_12 (hI : LI m S) (hm : (m : Int) < 512) (hi : 0 ≤ i) (hL : i + 3 < L) (h20 : L ≤ 2048) (hK : ∀ S, LI (m + 1) S → wp (ivS L xs) L RpK csK 413 255 1192 [lr 0, lr 64, lr 307, li i] [] S Q) : wp (ivS L xs) L RpK csK 413 255 614 [lr 0, lr 64, lr 307, li i] [] S Q := by
  obtain ⟨H, k, n0⟩ := S
  obtain ⟨⟨fx, gx⟩, v, v', f, k1, n1, h1, ⟨z, rfl, rfl⟩, ⟨oM, oX⟩, rx, ⟨fm, gm⟩, f2, h2, rm, hI'⟩ := two_i (iv := ivS L xs) (L := L) (M := 108) (X := 14) (asM := [vr 307]) (asX := [vr 64]) hI (fun s c hp h0 => ps_take hp (by decide) (by decide)) (okS_c trivial okS_n) (okS_c trivial okS_n)
  refine w_aload_n rfl rfl ?_
  refine law_virt (p := 64) (as := []) (r := []) rfl rfl rfl rfl (by decide) gx rfl rfl rx (fun _ e => by cases e; exact oX) ?_
  show wp (ivS L xs) L RpK csK 413 255 618 [lr 0, lr 64, lr 307, li i] [vi z] (h1, k + k1, n0 + n1) Q
  refine w_pop rfl rfl ?_
  refine w_aload_n rfl rfl ?_
  refine law_virt (p := 307) (as := []) (r := []) rfl rfl rfl rfl (by decide) gm rfl rfl rm (fun _ e => by cases e; exact oM) ?_
  show wp (ivS L xs) L RpK csK 413 255 623 [lr 0, lr 64, lr 307, li i] [vi z] (h2, k + k1 + 0, n0 + n1 + 0) Q
  refine w_pop rfl rfl ?_
  refine w_goto rfl ?_
  exact hK _ hI'
/-- unwrap -/
theorem lc_13 (hI : LI m S) (hm : (m : Int) < 512) (hi : 0 ≤ i) (hL : i + 3 < L) (h20 : L ≤ 2048) (hK : ∀ S, LI (m + 1) S → wp (ivS L xs) L RpK csK 413 255 1192 [lr 0, lr 64, lr 307, li i] [] S Q) : wp (ivS L xs) L RpK csK 413 255 627 [lr 0, lr 64, lr 307, li i] [] S Q := by
  obtain ⟨H, k, n0⟩ := S
  have b1 : 0 ≤ i + 1 ∧ i + 1 < (L : Int) := by omega
  have r1 : inR (i + 1) := by unfold inR; omega
  obtain ⟨⟨fx, gx⟩, v, v', f, k1, n1, h1, ⟨z, rfl, rfl⟩, ⟨oM, oX⟩, rx, ⟨fm, gm⟩, f2, h2, rm, hI'⟩ := two_i (iv := ivS L xs) (L := L) (M := 109) (X := 15) (asM := [vr 307, vi (xs (i + 1).toNat).toInt]) (asX := [vr 64, vi (xs (i + 1).toNat).toInt]) hI (fun s c hp h0 => ps_unwrap hp (by omega) (by decide) (by decide)) (okS_c trivial (okS_ci (i32_ok _).2 okS_n)) (okS_c trivial (okS_ci (i32_ok _).2 okS_n))
  refine w_aload_n rfl rfl ?_
  refine w_aload_n rfl rfl ?_
  refine w_iload_n rfl rfl ?_
  refine w_iconst rfl rfl ?_
  refine w_iadd rfl r1 ?_
  refine w_scr rfl b1 ?_
  refine law_virt (p := 64) (as := [vi (xs (i + 1).toNat).toInt]) (r := []) rfl rfl rfl rfl (by decide) gx rfl rfl rx (fun _ e => by cases e; exact oX) ?_
  show wp (ivS L xs) L RpK csK 413 255 636 [lr 0, lr 64, lr 307, li i] [vi z] (h1, k + k1, n0 + n1) Q
  refine w_pop rfl rfl ?_
  refine w_aload_n rfl rfl ?_
  refine w_aload_n rfl rfl ?_
  refine w_iload_n rfl rfl ?_
  refine w_iconst rfl rfl ?_
  refine w_iadd rfl r1 ?_
  refine w_scr rfl b1 ?_
  refine law_virt (p := 307) (as := [vi (xs (i + 1).toNat).toInt]) (r := []) rfl rfl rfl rfl (by decide) gm rfl rfl rm (fun _ e => by cases e; exact oM) ?_
  show wp (ivS L xs) L RpK csK 413 255 646 [lr 0, lr 64, lr 307, li i] [vi z] (h2, k + k1 + 0, n0 + n1 + 0) Q
  refine w_pop rfl rfl ?_
  refine w_goto rfl ?_
  exact hK _ hI'
/-- write -/
theorem lc_14 (hI : LI m S) (hm : (m : Int) < 512) (hi : 0 ≤ i) (hL : i + 3 < L) (h20 : L ≤ 2048) (hK : ∀ S, LI (m + 1) S → wp (ivS L xs) L RpK csK 413 255 1192 [lr 0, lr 64, lr 307, li i] [] S Q) : wp (ivS L xs) L RpK csK 413 255 650 [lr 0, lr 64, lr 307, li i] [] S Q := by
  obtain ⟨H, k, n0⟩ := S
  have b1 : 0 ≤ i + 1 ∧ i + 1 < (L : Int) := by omega
  have r1 : inR (i + 1) := by unfold inR; omega
  obtain ⟨⟨fx, gx⟩, v, v', f, k1, n1, h1, ⟨z, rfl, rfl⟩, ⟨oM, oX⟩, rx, ⟨fm, gm⟩, f2, h2, rm, hI'⟩ := two_i (iv := ivS L xs) (L := L) (M := 110) (X := 16) (asM := [vr 307, vi (xs (i + 1).toNat).toInt]) (asX := [vr 64, vi (xs (i + 1).toNat).toInt]) hI (fun s c hp h0 => ps_write hp (by decide) (by decide)) (okS_c trivial (okS_ci (i32_ok _).2 okS_n)) (okS_c trivial (okS_ci (i32_ok _).2 okS_n))
  refine w_aload_n rfl rfl ?_
  refine w_aload_n rfl rfl ?_
  refine w_iload_n rfl rfl ?_
  refine w_iconst rfl rfl ?_
  refine w_iadd rfl r1 ?_
  refine w_scr rfl b1 ?_
  refine law_virt (p := 64) (as := [vi (xs (i + 1).toNat).toInt]) (r := []) rfl rfl rfl rfl (by decide) gx rfl rfl rx (fun _ e => by cases e; exact oX) ?_
  show wp (ivS L xs) L RpK csK 413 255 659 [lr 0, lr 64, lr 307, li i] [vi z] (h1, k + k1, n0 + n1) Q
  refine w_pop rfl rfl ?_
  refine w_aload_n rfl rfl ?_
  refine w_aload_n rfl rfl ?_
  refine w_iload_n rfl rfl ?_
  refine w_iconst rfl rfl ?_
  refine w_iadd rfl r1 ?_
  refine w_scr rfl b1 ?_
  refine law_virt (p := 307) (as := [vi (xs (i + 1).toNat).toInt]) (r := []) rfl rfl rfl rfl (by decide) gm rfl rfl rm (fun _ e => by cases e; exact oM) ?_
  show wp (ivS L xs) L RpK csK 413 255 669 [lr 0, lr 64, lr 307, li i] [vi z] (h2, k + k1 + 0, n0 + n1 + 0) Q
  refine w_pop rfl rfl ?_
  refine w_goto rfl ?_
  exact hK _ hI'
/-- rename -/
theorem lc_15 (hI : LI m S) (hm : (m : Int) < 512) (hi : 0 ≤ i) (hL : i + 3 < L) (h20 : L ≤ 2048) (hK : ∀ S, LI (m + 1) S → wp (ivS L xs) L RpK csK 413 255 1192 [lr 0, lr 64, lr 307, li i] [] S Q) : wp (ivS L xs) L RpK csK 413 255 673 [lr 0, lr 64, lr 307, li i] [] S Q := by
  obtain ⟨H, k, n0⟩ := S
  have b1 : 0 ≤ i + 1 ∧ i + 1 < (L : Int) := by omega
  have r1 : inR (i + 1) := by unfold inR; omega
  obtain ⟨⟨fx, gx⟩, v, v', f, k1, n1, h1, ⟨z, rfl, rfl⟩, ⟨oM, oX⟩, rx, ⟨fm, gm⟩, f2, h2, rm, hI'⟩ := two_i (iv := ivS L xs) (L := L) (M := 111) (X := 17) (asM := [vr 307, vi (xs (i + 1).toNat).toInt]) (asX := [vr 64, vi (xs (i + 1).toNat).toInt]) hI (fun s c hp h0 => ps_rename hp (by decide) (by decide)) (okS_c trivial (okS_ci (i32_ok _).2 okS_n)) (okS_c trivial (okS_ci (i32_ok _).2 okS_n))
  refine w_aload_n rfl rfl ?_
  refine w_aload_n rfl rfl ?_
  refine w_iload_n rfl rfl ?_
  refine w_iconst rfl rfl ?_
  refine w_iadd rfl r1 ?_
  refine w_scr rfl b1 ?_
  refine law_virt (p := 64) (as := [vi (xs (i + 1).toNat).toInt]) (r := []) rfl rfl rfl rfl (by decide) gx rfl rfl rx (fun _ e => by cases e; exact oX) ?_
  show wp (ivS L xs) L RpK csK 413 255 682 [lr 0, lr 64, lr 307, li i] [vi z] (h1, k + k1, n0 + n1) Q
  refine w_pop rfl rfl ?_
  refine w_aload_n rfl rfl ?_
  refine w_aload_n rfl rfl ?_
  refine w_iload_n rfl rfl ?_
  refine w_iconst rfl rfl ?_
  refine w_iadd rfl r1 ?_
  refine w_scr rfl b1 ?_
  refine law_virt (p := 307) (as := [vi (xs (i + 1).toNat).toInt]) (r := []) rfl rfl rfl rfl (by decide) gm rfl rfl rm (fun _ e => by cases e; exact oM) ?_
  show wp (ivS L xs) L RpK csK 413 255 692 [lr 0, lr 64, lr 307, li i] [vi z] (h2, k + k1 + 0, n0 + n1 + 0) Q
  refine w_pop rfl rfl ?_
  refine w_goto rfl ?_
  exact hK _ hI'
/-- move -/
theorem lc_16 (hI : LI m S) (hm : (m : Int) < 512) (hi : 0 ≤ i) (hL : i + 3 < L) (h20 : L ≤ 2048) (hK : ∀ S, LI (m + 1) S → wp (ivS L xs) L RpK csK 413 255 1192 [lr 0, lr 64, lr 307, li i] [] S Q) : wp (ivS L xs) L RpK csK 413 255 696 [lr 0, lr 64, lr 307, li i] [] S Q := by
  obtain ⟨H, k, n0⟩ := S
  have b1 : 0 ≤ i + 1 ∧ i + 1 < (L : Int) := by omega
  have r1 : inR (i + 1) := by unfold inR; omega
  obtain ⟨⟨fx, gx⟩, v, v', f, k1, n1, h1, ⟨z, rfl, rfl⟩, ⟨oM, oX⟩, rx, ⟨fm, gm⟩, f2, h2, rm, hI'⟩ := two_i (iv := ivS L xs) (L := L) (M := 112) (X := 18) (asM := [vr 307, vi (xs (i + 1).toNat).toInt]) (asX := [vr 64, vi (xs (i + 1).toNat).toInt]) hI (fun s c hp h0 => ps_move hp (by decide) (by decide)) (okS_c trivial (okS_ci (i32_ok _).2 okS_n)) (okS_c trivial (okS_ci (i32_ok _).2 okS_n))
  refine w_aload_n rfl rfl ?_
  refine w_aload_n rfl rfl ?_
  refine w_iload_n rfl rfl ?_
  refine w_iconst rfl rfl ?_
  refine w_iadd rfl r1 ?_
  refine w_scr rfl b1 ?_
  refine law_virt (p := 64) (as := [vi (xs (i + 1).toNat).toInt]) (r := []) rfl rfl rfl rfl (by decide) gx rfl rfl rx (fun _ e => by cases e; exact oX) ?_
  show wp (ivS L xs) L RpK csK 413 255 705 [lr 0, lr 64, lr 307, li i] [vi z] (h1, k + k1, n0 + n1) Q
  refine w_pop rfl rfl ?_
  refine w_aload_n rfl rfl ?_
  refine w_aload_n rfl rfl ?_
  refine w_iload_n rfl rfl ?_
  refine w_iconst rfl rfl ?_
  refine w_iadd rfl r1 ?_
  refine w_scr rfl b1 ?_
  refine law_virt (p := 307) (as := [vi (xs (i + 1).toNat).toInt]) (r := []) rfl rfl rfl rfl (by decide) gm rfl rfl rm (fun _ e => by cases e; exact oM) ?_
  show wp (ivS L xs) L RpK csK 413 255 715 [lr 0, lr 64, lr 307, li i] [vi z] (h2, k + k1 + 0, n0 + n1 + 0) Q
  refine w_pop rfl rfl ?_
  refine w_goto rfl ?_
  exact hK _ hI'
/-- shelve -/
theorem lc_17 (hI : LI m S) (hm : (m : Int) < 512) (hi : 0 ≤ i) (hL : i + 3 < L) (h20 : L ≤ 2048) (hK : ∀ S, LI (m + 1) S → wp (ivS L xs) L RpK csK 413 255 1192 [lr 0, lr 64, lr 307, li i] [] S Q) : wp (ivS L xs) L RpK csK 413 255 719 [lr 0, lr 64, lr 307, li i] [] S Q := by
  obtain ⟨H, k, n0⟩ := S
  have b1 : 0 ≤ i + 1 ∧ i + 1 < (L : Int) := by omega
  have r1 : inR (i + 1) := by unfold inR; omega
  obtain ⟨⟨fx, gx⟩, v, v', f, k1, n1, h1, ⟨z, rfl, rfl⟩, ⟨oM, oX⟩, rx, ⟨fm, gm⟩, f2, h2, rm, hI'⟩ := two_i (iv := ivS L xs) (L := L) (M := 113) (X := 19) (asM := [vr 307, vi (xs (i + 1).toNat).toInt]) (asX := [vr 64, vi (xs (i + 1).toNat).toInt]) hI (fun s c hp h0 => ps_shelve hp (by decide) (by decide)) (okS_c trivial (okS_ci (i32_ok _).2 okS_n)) (okS_c trivial (okS_ci (i32_ok _).2 okS_n))
  refine w_aload_n rfl rfl ?_
  refine w_aload_n rfl rfl ?_
  refine w_iload_n rfl rfl ?_
  refine w_iconst rfl rfl ?_
  refine w_iadd rfl r1 ?_
  refine w_scr rfl b1 ?_
  refine law_virt (p := 64) (as := [vi (xs (i + 1).toNat).toInt]) (r := []) rfl rfl rfl rfl (by decide) gx rfl rfl rx (fun _ e => by cases e; exact oX) ?_
  show wp (ivS L xs) L RpK csK 413 255 728 [lr 0, lr 64, lr 307, li i] [vi z] (h1, k + k1, n0 + n1) Q
  refine w_pop rfl rfl ?_
  refine w_aload_n rfl rfl ?_
  refine w_aload_n rfl rfl ?_
  refine w_iload_n rfl rfl ?_
  refine w_iconst rfl rfl ?_
  refine w_iadd rfl r1 ?_
  refine w_scr rfl b1 ?_
  refine law_virt (p := 307) (as := [vi (xs (i + 1).toNat).toInt]) (r := []) rfl rfl rfl rfl (by decide) gm rfl rfl rm (fun _ e => by cases e; exact oM) ?_
  show wp (ivS L xs) L RpK csK 413 255 738 [lr 0, lr 64, lr 307, li i] [vi z] (h2, k + k1 + 0, n0 + n1 + 0) Q
  refine w_pop rfl rfl ?_
  refine w_goto rfl ?_
  exact hK _ hI'
/-- fill -/
theorem lc_18 (hI : LI m S) (hm : (m : Int) < 512) (hi : 0 ≤ i) (hL : i + 3 < L) (h20 : L ≤ 2048) (hK : ∀ S, LI (m + 1) S → wp (ivS L xs) L RpK csK 413 255 1192 [lr 0, lr 64, lr 307, li i] [] S Q) : wp (ivS L xs) L RpK csK 413 255 742 [lr 0, lr 64, lr 307, li i] [] S Q := by
  obtain ⟨H, k, n0⟩ := S
  have b1 : 0 ≤ i + 1 ∧ i + 1 < (L : Int) := by omega
  have r1 : inR (i + 1) := by unfold inR; omega
  obtain ⟨⟨fx, gx⟩, v, v', f, k1, n1, h1, ⟨z, rfl, rfl⟩, ⟨oM, oX⟩, rx, ⟨fm, gm⟩, f2, h2, rm, hI'⟩ := two_i (iv := ivS L xs) (L := L) (M := 115) (X := 20) (asM := [vr 307, vi (xs (i + 1).toNat).toInt]) (asX := [vr 64, vi (xs (i + 1).toNat).toInt]) hI (fun s c hp h0 => ps_fill hp (by omega) (by decide) (by decide)) (okS_c trivial (okS_ci (i32_ok _).2 okS_n)) (okS_c trivial (okS_ci (i32_ok _).2 okS_n))
  refine w_aload_n rfl rfl ?_
  refine w_aload_n rfl rfl ?_
  refine w_iload_n rfl rfl ?_
  refine w_iconst rfl rfl ?_
  refine w_iadd rfl r1 ?_
  refine w_scr rfl b1 ?_
  refine law_virt (p := 64) (as := [vi (xs (i + 1).toNat).toInt]) (r := []) rfl rfl rfl rfl (by decide) gx rfl rfl rx (fun _ e => by cases e; exact oX) ?_
  show wp (ivS L xs) L RpK csK 413 255 751 [lr 0, lr 64, lr 307, li i] [vi z] (h1, k + k1, n0 + n1) Q
  refine w_pop rfl rfl ?_
  refine w_aload_n rfl rfl ?_
  refine w_aload_n rfl rfl ?_
  refine w_iload_n rfl rfl ?_
  refine w_iconst rfl rfl ?_
  refine w_iadd rfl r1 ?_
  refine w_scr rfl b1 ?_
  refine law_virt (p := 307) (as := [vi (xs (i + 1).toNat).toInt]) (r := []) rfl rfl rfl rfl (by decide) gm rfl rfl rm (fun _ e => by cases e; exact oM) ?_
  show wp (ivS L xs) L RpK csK 413 255 761 [lr 0, lr 64, lr 307, li i] [vi z] (h2, k + k1 + 0, n0 + n1 + 0) Q
  refine w_pop rfl rfl ?_
  refine w_goto rfl ?_
  exact hK _ hI'
/-- undo -/
theorem lc_19 (hI : LI m S) (hm : (m : Int) < 512) (hi : 0 ≤ i) (hL : i + 3 < L) (h20 : L ≤ 2048) (hK : ∀ S, LI (m + 1) S → wp (ivS L xs) L RpK csK 413 255 1192 [lr 0, lr 64, lr 307, li i] [] S Q) : wp (ivS L xs) L RpK csK 413 255 765 [lr 0, lr 64, lr 307, li i] [] S Q := by
  obtain ⟨H, k, n0⟩ := S
  obtain ⟨⟨fx, gx⟩, v, v', f, k1, n1, h1, ⟨z, rfl, rfl⟩, ⟨oM, oX⟩, rx, ⟨fm, gm⟩, f2, h2, rm, hI'⟩ := two_i (iv := ivS L xs) (L := L) (M := 101) (X := 21) (asM := [vr 307]) (asX := [vr 64]) hI (fun s c hp h0 => ps_undo (d := 411) hp (by decide) (by decide)) (okS_c trivial okS_n) (okS_c trivial okS_n)
  refine w_aload_n rfl rfl ?_
  refine law_virt (p := 64) (as := []) (r := []) rfl rfl rfl rfl (by decide) gx rfl rfl rx (fun _ e => by cases e; exact oX) ?_
  show wp (ivS L xs) L RpK csK 413 255 769 [lr 0, lr 64, lr 307, li i] [vi z] (h1, k + k1, n0 + n1) Q
  refine w_pop rfl rfl ?_
  refine w_aload_n rfl rfl ?_
  refine law_virt (p := 307) (as := []) (r := []) rfl rfl rfl rfl (by decide) gm rfl rfl rm (fun _ e => by cases e; exact oM) ?_
  show wp (ivS L xs) L RpK csK 413 255 774 [lr 0, lr 64, lr 307, li i] [vi z] (h2, k + k1 + 0, n0 + n1 + 0) Q
  refine w_pop rfl rfl ?_
  refine w_goto rfl ?_
  exact hK _ hI'
/-- offers -/
theorem lc_20 (hI : LI m S) (hm : (m : Int) < 512) (hi : 0 ≤ i) (hL : i + 3 < L) (h20 : L ≤ 2048) (hK : ∀ S, LI (m + 1) S → wp (ivS L xs) L RpK csK 413 255 1192 [lr 0, lr 64, lr 307, li i] [] S Q) : wp (ivS L xs) L RpK csK 413 255 778 [lr 0, lr 64, lr 307, li i] [] S Q := by
  obtain ⟨H, k, n0⟩ := S
  obtain ⟨⟨fx, gx⟩, v, v', f, k1, n1, h1, ⟨z, z', rfl, rfl⟩, ⟨oM, oX⟩, rx, ⟨fm, gm⟩, f2, h2, rm, hI'⟩ := two_a (iv := ivS L xs) (L := L) (M := 119) (X := 22) (asM := [vr 307]) (asX := [vr 64]) hI (fun s c hp h0 => ps_offers hp (by decide) (by decide)) (okS_c trivial okS_n) (okS_c trivial okS_n)
  refine w_aload_n rfl rfl ?_
  refine law_virt (p := 64) (as := []) (r := []) rfl rfl rfl rfl (by decide) gx rfl rfl rx (fun _ e => by cases e; exact oX) ?_
  show wp (ivS L xs) L RpK csK 413 255 782 [lr 0, lr 64, lr 307, li i] [vi z'] (h1, k + k1, n0 + n1) Q
  refine w_pop rfl rfl ?_
  refine w_aload_n rfl rfl ?_
  refine law_virt (p := 307) (as := []) (r := []) rfl rfl rfl rfl (by decide) gm rfl rfl rm (fun _ e => by cases e; exact oM) ?_
  show wp (ivS L xs) L RpK csK 413 255 787 [lr 0, lr 64, lr 307, li i] [vi z] (h2, k + k1 + 0, n0 + n1 + 0) Q
  refine w_pop rfl rfl ?_
  refine w_goto rfl ?_
  exact hK _ hI'
/-- offer -/
theorem lc_21 (hI : LI m S) (hm : (m : Int) < 512) (hi : 0 ≤ i) (hL : i + 3 < L) (h20 : L ≤ 2048) (hK : ∀ S, LI (m + 1) S → wp (ivS L xs) L RpK csK 413 255 1192 [lr 0, lr 64, lr 307, li i] [] S Q) : wp (ivS L xs) L RpK csK 413 255 791 [lr 0, lr 64, lr 307, li i] [] S Q := by
  obtain ⟨H, k, n0⟩ := S
  have b1 : 0 ≤ i + 1 ∧ i + 1 < (L : Int) := by omega
  have r1 : inR (i + 1) := by unfold inR; omega
  have b2 : 0 ≤ i + 2 ∧ i + 2 < (L : Int) := by omega
  have r2 : inR (i + 2) := by unfold inR; omega
  obtain ⟨⟨fx, gx⟩, v, v', f, k1, n1, h1, ⟨z, z', rfl, rfl⟩, ⟨oM, oX⟩, rx, ⟨fm, gm⟩, f2, h2, rm, hI'⟩ := two_a (iv := ivS L xs) (L := L) (M := 120) (X := 23) (asM := [vr 307, vi (xs (i + 1).toNat).toInt, vi (xs (i + 2).toNat).toInt]) (asX := [vr 64, vi (xs (i + 1).toNat).toInt, vi (xs (i + 2).toNat).toInt]) hI (fun s c hp h0 => ps_offer hp (by decide) (by decide)) (okS_c trivial (okS_ci (i32_ok _).2 (okS_ci (i32_ok _).2 okS_n))) (okS_c trivial (okS_ci (i32_ok _).2 (okS_ci (i32_ok _).2 okS_n)))
  refine w_aload_n rfl rfl ?_
  refine w_aload_n rfl rfl ?_
  refine w_iload_n rfl rfl ?_
  refine w_iconst rfl rfl ?_
  refine w_iadd rfl r1 ?_
  refine w_scr rfl b1 ?_
  refine w_aload_n rfl rfl ?_
  refine w_iload_n rfl rfl ?_
  refine w_iconst rfl rfl ?_
  refine w_iadd rfl r2 ?_
  refine w_scr rfl b2 ?_
  refine law_virt (p := 64) (as := [vi (xs (i + 1).toNat).toInt, vi (xs (i + 2).toNat).toInt]) (r := []) rfl rfl rfl rfl (by decide) gx rfl rfl rx (fun _ e => by cases e; exact oX) ?_
  show wp (ivS L xs) L RpK csK 413 255 805 [lr 0, lr 64, lr 307, li i] [vi z'] (h1, k + k1, n0 + n1) Q
  refine w_pop rfl rfl ?_
  refine w_aload_n rfl rfl ?_
  refine w_aload_n rfl rfl ?_
  refine w_iload_n rfl rfl ?_
  refine w_iconst rfl rfl ?_
  refine w_iadd rfl r1 ?_
  refine w_scr rfl b1 ?_
  refine w_aload_n rfl rfl ?_
  refine w_iload_n rfl rfl ?_
  refine w_iconst rfl rfl ?_
  refine w_iadd rfl r2 ?_
  refine w_scr rfl b2 ?_
  refine law_virt (p := 307) (as := [vi (xs (i + 1).toNat).toInt, vi (xs (i + 2).toNat).toInt]) (r := []) rfl rfl rfl rfl (by decide) gm rfl rfl rm (fun _ e => by cases e; exact oM) ?_
  show wp (ivS L xs) L RpK csK 413 255 820 [lr 0, lr 64, lr 307, li i] [vi z] (h2, k + k1 + 0, n0 + n1 + 0) Q
  refine w_pop rfl rfl ?_
  refine w_goto rfl ?_
  exact hK _ hI'
/-- work -/
theorem lc_22 (hI : LI m S) (hm : (m : Int) < 512) (hi : 0 ≤ i) (hL : i + 3 < L) (h20 : L ≤ 2048) (hK : ∀ S, LI (m + 1) S → wp (ivS L xs) L RpK csK 413 255 1192 [lr 0, lr 64, lr 307, li i] [] S Q) : wp (ivS L xs) L RpK csK 413 255 824 [lr 0, lr 64, lr 307, li i] [] S Q := by
  obtain ⟨H, k, n0⟩ := S
  have b1 : 0 ≤ i + 1 ∧ i + 1 < (L : Int) := by omega
  have r1 : inR (i + 1) := by unfold inR; omega
  obtain ⟨⟨fx, gx⟩, v, v', f, k1, n1, h1, ⟨z, rfl, rfl⟩, ⟨oM, oX⟩, rx, ⟨fm, gm⟩, f2, h2, rm, hI'⟩ := two_i (iv := ivS L xs) (L := L) (M := 136) (X := 24) (asM := [vr 307, vi (xs (i + 1).toNat).toInt]) (asX := [vr 64, vi (xs (i + 1).toNat).toInt]) hI (fun s c hp h0 => ps_work hp (by decide) (by decide)) (okS_c trivial (okS_ci (i32_ok _).2 okS_n)) (okS_c trivial (okS_ci (i32_ok _).2 okS_n))
  refine w_aload_n rfl rfl ?_
  refine w_aload_n rfl rfl ?_
  refine w_iload_n rfl rfl ?_
  refine w_iconst rfl rfl ?_
  refine w_iadd rfl r1 ?_
  refine w_scr rfl b1 ?_
  refine law_virt (p := 64) (as := [vi (xs (i + 1).toNat).toInt]) (r := []) rfl rfl rfl rfl (by decide) gx rfl rfl rx (fun _ e => by cases e; exact oX) ?_
  show wp (ivS L xs) L RpK csK 413 255 833 [lr 0, lr 64, lr 307, li i] [vi z] (h1, k + k1, n0 + n1) Q
  refine w_pop rfl rfl ?_
  refine w_aload_n rfl rfl ?_
  refine w_aload_n rfl rfl ?_
  refine w_iload_n rfl rfl ?_
  refine w_iconst rfl rfl ?_
  refine w_iadd rfl r1 ?_
  refine w_scr rfl b1 ?_
  refine law_virt (p := 307) (as := [vi (xs (i + 1).toNat).toInt]) (r := []) rfl rfl rfl rfl (by decide) gm rfl rfl rm (fun _ e => by cases e; exact oM) ?_
  show wp (ivS L xs) L RpK csK 413 255 843 [lr 0, lr 64, lr 307, li i] [vi z] (h2, k + k1 + 0, n0 + n1 + 0) Q
  refine w_pop rfl rfl ?_
  refine w_goto rfl ?_
  exact hK _ hI'
/-- resume -/
theorem lc_23 (hI : LI m S) (hm : (m : Int) < 512) (hi : 0 ≤ i) (hL : i + 3 < L) (h20 : L ≤ 2048) (hK : ∀ S, LI (m + 1) S → wp (ivS L xs) L RpK csK 413 255 1192 [lr 0, lr 64, lr 307, li i] [] S Q) : wp (ivS L xs) L RpK csK 413 255 847 [lr 0, lr 64, lr 307, li i] [] S Q := by
  obtain ⟨H, k, n0⟩ := S
  have b1 : 0 ≤ i + 1 ∧ i + 1 < (L : Int) := by omega
  have r1 : inR (i + 1) := by unfold inR; omega
  obtain ⟨⟨fx, gx⟩, v, v', f, k1, n1, h1, ⟨z, rfl, rfl⟩, ⟨oM, oX⟩, rx, ⟨fm, gm⟩, f2, h2, rm, hI'⟩ := two_i (iv := ivS L xs) (L := L) (M := 138) (X := 25) (asM := [vr 307, vi (xs (i + 1).toNat).toInt]) (asX := [vr 64, vi (xs (i + 1).toNat).toInt]) hI (fun s c hp h0 => ps_resume hp (by decide) (by decide)) (okS_c trivial (okS_ci (i32_ok _).2 okS_n)) (okS_c trivial (okS_ci (i32_ok _).2 okS_n))
  refine w_aload_n rfl rfl ?_
  refine w_aload_n rfl rfl ?_
  refine w_iload_n rfl rfl ?_
  refine w_iconst rfl rfl ?_
  refine w_iadd rfl r1 ?_
  refine w_scr rfl b1 ?_
  refine law_virt (p := 64) (as := [vi (xs (i + 1).toNat).toInt]) (r := []) rfl rfl rfl rfl (by decide) gx rfl rfl rx (fun _ e => by cases e; exact oX) ?_
  show wp (ivS L xs) L RpK csK 413 255 856 [lr 0, lr 64, lr 307, li i] [vi z] (h1, k + k1, n0 + n1) Q
  refine w_pop rfl rfl ?_
  refine w_aload_n rfl rfl ?_
  refine w_aload_n rfl rfl ?_
  refine w_iload_n rfl rfl ?_
  refine w_iconst rfl rfl ?_
  refine w_iadd rfl r1 ?_
  refine w_scr rfl b1 ?_
  refine law_virt (p := 307) (as := [vi (xs (i + 1).toNat).toInt]) (r := []) rfl rfl rfl rfl (by decide) gm rfl rfl rm (fun _ e => by cases e; exact oM) ?_
  show wp (ivS L xs) L RpK csK 413 255 866 [lr 0, lr 64, lr 307, li i] [vi z] (h2, k + k1 + 0, n0 + n1 + 0) Q
  refine w_pop rfl rfl ?_
  refine w_goto rfl ?_
  exact hK _ hI'
/-- steps -/
theorem lc_24 (hI : LI m S) (hm : (m : Int) < 512) (hi : 0 ≤ i) (hL : i + 3 < L) (h20 : L ≤ 2048) (hK : ∀ S, LI (m + 1) S → wp (ivS L xs) L RpK csK 413 255 1192 [lr 0, lr 64, lr 307, li i] [] S Q) : wp (ivS L xs) L RpK csK 413 255 870 [lr 0, lr 64, lr 307, li i] [] S Q := by
  obtain ⟨H, k, n0⟩ := S
  obtain ⟨⟨fx, gx⟩, v, v', f, k1, n1, h1, ⟨z, rfl, rfl⟩, ⟨oM, oX⟩, rx, ⟨fm, gm⟩, f2, h2, rm, hI'⟩ := two_i (iv := ivS L xs) (L := L) (M := 139) (X := 26) (asM := [vr 307]) (asX := [vr 64]) hI (fun s c hp h0 => ps_steps hp (by decide) (by decide)) (okS_c trivial okS_n) (okS_c trivial okS_n)
  refine w_aload_n rfl rfl ?_
  refine law_virt (p := 64) (as := []) (r := []) rfl rfl rfl rfl (by decide) gx rfl rfl rx (fun _ e => by cases e; exact oX) ?_
  show wp (ivS L xs) L RpK csK 413 255 874 [lr 0, lr 64, lr 307, li i] [vi z] (h1, k + k1, n0 + n1) Q
  refine w_pop rfl rfl ?_
  refine w_aload_n rfl rfl ?_
  refine law_virt (p := 307) (as := []) (r := []) rfl rfl rfl rfl (by decide) gm rfl rfl rm (fun _ e => by cases e; exact oM) ?_
  show wp (ivS L xs) L RpK csK 413 255 879 [lr 0, lr 64, lr 307, li i] [vi z] (h2, k + k1 + 0, n0 + n1 + 0) Q
  refine w_pop rfl rfl ?_
  refine w_goto rfl ?_
  exact hK _ hI'
/-- where -/
theorem lc_25 (hI : LI m S) (hm : (m : Int) < 512) (hi : 0 ≤ i) (hL : i + 3 < L) (h20 : L ≤ 2048) (hK : ∀ S, LI (m + 1) S → wp (ivS L xs) L RpK csK 413 255 1192 [lr 0, lr 64, lr 307, li i] [] S Q) : wp (ivS L xs) L RpK csK 413 255 883 [lr 0, lr 64, lr 307, li i] [] S Q := by
  obtain ⟨H, k, n0⟩ := S
  obtain ⟨⟨fx, gx⟩, v, v', f, k1, n1, h1, ⟨z, rfl, rfl⟩, ⟨oM, oX⟩, rx, ⟨fm, gm⟩, f2, h2, rm, hI'⟩ := two_i (iv := ivS L xs) (L := L) (M := 140) (X := 27) (asM := [vr 307]) (asX := [vr 64]) hI (fun s c hp h0 => ps_where hp (by decide) (by decide)) (okS_c trivial okS_n) (okS_c trivial okS_n)
  refine w_aload_n rfl rfl ?_
  refine law_virt (p := 64) (as := []) (r := []) rfl rfl rfl rfl (by decide) gx rfl rfl rx (fun _ e => by cases e; exact oX) ?_
  show wp (ivS L xs) L RpK csK 413 255 887 [lr 0, lr 64, lr 307, li i] [vi z] (h1, k + k1, n0 + n1) Q
  refine w_pop rfl rfl ?_
  refine w_aload_n rfl rfl ?_
  refine law_virt (p := 307) (as := []) (r := []) rfl rfl rfl rfl (by decide) gm rfl rfl rm (fun _ e => by cases e; exact oM) ?_
  show wp (ivS L xs) L RpK csK 413 255 892 [lr 0, lr 64, lr 307, li i] [vi z] (h2, k + k1 + 0, n0 + n1 + 0) Q
  refine w_pop rfl rfl ?_
  refine w_goto rfl ?_
  exact hK _ hI'
/-- value -/
theorem lc_26 (hI : LI m S) (hm : (m : Int) < 512) (hi : 0 ≤ i) (hL : i + 3 < L) (h20 : L ≤ 2048) (hK : ∀ S, LI (m + 1) S → wp (ivS L xs) L RpK csK 413 255 1192 [lr 0, lr 64, lr 307, li i] [] S Q) : wp (ivS L xs) L RpK csK 413 255 896 [lr 0, lr 64, lr 307, li i] [] S Q := by
  obtain ⟨H, k, n0⟩ := S
  have b1 : 0 ≤ i + 1 ∧ i + 1 < (L : Int) := by omega
  have r1 : inR (i + 1) := by unfold inR; omega
  obtain ⟨⟨fx, gx⟩, v, v', f, k1, n1, h1, ⟨z, rfl, rfl⟩, ⟨oM, oX⟩, rx, ⟨fm, gm⟩, f2, h2, rm, hI'⟩ := two_i (iv := ivS L xs) (L := L) (M := 148) (X := 28) (asM := [vr 307, vi (xs (i + 1).toNat).toInt]) (asX := [vr 64, vi (xs (i + 1).toNat).toInt]) hI (fun s c hp h0 => ps_value hp (by decide) (by decide)) (okS_c trivial (okS_ci (i32_ok _).2 okS_n)) (okS_c trivial (okS_ci (i32_ok _).2 okS_n))
  refine w_aload_n rfl rfl ?_
  refine w_aload_n rfl rfl ?_
  refine w_iload_n rfl rfl ?_
  refine w_iconst rfl rfl ?_
  refine w_iadd rfl r1 ?_
  refine w_scr rfl b1 ?_
  refine law_virt (p := 64) (as := [vi (xs (i + 1).toNat).toInt]) (r := []) rfl rfl rfl rfl (by decide) gx rfl rfl rx (fun _ e => by cases e; exact oX) ?_
  show wp (ivS L xs) L RpK csK 413 255 905 [lr 0, lr 64, lr 307, li i] [vi z] (h1, k + k1, n0 + n1) Q
  refine w_pop rfl rfl ?_
  refine w_aload_n rfl rfl ?_
  refine w_aload_n rfl rfl ?_
  refine w_iload_n rfl rfl ?_
  refine w_iconst rfl rfl ?_
  refine w_iadd rfl r1 ?_
  refine w_scr rfl b1 ?_
  refine law_virt (p := 307) (as := [vi (xs (i + 1).toNat).toInt]) (r := []) rfl rfl rfl rfl (by decide) gm rfl rfl rm (fun _ e => by cases e; exact oM) ?_
  show wp (ivS L xs) L RpK csK 413 255 915 [lr 0, lr 64, lr 307, li i] [vi z] (h2, k + k1 + 0, n0 + n1 + 0) Q
  refine w_pop rfl rfl ?_
  refine w_goto rfl ?_
  exact hK _ hI'
/-- left -/
theorem lc_27 (hI : LI m S) (hm : (m : Int) < 512) (hi : 0 ≤ i) (hL : i + 3 < L) (h20 : L ≤ 2048) (hK : ∀ S, LI (m + 1) S → wp (ivS L xs) L RpK csK 413 255 1192 [lr 0, lr 64, lr 307, li i] [] S Q) : wp (ivS L xs) L RpK csK 413 255 919 [lr 0, lr 64, lr 307, li i] [] S Q := by
  obtain ⟨H, k, n0⟩ := S
  have b1 : 0 ≤ i + 1 ∧ i + 1 < (L : Int) := by omega
  have r1 : inR (i + 1) := by unfold inR; omega
  obtain ⟨⟨fx, gx⟩, v, v', f, k1, n1, h1, ⟨z, rfl, rfl⟩, ⟨oM, oX⟩, rx, ⟨fm, gm⟩, f2, h2, rm, hI'⟩ := two_i (iv := ivS L xs) (L := L) (M := 149) (X := 29) (asM := [vr 307, vi (xs (i + 1).toNat).toInt]) (asX := [vr 64, vi (xs (i + 1).toNat).toInt]) hI (fun s c hp h0 => ps_left hp (by decide) (by decide)) (okS_c trivial (okS_ci (i32_ok _).2 okS_n)) (okS_c trivial (okS_ci (i32_ok _).2 okS_n))
  refine w_aload_n rfl rfl ?_
  refine w_aload_n rfl rfl ?_
  refine w_iload_n rfl rfl ?_
  refine w_iconst rfl rfl ?_
  refine w_iadd rfl r1 ?_
  refine w_scr rfl b1 ?_
  refine law_virt (p := 64) (as := [vi (xs (i + 1).toNat).toInt]) (r := []) rfl rfl rfl rfl (by decide) gx rfl rfl rx (fun _ e => by cases e; exact oX) ?_
  show wp (ivS L xs) L RpK csK 413 255 928 [lr 0, lr 64, lr 307, li i] [vi z] (h1, k + k1, n0 + n1) Q
  refine w_pop rfl rfl ?_
  refine w_aload_n rfl rfl ?_
  refine w_aload_n rfl rfl ?_
  refine w_iload_n rfl rfl ?_
  refine w_iconst rfl rfl ?_
  refine w_iadd rfl r1 ?_
  refine w_scr rfl b1 ?_
  refine law_virt (p := 307) (as := [vi (xs (i + 1).toNat).toInt]) (r := []) rfl rfl rfl rfl (by decide) gm rfl rfl rm (fun _ e => by cases e; exact oM) ?_
  show wp (ivS L xs) L RpK csK 413 255 938 [lr 0, lr 64, lr 307, li i] [vi z] (h2, k + k1 + 0, n0 + n1 + 0) Q
  refine w_pop rfl rfl ?_
  refine w_goto rfl ?_
  exact hK _ hI'
/-- seen -/
theorem lc_28 (hI : LI m S) (hm : (m : Int) < 512) (hi : 0 ≤ i) (hL : i + 3 < L) (h20 : L ≤ 2048) (hK : ∀ S, LI (m + 1) S → wp (ivS L xs) L RpK csK 413 255 1192 [lr 0, lr 64, lr 307, li i] [] S Q) : wp (ivS L xs) L RpK csK 413 255 942 [lr 0, lr 64, lr 307, li i] [] S Q := by
  obtain ⟨H, k, n0⟩ := S
  have b1 : 0 ≤ i + 1 ∧ i + 1 < (L : Int) := by omega
  have r1 : inR (i + 1) := by unfold inR; omega
  have b2 : 0 ≤ i + 2 ∧ i + 2 < (L : Int) := by omega
  have r2 : inR (i + 2) := by unfold inR; omega
  have b3 : 0 ≤ i + 3 ∧ i + 3 < (L : Int) := by omega
  have r3 : inR (i + 3) := by unfold inR; omega
  obtain ⟨⟨fx, gx⟩, v, v', f, k1, n1, h1, ⟨z, rfl, rfl⟩, ⟨oM, oX⟩, rx, ⟨fm, gm⟩, f2, h2, rm, hI'⟩ := two_i (iv := ivS L xs) (L := L) (M := 150) (X := 30) (asM := [vr 307, vi (xs (i + 1).toNat).toInt, vi (xs (i + 2).toNat).toInt, vi (xs (i + 3).toNat).toInt]) (asX := [vr 64, vi (xs (i + 1).toNat).toInt, vi (xs (i + 2).toNat).toInt, vi (xs (i + 3).toNat).toInt]) hI (fun s c hp h0 => ps_seen hp (by decide) (by decide)) (okS_c trivial (okS_ci (i32_ok _).2 (okS_ci (i32_ok _).2 (okS_ci (i32_ok _).2 okS_n)))) (okS_c trivial (okS_ci (i32_ok _).2 (okS_ci (i32_ok _).2 (okS_ci (i32_ok _).2 okS_n))))
  refine w_aload_n rfl rfl ?_
  refine w_aload_n rfl rfl ?_
  refine w_iload_n rfl rfl ?_
  refine w_iconst rfl rfl ?_
  refine w_iadd rfl r1 ?_
  refine w_scr rfl b1 ?_
  refine w_aload_n rfl rfl ?_
  refine w_iload_n rfl rfl ?_
  refine w_iconst rfl rfl ?_
  refine w_iadd rfl r2 ?_
  refine w_scr rfl b2 ?_
  refine w_aload_n rfl rfl ?_
  refine w_iload_n rfl rfl ?_
  refine w_iconst rfl rfl ?_
  refine w_iadd rfl r3 ?_
  refine w_scr rfl b3 ?_
  refine law_virt (p := 64) (as := [vi (xs (i + 1).toNat).toInt, vi (xs (i + 2).toNat).toInt, vi (xs (i + 3).toNat).toInt]) (r := []) rfl rfl rfl rfl (by decide) gx rfl rfl rx (fun _ e => by cases e; exact oX) ?_
  show wp (ivS L xs) L RpK csK 413 255 961 [lr 0, lr 64, lr 307, li i] [vi z] (h1, k + k1, n0 + n1) Q
  refine w_pop rfl rfl ?_
  refine w_aload_n rfl rfl ?_
  refine w_aload_n rfl rfl ?_
  refine w_iload_n rfl rfl ?_
  refine w_iconst rfl rfl ?_
  refine w_iadd rfl r1 ?_
  refine w_scr rfl b1 ?_
  refine w_aload_n rfl rfl ?_
  refine w_iload_n rfl rfl ?_
  refine w_iconst rfl rfl ?_
  refine w_iadd rfl r2 ?_
  refine w_scr rfl b2 ?_
  refine w_aload_n rfl rfl ?_
  refine w_iload_n rfl rfl ?_
  refine w_iconst rfl rfl ?_
  refine w_iadd rfl r3 ?_
  refine w_scr rfl b3 ?_
  refine law_virt (p := 307) (as := [vi (xs (i + 1).toNat).toInt, vi (xs (i + 2).toNat).toInt, vi (xs (i + 3).toNat).toInt]) (r := []) rfl rfl rfl rfl (by decide) gm rfl rfl rm (fun _ e => by cases e; exact oM) ?_
  show wp (ivS L xs) L RpK csK 413 255 981 [lr 0, lr 64, lr 307, li i] [vi z] (h2, k + k1 + 0, n0 + n1 + 0) Q
  refine w_pop rfl rfl ?_
  refine w_goto rfl ?_
  exact hK _ hI'
/-- box -/
theorem lc_29 (hI : LI m S) (hm : (m : Int) < 512) (hi : 0 ≤ i) (hL : i + 3 < L) (h20 : L ≤ 2048) (hK : ∀ S, LI (m + 1) S → wp (ivS L xs) L RpK csK 413 255 1192 [lr 0, lr 64, lr 307, li i] [] S Q) : wp (ivS L xs) L RpK csK 413 255 985 [lr 0, lr 64, lr 307, li i] [] S Q := by
  obtain ⟨H, k, n0⟩ := S
  have b1 : 0 ≤ i + 1 ∧ i + 1 < (L : Int) := by omega
  have r1 : inR (i + 1) := by unfold inR; omega
  obtain ⟨⟨fx, gx⟩, v, v', f, k1, n1, h1, ⟨z, rfl, rfl⟩, ⟨oM, oX⟩, rx, ⟨fm, gm⟩, f2, h2, rm, hI'⟩ := two_i (iv := ivS L xs) (L := L) (M := 151) (X := 31) (asM := [vr 307, vi (xs (i + 1).toNat).toInt]) (asX := [vr 64, vi (xs (i + 1).toNat).toInt]) hI (fun s c hp h0 => ps_box hp (by omega) (by decide) (by decide)) (okS_c trivial (okS_ci (i32_ok _).2 okS_n)) (okS_c trivial (okS_ci (i32_ok _).2 okS_n))
  refine w_aload_n rfl rfl ?_
  refine w_aload_n rfl rfl ?_
  refine w_iload_n rfl rfl ?_
  refine w_iconst rfl rfl ?_
  refine w_iadd rfl r1 ?_
  refine w_scr rfl b1 ?_
  refine law_virt (p := 64) (as := [vi (xs (i + 1).toNat).toInt]) (r := []) rfl rfl rfl rfl (by decide) gx rfl rfl rx (fun _ e => by cases e; exact oX) ?_
  show wp (ivS L xs) L RpK csK 413 255 994 [lr 0, lr 64, lr 307, li i] [vi z] (h1, k + k1, n0 + n1) Q
  refine w_pop rfl rfl ?_
  refine w_aload_n rfl rfl ?_
  refine w_aload_n rfl rfl ?_
  refine w_iload_n rfl rfl ?_
  refine w_iconst rfl rfl ?_
  refine w_iadd rfl r1 ?_
  refine w_scr rfl b1 ?_
  refine law_virt (p := 307) (as := [vi (xs (i + 1).toNat).toInt]) (r := []) rfl rfl rfl rfl (by decide) gm rfl rfl rm (fun _ e => by cases e; exact oM) ?_
  show wp (ivS L xs) L RpK csK 413 255 1004 [lr 0, lr 64, lr 307, li i] [vi z] (h2, k + k1 + 0, n0 + n1 + 0) Q
  refine w_pop rfl rfl ?_
  refine w_goto rfl ?_
  exact hK _ hI'
/-- keep -/
theorem lc_30 (hI : LI m S) (hm : (m : Int) < 512) (hi : 0 ≤ i) (hL : i + 3 < L) (h20 : L ≤ 2048) (hK : ∀ S, LI (m + 1) S → wp (ivS L xs) L RpK csK 413 255 1192 [lr 0, lr 64, lr 307, li i] [] S Q) : wp (ivS L xs) L RpK csK 413 255 1008 [lr 0, lr 64, lr 307, li i] [] S Q := by
  obtain ⟨H, k, n0⟩ := S
  have b1 : 0 ≤ i + 1 ∧ i + 1 < (L : Int) := by omega
  have r1 : inR (i + 1) := by unfold inR; omega
  have b2 : 0 ≤ i + 2 ∧ i + 2 < (L : Int) := by omega
  have r2 : inR (i + 2) := by unfold inR; omega
  obtain ⟨⟨fx, gx⟩, v, v', f, k1, n1, h1, ⟨z, rfl, rfl⟩, ⟨oM, oX⟩, rx, ⟨fm, gm⟩, f2, h2, rm, hI'⟩ := two_i (iv := ivS L xs) (L := L) (M := 152) (X := 32) (asM := [vr 307, vi (xs (i + 1).toNat).toInt, vi (xs (i + 2).toNat).toInt]) (asX := [vr 64, vi (xs (i + 1).toNat).toInt, vi (xs (i + 2).toNat).toInt]) hI (fun s c hp h0 => ps_keep hp (by omega) (by decide) (by decide)) (okS_c trivial (okS_ci (i32_ok _).2 (okS_ci (i32_ok _).2 okS_n))) (okS_c trivial (okS_ci (i32_ok _).2 (okS_ci (i32_ok _).2 okS_n)))
  refine w_aload_n rfl rfl ?_
  refine w_aload_n rfl rfl ?_
  refine w_iload_n rfl rfl ?_
  refine w_iconst rfl rfl ?_
  refine w_iadd rfl r1 ?_
  refine w_scr rfl b1 ?_
  refine w_aload_n rfl rfl ?_
  refine w_iload_n rfl rfl ?_
  refine w_iconst rfl rfl ?_
  refine w_iadd rfl r2 ?_
  refine w_scr rfl b2 ?_
  refine law_virt (p := 64) (as := [vi (xs (i + 1).toNat).toInt, vi (xs (i + 2).toNat).toInt]) (r := []) rfl rfl rfl rfl (by decide) gx rfl rfl rx (fun _ e => by cases e; exact oX) ?_
  show wp (ivS L xs) L RpK csK 413 255 1022 [lr 0, lr 64, lr 307, li i] [vi z] (h1, k + k1, n0 + n1) Q
  refine w_pop rfl rfl ?_
  refine w_aload_n rfl rfl ?_
  refine w_aload_n rfl rfl ?_
  refine w_iload_n rfl rfl ?_
  refine w_iconst rfl rfl ?_
  refine w_iadd rfl r1 ?_
  refine w_scr rfl b1 ?_
  refine w_aload_n rfl rfl ?_
  refine w_iload_n rfl rfl ?_
  refine w_iconst rfl rfl ?_
  refine w_iadd rfl r2 ?_
  refine w_scr rfl b2 ?_
  refine law_virt (p := 307) (as := [vi (xs (i + 1).toNat).toInt, vi (xs (i + 2).toNat).toInt]) (r := []) rfl rfl rfl rfl (by decide) gm rfl rfl rm (fun _ e => by cases e; exact oM) ?_
  show wp (ivS L xs) L RpK csK 413 255 1037 [lr 0, lr 64, lr 307, li i] [vi z] (h2, k + k1 + 0, n0 + n1 + 0) Q
  refine w_pop rfl rfl ?_
  refine w_goto rfl ?_
  exact hK _ hI'
/-- boxed -/
theorem lc_31 (hI : LI m S) (hm : (m : Int) < 512) (hi : 0 ≤ i) (hL : i + 3 < L) (h20 : L ≤ 2048) (hK : ∀ S, LI (m + 1) S → wp (ivS L xs) L RpK csK 413 255 1192 [lr 0, lr 64, lr 307, li i] [] S Q) : wp (ivS L xs) L RpK csK 413 255 1041 [lr 0, lr 64, lr 307, li i] [] S Q := by
  obtain ⟨H, k, n0⟩ := S
  have b1 : 0 ≤ i + 1 ∧ i + 1 < (L : Int) := by omega
  have r1 : inR (i + 1) := by unfold inR; omega
  have b2 : 0 ≤ i + 2 ∧ i + 2 < (L : Int) := by omega
  have r2 : inR (i + 2) := by unfold inR; omega
  obtain ⟨⟨fx, gx⟩, v, v', f, k1, n1, h1, ⟨z, rfl, rfl⟩, ⟨oM, oX⟩, rx, ⟨fm, gm⟩, f2, h2, rm, hI'⟩ := two_i (iv := ivS L xs) (L := L) (M := 154) (X := 33) (asM := [vr 307, vi (xs (i + 1).toNat).toInt, vi (xs (i + 2).toNat).toInt]) (asX := [vr 64, vi (xs (i + 1).toNat).toInt, vi (xs (i + 2).toNat).toInt]) hI (fun s c hp h0 => ps_boxed hp (by omega) (by decide) (by decide)) (okS_c trivial (okS_ci (i32_ok _).2 (okS_ci (i32_ok _).2 okS_n))) (okS_c trivial (okS_ci (i32_ok _).2 (okS_ci (i32_ok _).2 okS_n)))
  refine w_aload_n rfl rfl ?_
  refine w_aload_n rfl rfl ?_
  refine w_iload_n rfl rfl ?_
  refine w_iconst rfl rfl ?_
  refine w_iadd rfl r1 ?_
  refine w_scr rfl b1 ?_
  refine w_aload_n rfl rfl ?_
  refine w_iload_n rfl rfl ?_
  refine w_iconst rfl rfl ?_
  refine w_iadd rfl r2 ?_
  refine w_scr rfl b2 ?_
  refine law_virt (p := 64) (as := [vi (xs (i + 1).toNat).toInt, vi (xs (i + 2).toNat).toInt]) (r := []) rfl rfl rfl rfl (by decide) gx rfl rfl rx (fun _ e => by cases e; exact oX) ?_
  show wp (ivS L xs) L RpK csK 413 255 1055 [lr 0, lr 64, lr 307, li i] [vi z] (h1, k + k1, n0 + n1) Q
  refine w_pop rfl rfl ?_
  refine w_aload_n rfl rfl ?_
  refine w_aload_n rfl rfl ?_
  refine w_iload_n rfl rfl ?_
  refine w_iconst rfl rfl ?_
  refine w_iadd rfl r1 ?_
  refine w_scr rfl b1 ?_
  refine w_aload_n rfl rfl ?_
  refine w_iload_n rfl rfl ?_
  refine w_iconst rfl rfl ?_
  refine w_iadd rfl r2 ?_
  refine w_scr rfl b2 ?_
  refine law_virt (p := 307) (as := [vi (xs (i + 1).toNat).toInt, vi (xs (i + 2).toNat).toInt]) (r := []) rfl rfl rfl rfl (by decide) gm rfl rfl rm (fun _ e => by cases e; exact oM) ?_
  show wp (ivS L xs) L RpK csK 413 255 1070 [lr 0, lr 64, lr 307, li i] [vi z] (h2, k + k1 + 0, n0 + n1 + 0) Q
  refine w_pop rfl rfl ?_
  refine w_goto rfl ?_
  exact hK _ hI'
/-- share -/
theorem lc_32 (hI : LI m S) (hm : (m : Int) < 512) (hi : 0 ≤ i) (hL : i + 3 < L) (h20 : L ≤ 2048) (hK : ∀ S, LI (m + 1) S → wp (ivS L xs) L RpK csK 413 255 1192 [lr 0, lr 64, lr 307, li i] [] S Q) : wp (ivS L xs) L RpK csK 413 255 1074 [lr 0, lr 64, lr 307, li i] [] S Q := by
  obtain ⟨H, k, n0⟩ := S
  have b1 : 0 ≤ i + 1 ∧ i + 1 < (L : Int) := by omega
  have r1 : inR (i + 1) := by unfold inR; omega
  have b2 : 0 ≤ i + 2 ∧ i + 2 < (L : Int) := by omega
  have r2 : inR (i + 2) := by unfold inR; omega
  obtain ⟨⟨fx, gx⟩, v, v', f, k1, n1, h1, ⟨z, rfl, rfl⟩, ⟨oM, oX⟩, rx, ⟨fm, gm⟩, f2, h2, rm, hI'⟩ := two_i (iv := ivS L xs) (L := L) (M := 155) (X := 34) (asM := [vr 307, vi (xs (i + 1).toNat).toInt, vi (xs (i + 2).toNat).toInt]) (asX := [vr 64, vi (xs (i + 1).toNat).toInt, vi (xs (i + 2).toNat).toInt]) hI (fun s c hp h0 => ps_share hp (by omega) (by decide) (by decide)) (okS_c trivial (okS_ci (i32_ok _).2 (okS_ci (i32_ok _).2 okS_n))) (okS_c trivial (okS_ci (i32_ok _).2 (okS_ci (i32_ok _).2 okS_n)))
  refine w_aload_n rfl rfl ?_
  refine w_aload_n rfl rfl ?_
  refine w_iload_n rfl rfl ?_
  refine w_iconst rfl rfl ?_
  refine w_iadd rfl r1 ?_
  refine w_scr rfl b1 ?_
  refine w_aload_n rfl rfl ?_
  refine w_iload_n rfl rfl ?_
  refine w_iconst rfl rfl ?_
  refine w_iadd rfl r2 ?_
  refine w_scr rfl b2 ?_
  refine law_virt (p := 64) (as := [vi (xs (i + 1).toNat).toInt, vi (xs (i + 2).toNat).toInt]) (r := []) rfl rfl rfl rfl (by decide) gx rfl rfl rx (fun _ e => by cases e; exact oX) ?_
  show wp (ivS L xs) L RpK csK 413 255 1088 [lr 0, lr 64, lr 307, li i] [vi z] (h1, k + k1, n0 + n1) Q
  refine w_pop rfl rfl ?_
  refine w_aload_n rfl rfl ?_
  refine w_aload_n rfl rfl ?_
  refine w_iload_n rfl rfl ?_
  refine w_iconst rfl rfl ?_
  refine w_iadd rfl r1 ?_
  refine w_scr rfl b1 ?_
  refine w_aload_n rfl rfl ?_
  refine w_iload_n rfl rfl ?_
  refine w_iconst rfl rfl ?_
  refine w_iadd rfl r2 ?_
  refine w_scr rfl b2 ?_
  refine law_virt (p := 307) (as := [vi (xs (i + 1).toNat).toInt, vi (xs (i + 2).toNat).toInt]) (r := []) rfl rfl rfl rfl (by decide) gm rfl rfl rm (fun _ e => by cases e; exact oM) ?_
  show wp (ivS L xs) L RpK csK 413 255 1103 [lr 0, lr 64, lr 307, li i] [vi z] (h2, k + k1 + 0, n0 + n1 + 0) Q
  refine w_pop rfl rfl ?_
  refine w_goto rfl ?_
  exact hK _ hI'
/-- asked -/
theorem lc_33 (hI : LI m S) (hm : (m : Int) < 512) (hi : 0 ≤ i) (hL : i + 3 < L) (h20 : L ≤ 2048) (hK : ∀ S, LI (m + 1) S → wp (ivS L xs) L RpK csK 413 255 1192 [lr 0, lr 64, lr 307, li i] [] S Q) : wp (ivS L xs) L RpK csK 413 255 1107 [lr 0, lr 64, lr 307, li i] [] S Q := by
  obtain ⟨H, k, n0⟩ := S
  obtain ⟨⟨fx, gx⟩, v, v', f, k1, n1, h1, ⟨z, z', rfl, rfl⟩, ⟨oM, oX⟩, rx, ⟨fm, gm⟩, f2, h2, rm, hI'⟩ := two_a (iv := ivS L xs) (L := L) (M := 156) (X := 35) (asM := [vr 307]) (asX := [vr 64]) hI (fun s c hp h0 => ps_asked hp (by decide) (by decide)) (okS_c trivial okS_n) (okS_c trivial okS_n)
  refine w_aload_n rfl rfl ?_
  refine law_virt (p := 64) (as := []) (r := []) rfl rfl rfl rfl (by decide) gx rfl rfl rx (fun _ e => by cases e; exact oX) ?_
  show wp (ivS L xs) L RpK csK 413 255 1111 [lr 0, lr 64, lr 307, li i] [vi z'] (h1, k + k1, n0 + n1) Q
  refine w_pop rfl rfl ?_
  refine w_aload_n rfl rfl ?_
  refine law_virt (p := 307) (as := []) (r := []) rfl rfl rfl rfl (by decide) gm rfl rfl rm (fun _ e => by cases e; exact oM) ?_
  show wp (ivS L xs) L RpK csK 413 255 1116 [lr 0, lr 64, lr 307, li i] [vi z] (h2, k + k1 + 0, n0 + n1 + 0) Q
  refine w_pop rfl rfl ?_
  refine w_goto rfl ?_
  exact hK _ hI'
/-- count -/
theorem lc_34 (hI : LI m S) (hm : (m : Int) < 512) (hi : 0 ≤ i) (hL : i + 3 < L) (h20 : L ≤ 2048) (hK : ∀ S, LI (m + 1) S → wp (ivS L xs) L RpK csK 413 255 1192 [lr 0, lr 64, lr 307, li i] [] S Q) : wp (ivS L xs) L RpK csK 413 255 1120 [lr 0, lr 64, lr 307, li i] [] S Q := by
  obtain ⟨H, k, n0⟩ := S
  have b1 : 0 ≤ i + 1 ∧ i + 1 < (L : Int) := by omega
  have r1 : inR (i + 1) := by unfold inR; omega
  obtain ⟨⟨fx, gx⟩, v, v', f, k1, n1, h1, ⟨z, rfl, rfl⟩, ⟨oM, oX⟩, rx, ⟨fm, gm⟩, f2, h2, rm, hI'⟩ := two_i (iv := ivS L xs) (L := L) (M := 157) (X := 36) (asM := [vr 307, vi (xs (i + 1).toNat).toInt]) (asX := [vr 64, vi (xs (i + 1).toNat).toInt]) hI (fun s c hp h0 => ps_count hp (by decide) (by decide)) (okS_c trivial (okS_ci (i32_ok _).2 okS_n)) (okS_c trivial (okS_ci (i32_ok _).2 okS_n))
  refine w_aload_n rfl rfl ?_
  refine w_aload_n rfl rfl ?_
  refine w_iload_n rfl rfl ?_
  refine w_iconst rfl rfl ?_
  refine w_iadd rfl r1 ?_
  refine w_scr rfl b1 ?_
  refine law_virt (p := 64) (as := [vi (xs (i + 1).toNat).toInt]) (r := []) rfl rfl rfl rfl (by decide) gx rfl rfl rx (fun _ e => by cases e; exact oX) ?_
  show wp (ivS L xs) L RpK csK 413 255 1129 [lr 0, lr 64, lr 307, li i] [vi z] (h1, k + k1, n0 + n1) Q
  refine w_pop rfl rfl ?_
  refine w_aload_n rfl rfl ?_
  refine w_aload_n rfl rfl ?_
  refine w_iload_n rfl rfl ?_
  refine w_iconst rfl rfl ?_
  refine w_iadd rfl r1 ?_
  refine w_scr rfl b1 ?_
  refine law_virt (p := 307) (as := [vi (xs (i + 1).toNat).toInt]) (r := []) rfl rfl rfl rfl (by decide) gm rfl rfl rm (fun _ e => by cases e; exact oM) ?_
  show wp (ivS L xs) L RpK csK 413 255 1139 [lr 0, lr 64, lr 307, li i] [vi z] (h2, k + k1 + 0, n0 + n1 + 0) Q
  refine w_pop rfl rfl ?_
  refine w_goto rfl ?_
  exact hK _ hI'
/-- finding -/
theorem lc_35 (hI : LI m S) (hm : (m : Int) < 512) (hi : 0 ≤ i) (hL : i + 3 < L) (h20 : L ≤ 2048) (hK : ∀ S, LI (m + 1) S → wp (ivS L xs) L RpK csK 413 255 1192 [lr 0, lr 64, lr 307, li i] [] S Q) : wp (ivS L xs) L RpK csK 413 255 1143 [lr 0, lr 64, lr 307, li i] [] S Q := by
  obtain ⟨H, k, n0⟩ := S
  obtain ⟨⟨fx, gx⟩, v, v', f, k1, n1, h1, ⟨z, rfl, rfl⟩, ⟨oM, oX⟩, rx, ⟨fm, gm⟩, f2, h2, rm, hI'⟩ := two_i (iv := ivS L xs) (L := L) (M := 62) (X := 37) (asM := [vr 307]) (asX := [vr 64]) hI (fun s c hp h0 => ps_finding hp (by decide) (by decide)) (okS_c trivial okS_n) (okS_c trivial okS_n)
  refine w_aload_n rfl rfl ?_
  refine law_virt (p := 64) (as := []) (r := []) rfl rfl rfl rfl (by decide) gx rfl rfl rx (fun _ e => by cases e; exact oX) ?_
  show wp (ivS L xs) L RpK csK 413 255 1147 [lr 0, lr 64, lr 307, li i] [vi z] (h1, k + k1, n0 + n1) Q
  refine w_pop rfl rfl ?_
  refine w_aload_n rfl rfl ?_
  refine law_virt (p := 307) (as := []) (r := []) rfl rfl rfl rfl (by decide) gm rfl rfl rm (fun _ e => by cases e; exact oM) ?_
  show wp (ivS L xs) L RpK csK 413 255 1152 [lr 0, lr 64, lr 307, li i] [vi z] (h2, k + k1 + 0, n0 + n1 + 0) Q
  refine w_pop rfl rfl ?_
  refine w_goto rfl ?_
  exact hK _ hI'
/-- findings -/
theorem lc_36 (hI : LI m S) (hm : (m : Int) < 512) (hi : 0 ≤ i) (hL : i + 3 < L) (h20 : L ≤ 2048) (hK : ∀ S, LI (m + 1) S → wp (ivS L xs) L RpK csK 413 255 1192 [lr 0, lr 64, lr 307, li i] [] S Q) : wp (ivS L xs) L RpK csK 413 255 1156 [lr 0, lr 64, lr 307, li i] [] S Q := by
  obtain ⟨H, k, n0⟩ := S
  have b1 : 0 ≤ i + 1 ∧ i + 1 < (L : Int) := by omega
  have r1 : inR (i + 1) := by unfold inR; omega
  obtain ⟨⟨fx, gx⟩, v, v', f, k1, n1, h1, ⟨z, rfl, rfl⟩, ⟨oM, oX⟩, rx, ⟨fm, gm⟩, f2, h2, rm, hI'⟩ := two_i (iv := ivS L xs) (L := L) (M := 63) (X := 38) (asM := [vr 307, vi (xs (i + 1).toNat).toInt]) (asX := [vr 64, vi (xs (i + 1).toNat).toInt]) hI (fun s c hp h0 => ps_findings hp (by decide) (by decide)) (okS_c trivial (okS_ci (i32_ok _).2 okS_n)) (okS_c trivial (okS_ci (i32_ok _).2 okS_n))
  refine w_aload_n rfl rfl ?_
  refine w_aload_n rfl rfl ?_
  refine w_iload_n rfl rfl ?_
  refine w_iconst rfl rfl ?_
  refine w_iadd rfl r1 ?_
  refine w_scr rfl b1 ?_
  refine law_virt (p := 64) (as := [vi (xs (i + 1).toNat).toInt]) (r := []) rfl rfl rfl rfl (by decide) gx rfl rfl rx (fun _ e => by cases e; exact oX) ?_
  show wp (ivS L xs) L RpK csK 413 255 1165 [lr 0, lr 64, lr 307, li i] [vi z] (h1, k + k1, n0 + n1) Q
  refine w_pop rfl rfl ?_
  refine w_aload_n rfl rfl ?_
  refine w_aload_n rfl rfl ?_
  refine w_iload_n rfl rfl ?_
  refine w_iconst rfl rfl ?_
  refine w_iadd rfl r1 ?_
  refine w_scr rfl b1 ?_
  refine law_virt (p := 307) (as := [vi (xs (i + 1).toNat).toInt]) (r := []) rfl rfl rfl rfl (by decide) gm rfl rfl rm (fun _ e => by cases e; exact oM) ?_
  show wp (ivS L xs) L RpK csK 413 255 1175 [lr 0, lr 64, lr 307, li i] [vi z] (h2, k + k1 + 0, n0 + n1 + 0) Q
  refine w_pop rfl rfl ?_
  refine w_goto rfl ?_
  exact hK _ hI'
/-- digest -/
theorem lc_37 (hI : LI m S) (hm : (m : Int) < 512) (hi : 0 ≤ i) (hL : i + 3 < L) (h20 : L ≤ 2048) (hK : ∀ S, LI (m + 1) S → wp (ivS L xs) L RpK csK 413 255 1192 [lr 0, lr 64, lr 307, li i] [] S Q) : wp (ivS L xs) L RpK csK 413 255 1179 [lr 0, lr 64, lr 307, li i] [] S Q := by
  obtain ⟨H, k, n0⟩ := S
  obtain ⟨⟨fx, gx⟩, v, v', f, k1, n1, h1, ⟨z, rfl, rfl⟩, ⟨oM, oX⟩, rx, ⟨fm, gm⟩, f2, h2, rm, hI'⟩ := two_l (iv := ivS L xs) (L := L) (M := 158) (X := 39) (asM := [vr 307]) (asX := [vr 64]) hI (fun s c hp h0 => ps_digest hp (by decide) (by decide)) (okS_c trivial okS_n) (okS_c trivial okS_n)
  refine w_aload_n rfl rfl ?_
  refine law_virt (p := 64) (as := []) (r := []) rfl rfl rfl rfl (by decide) gx rfl rfl rx (fun _ e => by cases e; exact oX) ?_
  show wp (ivS L xs) L RpK csK 413 255 1183 [lr 0, lr 64, lr 307, li i] [vl z] (h1, k + k1, n0 + n1) Q
  refine w_pop2 rfl ?_
  refine w_aload_n rfl rfl ?_
  refine law_virt (p := 307) (as := []) (r := []) rfl rfl rfl rfl (by decide) gm rfl rfl rm (fun _ e => by cases e; exact oM) ?_
  show wp (ivS L xs) L RpK csK 413 255 1188 [lr 0, lr 64, lr 307, li i] [vl z] (h2, k + k1 + 0, n0 + n1 + 0) Q
  refine w_pop2 rfl ?_
  refine w_goto rfl ?_
  exact hK _ hI'
end
theorem law_loop {L : Nat} {xs : Nat → Int32} (hL : L ≤ 2048) : ∀ (r m : Nat) (i : Int) (S : CS), LI m S → 4 * (m : Int) ≤ i → 0 ≤ i ∧ i ≤ 2048 → (L : Int) - 3 ≤ i + 4 * r → wp (ivS L xs) L RpK csK 413 255 18 [lr 0, lr 64, lr 307, li i] [] S (fun v S => v = some (vi 1) ∧ S.2.1 ≤ 600000 ∧ S.2.2 ≤ 7302249) := by
  intro r
  induction r with
  | zero =>
    intro m i S hI h4 h0 hr
    have hr : (L : Int) - 3 ≤ i := by omega
    refine w_iload_n rfl rfl ?_
    refine w_aload_n rfl rfl ?_
    refine w_len0 hL rfl ?_
    refine w_iconst rfl rfl ?_
    refine w_isub rfl (by unfold inR; omega) ?_
    refine w_icmp_gt rfl (fun _ => ?_) (fun h => absurd h (by omega))
    refine w_iconst rfl rfl ?_
    exact w_iretz rfl rfl (Or.inr rfl) ⟨rfl, LI_rm hI (by omega)⟩
  | succ r ih =>
    intro m i S hI h4 h0 hr
    refine w_iload_n rfl rfl ?_
    refine w_aload_n rfl rfl ?_
    refine w_len0 hL rfl ?_
    refine w_iconst rfl rfl ?_
    refine w_isub rfl (by unfold inR; omega) ?_
    refine w_icmp_gt rfl (fun _ => ?_) (fun h => ?_)
    · refine w_iconst rfl rfl ?_
      exact w_iretz rfl rfl (Or.inr rfl) ⟨rfl, LI_rm hI (by omega)⟩
    have hl : i + 3 < L := by omega
    have hm : (m : Int) < 512 := by omega
    have hK : ∀ S, LI (m + 1) S → wp (ivS L xs) L RpK csK 413 255 1192 [lr 0, lr 64, lr 307, li i] [] S (fun v S => v = some (vi 1) ∧ S.2.1 ≤ 600000 ∧ S.2.2 ≤ 7302249) := fun S' hI' => by
      refine w_iinc rfl rfl rfl (by unfold inR; omega) ?_
      refine w_goto rfl ?_
      exact ih (m + 1) (i + 4) S' hI' (by omega) (by omega) (by omega)
    have hK0 : wp (ivS L xs) L RpK csK 413 255 1192 [lr 0, lr 64, lr 307, li i] [] S (fun v S => v = some (vi 1) ∧ S.2.1 ≤ 600000 ∧ S.2.2 ≤ 7302249) := by
      refine w_iinc rfl rfl rfl (by unfold inR; omega) ?_
      refine w_goto rfl ?_
      exact ih m (i + 4) S hI (by omega) (by omega) (by omega)
    refine w_aload_n rfl rfl ?_
    refine w_iload_n rfl rfl ?_
    refine w_scr rfl (by omega) ?_
    refine w_bipush rfl rfl rfl ?_
    refine w_and63 rfl ?_
    refine w_tsw (td := 1192) (ts := [200, 259, 292, 325, 338, 351, 384, 417, 476, 525, 548, 571, 614, 627, 650, 673, 696, 719, 742, 765, 778, 791, 824, 847, 870, 883, 896, 919, 942, 985, 1008, 1041, 1074, 1107, 1120, 1143, 1156, 1179]) rfl rfl rfl rfl rfl rfl (fun _ => hK0) ?_
    exact ⟨fun _ => lc_0 hI hm h0.1 hl hL hK, fun _ => lc_1 hI hm h0.1 hl hL hK, fun _ => lc_2 hI hm h0.1 hl hL hK, fun _ => lc_3 hI hm h0.1 hl hL hK, fun _ => lc_4 hI hm h0.1 hl hL hK, fun _ => lc_5 hI hm h0.1 hl hL hK, fun _ => lc_6 hI hm h0.1 hl hL hK, fun _ => lc_7 hI hm h0.1 hl hL hK, fun _ => lc_8 hI hm h0.1 hl hL hK, fun _ => lc_9 hI hm h0.1 hl hL hK, fun _ => lc_10 hI hm h0.1 hl hL hK, fun _ => lc_11 hI hm h0.1 hl hL hK, fun _ => lc_12 hI hm h0.1 hl hL hK, fun _ => lc_13 hI hm h0.1 hl hL hK, fun _ => lc_14 hI hm h0.1 hl hL hK, fun _ => lc_15 hI hm h0.1 hl hL hK, fun _ => lc_16 hI hm h0.1 hl hL hK, fun _ => lc_17 hI hm h0.1 hl hL hK, fun _ => lc_18 hI hm h0.1 hl hL hK, fun _ => lc_19 hI hm h0.1 hl hL hK, fun _ => lc_20 hI hm h0.1 hl hL hK, fun _ => lc_21 hI hm h0.1 hl hL hK, fun _ => lc_22 hI hm h0.1 hl hL hK, fun _ => lc_23 hI hm h0.1 hl hL hK, fun _ => lc_24 hI hm h0.1 hl hL hK, fun _ => lc_25 hI hm h0.1 hl hL hK, fun _ => lc_26 hI hm h0.1 hl hL hK, fun _ => lc_27 hI hm h0.1 hl hL hK, fun _ => lc_28 hI hm h0.1 hl hL hK, fun _ => lc_29 hI hm h0.1 hl hL hK, fun _ => lc_30 hI hm h0.1 hl hL hK, fun _ => lc_31 hI hm h0.1 hl hL hK, fun _ => lc_32 hI hm h0.1 hl hL hK, fun _ => lc_33 hI hm h0.1 hl hL hK, fun _ => lc_34 hI hm h0.1 hl hL hK, fun _ => lc_35 hI hm h0.1 hl hL hK, fun _ => lc_36 hI hm h0.1 hl hL hK, fun _ => lc_37 hI hm h0.1 hl hL hK, trivial⟩

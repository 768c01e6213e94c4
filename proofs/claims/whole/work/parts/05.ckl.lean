/-! The law. -/
theorem ck_257_0 : chkTs (chkE 257) cd_257 0 4 = true := by decide +kernel
theorem ck_257_4 : chkTs (chkE 257) cd_257 4 4 = true := by decide +kernel
theorem ck_257_8 : chkTs (chkE 257) cd_257 8 4 = true := by decide +kernel
theorem ck_257_12 : chkTs (chkE 257) cd_257 12 4 = true := by decide +kernel
theorem ck_257_16 : chkTs (chkE 257) cd_257 16 4 = true := by decide +kernel
theorem ck_257_20 : chkTs (chkE 257) cd_257 20 4 = true := by decide +kernel
theorem ck_257_24 : chkTs (chkE 257) cd_257 24 4 = true := by decide +kernel
theorem ck_257_28 : chkTs (chkE 257) cd_257 28 4 = true := by decide +kernel
theorem ck_257_32 : chkTs (chkE 257) cd_257 32 4 = true := by decide +kernel
theorem ck_257_36 : chkTs (chkE 257) cd_257 36 4 = true := by decide +kernel
theorem ck_257_40 : chkTs (chkE 257) cd_257 40 4 = true := by decide +kernel
theorem ck_257_44 : chkTs (chkE 257) cd_257 44 4 = true := by decide +kernel
theorem ck_257_48 : chkTs (chkE 257) cd_257 48 4 = true := by decide +kernel
theorem ck_257_52 : chkTs (chkE 257) cd_257 52 4 = true := by decide +kernel
theorem ck_257_56 : chkTs (chkE 257) cd_257 56 4 = true := by decide +kernel
theorem ck_257_60 : chkTs (chkE 257) cd_257 60 4 = true := by decide +kernel
theorem ck_257_64 : chkTs (chkE 257) cd_257 64 4 = true := by decide +kernel
theorem ck_257_68 : chkTs (chkE 257) cd_257 68 4 = true := by decide +kernel
theorem ck_257_72 : chkTs (chkE 257) cd_257 72 4 = true := by decide +kernel
theorem ck_257 : chkT (chkE 257) cd_257 = true := chkT_of (by decide +kernel : cd_257.length = 76) (fun a ha => by
  by_cases h0 : a < 4
  · exact chkTs_at ck_257_0 a (by omega) (by omega)
  by_cases h4 : a < 8
  · exact chkTs_at ck_257_4 a (by omega) (by omega)
  by_cases h8 : a < 12
  · exact chkTs_at ck_257_8 a (by omega) (by omega)
  by_cases h12 : a < 16
  · exact chkTs_at ck_257_12 a (by omega) (by omega)
  by_cases h16 : a < 20
  · exact chkTs_at ck_257_16 a (by omega) (by omega)
  by_cases h20 : a < 24
  · exact chkTs_at ck_257_20 a (by omega) (by omega)
  by_cases h24 : a < 28
  · exact chkTs_at ck_257_24 a (by omega) (by omega)
  by_cases h28 : a < 32
  · exact chkTs_at ck_257_28 a (by omega) (by omega)
  by_cases h32 : a < 36
  · exact chkTs_at ck_257_32 a (by omega) (by omega)
  by_cases h36 : a < 40
  · exact chkTs_at ck_257_36 a (by omega) (by omega)
  by_cases h40 : a < 44
  · exact chkTs_at ck_257_40 a (by omega) (by omega)
  by_cases h44 : a < 48
  · exact chkTs_at ck_257_44 a (by omega) (by omega)
  by_cases h48 : a < 52
  · exact chkTs_at ck_257_48 a (by omega) (by omega)
  by_cases h52 : a < 56
  · exact chkTs_at ck_257_52 a (by omega) (by omega)
  by_cases h56 : a < 60
  · exact chkTs_at ck_257_56 a (by omega) (by omega)
  by_cases h60 : a < 64
  · exact chkTs_at ck_257_60 a (by omega) (by omega)
  by_cases h64 : a < 68
  · exact chkTs_at ck_257_64 a (by omega) (by omega)
  by_cases h68 : a < 72
  · exact chkTs_at ck_257_68 a (by omega) (by omega)
  exact chkTs_at ck_257_72 a (by omega) (by omega))

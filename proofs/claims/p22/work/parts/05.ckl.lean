/-! The law. -/
theorem ck_255_0 : chkTs (chkE 255) cd_255 0 4 = true := by decide +kernel
theorem ck_255_4 : chkTs (chkE 255) cd_255 4 4 = true := by decide +kernel
theorem ck_255_8 : chkTs (chkE 255) cd_255 8 4 = true := by decide +kernel
theorem ck_255_12 : chkTs (chkE 255) cd_255 12 4 = true := by decide +kernel
theorem ck_255_16 : chkTs (chkE 255) cd_255 16 4 = true := by decide +kernel
theorem ck_255_20 : chkTs (chkE 255) cd_255 20 4 = true := by decide +kernel
theorem ck_255_24 : chkTs (chkE 255) cd_255 24 4 = true := by decide +kernel
theorem ck_255_28 : chkTs (chkE 255) cd_255 28 4 = true := by decide +kernel
theorem ck_255_32 : chkTs (chkE 255) cd_255 32 4 = true := by decide +kernel
theorem ck_255_36 : chkTs (chkE 255) cd_255 36 4 = true := by decide +kernel
theorem ck_255_40 : chkTs (chkE 255) cd_255 40 4 = true := by decide +kernel
theorem ck_255_44 : chkTs (chkE 255) cd_255 44 4 = true := by decide +kernel
theorem ck_255_48 : chkTs (chkE 255) cd_255 48 4 = true := by decide +kernel
theorem ck_255_52 : chkTs (chkE 255) cd_255 52 4 = true := by decide +kernel
theorem ck_255_56 : chkTs (chkE 255) cd_255 56 4 = true := by decide +kernel
theorem ck_255_60 : chkTs (chkE 255) cd_255 60 4 = true := by decide +kernel
theorem ck_255_64 : chkTs (chkE 255) cd_255 64 4 = true := by decide +kernel
theorem ck_255_68 : chkTs (chkE 255) cd_255 68 4 = true := by decide +kernel
theorem ck_255_72 : chkTs (chkE 255) cd_255 72 3 = true := by decide +kernel
theorem ck_255 : chkT (chkE 255) cd_255 = true := chkT_of (by decide +kernel : cd_255.length = 75) (fun a ha => by
  by_cases h0 : a < 4
  · exact chkTs_at ck_255_0 a (by omega) (by omega)
  by_cases h4 : a < 8
  · exact chkTs_at ck_255_4 a (by omega) (by omega)
  by_cases h8 : a < 12
  · exact chkTs_at ck_255_8 a (by omega) (by omega)
  by_cases h12 : a < 16
  · exact chkTs_at ck_255_12 a (by omega) (by omega)
  by_cases h16 : a < 20
  · exact chkTs_at ck_255_16 a (by omega) (by omega)
  by_cases h20 : a < 24
  · exact chkTs_at ck_255_20 a (by omega) (by omega)
  by_cases h24 : a < 28
  · exact chkTs_at ck_255_24 a (by omega) (by omega)
  by_cases h28 : a < 32
  · exact chkTs_at ck_255_28 a (by omega) (by omega)
  by_cases h32 : a < 36
  · exact chkTs_at ck_255_32 a (by omega) (by omega)
  by_cases h36 : a < 40
  · exact chkTs_at ck_255_36 a (by omega) (by omega)
  by_cases h40 : a < 44
  · exact chkTs_at ck_255_40 a (by omega) (by omega)
  by_cases h44 : a < 48
  · exact chkTs_at ck_255_44 a (by omega) (by omega)
  by_cases h48 : a < 52
  · exact chkTs_at ck_255_48 a (by omega) (by omega)
  by_cases h52 : a < 56
  · exact chkTs_at ck_255_52 a (by omega) (by omega)
  by_cases h56 : a < 60
  · exact chkTs_at ck_255_56 a (by omega) (by omega)
  by_cases h60 : a < 64
  · exact chkTs_at ck_255_60 a (by omega) (by omega)
  by_cases h64 : a < 68
  · exact chkTs_at ck_255_64 a (by omega) (by omega)
  by_cases h68 : a < 72
  · exact chkTs_at ck_255_68 a (by omega) (by omega)
  exact chkTs_at ck_255_72 a (by omega) (by omega))

set_option maxRecDepth 100000 in
theorem okm_0 : (List.range' 0 24).all okM = true := by decide +kernel
set_option maxRecDepth 100000 in
theorem okm_24 : (List.range' 24 24).all okM = true := by decide +kernel
set_option maxRecDepth 100000 in
theorem okm_48 : (List.range' 48 24).all okM = true := by decide +kernel
set_option maxRecDepth 100000 in
theorem okm_72 : (List.range' 72 24).all okM = true := by decide +kernel
set_option maxRecDepth 100000 in
theorem okm_96 : (List.range' 96 24).all okM = true := by decide +kernel
set_option maxRecDepth 100000 in
theorem okm_120 : (List.range' 120 24).all okM = true := by decide +kernel
set_option maxRecDepth 100000 in
theorem okm_144 : (List.range' 144 24).all okM = true := by decide +kernel
set_option maxRecDepth 100000 in
theorem okm_168 : (List.range' 168 24).all okM = true := by decide +kernel
set_option maxRecDepth 100000 in
theorem okm_192 : (List.range' 192 24).all okM = true := by decide +kernel
set_option maxRecDepth 100000 in
theorem okm_216 : (List.range' 216 24).all okM = true := by decide +kernel
set_option maxRecDepth 100000 in
theorem okm_240 : (List.range' 240 24).all okM = true := by decide +kernel
set_option maxRecDepth 100000 in
theorem okm_264 : (List.range' 264 24).all okM = true := by decide +kernel
set_option maxRecDepth 100000 in
theorem okm_288 : (List.range' 288 24).all okM = true := by decide +kernel
set_option maxRecDepth 100000 in
theorem okm_312 : (List.range' 312 24).all okM = true := by decide +kernel
set_option maxRecDepth 100000 in
theorem okm_336 : (List.range' 336 21).all okM = true := by decide +kernel
def lawI (j : Nat) : Bool := match nth2 k_L_law j with
  | some i => okI 357 (mtB 357) (mtP 357) (mtX 357) (mtO 357) (mtK 357) 4 j i
  | none => true
set_option maxRecDepth 100000 in
theorem okl_0 : (List.range' 0 50).all lawI = true := by decide +kernel
set_option maxRecDepth 100000 in
theorem okl_50 : (List.range' 50 50).all lawI = true := by decide +kernel
set_option maxRecDepth 100000 in
theorem okl_100 : (List.range' 100 50).all lawI = true := by decide +kernel
set_option maxRecDepth 100000 in
theorem okl_150 : (List.range' 150 50).all lawI = true := by decide +kernel
set_option maxRecDepth 100000 in
theorem okl_200 : (List.range' 200 50).all lawI = true := by decide +kernel
set_option maxRecDepth 100000 in
theorem okl_250 : (List.range' 250 50).all lawI = true := by decide +kernel
set_option maxRecDepth 100000 in
theorem okl_300 : (List.range' 300 50).all lawI = true := by decide +kernel
set_option maxRecDepth 100000 in
theorem okl_350 : (List.range' 350 50).all lawI = true := by decide +kernel
set_option maxRecDepth 100000 in
theorem okl_400 : (List.range' 400 50).all lawI = true := by decide +kernel
set_option maxRecDepth 100000 in
theorem okl_450 : (List.range' 450 50).all lawI = true := by decide +kernel
set_option maxRecDepth 100000 in
theorem okl_500 : (List.range' 500 50).all lawI = true := by decide +kernel
set_option maxRecDepth 100000 in
theorem okl_550 : (List.range' 550 50).all lawI = true := by decide +kernel
set_option maxRecDepth 100000 in
theorem okl_600 : (List.range' 600 50).all lawI = true := by decide +kernel
set_option maxRecDepth 100000 in
theorem okl_650 : (List.range' 650 50).all lawI = true := by decide +kernel
set_option maxRecDepth 100000 in
theorem okl_700 : (List.range' 700 50).all lawI = true := by decide +kernel
set_option maxRecDepth 100000 in
theorem okl_750 : (List.range' 750 50).all lawI = true := by decide +kernel
set_option maxRecDepth 100000 in
theorem okl_800 : (List.range' 800 50).all lawI = true := by decide +kernel
set_option maxRecDepth 100000 in
theorem okl_850 : (List.range' 850 50).all lawI = true := by decide +kernel
set_option maxRecDepth 100000 in
theorem okl_900 : (List.range' 900 50).all lawI = true := by decide +kernel
set_option maxRecDepth 100000 in
theorem okl_950 : (List.range' 950 50).all lawI = true := by decide +kernel
set_option maxRecDepth 100000 in
theorem okl_1000 : (List.range' 1000 50).all lawI = true := by decide +kernel
set_option maxRecDepth 100000 in
theorem okl_1050 : (List.range' 1050 50).all lawI = true := by decide +kernel
set_option maxRecDepth 100000 in
theorem okl_1100 : (List.range' 1100 50).all lawI = true := by decide +kernel
set_option maxRecDepth 100000 in
theorem okl_1150 : (List.range' 1150 50).all lawI = true := by decide +kernel
set_option maxRecDepth 100000 in
theorem okl_1200 : (List.range' 1200 31).all lawI = true := by decide +kernel
theorem okl_all {j : Nat} (h : j < 1231) : lawI j = true := by
  by_cases h0 : j < 50
  · exact List.all_eq_true.mp okl_0 j (List.mem_range'_1.mpr ⟨by omega, by omega⟩)
  by_cases h50 : j < 100
  · exact List.all_eq_true.mp okl_50 j (List.mem_range'_1.mpr ⟨by omega, by omega⟩)
  by_cases h100 : j < 150
  · exact List.all_eq_true.mp okl_100 j (List.mem_range'_1.mpr ⟨by omega, by omega⟩)
  by_cases h150 : j < 200
  · exact List.all_eq_true.mp okl_150 j (List.mem_range'_1.mpr ⟨by omega, by omega⟩)
  by_cases h200 : j < 250
  · exact List.all_eq_true.mp okl_200 j (List.mem_range'_1.mpr ⟨by omega, by omega⟩)
  by_cases h250 : j < 300
  · exact List.all_eq_true.mp okl_250 j (List.mem_range'_1.mpr ⟨by omega, by omega⟩)
  by_cases h300 : j < 350
  · exact List.all_eq_true.mp okl_300 j (List.mem_range'_1.mpr ⟨by omega, by omega⟩)
  by_cases h350 : j < 400
  · exact List.all_eq_true.mp okl_350 j (List.mem_range'_1.mpr ⟨by omega, by omega⟩)
  by_cases h400 : j < 450
  · exact List.all_eq_true.mp okl_400 j (List.mem_range'_1.mpr ⟨by omega, by omega⟩)
  by_cases h450 : j < 500
  · exact List.all_eq_true.mp okl_450 j (List.mem_range'_1.mpr ⟨by omega, by omega⟩)
  by_cases h500 : j < 550
  · exact List.all_eq_true.mp okl_500 j (List.mem_range'_1.mpr ⟨by omega, by omega⟩)
  by_cases h550 : j < 600
  · exact List.all_eq_true.mp okl_550 j (List.mem_range'_1.mpr ⟨by omega, by omega⟩)
  by_cases h600 : j < 650
  · exact List.all_eq_true.mp okl_600 j (List.mem_range'_1.mpr ⟨by omega, by omega⟩)
  by_cases h650 : j < 700
  · exact List.all_eq_true.mp okl_650 j (List.mem_range'_1.mpr ⟨by omega, by omega⟩)
  by_cases h700 : j < 750
  · exact List.all_eq_true.mp okl_700 j (List.mem_range'_1.mpr ⟨by omega, by omega⟩)
  by_cases h750 : j < 800
  · exact List.all_eq_true.mp okl_750 j (List.mem_range'_1.mpr ⟨by omega, by omega⟩)
  by_cases h800 : j < 850
  · exact List.all_eq_true.mp okl_800 j (List.mem_range'_1.mpr ⟨by omega, by omega⟩)
  by_cases h850 : j < 900
  · exact List.all_eq_true.mp okl_850 j (List.mem_range'_1.mpr ⟨by omega, by omega⟩)
  by_cases h900 : j < 950
  · exact List.all_eq_true.mp okl_900 j (List.mem_range'_1.mpr ⟨by omega, by omega⟩)
  by_cases h950 : j < 1000
  · exact List.all_eq_true.mp okl_950 j (List.mem_range'_1.mpr ⟨by omega, by omega⟩)
  by_cases h1000 : j < 1050
  · exact List.all_eq_true.mp okl_1000 j (List.mem_range'_1.mpr ⟨by omega, by omega⟩)
  by_cases h1050 : j < 1100
  · exact List.all_eq_true.mp okl_1050 j (List.mem_range'_1.mpr ⟨by omega, by omega⟩)
  by_cases h1100 : j < 1150
  · exact List.all_eq_true.mp okl_1100 j (List.mem_range'_1.mpr ⟨by omega, by omega⟩)
  by_cases h1150 : j < 1200
  · exact List.all_eq_true.mp okl_1150 j (List.mem_range'_1.mpr ⟨by omega, by omega⟩)
  by_cases h1200 : j < 1231
  · exact List.all_eq_true.mp okl_1200 j (List.mem_range'_1.mpr ⟨by omega, by omega⟩)
  exact absurd h (by omega)
theorem okm_all {id : Nat} (h : id < 357) : okM id = true := by
  by_cases h0 : id < 24
  · exact List.all_eq_true.mp okm_0 id (List.mem_range'_1.mpr ⟨by omega, by omega⟩)
  by_cases h24 : id < 48
  · exact List.all_eq_true.mp okm_24 id (List.mem_range'_1.mpr ⟨by omega, by omega⟩)
  by_cases h48 : id < 72
  · exact List.all_eq_true.mp okm_48 id (List.mem_range'_1.mpr ⟨by omega, by omega⟩)
  by_cases h72 : id < 96
  · exact List.all_eq_true.mp okm_72 id (List.mem_range'_1.mpr ⟨by omega, by omega⟩)
  by_cases h96 : id < 120
  · exact List.all_eq_true.mp okm_96 id (List.mem_range'_1.mpr ⟨by omega, by omega⟩)
  by_cases h120 : id < 144
  · exact List.all_eq_true.mp okm_120 id (List.mem_range'_1.mpr ⟨by omega, by omega⟩)
  by_cases h144 : id < 168
  · exact List.all_eq_true.mp okm_144 id (List.mem_range'_1.mpr ⟨by omega, by omega⟩)
  by_cases h168 : id < 192
  · exact List.all_eq_true.mp okm_168 id (List.mem_range'_1.mpr ⟨by omega, by omega⟩)
  by_cases h192 : id < 216
  · exact List.all_eq_true.mp okm_192 id (List.mem_range'_1.mpr ⟨by omega, by omega⟩)
  by_cases h216 : id < 240
  · exact List.all_eq_true.mp okm_216 id (List.mem_range'_1.mpr ⟨by omega, by omega⟩)
  by_cases h240 : id < 264
  · exact List.all_eq_true.mp okm_240 id (List.mem_range'_1.mpr ⟨by omega, by omega⟩)
  by_cases h264 : id < 288
  · exact List.all_eq_true.mp okm_264 id (List.mem_range'_1.mpr ⟨by omega, by omega⟩)
  by_cases h288 : id < 312
  · exact List.all_eq_true.mp okm_288 id (List.mem_range'_1.mpr ⟨by omega, by omega⟩)
  by_cases h312 : id < 336
  · exact List.all_eq_true.mp okm_312 id (List.mem_range'_1.mpr ⟨by omega, by omega⟩)
  by_cases h336 : id < 357
  · exact List.all_eq_true.mp okm_336 id (List.mem_range'_1.mpr ⟨by omega, by omega⟩)
  exact absurd h (by omega)
theorem law_len : Nat.ble (k_L_law.length) 1231 = true := by decide +kernel

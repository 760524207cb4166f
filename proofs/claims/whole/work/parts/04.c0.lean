set_option maxRecDepth 1000000 in
theorem ct1 : chT 1 = true := by decide +kernel
set_option maxRecDepth 1000000 in
theorem ct2 : chT 2 = true := by decide +kernel
set_option maxRecDepth 1000000 in
theorem ct3 : chT 3 = true := by decide +kernel
set_option maxRecDepth 1000000 in
theorem ct4 : chT 4 = true := by decide +kernel
set_option maxRecDepth 1000000 in
theorem ct5 : chT 5 = true := by decide +kernel
set_option maxRecDepth 1000000 in
theorem ct6 : chT 6 = true := by decide +kernel
set_option maxRecDepth 1000000 in
theorem ct7 : chT 7 = true := by decide +kernel
set_option maxRecDepth 1000000 in
theorem ct8 : chT 8 = true := by decide +kernel
set_option maxRecDepth 1000000 in
theorem ct9 : chT 9 = true := by decide +kernel
set_option maxRecDepth 1000000 in
theorem ct10 : chT 10 = true := by decide +kernel
set_option maxRecDepth 1000000 in
theorem ct11 : chT 11 = true := by decide +kernel
set_option maxRecDepth 1000000 in
theorem ct12 : chT 12 = true := by decide +kernel
set_option maxRecDepth 1000000 in
theorem ct13 : chT 13 = true := by decide +kernel
set_option maxRecDepth 1000000 in
theorem ct14 : chT 14 = true := by decide +kernel
set_option maxRecDepth 1000000 in
theorem ct15 : chT 15 = true := by decide +kernel
set_option maxRecDepth 1000000 in
theorem ct16 : chT 16 = true := by decide +kernel
set_option maxRecDepth 1000000 in
theorem ct17 : chT 17 = true := by decide +kernel
set_option maxRecDepth 1000000 in
theorem ct18 : chT 18 = true := by decide +kernel
set_option maxRecDepth 1000000 in
theorem ct19 : chT 19 = true := by decide +kernel
set_option maxRecDepth 1000000 in
theorem ct20 : chT 20 = true := by decide +kernel
set_option maxRecDepth 1000000 in
theorem ct21 : chT 21 = true := by decide +kernel
set_option maxRecDepth 1000000 in
theorem ct22 : chT 22 = true := by decide +kernel
set_option maxRecDepth 1000000 in
theorem ct23 : chT 23 = true := by decide +kernel
set_option maxRecDepth 1000000 in
theorem ct24 : chT 24 = true := by decide +kernel
set_option maxRecDepth 1000000 in
theorem ct25 : chT 25 = true := by decide +kernel
set_option maxRecDepth 1000000 in
theorem ct26 : chT 26 = true := by decide +kernel
set_option maxRecDepth 1000000 in
theorem ct27 : chT 27 = true := by decide +kernel
set_option maxRecDepth 1000000 in
theorem ct28 : chT 28 = true := by decide +kernel
set_option maxRecDepth 1000000 in
theorem ct29 : chT 29 = true := by decide +kernel
set_option maxRecDepth 1000000 in
theorem ct30 : chT 30 = true := by decide +kernel
set_option maxRecDepth 1000000 in
theorem ct31 : chT 31 = true := by decide +kernel
set_option maxRecDepth 1000000 in
theorem ct32 : chT 32 = true := by decide +kernel
set_option maxRecDepth 1000000 in
theorem ct33 : chT 33 = true := by decide +kernel
set_option maxRecDepth 1000000 in
theorem ct34 : chT 34 = true := by decide +kernel
set_option maxRecDepth 1000000 in
theorem ct35 : chT 35 = true := by decide +kernel
set_option maxRecDepth 1000000 in
theorem ct36 : chT 36 = true := by decide +kernel
set_option maxRecDepth 1000000 in
theorem ct37 : chT 37 = true := by decide +kernel
set_option maxRecDepth 1000000 in
theorem ct38 : chT 38 = true := by decide +kernel
set_option maxRecDepth 1000000 in
theorem ct39 : chT 39 = true := by decide +kernel
set_option maxRecDepth 1000000 in
theorem ct40 : chT 40 = true := by decide +kernel
set_option maxRecDepth 1000000 in
theorem ct41 : chT 41 = true := by decide +kernel
set_option maxRecDepth 1000000 in
theorem ct42 : chT 42 = true := by decide +kernel
set_option maxRecDepth 1000000 in
theorem ct43 : chT 43 = true := by decide +kernel
set_option maxRecDepth 1000000 in
theorem ct44 : chT 44 = true := by decide +kernel
set_option maxRecDepth 1000000 in
theorem ct45 : chT 45 = true := by decide +kernel
set_option maxRecDepth 1000000 in
theorem ct46 : chT 46 = true := by decide +kernel
set_option maxRecDepth 1000000 in
theorem ct47 : chT 47 = true := by decide +kernel
set_option maxRecDepth 1000000 in
theorem ct48 : chT 48 = true := by decide +kernel
set_option maxRecDepth 1000000 in
theorem ct49 : chT 49 = true := by decide +kernel
set_option maxRecDepth 1000000 in
theorem ct50 : chT 50 = true := by decide +kernel
set_option maxRecDepth 1000000 in
theorem ct51 : chT 51 = true := by decide +kernel
set_option maxRecDepth 1000000 in
theorem ct52 : chT 52 = true := by decide +kernel
set_option maxRecDepth 1000000 in
theorem ct53 : chT 53 = true := by decide +kernel
set_option maxRecDepth 1000000 in
theorem ct54 : chT 54 = true := by decide +kernel
set_option maxRecDepth 1000000 in
theorem ct55 : chT 55 = true := by decide +kernel
set_option maxRecDepth 1000000 in
theorem ct56 : chT 56 = true := by decide +kernel
set_option maxRecDepth 1000000 in
theorem ct57 : chT 57 = true := by decide +kernel
set_option maxRecDepth 1000000 in
theorem ct58 : chT 58 = true := by decide +kernel
set_option maxRecDepth 1000000 in
theorem ct59 : chT 59 = true := by decide +kernel
set_option maxRecDepth 1000000 in
theorem ct60 : chT 60 = true := by decide +kernel
set_option maxRecDepth 1000000 in
theorem ct61 : chT 61 = true := by decide +kernel
set_option maxRecDepth 1000000 in
theorem ct62 : chT 62 = true := by decide +kernel
set_option maxRecDepth 1000000 in
theorem ct63 : chT 63 = true := by decide +kernel
set_option maxRecDepth 1000000 in
theorem ct64 : chT 64 = true := by decide +kernel
set_option maxRecDepth 1000000 in
theorem ct65 : chT 65 = true := by decide +kernel
set_option maxRecDepth 1000000 in
theorem ct66 : chT 66 = true := by decide +kernel
set_option maxRecDepth 1000000 in
theorem ct67 : chT 67 = true := by decide +kernel
set_option maxRecDepth 1000000 in
theorem ct68 : chT 68 = true := by decide +kernel
set_option maxRecDepth 1000000 in
theorem ct69 : chT 69 = true := by decide +kernel
set_option maxRecDepth 1000000 in
theorem ct70 : chT 70 = true := by decide +kernel
set_option maxRecDepth 1000000 in
theorem ct71 : chT 71 = true := by decide +kernel
set_option maxRecDepth 1000000 in
theorem ct72 : chT 72 = true := by decide +kernel

theorem lwt1 {w : Cond} (h : w ∈ tables_1_1) : w ∈ lw_tbl := List.mem_append_right _ (List.mem_append_left _ h)
theorem lwt2 {w : Cond} (h : w ∈ tables_1_2) : w ∈ lw_tbl := List.mem_append_right _ (List.mem_append_right _ (List.mem_append_left _ h))
theorem lwt3 {w : Cond} (h : w ∈ tables_1_3) : w ∈ lw_tbl := List.mem_append_right _ (List.mem_append_right _ (List.mem_append_right _ (List.mem_append_left _ h)))
theorem lwt4 {w : Cond} (h : w ∈ tables_1_4) : w ∈ lw_tbl := List.mem_append_right _ (List.mem_append_right _ (List.mem_append_right _ (List.mem_append_right _ (List.mem_append_left _ h))))
theorem lwt5 {w : Cond} (h : w ∈ tables_1_5) : w ∈ lw_tbl := List.mem_append_right _ (List.mem_append_right _ (List.mem_append_right _ (List.mem_append_right _ (List.mem_append_right _ (List.mem_append_left _ h)))))
theorem lwt6 {w : Cond} (h : w ∈ tables_1_6) : w ∈ lw_tbl := List.mem_append_right _ (List.mem_append_right _ (List.mem_append_right _ (List.mem_append_right _ (List.mem_append_right _ (List.mem_append_right _ (List.mem_append_left _ h))))))
theorem lwt7 {w : Cond} (h : w ∈ tables_1_7) : w ∈ lw_tbl := List.mem_append_right _ (List.mem_append_right _ (List.mem_append_right _ (List.mem_append_right _ (List.mem_append_right _ (List.mem_append_right _ (List.mem_append_right _ (h)))))))
set_option maxRecDepth 100000 in
theorem cd1 : Cond.code (mY 1) (mC 1) (mL 1) (mR 1) ∈ lw_tbl := lwt1 (List.mem_of_getElem? (i := 99) rfl)
set_option maxRecDepth 100000 in
theorem cd2 : Cond.code (mY 2) (mC 2) (mL 2) (mR 2) ∈ lw_tbl := lwt2 (List.mem_of_getElem? (i := 163) rfl)
set_option maxRecDepth 100000 in
theorem cd3 : Cond.code (mY 3) (mC 3) (mL 3) (mR 3) ∈ lw_tbl := lwt3 (List.mem_of_getElem? (i := 9) rfl)
set_option maxRecDepth 100000 in
theorem cd4 : Cond.code (mY 4) (mC 4) (mL 4) (mR 4) ∈ lw_tbl := lwt3 (List.mem_of_getElem? (i := 15) rfl)
set_option maxRecDepth 100000 in
theorem cd5 : Cond.code (mY 5) (mC 5) (mL 5) (mR 5) ∈ lw_tbl := lwt3 (List.mem_of_getElem? (i := 22) rfl)
set_option maxRecDepth 100000 in
theorem cd6 : Cond.code (mY 6) (mC 6) (mL 6) (mR 6) ∈ lw_tbl := lwt1 (List.mem_of_getElem? (i := 155) rfl)
set_option maxRecDepth 100000 in
theorem cd7 : Cond.code (mY 7) (mC 7) (mL 7) (mR 7) ∈ lw_tbl := lwt2 (List.mem_of_getElem? (i := 88) rfl)
set_option maxRecDepth 100000 in
theorem cd8 : Cond.code (mY 8) (mC 8) (mL 8) (mR 8) ∈ lw_tbl := lwt2 (List.mem_of_getElem? (i := 91) rfl)
set_option maxRecDepth 100000 in
theorem cd9 : Cond.code (mY 9) (mC 9) (mL 9) (mR 9) ∈ lw_tbl := lwt2 (List.mem_of_getElem? (i := 95) rfl)
set_option maxRecDepth 100000 in
theorem cd10 : Cond.code (mY 10) (mC 10) (mL 10) (mR 10) ∈ lw_tbl := lwt2 (List.mem_of_getElem? (i := 136) rfl)
set_option maxRecDepth 100000 in
theorem cd11 : Cond.code (mY 11) (mC 11) (mL 11) (mR 11) ∈ lw_tbl := lwt2 (List.mem_of_getElem? (i := 103) rfl)
set_option maxRecDepth 100000 in
theorem cd12 : Cond.code (mY 12) (mC 12) (mL 12) (mR 12) ∈ lw_tbl := lwt2 (List.mem_of_getElem? (i := 111) rfl)
set_option maxRecDepth 100000 in
theorem cd13 : Cond.code (mY 13) (mC 13) (mL 13) (mR 13) ∈ lw_tbl := lwt2 (List.mem_of_getElem? (i := 115) rfl)
set_option maxRecDepth 100000 in
theorem cd14 : Cond.code (mY 14) (mC 14) (mL 14) (mR 14) ∈ lw_tbl := lwt3 (List.mem_of_getElem? (i := 55) rfl)
set_option maxRecDepth 100000 in
theorem cd15 : Cond.code (mY 15) (mC 15) (mL 15) (mR 15) ∈ lw_tbl := lwt2 (List.mem_of_getElem? (i := 132) rfl)
set_option maxRecDepth 100000 in
theorem cd16 : Cond.code (mY 16) (mC 16) (mL 16) (mR 16) ∈ lw_tbl := lwt3 (List.mem_of_getElem? (i := 63) rfl)
set_option maxRecDepth 100000 in
theorem cd17 : Cond.code (mY 17) (mC 17) (mL 17) (mR 17) ∈ lw_tbl := lwt2 (List.mem_of_getElem? (i := 99) rfl)
set_option maxRecDepth 100000 in
theorem cd18 : Cond.code (mY 18) (mC 18) (mL 18) (mR 18) ∈ lw_tbl := lwt2 (List.mem_of_getElem? (i := 206) rfl)
set_option maxRecDepth 100000 in
theorem cd19 : Cond.code (mY 19) (mC 19) (mL 19) (mR 19) ∈ lw_tbl := lwt3 (List.mem_of_getElem? (i := 92) rfl)
set_option maxRecDepth 100000 in
theorem cd20 : Cond.code (mY 20) (mC 20) (mL 20) (mR 20) ∈ lw_tbl := lwt2 (List.mem_of_getElem? (i := 228) rfl)
set_option maxRecDepth 100000 in
theorem cd21 : Cond.code (mY 21) (mC 21) (mL 21) (mR 21) ∈ lw_tbl := lwt3 (List.mem_of_getElem? (i := 112) rfl)
set_option maxRecDepth 100000 in
theorem cd22 : Cond.code (mY 22) (mC 22) (mL 22) (mR 22) ∈ lw_tbl := lwt3 (List.mem_of_getElem? (i := 31) rfl)
set_option maxRecDepth 100000 in
theorem cd23 : Cond.code (mY 23) (mC 23) (mL 23) (mR 23) ∈ lw_tbl := lwt2 (List.mem_of_getElem? (i := 154) rfl)
set_option maxRecDepth 100000 in
theorem cd24 : Cond.code (mY 24) (mC 24) (mL 24) (mR 24) ∈ lw_tbl := lwt2 (List.mem_of_getElem? (i := 171) rfl)
set_option maxRecDepth 100000 in
theorem cd25 : Cond.code (mY 25) (mC 25) (mL 25) (mR 25) ∈ lw_tbl := lwt2 (List.mem_of_getElem? (i := 196) rfl)
set_option maxRecDepth 100000 in
theorem cd26 : Cond.code (mY 26) (mC 26) (mL 26) (mR 26) ∈ lw_tbl := lwt2 (List.mem_of_getElem? (i := 167) rfl)
set_option maxRecDepth 100000 in
theorem cd27 : Cond.code (mY 27) (mC 27) (mL 27) (mR 27) ∈ lw_tbl := lwt2 (List.mem_of_getElem? (i := 140) rfl)
set_option maxRecDepth 100000 in
theorem cd28 : Cond.code (mY 28) (mC 28) (mL 28) (mR 28) ∈ lw_tbl := lwt2 (List.mem_of_getElem? (i := 218) rfl)
set_option maxRecDepth 100000 in
theorem cd29 : Cond.code (mY 29) (mC 29) (mL 29) (mR 29) ∈ lw_tbl := lwt2 (List.mem_of_getElem? (i := 144) rfl)
set_option maxRecDepth 100000 in
theorem cd30 : Cond.code (mY 30) (mC 30) (mL 30) (mR 30) ∈ lw_tbl := lwt2 (List.mem_of_getElem? (i := 232) rfl)
set_option maxRecDepth 100000 in
theorem cd31 : Cond.code (mY 31) (mC 31) (mL 31) (mR 31) ∈ lw_tbl := lwt2 (List.mem_of_getElem? (i := 107) rfl)
set_option maxRecDepth 100000 in
theorem cd32 : Cond.code (mY 32) (mC 32) (mL 32) (mR 32) ∈ lw_tbl := lwt2 (List.mem_of_getElem? (i := 191) rfl)
set_option maxRecDepth 100000 in
theorem cd33 : Cond.code (mY 33) (mC 33) (mL 33) (mR 33) ∈ lw_tbl := lwt2 (List.mem_of_getElem? (i := 180) rfl)
set_option maxRecDepth 100000 in
theorem cd34 : Cond.code (mY 34) (mC 34) (mL 34) (mR 34) ∈ lw_tbl := lwt3 (List.mem_of_getElem? (i := 79) rfl)
set_option maxRecDepth 100000 in
theorem cd35 : Cond.code (mY 35) (mC 35) (mL 35) (mR 35) ∈ lw_tbl := lwt3 (List.mem_of_getElem? (i := 75) rfl)
set_option maxRecDepth 100000 in
theorem cd36 : Cond.code (mY 36) (mC 36) (mL 36) (mR 36) ∈ lw_tbl := lwt3 (List.mem_of_getElem? (i := 156) rfl)
set_option maxRecDepth 100000 in
theorem cd37 : Cond.code (mY 37) (mC 37) (mL 37) (mR 37) ∈ lw_tbl := lwt3 (List.mem_of_getElem? (i := 43) rfl)
set_option maxRecDepth 100000 in
theorem cd38 : Cond.code (mY 38) (mC 38) (mL 38) (mR 38) ∈ lw_tbl := lwt3 (List.mem_of_getElem? (i := 39) rfl)
set_option maxRecDepth 100000 in
theorem cd39 : Cond.code (mY 39) (mC 39) (mL 39) (mR 39) ∈ lw_tbl := lwt4 (List.mem_of_getElem? (i := 161) rfl)
set_option maxRecDepth 100000 in
theorem cd40 : Cond.code (mY 40) (mC 40) (mL 40) (mR 40) ∈ lw_tbl := lwt4 (List.mem_of_getElem? (i := 165) rfl)
set_option maxRecDepth 100000 in
theorem cd41 : Cond.code (mY 41) (mC 41) (mL 41) (mR 41) ∈ lw_tbl := lwt4 (List.mem_of_getElem? (i := 0) rfl)
set_option maxRecDepth 100000 in
theorem cd42 : Cond.code (mY 42) (mC 42) (mL 42) (mR 42) ∈ lw_tbl := lwt4 (List.mem_of_getElem? (i := 4) rfl)
set_option maxRecDepth 100000 in
theorem cd43 : Cond.code (mY 43) (mC 43) (mL 43) (mR 43) ∈ lw_tbl := lwt2 (List.mem_of_getElem? (i := 187) rfl)
set_option maxRecDepth 100000 in
theorem cd44 : Cond.code (mY 44) (mC 44) (mL 44) (mR 44) ∈ lw_tbl := lwt3 (List.mem_of_getElem? (i := 236) rfl)
set_option maxRecDepth 100000 in
theorem cd45 : Cond.code (mY 45) (mC 45) (mL 45) (mR 45) ∈ lw_tbl := lwt4 (List.mem_of_getElem? (i := 30) rfl)
set_option maxRecDepth 100000 in
theorem cd46 : Cond.code (mY 46) (mC 46) (mL 46) (mR 46) ∈ lw_tbl := lwt4 (List.mem_of_getElem? (i := 9) rfl)
set_option maxRecDepth 100000 in
theorem cd47 : Cond.code (mY 47) (mC 47) (mL 47) (mR 47) ∈ lw_tbl := lwt4 (List.mem_of_getElem? (i := 34) rfl)
set_option maxRecDepth 100000 in
theorem cd48 : Cond.code (mY 48) (mC 48) (mL 48) (mR 48) ∈ lw_tbl := lwt4 (List.mem_of_getElem? (i := 14) rfl)
set_option maxRecDepth 100000 in
theorem cd49 : Cond.code (mY 49) (mC 49) (mL 49) (mR 49) ∈ lw_tbl := lwt4 (List.mem_of_getElem? (i := 43) rfl)
set_option maxRecDepth 100000 in
theorem cd50 : Cond.code (mY 50) (mC 50) (mL 50) (mR 50) ∈ lw_tbl := lwt4 (List.mem_of_getElem? (i := 48) rfl)
set_option maxRecDepth 100000 in
theorem cd51 : Cond.code (mY 51) (mC 51) (mL 51) (mR 51) ∈ lw_tbl := lwt4 (List.mem_of_getElem? (i := 52) rfl)
set_option maxRecDepth 100000 in
theorem cd52 : Cond.code (mY 52) (mC 52) (mL 52) (mR 52) ∈ lw_tbl := lwt4 (List.mem_of_getElem? (i := 60) rfl)
set_option maxRecDepth 100000 in
theorem cd53 : Cond.code (mY 53) (mC 53) (mL 53) (mR 53) ∈ lw_tbl := lwt4 (List.mem_of_getElem? (i := 66) rfl)
set_option maxRecDepth 100000 in
theorem cd54 : Cond.code (mY 54) (mC 54) (mL 54) (mR 54) ∈ lw_tbl := lwt4 (List.mem_of_getElem? (i := 109) rfl)
set_option maxRecDepth 100000 in
theorem cd55 : Cond.code (mY 55) (mC 55) (mL 55) (mR 55) ∈ lw_tbl := lwt4 (List.mem_of_getElem? (i := 100) rfl)
set_option maxRecDepth 100000 in
theorem cd56 : Cond.code (mY 56) (mC 56) (mL 56) (mR 56) ∈ lw_tbl := lwt4 (List.mem_of_getElem? (i := 84) rfl)
set_option maxRecDepth 100000 in
theorem cd57 : Cond.code (mY 57) (mC 57) (mL 57) (mR 57) ∈ lw_tbl := lwt4 (List.mem_of_getElem? (i := 22) rfl)
set_option maxRecDepth 100000 in
theorem cd58 : Cond.code (mY 58) (mC 58) (mL 58) (mR 58) ∈ lw_tbl := lwt4 (List.mem_of_getElem? (i := 96) rfl)
set_option maxRecDepth 100000 in
theorem cd59 : Cond.code (mY 59) (mC 59) (mL 59) (mR 59) ∈ lw_tbl := lwt4 (List.mem_of_getElem? (i := 18) rfl)
set_option maxRecDepth 100000 in
theorem cd60 : Cond.code (mY 60) (mC 60) (mL 60) (mR 60) ∈ lw_tbl := lwt4 (List.mem_of_getElem? (i := 80) rfl)
set_option maxRecDepth 100000 in
theorem cd61 : Cond.code (mY 61) (mC 61) (mL 61) (mR 61) ∈ lw_tbl := lwt1 (List.mem_of_getElem? (i := 92) rfl)
set_option maxRecDepth 100000 in
theorem cd62 : Cond.code (mY 62) (mC 62) (mL 62) (mR 62) ∈ lw_tbl := lwt2 (List.mem_of_getElem? (i := 158) rfl)
set_option maxRecDepth 100000 in
theorem cd63 : Cond.code (mY 63) (mC 63) (mL 63) (mR 63) ∈ lw_tbl := lwt2 (List.mem_of_getElem? (i := 119) rfl)
set_option maxRecDepth 100000 in
theorem cd64 : Cond.code (mY 64) (mC 64) (mL 64) (mR 64) ∈ lw_tbl := lwt3 (List.mem_of_getElem? (i := 5) rfl)
set_option maxRecDepth 100000 in
theorem cd65 : Cond.code (mY 65) (mC 65) (mL 65) (mR 65) ∈ lw_tbl := lwt1 (List.mem_of_getElem? (i := 45) rfl)
set_option maxRecDepth 100000 in
theorem cd66 : Cond.code (mY 66) (mC 66) (mL 66) (mR 66) ∈ lw_tbl := lwt3 (List.mem_of_getElem? (i := 97) rfl)
set_option maxRecDepth 100000 in
theorem cd67 : Cond.code (mY 67) (mC 67) (mL 67) (mR 67) ∈ lw_tbl := lwt3 (List.mem_of_getElem? (i := 102) rfl)
set_option maxRecDepth 100000 in
theorem cd68 : Cond.code (mY 68) (mC 68) (mL 68) (mR 68) ∈ lw_tbl := lwt3 (List.mem_of_getElem? (i := 108) rfl)
set_option maxRecDepth 100000 in
theorem cd69 : Cond.code (mY 69) (mC 69) (mL 69) (mR 69) ∈ lw_tbl := lwt3 (List.mem_of_getElem? (i := 118) rfl)
set_option maxRecDepth 100000 in
theorem cd70 : Cond.code (mY 70) (mC 70) (mL 70) (mR 70) ∈ lw_tbl := lwt3 (List.mem_of_getElem? (i := 164) rfl)
set_option maxRecDepth 100000 in
theorem cd71 : Cond.code (mY 71) (mC 71) (mL 71) (mR 71) ∈ lw_tbl := lwt3 (List.mem_of_getElem? (i := 169) rfl)
set_option maxRecDepth 100000 in
theorem cd72 : Cond.code (mY 72) (mC 72) (mL 72) (mR 72) ∈ lw_tbl := lwt3 (List.mem_of_getElem? (i := 176) rfl)
set_option maxRecDepth 100000 in
theorem cd73 : Cond.code (mY 73) (mC 73) (mL 73) (mR 73) ∈ lw_tbl := lwt3 (List.mem_of_getElem? (i := 126) rfl)
set_option maxRecDepth 100000 in
theorem cd74 : Cond.code (mY 74) (mC 74) (mL 74) (mR 74) ∈ lw_tbl := lwt3 (List.mem_of_getElem? (i := 132) rfl)
set_option maxRecDepth 100000 in
theorem cd75 : Cond.code (mY 75) (mC 75) (mL 75) (mR 75) ∈ lw_tbl := lwt3 (List.mem_of_getElem? (i := 136) rfl)
set_option maxRecDepth 100000 in
theorem cd76 : Cond.code (mY 76) (mC 76) (mL 76) (mR 76) ∈ lw_tbl := lwt3 (List.mem_of_getElem? (i := 144) rfl)
set_option maxRecDepth 100000 in
theorem cd77 : Cond.code (mY 77) (mC 77) (mL 77) (mR 77) ∈ lw_tbl := lwt1 (List.mem_of_getElem? (i := 135) rfl)
set_option maxRecDepth 100000 in
theorem cd78 : Cond.code (mY 78) (mC 78) (mL 78) (mR 78) ∈ lw_tbl := lwt4 (List.mem_of_getElem? (i := 178) rfl)
set_option maxRecDepth 100000 in
theorem cd79 : Cond.code (mY 79) (mC 79) (mL 79) (mR 79) ∈ lw_tbl := lwt4 (List.mem_of_getElem? (i := 182) rfl)
set_option maxRecDepth 100000 in
theorem cd80 : Cond.code (mY 80) (mC 80) (mL 80) (mR 80) ∈ lw_tbl := lwt4 (List.mem_of_getElem? (i := 186) rfl)
set_option maxRecDepth 100000 in
theorem cd81 : Cond.code (mY 81) (mC 81) (mL 81) (mR 81) ∈ lw_tbl := lwt4 (List.mem_of_getElem? (i := 192) rfl)
set_option maxRecDepth 100000 in
theorem cd82 : Cond.code (mY 82) (mC 82) (mL 82) (mR 82) ∈ lw_tbl := lwt4 (List.mem_of_getElem? (i := 195) rfl)
set_option maxRecDepth 100000 in
theorem cd83 : Cond.code (mY 83) (mC 83) (mL 83) (mR 83) ∈ lw_tbl := lwt4 (List.mem_of_getElem? (i := 199) rfl)
set_option maxRecDepth 100000 in
theorem cd84 : Cond.code (mY 84) (mC 84) (mL 84) (mR 84) ∈ lw_tbl := lwt1 (List.mem_of_getElem? (i := 26) rfl)
set_option maxRecDepth 100000 in
theorem cd85 : Cond.code (mY 85) (mC 85) (mL 85) (mR 85) ∈ lw_tbl := lwt2 (List.mem_of_getElem? (i := 36) rfl)
set_option maxRecDepth 100000 in
theorem cd86 : Cond.code (mY 86) (mC 86) (mL 86) (mR 86) ∈ lw_tbl := lwt2 (List.mem_of_getElem? (i := 40) rfl)
set_option maxRecDepth 100000 in
theorem cd87 : Cond.code (mY 87) (mC 87) (mL 87) (mR 87) ∈ lw_tbl := lwt2 (List.mem_of_getElem? (i := 49) rfl)
set_option maxRecDepth 100000 in
theorem cd88 : Cond.code (mY 88) (mC 88) (mL 88) (mR 88) ∈ lw_tbl := lwt2 (List.mem_of_getElem? (i := 57) rfl)
set_option maxRecDepth 100000 in
theorem cd89 : Cond.code (mY 89) (mC 89) (mL 89) (mR 89) ∈ lw_tbl := lwt2 (List.mem_of_getElem? (i := 61) rfl)
set_option maxRecDepth 100000 in
theorem cd90 : Cond.code (mY 90) (mC 90) (mL 90) (mR 90) ∈ lw_tbl := lwt2 (List.mem_of_getElem? (i := 66) rfl)
set_option maxRecDepth 100000 in
theorem cd91 : Cond.code (mY 91) (mC 91) (mL 91) (mR 91) ∈ lw_tbl := lwt2 (List.mem_of_getElem? (i := 71) rfl)
set_option maxRecDepth 100000 in
theorem cd92 : Cond.code (mY 92) (mC 92) (mL 92) (mR 92) ∈ lw_tbl := lwt1 (List.mem_of_getElem? (i := 70) rfl)
set_option maxRecDepth 100000 in
theorem cd93 : Cond.code (mY 93) (mC 93) (mL 93) (mR 93) ∈ lw_tbl := lwt3 (List.mem_of_getElem? (i := 185) rfl)
set_option maxRecDepth 100000 in
theorem cd94 : Cond.code (mY 94) (mC 94) (mL 94) (mR 94) ∈ lw_tbl := lwt3 (List.mem_of_getElem? (i := 195) rfl)
set_option maxRecDepth 100000 in
theorem cd95 : Cond.code (mY 95) (mC 95) (mL 95) (mR 95) ∈ lw_tbl := lwt3 (List.mem_of_getElem? (i := 199) rfl)
set_option maxRecDepth 100000 in
theorem cd96 : Cond.code (mY 96) (mC 96) (mL 96) (mR 96) ∈ lw_tbl := lwt3 (List.mem_of_getElem? (i := 203) rfl)
set_option maxRecDepth 100000 in
theorem cd97 : Cond.code (mY 97) (mC 97) (mL 97) (mR 97) ∈ lw_tbl := lwt3 (List.mem_of_getElem? (i := 213) rfl)
set_option maxRecDepth 100000 in
theorem cd98 : Cond.code (mY 98) (mC 98) (mL 98) (mR 98) ∈ lw_tbl := lwt3 (List.mem_of_getElem? (i := 216) rfl)
set_option maxRecDepth 100000 in
theorem cd99 : Cond.code (mY 99) (mC 99) (mL 99) (mR 99) ∈ lw_tbl := lwt3 (List.mem_of_getElem? (i := 208) rfl)
set_option maxRecDepth 100000 in
theorem cd100 : Cond.code (mY 100) (mC 100) (mL 100) (mR 100) ∈ lw_tbl := lwt3 (List.mem_of_getElem? (i := 226) rfl)
set_option maxRecDepth 100000 in
theorem cd101 : Cond.code (mY 101) (mC 101) (mL 101) (mR 101) ∈ lw_tbl := lwt4 (List.mem_of_getElem? (i := 113) rfl)
set_option maxRecDepth 100000 in
theorem cd102 : Cond.code (mY 102) (mC 102) (mL 102) (mR 102) ∈ lw_tbl := lwt1 (List.mem_of_getElem? (i := 16) rfl)
set_option maxRecDepth 100000 in
theorem cd103 : Cond.code (mY 103) (mC 103) (mL 103) (mR 103) ∈ lw_tbl := lwt2 (List.mem_of_getElem? (i := 19) rfl)
set_option maxRecDepth 100000 in
theorem cd104 : Cond.code (mY 104) (mC 104) (mL 104) (mR 104) ∈ lw_tbl := lwt2 (List.mem_of_getElem? (i := 32) rfl)
set_option maxRecDepth 100000 in
theorem cd105 : Cond.code (mY 105) (mC 105) (mL 105) (mR 105) ∈ lw_tbl := lwt2 (List.mem_of_getElem? (i := 53) rfl)
set_option maxRecDepth 100000 in
theorem cd106 : Cond.code (mY 106) (mC 106) (mL 106) (mR 106) ∈ lw_tbl := lwt2 (List.mem_of_getElem? (i := 75) rfl)
set_option maxRecDepth 100000 in
theorem cd107 : Cond.code (mY 107) (mC 107) (mL 107) (mR 107) ∈ lw_tbl := lwt2 (List.mem_of_getElem? (i := 123) rfl)
set_option maxRecDepth 100000 in
theorem cd108 : Cond.code (mY 108) (mC 108) (mL 108) (mR 108) ∈ lw_tbl := lwt2 (List.mem_of_getElem? (i := 128) rfl)
set_option maxRecDepth 100000 in
theorem cd109 : Cond.code (mY 109) (mC 109) (mL 109) (mR 109) ∈ lw_tbl := lwt2 (List.mem_of_getElem? (i := 148) rfl)
set_option maxRecDepth 100000 in
theorem cd110 : Cond.code (mY 110) (mC 110) (mL 110) (mR 110) ∈ lw_tbl := lwt2 (List.mem_of_getElem? (i := 175) rfl)
set_option maxRecDepth 100000 in
theorem cd111 : Cond.code (mY 111) (mC 111) (mL 111) (mR 111) ∈ lw_tbl := lwt2 (List.mem_of_getElem? (i := 201) rfl)
set_option maxRecDepth 100000 in
theorem cd112 : Cond.code (mY 112) (mC 112) (mL 112) (mR 112) ∈ lw_tbl := lwt2 (List.mem_of_getElem? (i := 214) rfl)
set_option maxRecDepth 100000 in
theorem cd113 : Cond.code (mY 113) (mC 113) (mL 113) (mR 113) ∈ lw_tbl := lwt2 (List.mem_of_getElem? (i := 223) rfl)
set_option maxRecDepth 100000 in
theorem cd114 : Cond.code (mY 114) (mC 114) (mL 114) (mR 114) ∈ lw_tbl := lwt2 (List.mem_of_getElem? (i := 237) rfl)
set_option maxRecDepth 100000 in
theorem cd115 : Cond.code (mY 115) (mC 115) (mL 115) (mR 115) ∈ lw_tbl := lwt3 (List.mem_of_getElem? (i := 1) rfl)
set_option maxRecDepth 100000 in
theorem cd116 : Cond.code (mY 116) (mC 116) (mL 116) (mR 116) ∈ lw_tbl := lwt3 (List.mem_of_getElem? (i := 27) rfl)
set_option maxRecDepth 100000 in
theorem cd117 : Cond.code (mY 117) (mC 117) (mL 117) (mR 117) ∈ lw_tbl := lwt3 (List.mem_of_getElem? (i := 51) rfl)
set_option maxRecDepth 100000 in
theorem cd118 : Cond.code (mY 118) (mC 118) (mL 118) (mR 118) ∈ lw_tbl := lwt3 (List.mem_of_getElem? (i := 59) rfl)
set_option maxRecDepth 100000 in
theorem cd119 : Cond.code (mY 119) (mC 119) (mL 119) (mR 119) ∈ lw_tbl := lwt3 (List.mem_of_getElem? (i := 67) rfl)
set_option maxRecDepth 100000 in
theorem cd120 : Cond.code (mY 120) (mC 120) (mL 120) (mR 120) ∈ lw_tbl := lwt3 (List.mem_of_getElem? (i := 71) rfl)
set_option maxRecDepth 100000 in
theorem cd121 : Cond.code (mY 121) (mC 121) (mL 121) (mR 121) ∈ lw_tbl := lwt3 (List.mem_of_getElem? (i := 85) rfl)
set_option maxRecDepth 100000 in
theorem cd122 : Cond.code (mY 122) (mC 122) (mL 122) (mR 122) ∈ lw_tbl := lwt3 (List.mem_of_getElem? (i := 122) rfl)
set_option maxRecDepth 100000 in
theorem cd123 : Cond.code (mY 123) (mC 123) (mL 123) (mR 123) ∈ lw_tbl := lwt3 (List.mem_of_getElem? (i := 148) rfl)
set_option maxRecDepth 100000 in
theorem cd124 : Cond.code (mY 124) (mC 124) (mL 124) (mR 124) ∈ lw_tbl := lwt3 (List.mem_of_getElem? (i := 152) rfl)
set_option maxRecDepth 100000 in
theorem cd125 : Cond.code (mY 125) (mC 125) (mL 125) (mR 125) ∈ lw_tbl := lwt3 (List.mem_of_getElem? (i := 160) rfl)
set_option maxRecDepth 100000 in
theorem cd126 : Cond.code (mY 126) (mC 126) (mL 126) (mR 126) ∈ lw_tbl := lwt3 (List.mem_of_getElem? (i := 181) rfl)
set_option maxRecDepth 100000 in
theorem cd127 : Cond.code (mY 127) (mC 127) (mL 127) (mR 127) ∈ lw_tbl := lwt3 (List.mem_of_getElem? (i := 191) rfl)
set_option maxRecDepth 100000 in
theorem cd128 : Cond.code (mY 128) (mC 128) (mL 128) (mR 128) ∈ lw_tbl := lwt3 (List.mem_of_getElem? (i := 222) rfl)
set_option maxRecDepth 100000 in
theorem cd129 : Cond.code (mY 129) (mC 129) (mL 129) (mR 129) ∈ lw_tbl := lwt3 (List.mem_of_getElem? (i := 231) rfl)
set_option maxRecDepth 100000 in
theorem cd130 : Cond.code (mY 130) (mC 130) (mL 130) (mR 130) ∈ lw_tbl := lwt4 (List.mem_of_getElem? (i := 26) rfl)
set_option maxRecDepth 100000 in
theorem cd131 : Cond.code (mY 131) (mC 131) (mL 131) (mR 131) ∈ lw_tbl := lwt4 (List.mem_of_getElem? (i := 39) rfl)
set_option maxRecDepth 100000 in
theorem cd132 : Cond.code (mY 132) (mC 132) (mL 132) (mR 132) ∈ lw_tbl := lwt4 (List.mem_of_getElem? (i := 56) rfl)
set_option maxRecDepth 100000 in
theorem cd133 : Cond.code (mY 133) (mC 133) (mL 133) (mR 133) ∈ lw_tbl := lwt4 (List.mem_of_getElem? (i := 72) rfl)
set_option maxRecDepth 100000 in
theorem cd134 : Cond.code (mY 134) (mC 134) (mL 134) (mR 134) ∈ lw_tbl := lwt4 (List.mem_of_getElem? (i := 76) rfl)
set_option maxRecDepth 100000 in
theorem cd135 : Cond.code (mY 135) (mC 135) (mL 135) (mR 135) ∈ lw_tbl := lwt4 (List.mem_of_getElem? (i := 88) rfl)
set_option maxRecDepth 100000 in
theorem cd136 : Cond.code (mY 136) (mC 136) (mL 136) (mR 136) ∈ lw_tbl := lwt4 (List.mem_of_getElem? (i := 105) rfl)
set_option maxRecDepth 100000 in
theorem cd137 : Cond.code (mY 137) (mC 137) (mL 137) (mR 137) ∈ lw_tbl := lwt4 (List.mem_of_getElem? (i := 120) rfl)
set_option maxRecDepth 100000 in
theorem cd138 : Cond.code (mY 138) (mC 138) (mL 138) (mR 138) ∈ lw_tbl := lwt4 (List.mem_of_getElem? (i := 126) rfl)
set_option maxRecDepth 100000 in
theorem cd139 : Cond.code (mY 139) (mC 139) (mL 139) (mR 139) ∈ lw_tbl := lwt4 (List.mem_of_getElem? (i := 138) rfl)
set_option maxRecDepth 100000 in
theorem cd140 : Cond.code (mY 140) (mC 140) (mL 140) (mR 140) ∈ lw_tbl := lwt4 (List.mem_of_getElem? (i := 142) rfl)
set_option maxRecDepth 100000 in
theorem cd141 : Cond.code (mY 141) (mC 141) (mL 141) (mR 141) ∈ lw_tbl := lwt4 (List.mem_of_getElem? (i := 146) rfl)
set_option maxRecDepth 100000 in
theorem cd142 : Cond.code (mY 142) (mC 142) (mL 142) (mR 142) ∈ lw_tbl := lwt4 (List.mem_of_getElem? (i := 157) rfl)
set_option maxRecDepth 100000 in
theorem cd143 : Cond.code (mY 143) (mC 143) (mL 143) (mR 143) ∈ lw_tbl := lwt4 (List.mem_of_getElem? (i := 169) rfl)
set_option maxRecDepth 100000 in
theorem cd144 : Cond.code (mY 144) (mC 144) (mL 144) (mR 144) ∈ lw_tbl := lwt4 (List.mem_of_getElem? (i := 174) rfl)
set_option maxRecDepth 100000 in
theorem cd145 : Cond.code (mY 145) (mC 145) (mL 145) (mR 145) ∈ lw_tbl := lwt4 (List.mem_of_getElem? (i := 205) rfl)
set_option maxRecDepth 100000 in
theorem cd146 : Cond.code (mY 146) (mC 146) (mL 146) (mR 146) ∈ lw_tbl := lwt2 (List.mem_of_getElem? (i := 26) rfl)
set_option maxRecDepth 100000 in
theorem cd147 : Cond.code (mY 147) (mC 147) (mL 147) (mR 147) ∈ lw_tbl := lwt2 (List.mem_of_getElem? (i := 183) rfl)
set_option maxRecDepth 100000 in
theorem cd148 : Cond.code (mY 148) (mC 148) (mL 148) (mR 148) ∈ lw_tbl := lwt4 (List.mem_of_getElem? (i := 149) rfl)
set_option maxRecDepth 100000 in
theorem cd149 : Cond.code (mY 149) (mC 149) (mL 149) (mR 149) ∈ lw_tbl := lwt4 (List.mem_of_getElem? (i := 153) rfl)
set_option maxRecDepth 100000 in
theorem cd150 : Cond.code (mY 150) (mC 150) (mL 150) (mR 150) ∈ lw_tbl := lwt2 (List.mem_of_getElem? (i := 23) rfl)
set_option maxRecDepth 100000 in
theorem cd151 : Cond.code (mY 151) (mC 151) (mL 151) (mR 151) ∈ lw_tbl := lwt2 (List.mem_of_getElem? (i := 79) rfl)
set_option maxRecDepth 100000 in
theorem cd152 : Cond.code (mY 152) (mC 152) (mL 152) (mR 152) ∈ lw_tbl := lwt4 (List.mem_of_getElem? (i := 130) rfl)
set_option maxRecDepth 100000 in
theorem cd153 : Cond.code (mY 153) (mC 153) (mL 153) (mR 153) ∈ lw_tbl := lwt2 (List.mem_of_getElem? (i := 83) rfl)
set_option maxRecDepth 100000 in
theorem cd154 : Cond.code (mY 154) (mC 154) (mL 154) (mR 154) ∈ lw_tbl := lwt4 (List.mem_of_getElem? (i := 134) rfl)
set_option maxRecDepth 100000 in
theorem cd155 : Cond.code (mY 155) (mC 155) (mL 155) (mR 155) ∈ lw_tbl := lwt4 (List.mem_of_getElem? (i := 209) rfl)
set_option maxRecDepth 100000 in
theorem cd156 : Cond.code (mY 156) (mC 156) (mL 156) (mR 156) ∈ lw_tbl := lwt4 (List.mem_of_getElem? (i := 213) rfl)
set_option maxRecDepth 100000 in
theorem cd157 : Cond.code (mY 157) (mC 157) (mL 157) (mR 157) ∈ lw_tbl := lwt4 (List.mem_of_getElem? (i := 92) rfl)
set_option maxRecDepth 100000 in
theorem cd158 : Cond.code (mY 158) (mC 158) (mL 158) (mR 158) ∈ lw_tbl := lwt4 (List.mem_of_getElem? (i := 218) rfl)
set_option maxRecDepth 100000 in
theorem cd159 : Cond.code (mY 159) (mC 159) (mL 159) (mR 159) ∈ lw_tbl := lwt5 (List.mem_of_getElem? (i := 79) rfl)
set_option maxRecDepth 100000 in
theorem cd160 : Cond.code (mY 160) (mC 160) (mL 160) (mR 160) ∈ lw_tbl := lwt5 (List.mem_of_getElem? (i := 76) rfl)
set_option maxRecDepth 100000 in
theorem cd161 : Cond.code (mY 161) (mC 161) (mL 161) (mR 161) ∈ lw_tbl := lwt5 (List.mem_of_getElem? (i := 93) rfl)
set_option maxRecDepth 100000 in
theorem cd162 : Cond.code (mY 162) (mC 162) (mL 162) (mR 162) ∈ lw_tbl := lwt5 (List.mem_of_getElem? (i := 89) rfl)
set_option maxRecDepth 100000 in
theorem cd163 : Cond.code (mY 163) (mC 163) (mL 163) (mR 163) ∈ lw_tbl := lwt5 (List.mem_of_getElem? (i := 98) rfl)
set_option maxRecDepth 100000 in
theorem cd164 : Cond.code (mY 164) (mC 164) (mL 164) (mR 164) ∈ lw_tbl := lwt5 (List.mem_of_getElem? (i := 85) rfl)
set_option maxRecDepth 100000 in
theorem cd165 : Cond.code (mY 165) (mC 165) (mL 165) (mR 165) ∈ lw_tbl := lwt5 (List.mem_of_getElem? (i := 110) rfl)
set_option maxRecDepth 100000 in
theorem cd166 : Cond.code (mY 166) (mC 166) (mL 166) (mR 166) ∈ lw_tbl := lwt5 (List.mem_of_getElem? (i := 106) rfl)
set_option maxRecDepth 100000 in
theorem cd167 : Cond.code (mY 167) (mC 167) (mL 167) (mR 167) ∈ lw_tbl := lwt5 (List.mem_of_getElem? (i := 114) rfl)
set_option maxRecDepth 100000 in
theorem cd168 : Cond.code (mY 168) (mC 168) (mL 168) (mR 168) ∈ lw_tbl := lwt5 (List.mem_of_getElem? (i := 102) rfl)
set_option maxRecDepth 100000 in
theorem cd169 : Cond.code (mY 169) (mC 169) (mL 169) (mR 169) ∈ lw_tbl := lwt5 (List.mem_of_getElem? (i := 121) rfl)
set_option maxRecDepth 100000 in
theorem cd170 : Cond.code (mY 170) (mC 170) (mL 170) (mR 170) ∈ lw_tbl := lwt5 (List.mem_of_getElem? (i := 142) rfl)
set_option maxRecDepth 100000 in
theorem cd171 : Cond.code (mY 171) (mC 171) (mL 171) (mR 171) ∈ lw_tbl := lwt5 (List.mem_of_getElem? (i := 163) rfl)
set_option maxRecDepth 100000 in
theorem cd172 : Cond.code (mY 172) (mC 172) (mL 172) (mR 172) ∈ lw_tbl := lwt5 (List.mem_of_getElem? (i := 171) rfl)
set_option maxRecDepth 100000 in
theorem cd173 : Cond.code (mY 173) (mC 173) (mL 173) (mR 173) ∈ lw_tbl := lwt5 (List.mem_of_getElem? (i := 159) rfl)
set_option maxRecDepth 100000 in
theorem cd174 : Cond.code (mY 174) (mC 174) (mL 174) (mR 174) ∈ lw_tbl := lwt5 (List.mem_of_getElem? (i := 155) rfl)
set_option maxRecDepth 100000 in
theorem cd175 : Cond.code (mY 175) (mC 175) (mL 175) (mR 175) ∈ lw_tbl := lwt5 (List.mem_of_getElem? (i := 179) rfl)
set_option maxRecDepth 100000 in
theorem cd176 : Cond.code (mY 176) (mC 176) (mL 176) (mR 176) ∈ lw_tbl := lwt5 (List.mem_of_getElem? (i := 205) rfl)
set_option maxRecDepth 100000 in
theorem cd177 : Cond.code (mY 177) (mC 177) (mL 177) (mR 177) ∈ lw_tbl := lwt5 (List.mem_of_getElem? (i := 221) rfl)
set_option maxRecDepth 100000 in
theorem cd178 : Cond.code (mY 178) (mC 178) (mL 178) (mR 178) ∈ lw_tbl := lwt5 (List.mem_of_getElem? (i := 192) rfl)
set_option maxRecDepth 100000 in
theorem cd179 : Cond.code (mY 179) (mC 179) (mL 179) (mR 179) ∈ lw_tbl := lwt5 (List.mem_of_getElem? (i := 197) rfl)
set_option maxRecDepth 100000 in
theorem cd180 : Cond.code (mY 180) (mC 180) (mL 180) (mR 180) ∈ lw_tbl := lwt5 (List.mem_of_getElem? (i := 213) rfl)
set_option maxRecDepth 100000 in
theorem cd181 : Cond.code (mY 181) (mC 181) (mL 181) (mR 181) ∈ lw_tbl := lwt5 (List.mem_of_getElem? (i := 225) rfl)
set_option maxRecDepth 100000 in
theorem cd182 : Cond.code (mY 182) (mC 182) (mL 182) (mR 182) ∈ lw_tbl := lwt5 (List.mem_of_getElem? (i := 125) rfl)
set_option maxRecDepth 100000 in
theorem cd183 : Cond.code (mY 183) (mC 183) (mL 183) (mR 183) ∈ lw_tbl := lwt5 (List.mem_of_getElem? (i := 129) rfl)
set_option maxRecDepth 100000 in
theorem cd184 : Cond.code (mY 184) (mC 184) (mL 184) (mR 184) ∈ lw_tbl := lwt5 (List.mem_of_getElem? (i := 134) rfl)
set_option maxRecDepth 100000 in
theorem cd185 : Cond.code (mY 185) (mC 185) (mL 185) (mR 185) ∈ lw_tbl := lwt5 (List.mem_of_getElem? (i := 147) rfl)
set_option maxRecDepth 100000 in
theorem cd186 : Cond.code (mY 186) (mC 186) (mL 186) (mR 186) ∈ lw_tbl := lwt5 (List.mem_of_getElem? (i := 151) rfl)
set_option maxRecDepth 100000 in
theorem cd187 : Cond.code (mY 187) (mC 187) (mL 187) (mR 187) ∈ lw_tbl := lwt5 (List.mem_of_getElem? (i := 118) rfl)
set_option maxRecDepth 100000 in
theorem cd188 : Cond.code (mY 188) (mC 188) (mL 188) (mR 188) ∈ lw_tbl := lwt5 (List.mem_of_getElem? (i := 138) rfl)
set_option maxRecDepth 100000 in
theorem cd189 : Cond.code (mY 189) (mC 189) (mL 189) (mR 189) ∈ lw_tbl := lwt5 (List.mem_of_getElem? (i := 167) rfl)
set_option maxRecDepth 100000 in
theorem cd190 : Cond.code (mY 190) (mC 190) (mL 190) (mR 190) ∈ lw_tbl := lwt5 (List.mem_of_getElem? (i := 184) rfl)
set_option maxRecDepth 100000 in
theorem cd191 : Cond.code (mY 191) (mC 191) (mL 191) (mR 191) ∈ lw_tbl := lwt5 (List.mem_of_getElem? (i := 175) rfl)
set_option maxRecDepth 100000 in
theorem cd192 : Cond.code (mY 192) (mC 192) (mL 192) (mR 192) ∈ lw_tbl := lwt5 (List.mem_of_getElem? (i := 188) rfl)
set_option maxRecDepth 100000 in
theorem cd193 : Cond.code (mY 193) (mC 193) (mL 193) (mR 193) ∈ lw_tbl := lwt5 (List.mem_of_getElem? (i := 201) rfl)
set_option maxRecDepth 100000 in
theorem cd194 : Cond.code (mY 194) (mC 194) (mL 194) (mR 194) ∈ lw_tbl := lwt5 (List.mem_of_getElem? (i := 209) rfl)
set_option maxRecDepth 100000 in
theorem cd195 : Cond.code (mY 195) (mC 195) (mL 195) (mR 195) ∈ lw_tbl := lwt5 (List.mem_of_getElem? (i := 217) rfl)
set_option maxRecDepth 100000 in
theorem cd196 : Cond.code (mY 196) (mC 196) (mL 196) (mR 196) ∈ lw_tbl := lwt5 (List.mem_of_getElem? (i := 229) rfl)
set_option maxRecDepth 100000 in
theorem cd197 : Cond.code (mY 197) (mC 197) (mL 197) (mR 197) ∈ lw_tbl := lwt5 (List.mem_of_getElem? (i := 233) rfl)
set_option maxRecDepth 100000 in
theorem cd198 : Cond.code (mY 198) (mC 198) (mL 198) (mR 198) ∈ lw_tbl := lwt6 (List.mem_of_getElem? (i := 9) rfl)
set_option maxRecDepth 100000 in
theorem cd199 : Cond.code (mY 199) (mC 199) (mL 199) (mR 199) ∈ lw_tbl := lwt6 (List.mem_of_getElem? (i := 5) rfl)
set_option maxRecDepth 100000 in
theorem cd200 : Cond.code (mY 200) (mC 200) (mL 200) (mR 200) ∈ lw_tbl := lwt6 (List.mem_of_getElem? (i := 1) rfl)
set_option maxRecDepth 100000 in
theorem cd201 : Cond.code (mY 201) (mC 201) (mL 201) (mR 201) ∈ lw_tbl := lwt6 (List.mem_of_getElem? (i := 13) rfl)
set_option maxRecDepth 100000 in
theorem cd202 : Cond.code (mY 202) (mC 202) (mL 202) (mR 202) ∈ lw_tbl := lwt6 (List.mem_of_getElem? (i := 17) rfl)
set_option maxRecDepth 100000 in
theorem cd203 : Cond.code (mY 203) (mC 203) (mL 203) (mR 203) ∈ lw_tbl := lwt6 (List.mem_of_getElem? (i := 21) rfl)
set_option maxRecDepth 100000 in
theorem cd204 : Cond.code (mY 204) (mC 204) (mL 204) (mR 204) ∈ lw_tbl := lwt6 (List.mem_of_getElem? (i := 41) rfl)
set_option maxRecDepth 100000 in
theorem cd205 : Cond.code (mY 205) (mC 205) (mL 205) (mR 205) ∈ lw_tbl := lwt6 (List.mem_of_getElem? (i := 37) rfl)
set_option maxRecDepth 100000 in
theorem cd206 : Cond.code (mY 206) (mC 206) (mL 206) (mR 206) ∈ lw_tbl := lwt6 (List.mem_of_getElem? (i := 33) rfl)
set_option maxRecDepth 100000 in
theorem cd207 : Cond.code (mY 207) (mC 207) (mL 207) (mR 207) ∈ lw_tbl := lwt6 (List.mem_of_getElem? (i := 29) rfl)
set_option maxRecDepth 100000 in
theorem cd208 : Cond.code (mY 208) (mC 208) (mL 208) (mR 208) ∈ lw_tbl := lwt6 (List.mem_of_getElem? (i := 25) rfl)
set_option maxRecDepth 100000 in
theorem cd209 : Cond.code (mY 209) (mC 209) (mL 209) (mR 209) ∈ lw_tbl := lwt6 (List.mem_of_getElem? (i := 63) rfl)
set_option maxRecDepth 100000 in
theorem cd210 : Cond.code (mY 210) (mC 210) (mL 210) (mR 210) ∈ lw_tbl := lwt6 (List.mem_of_getElem? (i := 67) rfl)
set_option maxRecDepth 100000 in
theorem cd211 : Cond.code (mY 211) (mC 211) (mL 211) (mR 211) ∈ lw_tbl := lwt6 (List.mem_of_getElem? (i := 59) rfl)
set_option maxRecDepth 100000 in
theorem cd212 : Cond.code (mY 212) (mC 212) (mL 212) (mR 212) ∈ lw_tbl := lwt6 (List.mem_of_getElem? (i := 56) rfl)
set_option maxRecDepth 100000 in
theorem cd213 : Cond.code (mY 213) (mC 213) (mL 213) (mR 213) ∈ lw_tbl := lwt6 (List.mem_of_getElem? (i := 51) rfl)
set_option maxRecDepth 100000 in
theorem cd214 : Cond.code (mY 214) (mC 214) (mL 214) (mR 214) ∈ lw_tbl := lwt6 (List.mem_of_getElem? (i := 45) rfl)
set_option maxRecDepth 100000 in
theorem cd215 : Cond.code (mY 215) (mC 215) (mL 215) (mR 215) ∈ lw_tbl := lwt6 (List.mem_of_getElem? (i := 82) rfl)
set_option maxRecDepth 100000 in
theorem cd216 : Cond.code (mY 216) (mC 216) (mL 216) (mR 216) ∈ lw_tbl := lwt6 (List.mem_of_getElem? (i := 79) rfl)
set_option maxRecDepth 100000 in
theorem cd217 : Cond.code (mY 217) (mC 217) (mL 217) (mR 217) ∈ lw_tbl := lwt6 (List.mem_of_getElem? (i := 75) rfl)
set_option maxRecDepth 100000 in
theorem cd218 : Cond.code (mY 218) (mC 218) (mL 218) (mR 218) ∈ lw_tbl := lwt6 (List.mem_of_getElem? (i := 71) rfl)
set_option maxRecDepth 100000 in
theorem cd219 : Cond.code (mY 219) (mC 219) (mL 219) (mR 219) ∈ lw_tbl := lwt6 (List.mem_of_getElem? (i := 86) rfl)
set_option maxRecDepth 100000 in
theorem cd220 : Cond.code (mY 220) (mC 220) (mL 220) (mR 220) ∈ lw_tbl := lwt6 (List.mem_of_getElem? (i := 94) rfl)
set_option maxRecDepth 100000 in
theorem cd221 : Cond.code (mY 221) (mC 221) (mL 221) (mR 221) ∈ lw_tbl := lwt6 (List.mem_of_getElem? (i := 90) rfl)
set_option maxRecDepth 100000 in
theorem cd222 : Cond.code (mY 222) (mC 222) (mL 222) (mR 222) ∈ lw_tbl := lwt6 (List.mem_of_getElem? (i := 106) rfl)
set_option maxRecDepth 100000 in
theorem cd223 : Cond.code (mY 223) (mC 223) (mL 223) (mR 223) ∈ lw_tbl := lwt6 (List.mem_of_getElem? (i := 102) rfl)
set_option maxRecDepth 100000 in
theorem cd224 : Cond.code (mY 224) (mC 224) (mL 224) (mR 224) ∈ lw_tbl := lwt6 (List.mem_of_getElem? (i := 98) rfl)
set_option maxRecDepth 100000 in
theorem cd225 : Cond.code (mY 225) (mC 225) (mL 225) (mR 225) ∈ lw_tbl := lwt6 (List.mem_of_getElem? (i := 110) rfl)
set_option maxRecDepth 100000 in
theorem cd226 : Cond.code (mY 226) (mC 226) (mL 226) (mR 226) ∈ lw_tbl := lwt6 (List.mem_of_getElem? (i := 121) rfl)
set_option maxRecDepth 100000 in
theorem cd227 : Cond.code (mY 227) (mC 227) (mL 227) (mR 227) ∈ lw_tbl := lwt6 (List.mem_of_getElem? (i := 125) rfl)
set_option maxRecDepth 100000 in
theorem cd228 : Cond.code (mY 228) (mC 228) (mL 228) (mR 228) ∈ lw_tbl := lwt6 (List.mem_of_getElem? (i := 133) rfl)
set_option maxRecDepth 100000 in
theorem cd229 : Cond.code (mY 229) (mC 229) (mL 229) (mR 229) ∈ lw_tbl := lwt6 (List.mem_of_getElem? (i := 129) rfl)
set_option maxRecDepth 100000 in
theorem cd230 : Cond.code (mY 230) (mC 230) (mL 230) (mR 230) ∈ lw_tbl := lwt6 (List.mem_of_getElem? (i := 118) rfl)
set_option maxRecDepth 100000 in
theorem cd231 : Cond.code (mY 231) (mC 231) (mL 231) (mR 231) ∈ lw_tbl := lwt6 (List.mem_of_getElem? (i := 114) rfl)
set_option maxRecDepth 100000 in
theorem cd232 : Cond.code (mY 232) (mC 232) (mL 232) (mR 232) ∈ lw_tbl := lwt6 (List.mem_of_getElem? (i := 137) rfl)
set_option maxRecDepth 100000 in
theorem cd233 : Cond.code (mY 233) (mC 233) (mL 233) (mR 233) ∈ lw_tbl := lwt6 (List.mem_of_getElem? (i := 164) rfl)
set_option maxRecDepth 100000 in
theorem cd234 : Cond.code (mY 234) (mC 234) (mL 234) (mR 234) ∈ lw_tbl := lwt5 (List.mem_of_getElem? (i := 237) rfl)
set_option maxRecDepth 100000 in
theorem cd235 : Cond.code (mY 235) (mC 235) (mL 235) (mR 235) ∈ lw_tbl := lwt6 (List.mem_of_getElem? (i := 157) rfl)
set_option maxRecDepth 100000 in
theorem cd236 : Cond.code (mY 236) (mC 236) (mL 236) (mR 236) ∈ lw_tbl := lwt6 (List.mem_of_getElem? (i := 161) rfl)
set_option maxRecDepth 100000 in
theorem cd237 : Cond.code (mY 237) (mC 237) (mL 237) (mR 237) ∈ lw_tbl := lwt6 (List.mem_of_getElem? (i := 168) rfl)
set_option maxRecDepth 100000 in
theorem cd238 : Cond.code (mY 238) (mC 238) (mL 238) (mR 238) ∈ lw_tbl := lwt6 (List.mem_of_getElem? (i := 153) rfl)
set_option maxRecDepth 100000 in
theorem cd239 : Cond.code (mY 239) (mC 239) (mL 239) (mR 239) ∈ lw_tbl := lwt6 (List.mem_of_getElem? (i := 149) rfl)
set_option maxRecDepth 100000 in
theorem cd240 : Cond.code (mY 240) (mC 240) (mL 240) (mR 240) ∈ lw_tbl := lwt6 (List.mem_of_getElem? (i := 172) rfl)
set_option maxRecDepth 100000 in
theorem cd241 : Cond.code (mY 241) (mC 241) (mL 241) (mR 241) ∈ lw_tbl := lwt6 (List.mem_of_getElem? (i := 176) rfl)
set_option maxRecDepth 100000 in
theorem cd242 : Cond.code (mY 242) (mC 242) (mL 242) (mR 242) ∈ lw_tbl := lwt6 (List.mem_of_getElem? (i := 145) rfl)
set_option maxRecDepth 100000 in
theorem cd243 : Cond.code (mY 243) (mC 243) (mL 243) (mR 243) ∈ lw_tbl := lwt6 (List.mem_of_getElem? (i := 141) rfl)
set_option maxRecDepth 100000 in
theorem cd244 : Cond.code (mY 244) (mC 244) (mL 244) (mR 244) ∈ lw_tbl := lwt6 (List.mem_of_getElem? (i := 180) rfl)
set_option maxRecDepth 100000 in
theorem cd245 : Cond.code (mY 245) (mC 245) (mL 245) (mR 245) ∈ lw_tbl := lwt6 (List.mem_of_getElem? (i := 188) rfl)
set_option maxRecDepth 100000 in
theorem cd246 : Cond.code (mY 246) (mC 246) (mL 246) (mR 246) ∈ lw_tbl := lwt6 (List.mem_of_getElem? (i := 192) rfl)
set_option maxRecDepth 100000 in
theorem cd247 : Cond.code (mY 247) (mC 247) (mL 247) (mR 247) ∈ lw_tbl := lwt6 (List.mem_of_getElem? (i := 196) rfl)
set_option maxRecDepth 100000 in
theorem cd248 : Cond.code (mY 248) (mC 248) (mL 248) (mR 248) ∈ lw_tbl := lwt6 (List.mem_of_getElem? (i := 184) rfl)
set_option maxRecDepth 100000 in
theorem cd249 : Cond.code (mY 249) (mC 249) (mL 249) (mR 249) ∈ lw_tbl := lwt6 (List.mem_of_getElem? (i := 200) rfl)
set_option maxRecDepth 100000 in
theorem cd250 : Cond.code (mY 250) (mC 250) (mL 250) (mR 250) ∈ lw_tbl := lwt6 (List.mem_of_getElem? (i := 204) rfl)
set_option maxRecDepth 100000 in
theorem cd251 : Cond.code (mY 251) (mC 251) (mL 251) (mR 251) ∈ lw_tbl := lwt6 (List.mem_of_getElem? (i := 220) rfl)
set_option maxRecDepth 100000 in
theorem cd252 : Cond.code (mY 252) (mC 252) (mL 252) (mR 252) ∈ lw_tbl := lwt6 (List.mem_of_getElem? (i := 208) rfl)
set_option maxRecDepth 100000 in
theorem cd253 : Cond.code (mY 253) (mC 253) (mL 253) (mR 253) ∈ lw_tbl := lwt6 (List.mem_of_getElem? (i := 216) rfl)
set_option maxRecDepth 100000 in
theorem cd254 : Cond.code (mY 254) (mC 254) (mL 254) (mR 254) ∈ lw_tbl := lwt6 (List.mem_of_getElem? (i := 212) rfl)
set_option maxRecDepth 100000 in
theorem cd255 : Cond.code (mY 255) (mC 255) (mL 255) (mR 255) ∈ lw_tbl := lwt6 (List.mem_of_getElem? (i := 228) rfl)
set_option maxRecDepth 100000 in
theorem cd256 : Cond.code (mY 256) (mC 256) (mL 256) (mR 256) ∈ lw_tbl := lwt6 (List.mem_of_getElem? (i := 232) rfl)
set_option maxRecDepth 100000 in
theorem cd257 : Cond.code (mY 257) (mC 257) (mL 257) (mR 257) ∈ lw_tbl := lwt6 (List.mem_of_getElem? (i := 224) rfl)
set_option maxRecDepth 100000 in
theorem cd258 : Cond.code (mY 258) (mC 258) (mL 258) (mR 258) ∈ lw_tbl := lwt6 (List.mem_of_getElem? (i := 236) rfl)
set_option maxRecDepth 100000 in
theorem cd259 : Cond.code (mY 259) (mC 259) (mL 259) (mR 259) ∈ lw_tbl := lwt7 (List.mem_of_getElem? (i := 4) rfl)
set_option maxRecDepth 100000 in
theorem cd260 : Cond.code (mY 260) (mC 260) (mL 260) (mR 260) ∈ lw_tbl := lwt7 (List.mem_of_getElem? (i := 0) rfl)
set_option maxRecDepth 100000 in
theorem cd261 : Cond.code (mY 261) (mC 261) (mL 261) (mR 261) ∈ lw_tbl := lwt7 (List.mem_of_getElem? (i := 8) rfl)
set_option maxRecDepth 100000 in
theorem cd262 : Cond.code (mY 262) (mC 262) (mL 262) (mR 262) ∈ lw_tbl := lwt7 (List.mem_of_getElem? (i := 12) rfl)
set_option maxRecDepth 100000 in
theorem cd263 : Cond.code (mY 263) (mC 263) (mL 263) (mR 263) ∈ lw_tbl := lwt7 (List.mem_of_getElem? (i := 19) rfl)
set_option maxRecDepth 100000 in
theorem cd264 : Cond.code (mY 264) (mC 264) (mL 264) (mR 264) ∈ lw_tbl := lwt7 (List.mem_of_getElem? (i := 16) rfl)
set_option maxRecDepth 100000 in
theorem cd265 : Cond.code (mY 265) (mC 265) (mL 265) (mR 265) ∈ lw_tbl := lwt7 (List.mem_of_getElem? (i := 27) rfl)
set_option maxRecDepth 100000 in
theorem cd266 : Cond.code (mY 266) (mC 266) (mL 266) (mR 266) ∈ lw_tbl := lwt7 (List.mem_of_getElem? (i := 23) rfl)
set_option maxRecDepth 100000 in
theorem cd267 : Cond.code (mY 267) (mC 267) (mL 267) (mR 267) ∈ lw_tbl := lwt7 (List.mem_of_getElem? (i := 31) rfl)
set_option maxRecDepth 100000 in
theorem cd268 : Cond.code (mY 268) (mC 268) (mL 268) (mR 268) ∈ lw_tbl := lwt7 (List.mem_of_getElem? (i := 43) rfl)
set_option maxRecDepth 100000 in
theorem cd269 : Cond.code (mY 269) (mC 269) (mL 269) (mR 269) ∈ lw_tbl := lwt7 (List.mem_of_getElem? (i := 39) rfl)
set_option maxRecDepth 100000 in
theorem cd270 : Cond.code (mY 270) (mC 270) (mL 270) (mR 270) ∈ lw_tbl := lwt7 (List.mem_of_getElem? (i := 35) rfl)
set_option maxRecDepth 100000 in
theorem cd271 : Cond.code (mY 271) (mC 271) (mL 271) (mR 271) ∈ lw_tbl := lwt7 (List.mem_of_getElem? (i := 47) rfl)
set_option maxRecDepth 100000 in
theorem cd272 : Cond.code (mY 272) (mC 272) (mL 272) (mR 272) ∈ lw_tbl := lwt1 (List.mem_of_getElem? (i := 151) rfl)
theorem ce0 : ∀ j, j < 16 → 0 + j ≠ 0 → Cond.code (mY (0 + j)) (mC (0 + j)) (mL (0 + j)) (mR (0 + j)) ∈ lw_tbl
  | 0, _, h => absurd rfl h
  | 1, _, h => cd1
  | 2, _, h => cd2
  | 3, _, h => cd3
  | 4, _, h => cd4
  | 5, _, h => cd5
  | 6, _, h => cd6
  | 7, _, h => cd7
  | 8, _, h => cd8
  | 9, _, h => cd9
  | 10, _, h => cd10
  | 11, _, h => cd11
  | 12, _, h => cd12
  | 13, _, h => cd13
  | 14, _, h => cd14
  | 15, _, h => cd15
  | n + 16, h, _ => absurd h (by omega)
theorem ce1 : ∀ j, j < 16 → 16 + j ≠ 0 → Cond.code (mY (16 + j)) (mC (16 + j)) (mL (16 + j)) (mR (16 + j)) ∈ lw_tbl
  | 0, _, h => cd16
  | 1, _, h => cd17
  | 2, _, h => cd18
  | 3, _, h => cd19
  | 4, _, h => cd20
  | 5, _, h => cd21
  | 6, _, h => cd22
  | 7, _, h => cd23
  | 8, _, h => cd24
  | 9, _, h => cd25
  | 10, _, h => cd26
  | 11, _, h => cd27
  | 12, _, h => cd28
  | 13, _, h => cd29
  | 14, _, h => cd30
  | 15, _, h => cd31
  | n + 16, h, _ => absurd h (by omega)
theorem ce2 : ∀ j, j < 16 → 32 + j ≠ 0 → Cond.code (mY (32 + j)) (mC (32 + j)) (mL (32 + j)) (mR (32 + j)) ∈ lw_tbl
  | 0, _, h => cd32
  | 1, _, h => cd33
  | 2, _, h => cd34
  | 3, _, h => cd35
  | 4, _, h => cd36
  | 5, _, h => cd37
  | 6, _, h => cd38
  | 7, _, h => cd39
  | 8, _, h => cd40
  | 9, _, h => cd41
  | 10, _, h => cd42
  | 11, _, h => cd43
  | 12, _, h => cd44
  | 13, _, h => cd45
  | 14, _, h => cd46
  | 15, _, h => cd47
  | n + 16, h, _ => absurd h (by omega)
theorem ce3 : ∀ j, j < 16 → 48 + j ≠ 0 → Cond.code (mY (48 + j)) (mC (48 + j)) (mL (48 + j)) (mR (48 + j)) ∈ lw_tbl
  | 0, _, h => cd48
  | 1, _, h => cd49
  | 2, _, h => cd50
  | 3, _, h => cd51
  | 4, _, h => cd52
  | 5, _, h => cd53
  | 6, _, h => cd54
  | 7, _, h => cd55
  | 8, _, h => cd56
  | 9, _, h => cd57
  | 10, _, h => cd58
  | 11, _, h => cd59
  | 12, _, h => cd60
  | 13, _, h => cd61
  | 14, _, h => cd62
  | 15, _, h => cd63
  | n + 16, h, _ => absurd h (by omega)
theorem ce4 : ∀ j, j < 16 → 64 + j ≠ 0 → Cond.code (mY (64 + j)) (mC (64 + j)) (mL (64 + j)) (mR (64 + j)) ∈ lw_tbl
  | 0, _, h => cd64
  | 1, _, h => cd65
  | 2, _, h => cd66
  | 3, _, h => cd67
  | 4, _, h => cd68
  | 5, _, h => cd69
  | 6, _, h => cd70
  | 7, _, h => cd71
  | 8, _, h => cd72
  | 9, _, h => cd73
  | 10, _, h => cd74
  | 11, _, h => cd75
  | 12, _, h => cd76
  | 13, _, h => cd77
  | 14, _, h => cd78
  | 15, _, h => cd79
  | n + 16, h, _ => absurd h (by omega)
theorem ce5 : ∀ j, j < 16 → 80 + j ≠ 0 → Cond.code (mY (80 + j)) (mC (80 + j)) (mL (80 + j)) (mR (80 + j)) ∈ lw_tbl
  | 0, _, h => cd80
  | 1, _, h => cd81
  | 2, _, h => cd82
  | 3, _, h => cd83
  | 4, _, h => cd84
  | 5, _, h => cd85
  | 6, _, h => cd86
  | 7, _, h => cd87
  | 8, _, h => cd88
  | 9, _, h => cd89
  | 10, _, h => cd90
  | 11, _, h => cd91
  | 12, _, h => cd92
  | 13, _, h => cd93
  | 14, _, h => cd94
  | 15, _, h => cd95
  | n + 16, h, _ => absurd h (by omega)
theorem ce6 : ∀ j, j < 16 → 96 + j ≠ 0 → Cond.code (mY (96 + j)) (mC (96 + j)) (mL (96 + j)) (mR (96 + j)) ∈ lw_tbl
  | 0, _, h => cd96
  | 1, _, h => cd97
  | 2, _, h => cd98
  | 3, _, h => cd99
  | 4, _, h => cd100
  | 5, _, h => cd101
  | 6, _, h => cd102
  | 7, _, h => cd103
  | 8, _, h => cd104
  | 9, _, h => cd105
  | 10, _, h => cd106
  | 11, _, h => cd107
  | 12, _, h => cd108
  | 13, _, h => cd109
  | 14, _, h => cd110
  | 15, _, h => cd111
  | n + 16, h, _ => absurd h (by omega)
theorem ce7 : ∀ j, j < 16 → 112 + j ≠ 0 → Cond.code (mY (112 + j)) (mC (112 + j)) (mL (112 + j)) (mR (112 + j)) ∈ lw_tbl
  | 0, _, h => cd112
  | 1, _, h => cd113
  | 2, _, h => cd114
  | 3, _, h => cd115
  | 4, _, h => cd116
  | 5, _, h => cd117
  | 6, _, h => cd118
  | 7, _, h => cd119
  | 8, _, h => cd120
  | 9, _, h => cd121
  | 10, _, h => cd122
  | 11, _, h => cd123
  | 12, _, h => cd124
  | 13, _, h => cd125
  | 14, _, h => cd126
  | 15, _, h => cd127
  | n + 16, h, _ => absurd h (by omega)
theorem ce8 : ∀ j, j < 16 → 128 + j ≠ 0 → Cond.code (mY (128 + j)) (mC (128 + j)) (mL (128 + j)) (mR (128 + j)) ∈ lw_tbl
  | 0, _, h => cd128
  | 1, _, h => cd129
  | 2, _, h => cd130
  | 3, _, h => cd131
  | 4, _, h => cd132
  | 5, _, h => cd133
  | 6, _, h => cd134
  | 7, _, h => cd135
  | 8, _, h => cd136
  | 9, _, h => cd137
  | 10, _, h => cd138
  | 11, _, h => cd139
  | 12, _, h => cd140
  | 13, _, h => cd141
  | 14, _, h => cd142
  | 15, _, h => cd143
  | n + 16, h, _ => absurd h (by omega)
theorem ce9 : ∀ j, j < 16 → 144 + j ≠ 0 → Cond.code (mY (144 + j)) (mC (144 + j)) (mL (144 + j)) (mR (144 + j)) ∈ lw_tbl
  | 0, _, h => cd144
  | 1, _, h => cd145
  | 2, _, h => cd146
  | 3, _, h => cd147
  | 4, _, h => cd148
  | 5, _, h => cd149
  | 6, _, h => cd150
  | 7, _, h => cd151
  | 8, _, h => cd152
  | 9, _, h => cd153
  | 10, _, h => cd154
  | 11, _, h => cd155
  | 12, _, h => cd156
  | 13, _, h => cd157
  | 14, _, h => cd158
  | 15, _, h => cd159
  | n + 16, h, _ => absurd h (by omega)
theorem ce10 : ∀ j, j < 16 → 160 + j ≠ 0 → Cond.code (mY (160 + j)) (mC (160 + j)) (mL (160 + j)) (mR (160 + j)) ∈ lw_tbl
  | 0, _, h => cd160
  | 1, _, h => cd161
  | 2, _, h => cd162
  | 3, _, h => cd163
  | 4, _, h => cd164
  | 5, _, h => cd165
  | 6, _, h => cd166
  | 7, _, h => cd167
  | 8, _, h => cd168
  | 9, _, h => cd169
  | 10, _, h => cd170
  | 11, _, h => cd171
  | 12, _, h => cd172
  | 13, _, h => cd173
  | 14, _, h => cd174
  | 15, _, h => cd175
  | n + 16, h, _ => absurd h (by omega)
theorem ce11 : ∀ j, j < 16 → 176 + j ≠ 0 → Cond.code (mY (176 + j)) (mC (176 + j)) (mL (176 + j)) (mR (176 + j)) ∈ lw_tbl
  | 0, _, h => cd176
  | 1, _, h => cd177
  | 2, _, h => cd178
  | 3, _, h => cd179
  | 4, _, h => cd180
  | 5, _, h => cd181
  | 6, _, h => cd182
  | 7, _, h => cd183
  | 8, _, h => cd184
  | 9, _, h => cd185
  | 10, _, h => cd186
  | 11, _, h => cd187
  | 12, _, h => cd188
  | 13, _, h => cd189
  | 14, _, h => cd190
  | 15, _, h => cd191
  | n + 16, h, _ => absurd h (by omega)
theorem ce12 : ∀ j, j < 16 → 192 + j ≠ 0 → Cond.code (mY (192 + j)) (mC (192 + j)) (mL (192 + j)) (mR (192 + j)) ∈ lw_tbl
  | 0, _, h => cd192
  | 1, _, h => cd193
  | 2, _, h => cd194
  | 3, _, h => cd195
  | 4, _, h => cd196
  | 5, _, h => cd197
  | 6, _, h => cd198
  | 7, _, h => cd199
  | 8, _, h => cd200
  | 9, _, h => cd201
  | 10, _, h => cd202
  | 11, _, h => cd203
  | 12, _, h => cd204
  | 13, _, h => cd205
  | 14, _, h => cd206
  | 15, _, h => cd207
  | n + 16, h, _ => absurd h (by omega)
theorem ce13 : ∀ j, j < 16 → 208 + j ≠ 0 → Cond.code (mY (208 + j)) (mC (208 + j)) (mL (208 + j)) (mR (208 + j)) ∈ lw_tbl
  | 0, _, h => cd208
  | 1, _, h => cd209
  | 2, _, h => cd210
  | 3, _, h => cd211
  | 4, _, h => cd212
  | 5, _, h => cd213
  | 6, _, h => cd214
  | 7, _, h => cd215
  | 8, _, h => cd216
  | 9, _, h => cd217
  | 10, _, h => cd218
  | 11, _, h => cd219
  | 12, _, h => cd220
  | 13, _, h => cd221
  | 14, _, h => cd222
  | 15, _, h => cd223
  | n + 16, h, _ => absurd h (by omega)
theorem ce14 : ∀ j, j < 16 → 224 + j ≠ 0 → Cond.code (mY (224 + j)) (mC (224 + j)) (mL (224 + j)) (mR (224 + j)) ∈ lw_tbl
  | 0, _, h => cd224
  | 1, _, h => cd225
  | 2, _, h => cd226
  | 3, _, h => cd227
  | 4, _, h => cd228
  | 5, _, h => cd229
  | 6, _, h => cd230
  | 7, _, h => cd231
  | 8, _, h => cd232
  | 9, _, h => cd233
  | 10, _, h => cd234
  | 11, _, h => cd235
  | 12, _, h => cd236
  | 13, _, h => cd237
  | 14, _, h => cd238
  | 15, _, h => cd239
  | n + 16, h, _ => absurd h (by omega)
theorem ce15 : ∀ j, j < 16 → 240 + j ≠ 0 → Cond.code (mY (240 + j)) (mC (240 + j)) (mL (240 + j)) (mR (240 + j)) ∈ lw_tbl
  | 0, _, h => cd240
  | 1, _, h => cd241
  | 2, _, h => cd242
  | 3, _, h => cd243
  | 4, _, h => cd244
  | 5, _, h => cd245
  | 6, _, h => cd246
  | 7, _, h => cd247
  | 8, _, h => cd248
  | 9, _, h => cd249
  | 10, _, h => cd250
  | 11, _, h => cd251
  | 12, _, h => cd252
  | 13, _, h => cd253
  | 14, _, h => cd254
  | 15, _, h => cd255
  | n + 16, h, _ => absurd h (by omega)
theorem ce16 : ∀ j, j < 16 → 256 + j ≠ 0 → Cond.code (mY (256 + j)) (mC (256 + j)) (mL (256 + j)) (mR (256 + j)) ∈ lw_tbl
  | 0, _, h => cd256
  | 1, _, h => cd257
  | 2, _, h => cd258
  | 3, _, h => cd259
  | 4, _, h => cd260
  | 5, _, h => cd261
  | 6, _, h => cd262
  | 7, _, h => cd263
  | 8, _, h => cd264
  | 9, _, h => cd265
  | 10, _, h => cd266
  | 11, _, h => cd267
  | 12, _, h => cd268
  | 13, _, h => cd269
  | 14, _, h => cd270
  | 15, _, h => cd271
  | n + 16, h, _ => absurd h (by omega)
theorem ce17 : ∀ j, j < 1 → 272 + j ≠ 0 → Cond.code (mY (272 + j)) (mC (272 + j)) (mL (272 + j)) (mR (272 + j)) ∈ lw_tbl
  | 0, _, h => cd272
  | n + 1, h, _ => absurd h (by omega)
theorem cd_ok {k : Nat} (h0 : k ≠ 0) (h : k < 273) : Cond.code (mY k) (mC k) (mL k) (mR k) ∈ lw_tbl := by
  by_cases h0 : k < 16
  · have := ce0 (k - 0) (by omega) (by omega)
    rwa [show 0 + (k - 0) = k by omega] at this
  by_cases h1 : k < 32
  · have := ce1 (k - 16) (by omega) (by omega)
    rwa [show 16 + (k - 16) = k by omega] at this
  by_cases h2 : k < 48
  · have := ce2 (k - 32) (by omega) (by omega)
    rwa [show 32 + (k - 32) = k by omega] at this
  by_cases h3 : k < 64
  · have := ce3 (k - 48) (by omega) (by omega)
    rwa [show 48 + (k - 48) = k by omega] at this
  by_cases h4 : k < 80
  · have := ce4 (k - 64) (by omega) (by omega)
    rwa [show 64 + (k - 64) = k by omega] at this
  by_cases h5 : k < 96
  · have := ce5 (k - 80) (by omega) (by omega)
    rwa [show 80 + (k - 80) = k by omega] at this
  by_cases h6 : k < 112
  · have := ce6 (k - 96) (by omega) (by omega)
    rwa [show 96 + (k - 96) = k by omega] at this
  by_cases h7 : k < 128
  · have := ce7 (k - 112) (by omega) (by omega)
    rwa [show 112 + (k - 112) = k by omega] at this
  by_cases h8 : k < 144
  · have := ce8 (k - 128) (by omega) (by omega)
    rwa [show 128 + (k - 128) = k by omega] at this
  by_cases h9 : k < 160
  · have := ce9 (k - 144) (by omega) (by omega)
    rwa [show 144 + (k - 144) = k by omega] at this
  by_cases h10 : k < 176
  · have := ce10 (k - 160) (by omega) (by omega)
    rwa [show 160 + (k - 160) = k by omega] at this
  by_cases h11 : k < 192
  · have := ce11 (k - 176) (by omega) (by omega)
    rwa [show 176 + (k - 176) = k by omega] at this
  by_cases h12 : k < 208
  · have := ce12 (k - 192) (by omega) (by omega)
    rwa [show 192 + (k - 192) = k by omega] at this
  by_cases h13 : k < 224
  · have := ce13 (k - 208) (by omega) (by omega)
    rwa [show 208 + (k - 208) = k by omega] at this
  by_cases h14 : k < 240
  · have := ce14 (k - 224) (by omega) (by omega)
    rwa [show 224 + (k - 224) = k by omega] at this
  by_cases h15 : k < 256
  · have := ce15 (k - 240) (by omega) (by omega)
    rwa [show 240 + (k - 240) = k by omega] at this
  by_cases h16 : k < 272
  · have := ce16 (k - 256) (by omega) (by omega)
    rwa [show 256 + (k - 256) = k by omega] at this
  have := ce17 (k - 272) (by omega) (by omega)
  rwa [show 272 + (k - 272) = k by omega] at this

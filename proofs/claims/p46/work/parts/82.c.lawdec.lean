theorem dl_size : cL_law.size = 2064 := by decide +kernel
def dk_0 : ByteArray := dlk cL_law 0 54
theorem hdk_0 : dlS 0 cL_law dk_0 := dl_S cL_law 0 54 (Nat.le_trans (by decide : 0 ≤ 2064) (Nat.le_of_eq dl_size.symm))
def dk_48 : ByteArray := dlk cL_law 48 54
theorem hdk_48 : dlS 48 cL_law dk_48 := dl_S cL_law 48 54 (Nat.le_trans (by decide : 48 ≤ 2064) (Nat.le_of_eq dl_size.symm))
def dk_96 : ByteArray := dlk cL_law 96 54
theorem hdk_96 : dlS 96 cL_law dk_96 := dl_S cL_law 96 54 (Nat.le_trans (by decide : 96 ≤ 2064) (Nat.le_of_eq dl_size.symm))
def dk_144 : ByteArray := dlk cL_law 144 54
theorem hdk_144 : dlS 144 cL_law dk_144 := dl_S cL_law 144 54 (Nat.le_trans (by decide : 144 ≤ 2064) (Nat.le_of_eq dl_size.symm))
def dk_192 : ByteArray := dlk cL_law 192 54
theorem hdk_192 : dlS 192 cL_law dk_192 := dl_S cL_law 192 54 (Nat.le_trans (by decide : 192 ≤ 2064) (Nat.le_of_eq dl_size.symm))
def dk_240 : ByteArray := dlk cL_law 240 54
theorem hdk_240 : dlS 240 cL_law dk_240 := dl_S cL_law 240 54 (Nat.le_trans (by decide : 240 ≤ 2064) (Nat.le_of_eq dl_size.symm))
def dk_288 : ByteArray := dlk cL_law 288 54
theorem hdk_288 : dlS 288 cL_law dk_288 := dl_S cL_law 288 54 (Nat.le_trans (by decide : 288 ≤ 2064) (Nat.le_of_eq dl_size.symm))
def dk_336 : ByteArray := dlk cL_law 336 54
theorem hdk_336 : dlS 336 cL_law dk_336 := dl_S cL_law 336 54 (Nat.le_trans (by decide : 336 ≤ 2064) (Nat.le_of_eq dl_size.symm))
def dk_384 : ByteArray := dlk cL_law 384 54
theorem hdk_384 : dlS 384 cL_law dk_384 := dl_S cL_law 384 54 (Nat.le_trans (by decide : 384 ≤ 2064) (Nat.le_of_eq dl_size.symm))
def dk_432 : ByteArray := dlk cL_law 432 54
theorem hdk_432 : dlS 432 cL_law dk_432 := dl_S cL_law 432 54 (Nat.le_trans (by decide : 432 ≤ 2064) (Nat.le_of_eq dl_size.symm))
def dk_480 : ByteArray := dlk cL_law 480 54
theorem hdk_480 : dlS 480 cL_law dk_480 := dl_S cL_law 480 54 (Nat.le_trans (by decide : 480 ≤ 2064) (Nat.le_of_eq dl_size.symm))
def dk_528 : ByteArray := dlk cL_law 528 54
theorem hdk_528 : dlS 528 cL_law dk_528 := dl_S cL_law 528 54 (Nat.le_trans (by decide : 528 ≤ 2064) (Nat.le_of_eq dl_size.symm))
def dk_576 : ByteArray := dlk cL_law 576 54
theorem hdk_576 : dlS 576 cL_law dk_576 := dl_S cL_law 576 54 (Nat.le_trans (by decide : 576 ≤ 2064) (Nat.le_of_eq dl_size.symm))
def dk_624 : ByteArray := dlk cL_law 624 54
theorem hdk_624 : dlS 624 cL_law dk_624 := dl_S cL_law 624 54 (Nat.le_trans (by decide : 624 ≤ 2064) (Nat.le_of_eq dl_size.symm))
def dk_672 : ByteArray := dlk cL_law 672 54
theorem hdk_672 : dlS 672 cL_law dk_672 := dl_S cL_law 672 54 (Nat.le_trans (by decide : 672 ≤ 2064) (Nat.le_of_eq dl_size.symm))
def dk_720 : ByteArray := dlk cL_law 720 54
theorem hdk_720 : dlS 720 cL_law dk_720 := dl_S cL_law 720 54 (Nat.le_trans (by decide : 720 ≤ 2064) (Nat.le_of_eq dl_size.symm))
def dk_768 : ByteArray := dlk cL_law 768 54
theorem hdk_768 : dlS 768 cL_law dk_768 := dl_S cL_law 768 54 (Nat.le_trans (by decide : 768 ≤ 2064) (Nat.le_of_eq dl_size.symm))
def dk_816 : ByteArray := dlk cL_law 816 54
theorem hdk_816 : dlS 816 cL_law dk_816 := dl_S cL_law 816 54 (Nat.le_trans (by decide : 816 ≤ 2064) (Nat.le_of_eq dl_size.symm))
def dk_864 : ByteArray := dlk cL_law 864 54
theorem hdk_864 : dlS 864 cL_law dk_864 := dl_S cL_law 864 54 (Nat.le_trans (by decide : 864 ≤ 2064) (Nat.le_of_eq dl_size.symm))
def dk_912 : ByteArray := dlk cL_law 912 54
theorem hdk_912 : dlS 912 cL_law dk_912 := dl_S cL_law 912 54 (Nat.le_trans (by decide : 912 ≤ 2064) (Nat.le_of_eq dl_size.symm))
def dk_960 : ByteArray := dlk cL_law 960 54
theorem hdk_960 : dlS 960 cL_law dk_960 := dl_S cL_law 960 54 (Nat.le_trans (by decide : 960 ≤ 2064) (Nat.le_of_eq dl_size.symm))
def dk_1008 : ByteArray := dlk cL_law 1008 54
theorem hdk_1008 : dlS 1008 cL_law dk_1008 := dl_S cL_law 1008 54 (Nat.le_trans (by decide : 1008 ≤ 2064) (Nat.le_of_eq dl_size.symm))
def dk_1056 : ByteArray := dlk cL_law 1056 54
theorem hdk_1056 : dlS 1056 cL_law dk_1056 := dl_S cL_law 1056 54 (Nat.le_trans (by decide : 1056 ≤ 2064) (Nat.le_of_eq dl_size.symm))
def dk_1104 : ByteArray := dlk cL_law 1104 54
theorem hdk_1104 : dlS 1104 cL_law dk_1104 := dl_S cL_law 1104 54 (Nat.le_trans (by decide : 1104 ≤ 2064) (Nat.le_of_eq dl_size.symm))
def dk_1152 : ByteArray := dlk cL_law 1152 54
theorem hdk_1152 : dlS 1152 cL_law dk_1152 := dl_S cL_law 1152 54 (Nat.le_trans (by decide : 1152 ≤ 2064) (Nat.le_of_eq dl_size.symm))
def dk_1200 : ByteArray := dlk cL_law 1200 54
theorem hdk_1200 : dlS 1200 cL_law dk_1200 := dl_S cL_law 1200 54 (Nat.le_trans (by decide : 1200 ≤ 2064) (Nat.le_of_eq dl_size.symm))
def dk_1248 : ByteArray := dlk cL_law 1248 54
theorem hdk_1248 : dlS 1248 cL_law dk_1248 := dl_S cL_law 1248 54 (Nat.le_trans (by decide : 1248 ≤ 2064) (Nat.le_of_eq dl_size.symm))
def dk_1296 : ByteArray := dlk cL_law 1296 54
theorem hdk_1296 : dlS 1296 cL_law dk_1296 := dl_S cL_law 1296 54 (Nat.le_trans (by decide : 1296 ≤ 2064) (Nat.le_of_eq dl_size.symm))
def dk_1344 : ByteArray := dlk cL_law 1344 54
theorem hdk_1344 : dlS 1344 cL_law dk_1344 := dl_S cL_law 1344 54 (Nat.le_trans (by decide : 1344 ≤ 2064) (Nat.le_of_eq dl_size.symm))
def dk_1392 : ByteArray := dlk cL_law 1392 54
theorem hdk_1392 : dlS 1392 cL_law dk_1392 := dl_S cL_law 1392 54 (Nat.le_trans (by decide : 1392 ≤ 2064) (Nat.le_of_eq dl_size.symm))
def dk_1440 : ByteArray := dlk cL_law 1440 54
theorem hdk_1440 : dlS 1440 cL_law dk_1440 := dl_S cL_law 1440 54 (Nat.le_trans (by decide : 1440 ≤ 2064) (Nat.le_of_eq dl_size.symm))
def dk_1488 : ByteArray := dlk cL_law 1488 54
theorem hdk_1488 : dlS 1488 cL_law dk_1488 := dl_S cL_law 1488 54 (Nat.le_trans (by decide : 1488 ≤ 2064) (Nat.le_of_eq dl_size.symm))
def dk_1536 : ByteArray := dlk cL_law 1536 54
theorem hdk_1536 : dlS 1536 cL_law dk_1536 := dl_S cL_law 1536 54 (Nat.le_trans (by decide : 1536 ≤ 2064) (Nat.le_of_eq dl_size.symm))
def dk_1584 : ByteArray := dlk cL_law 1584 54
theorem hdk_1584 : dlS 1584 cL_law dk_1584 := dl_S cL_law 1584 54 (Nat.le_trans (by decide : 1584 ≤ 2064) (Nat.le_of_eq dl_size.symm))
def dk_1632 : ByteArray := dlk cL_law 1632 54
theorem hdk_1632 : dlS 1632 cL_law dk_1632 := dl_S cL_law 1632 54 (Nat.le_trans (by decide : 1632 ≤ 2064) (Nat.le_of_eq dl_size.symm))
def dk_1680 : ByteArray := dlk cL_law 1680 54
theorem hdk_1680 : dlS 1680 cL_law dk_1680 := dl_S cL_law 1680 54 (Nat.le_trans (by decide : 1680 ≤ 2064) (Nat.le_of_eq dl_size.symm))
def dk_1728 : ByteArray := dlk cL_law 1728 54
theorem hdk_1728 : dlS 1728 cL_law dk_1728 := dl_S cL_law 1728 54 (Nat.le_trans (by decide : 1728 ≤ 2064) (Nat.le_of_eq dl_size.symm))
def dk_1776 : ByteArray := dlk cL_law 1776 54
theorem hdk_1776 : dlS 1776 cL_law dk_1776 := dl_S cL_law 1776 54 (Nat.le_trans (by decide : 1776 ≤ 2064) (Nat.le_of_eq dl_size.symm))
def dk_1824 : ByteArray := dlk cL_law 1824 54
theorem hdk_1824 : dlS 1824 cL_law dk_1824 := dl_S cL_law 1824 54 (Nat.le_trans (by decide : 1824 ≤ 2064) (Nat.le_of_eq dl_size.symm))
def dk_1872 : ByteArray := dlk cL_law 1872 54
theorem hdk_1872 : dlS 1872 cL_law dk_1872 := dl_S cL_law 1872 54 (Nat.le_trans (by decide : 1872 ≤ 2064) (Nat.le_of_eq dl_size.symm))
def dk_1920 : ByteArray := dlk cL_law 1920 54
theorem hdk_1920 : dlS 1920 cL_law dk_1920 := dl_S cL_law 1920 54 (Nat.le_trans (by decide : 1920 ≤ 2064) (Nat.le_of_eq dl_size.symm))
def dk_1968 : ByteArray := dlk cL_law 1968 54
theorem hdk_1968 : dlS 1968 cL_law dk_1968 := dl_S cL_law 1968 54 (Nat.le_trans (by decide : 1968 ≤ 2064) (Nat.le_of_eq dl_size.symm))
def dk_2016 : ByteArray := dlk cL_law 2016 54
theorem hdk_2016 : dlS 2016 cL_law dk_2016 := dl_S cL_law 2016 54 (Nat.le_trans (by decide : 2016 ≤ 2064) (Nat.le_of_eq dl_size.symm))
theorem dLb_0 : fdq dk_0 0 (.new 8) 3 = true ∧ fdq dk_0 3 (.dup) 1 = true ∧ fdq dk_0 4 (.invokespecial 159) 3 = true ∧ fdq dk_0 7 (.astore_n 1) 1 = true ∧ fdq dk_0 8 (.new 160) 3 = true ∧ fdq dk_0 11 (.dup) 1 = true ∧ fdq dk_0 12 (.invokespecial 162) 3 = true ∧ fdq dk_0 15 (.astore_n 2) 1 = true ∧ fdq dk_0 16 (.new 14) 3 = true ∧ fdq dk_0 19 (.dup) 1 = true ∧ fdq dk_0 20 (.invokespecial 163) 3 = true ∧ fdq dk_0 23 (.astore_n 3) 1 = true ∧ fdq dk_0 24 (.iconst 0) 1 = true ∧ fdq dk_0 25 (.istore 4) 2 = true ∧ fdq dk_0 27 (.iload 4) 2 = true ∧ fdq dk_0 29 (.aload_n 0) 1 = true ∧ fdq dk_0 30 (.arraylength) 1 = true ∧ fdq dk_0 31 (.bipush 6) 2 = true ∧ fdq dk_0 33 (.isub) 1 = true ∧ fdq dk_0 34 (.if_icmp .gt 2028) 3 = true ∧ fdq dk_0 37 (.aload_n 0) 1 = true ∧ fdq dk_0 38 (.iload 4) 2 = true ∧ fdq dk_0 40 (.iaload) 1 = true ∧ fdq dk_0 41 (.bipush 63) 2 = true ∧ fdq dk_0 43 (.iand) 1 = true := by decide +kernel
theorem dL_law_0 : decode cL_law 0 = .ok (.new 8, 3) := fdg (k := 0) (p := 0) hdk_0 dLb_0.1
theorem dL_law_3 : decode cL_law 3 = .ok (.dup, 1) := fdg (k := 0) (p := 3) hdk_0 dLb_0.2.1
theorem dL_law_4 : decode cL_law 4 = .ok (.invokespecial 159, 3) := fdg (k := 0) (p := 4) hdk_0 dLb_0.2.2.1
theorem dL_law_7 : decode cL_law 7 = .ok (.astore_n 1, 1) := fdg (k := 0) (p := 7) hdk_0 dLb_0.2.2.2.1
theorem dL_law_8 : decode cL_law 8 = .ok (.new 160, 3) := fdg (k := 0) (p := 8) hdk_0 dLb_0.2.2.2.2.1
theorem dL_law_11 : decode cL_law 11 = .ok (.dup, 1) := fdg (k := 0) (p := 11) hdk_0 dLb_0.2.2.2.2.2.1
theorem dL_law_12 : decode cL_law 12 = .ok (.invokespecial 162, 3) := fdg (k := 0) (p := 12) hdk_0 dLb_0.2.2.2.2.2.2.1
theorem dL_law_15 : decode cL_law 15 = .ok (.astore_n 2, 1) := fdg (k := 0) (p := 15) hdk_0 dLb_0.2.2.2.2.2.2.2.1
theorem dL_law_16 : decode cL_law 16 = .ok (.new 14, 3) := fdg (k := 0) (p := 16) hdk_0 dLb_0.2.2.2.2.2.2.2.2.1
theorem dL_law_19 : decode cL_law 19 = .ok (.dup, 1) := fdg (k := 0) (p := 19) hdk_0 dLb_0.2.2.2.2.2.2.2.2.2.1
theorem dL_law_20 : decode cL_law 20 = .ok (.invokespecial 163, 3) := fdg (k := 0) (p := 20) hdk_0 dLb_0.2.2.2.2.2.2.2.2.2.2.1
theorem dL_law_23 : decode cL_law 23 = .ok (.astore_n 3, 1) := fdg (k := 0) (p := 23) hdk_0 dLb_0.2.2.2.2.2.2.2.2.2.2.2.1
theorem dL_law_24 : decode cL_law 24 = .ok (.iconst 0, 1) := fdg (k := 0) (p := 24) hdk_0 dLb_0.2.2.2.2.2.2.2.2.2.2.2.2.1
theorem dL_law_25 : decode cL_law 25 = .ok (.istore 4, 2) := fdg (k := 0) (p := 25) hdk_0 dLb_0.2.2.2.2.2.2.2.2.2.2.2.2.2.1
theorem dL_law_27 : decode cL_law 27 = .ok (.iload 4, 2) := fdg (k := 0) (p := 27) hdk_0 dLb_0.2.2.2.2.2.2.2.2.2.2.2.2.2.2.1
theorem dL_law_29 : decode cL_law 29 = .ok (.aload_n 0, 1) := fdg (k := 0) (p := 29) hdk_0 dLb_0.2.2.2.2.2.2.2.2.2.2.2.2.2.2.2.1
theorem dL_law_30 : decode cL_law 30 = .ok (.arraylength, 1) := fdg (k := 0) (p := 30) hdk_0 dLb_0.2.2.2.2.2.2.2.2.2.2.2.2.2.2.2.2.1
theorem dL_law_31 : decode cL_law 31 = .ok (.bipush 6, 2) := fdg (k := 0) (p := 31) hdk_0 dLb_0.2.2.2.2.2.2.2.2.2.2.2.2.2.2.2.2.2.1
theorem dL_law_33 : decode cL_law 33 = .ok (.isub, 1) := fdg (k := 0) (p := 33) hdk_0 dLb_0.2.2.2.2.2.2.2.2.2.2.2.2.2.2.2.2.2.2.1
theorem dL_law_34 : decode cL_law 34 = .ok (.if_icmp .gt 2028, 3) := fdg (k := 0) (p := 34) hdk_0 dLb_0.2.2.2.2.2.2.2.2.2.2.2.2.2.2.2.2.2.2.2.1
theorem dL_law_37 : decode cL_law 37 = .ok (.aload_n 0, 1) := fdg (k := 0) (p := 37) hdk_0 dLb_0.2.2.2.2.2.2.2.2.2.2.2.2.2.2.2.2.2.2.2.2.1
theorem dL_law_38 : decode cL_law 38 = .ok (.iload 4, 2) := fdg (k := 0) (p := 38) hdk_0 dLb_0.2.2.2.2.2.2.2.2.2.2.2.2.2.2.2.2.2.2.2.2.2.1
theorem dL_law_40 : decode cL_law 40 = .ok (.iaload, 1) := fdg (k := 0) (p := 40) hdk_0 dLb_0.2.2.2.2.2.2.2.2.2.2.2.2.2.2.2.2.2.2.2.2.2.2.1
theorem dL_law_41 : decode cL_law 41 = .ok (.bipush 63, 2) := fdg (k := 0) (p := 41) hdk_0 dLb_0.2.2.2.2.2.2.2.2.2.2.2.2.2.2.2.2.2.2.2.2.2.2.2.1
theorem dL_law_43 : decode cL_law 43 = .ok (.iand, 1) := fdg (k := 0) (p := 43) hdk_0 dLb_0.2.2.2.2.2.2.2.2.2.2.2.2.2.2.2.2.2.2.2.2.2.2.2.2
theorem dLb_1 : fdq dk_240 0 (.aload_n 1) 1 = true ∧ fdq dk_240 1 (.aload_n 0) 1 = true ∧ fdq dk_240 2 (.iload 4) 2 = true ∧ fdq dk_240 4 (.iconst 1) 1 = true ∧ fdq dk_240 5 (.iadd) 1 = true ∧ fdq dk_240 6 (.iaload) 1 = true ∧ fdq dk_240 7 (.aload_n 0) 1 = true ∧ fdq dk_240 8 (.iload 4) 2 = true ∧ fdq dk_240 10 (.iconst 2) 1 = true ∧ fdq dk_240 11 (.iadd) 1 = true ∧ fdq dk_240 12 (.iaload) 1 = true ∧ fdq dk_240 13 (.aload_n 3) 1 = true ∧ fdq dk_240 14 (.invokestatic 164) 3 = true ∧ fdq dk_240 17 (.istore 5) 2 = true ∧ fdq dk_240 19 (.aload_n 2) 1 = true ∧ fdq dk_240 20 (.aload_n 0) 1 = true ∧ fdq dk_240 21 (.iload 4) 2 = true ∧ fdq dk_240 23 (.iconst 1) 1 = true ∧ fdq dk_240 24 (.iadd) 1 = true ∧ fdq dk_240 25 (.iaload) 1 = true ∧ fdq dk_240 26 (.aload_n 0) 1 = true ∧ fdq dk_240 27 (.iload 4) 2 = true ∧ fdq dk_240 29 (.iconst 2) 1 = true ∧ fdq dk_240 30 (.iadd) 1 = true ∧ fdq dk_240 31 (.iaload) 1 = true ∧ fdq dk_240 32 (.invokevirtual 169) 3 = true ∧ fdq dk_240 35 (.istore 6) 2 = true ∧ fdq dk_240 37 (.goto 1779) 3 = true ∧ fdq dk_240 40 (.aload_n 1) 1 = true ∧ fdq dk_240 41 (.aload_n 0) 1 = true ∧ fdq dk_240 42 (.iload 4) 2 = true ∧ fdq dk_240 44 (.iconst 1) 1 = true := by decide +kernel
theorem dL_law_240 : decode cL_law 240 = .ok (.aload_n 1, 1) := fdg (k := 240) (p := 0) hdk_240 dLb_1.1
theorem dL_law_241 : decode cL_law 241 = .ok (.aload_n 0, 1) := fdg (k := 240) (p := 1) hdk_240 dLb_1.2.1
theorem dL_law_242 : decode cL_law 242 = .ok (.iload 4, 2) := fdg (k := 240) (p := 2) hdk_240 dLb_1.2.2.1
theorem dL_law_244 : decode cL_law 244 = .ok (.iconst 1, 1) := fdg (k := 240) (p := 4) hdk_240 dLb_1.2.2.2.1
theorem dL_law_245 : decode cL_law 245 = .ok (.iadd, 1) := fdg (k := 240) (p := 5) hdk_240 dLb_1.2.2.2.2.1
theorem dL_law_246 : decode cL_law 246 = .ok (.iaload, 1) := fdg (k := 240) (p := 6) hdk_240 dLb_1.2.2.2.2.2.1
theorem dL_law_247 : decode cL_law 247 = .ok (.aload_n 0, 1) := fdg (k := 240) (p := 7) hdk_240 dLb_1.2.2.2.2.2.2.1
theorem dL_law_248 : decode cL_law 248 = .ok (.iload 4, 2) := fdg (k := 240) (p := 8) hdk_240 dLb_1.2.2.2.2.2.2.2.1
theorem dL_law_250 : decode cL_law 250 = .ok (.iconst 2, 1) := fdg (k := 240) (p := 10) hdk_240 dLb_1.2.2.2.2.2.2.2.2.1
theorem dL_law_251 : decode cL_law 251 = .ok (.iadd, 1) := fdg (k := 240) (p := 11) hdk_240 dLb_1.2.2.2.2.2.2.2.2.2.1
theorem dL_law_252 : decode cL_law 252 = .ok (.iaload, 1) := fdg (k := 240) (p := 12) hdk_240 dLb_1.2.2.2.2.2.2.2.2.2.2.1
theorem dL_law_253 : decode cL_law 253 = .ok (.aload_n 3, 1) := fdg (k := 240) (p := 13) hdk_240 dLb_1.2.2.2.2.2.2.2.2.2.2.2.1
theorem dL_law_254 : decode cL_law 254 = .ok (.invokestatic 164, 3) := fdg (k := 240) (p := 14) hdk_240 dLb_1.2.2.2.2.2.2.2.2.2.2.2.2.1
theorem dL_law_257 : decode cL_law 257 = .ok (.istore 5, 2) := fdg (k := 240) (p := 17) hdk_240 dLb_1.2.2.2.2.2.2.2.2.2.2.2.2.2.1
theorem dL_law_259 : decode cL_law 259 = .ok (.aload_n 2, 1) := fdg (k := 240) (p := 19) hdk_240 dLb_1.2.2.2.2.2.2.2.2.2.2.2.2.2.2.1
theorem dL_law_260 : decode cL_law 260 = .ok (.aload_n 0, 1) := fdg (k := 240) (p := 20) hdk_240 dLb_1.2.2.2.2.2.2.2.2.2.2.2.2.2.2.2.1
theorem dL_law_261 : decode cL_law 261 = .ok (.iload 4, 2) := fdg (k := 240) (p := 21) hdk_240 dLb_1.2.2.2.2.2.2.2.2.2.2.2.2.2.2.2.2.1
theorem dL_law_263 : decode cL_law 263 = .ok (.iconst 1, 1) := fdg (k := 240) (p := 23) hdk_240 dLb_1.2.2.2.2.2.2.2.2.2.2.2.2.2.2.2.2.2.1
theorem dL_law_264 : decode cL_law 264 = .ok (.iadd, 1) := fdg (k := 240) (p := 24) hdk_240 dLb_1.2.2.2.2.2.2.2.2.2.2.2.2.2.2.2.2.2.2.1
theorem dL_law_265 : decode cL_law 265 = .ok (.iaload, 1) := fdg (k := 240) (p := 25) hdk_240 dLb_1.2.2.2.2.2.2.2.2.2.2.2.2.2.2.2.2.2.2.2.1
theorem dL_law_266 : decode cL_law 266 = .ok (.aload_n 0, 1) := fdg (k := 240) (p := 26) hdk_240 dLb_1.2.2.2.2.2.2.2.2.2.2.2.2.2.2.2.2.2.2.2.2.1
theorem dL_law_267 : decode cL_law 267 = .ok (.iload 4, 2) := fdg (k := 240) (p := 27) hdk_240 dLb_1.2.2.2.2.2.2.2.2.2.2.2.2.2.2.2.2.2.2.2.2.2.1
theorem dL_law_269 : decode cL_law 269 = .ok (.iconst 2, 1) := fdg (k := 240) (p := 29) hdk_240 dLb_1.2.2.2.2.2.2.2.2.2.2.2.2.2.2.2.2.2.2.2.2.2.2.1
theorem dL_law_270 : decode cL_law 270 = .ok (.iadd, 1) := fdg (k := 240) (p := 30) hdk_240 dLb_1.2.2.2.2.2.2.2.2.2.2.2.2.2.2.2.2.2.2.2.2.2.2.2.1
theorem dL_law_271 : decode cL_law 271 = .ok (.iaload, 1) := fdg (k := 240) (p := 31) hdk_240 dLb_1.2.2.2.2.2.2.2.2.2.2.2.2.2.2.2.2.2.2.2.2.2.2.2.2.1
theorem dL_law_272 : decode cL_law 272 = .ok (.invokevirtual 169, 3) := fdg (k := 240) (p := 32) hdk_240 dLb_1.2.2.2.2.2.2.2.2.2.2.2.2.2.2.2.2.2.2.2.2.2.2.2.2.2.1
theorem dL_law_275 : decode cL_law 275 = .ok (.istore 6, 2) := fdg (k := 240) (p := 35) hdk_240 dLb_1.2.2.2.2.2.2.2.2.2.2.2.2.2.2.2.2.2.2.2.2.2.2.2.2.2.2.1
theorem dL_law_277 : decode cL_law 277 = .ok (.goto 1779, 3) := fdg (k := 240) (p := 37) hdk_240 dLb_1.2.2.2.2.2.2.2.2.2.2.2.2.2.2.2.2.2.2.2.2.2.2.2.2.2.2.2.1
theorem dL_law_280 : decode cL_law 280 = .ok (.aload_n 1, 1) := fdg (k := 240) (p := 40) hdk_240 dLb_1.2.2.2.2.2.2.2.2.2.2.2.2.2.2.2.2.2.2.2.2.2.2.2.2.2.2.2.2.1
theorem dL_law_281 : decode cL_law 281 = .ok (.aload_n 0, 1) := fdg (k := 240) (p := 41) hdk_240 dLb_1.2.2.2.2.2.2.2.2.2.2.2.2.2.2.2.2.2.2.2.2.2.2.2.2.2.2.2.2.2.1
theorem dL_law_282 : decode cL_law 282 = .ok (.iload 4, 2) := fdg (k := 240) (p := 42) hdk_240 dLb_1.2.2.2.2.2.2.2.2.2.2.2.2.2.2.2.2.2.2.2.2.2.2.2.2.2.2.2.2.2.2.1
theorem dL_law_284 : decode cL_law 284 = .ok (.iconst 1, 1) := fdg (k := 240) (p := 44) hdk_240 dLb_1.2.2.2.2.2.2.2.2.2.2.2.2.2.2.2.2.2.2.2.2.2.2.2.2.2.2.2.2.2.2.2
theorem dLb_2 : fdq dk_240 45 (.iadd) 1 = true ∧ fdq dk_240 46 (.iaload) 1 = true ∧ fdq dk_240 47 (.aload_n 0) 1 = true := by decide +kernel
theorem dL_law_285 : decode cL_law 285 = .ok (.iadd, 1) := fdg (k := 240) (p := 45) hdk_240 dLb_2.1
theorem dL_law_286 : decode cL_law 286 = .ok (.iaload, 1) := fdg (k := 240) (p := 46) hdk_240 dLb_2.2.1
theorem dL_law_287 : decode cL_law 287 = .ok (.aload_n 0, 1) := fdg (k := 240) (p := 47) hdk_240 dLb_2.2.2
theorem dLb_3 : fdq dk_288 0 (.iload 4) 2 = true ∧ fdq dk_288 2 (.iconst 2) 1 = true ∧ fdq dk_288 3 (.iadd) 1 = true ∧ fdq dk_288 4 (.iaload) 1 = true ∧ fdq dk_288 5 (.aload_n 0) 1 = true ∧ fdq dk_288 6 (.iload 4) 2 = true ∧ fdq dk_288 8 (.iconst 3) 1 = true ∧ fdq dk_288 9 (.iadd) 1 = true ∧ fdq dk_288 10 (.iaload) 1 = true ∧ fdq dk_288 11 (.aload_n 3) 1 = true ∧ fdq dk_288 12 (.invokestatic 170) 3 = true ∧ fdq dk_288 15 (.istore 5) 2 = true ∧ fdq dk_288 17 (.aload_n 2) 1 = true ∧ fdq dk_288 18 (.aload_n 0) 1 = true ∧ fdq dk_288 19 (.iload 4) 2 = true ∧ fdq dk_288 21 (.iconst 1) 1 = true ∧ fdq dk_288 22 (.iadd) 1 = true ∧ fdq dk_288 23 (.iaload) 1 = true ∧ fdq dk_288 24 (.aload_n 0) 1 = true ∧ fdq dk_288 25 (.iload 4) 2 = true ∧ fdq dk_288 27 (.iconst 2) 1 = true ∧ fdq dk_288 28 (.iadd) 1 = true ∧ fdq dk_288 29 (.iaload) 1 = true ∧ fdq dk_288 30 (.aload_n 0) 1 = true ∧ fdq dk_288 31 (.iload 4) 2 = true ∧ fdq dk_288 33 (.iconst 3) 1 = true ∧ fdq dk_288 34 (.iadd) 1 = true ∧ fdq dk_288 35 (.iaload) 1 = true ∧ fdq dk_288 36 (.invokevirtual 173) 3 = true ∧ fdq dk_288 39 (.istore 6) 2 = true ∧ fdq dk_288 41 (.goto 1727) 3 = true ∧ fdq dk_288 44 (.aload_n 1) 1 = true := by decide +kernel
theorem dL_law_288 : decode cL_law 288 = .ok (.iload 4, 2) := fdg (k := 288) (p := 0) hdk_288 dLb_3.1
theorem dL_law_290 : decode cL_law 290 = .ok (.iconst 2, 1) := fdg (k := 288) (p := 2) hdk_288 dLb_3.2.1
theorem dL_law_291 : decode cL_law 291 = .ok (.iadd, 1) := fdg (k := 288) (p := 3) hdk_288 dLb_3.2.2.1
theorem dL_law_292 : decode cL_law 292 = .ok (.iaload, 1) := fdg (k := 288) (p := 4) hdk_288 dLb_3.2.2.2.1
theorem dL_law_293 : decode cL_law 293 = .ok (.aload_n 0, 1) := fdg (k := 288) (p := 5) hdk_288 dLb_3.2.2.2.2.1
theorem dL_law_294 : decode cL_law 294 = .ok (.iload 4, 2) := fdg (k := 288) (p := 6) hdk_288 dLb_3.2.2.2.2.2.1
theorem dL_law_296 : decode cL_law 296 = .ok (.iconst 3, 1) := fdg (k := 288) (p := 8) hdk_288 dLb_3.2.2.2.2.2.2.1
theorem dL_law_297 : decode cL_law 297 = .ok (.iadd, 1) := fdg (k := 288) (p := 9) hdk_288 dLb_3.2.2.2.2.2.2.2.1
theorem dL_law_298 : decode cL_law 298 = .ok (.iaload, 1) := fdg (k := 288) (p := 10) hdk_288 dLb_3.2.2.2.2.2.2.2.2.1
theorem dL_law_299 : decode cL_law 299 = .ok (.aload_n 3, 1) := fdg (k := 288) (p := 11) hdk_288 dLb_3.2.2.2.2.2.2.2.2.2.1
theorem dL_law_300 : decode cL_law 300 = .ok (.invokestatic 170, 3) := fdg (k := 288) (p := 12) hdk_288 dLb_3.2.2.2.2.2.2.2.2.2.2.1
theorem dL_law_303 : decode cL_law 303 = .ok (.istore 5, 2) := fdg (k := 288) (p := 15) hdk_288 dLb_3.2.2.2.2.2.2.2.2.2.2.2.1
theorem dL_law_305 : decode cL_law 305 = .ok (.aload_n 2, 1) := fdg (k := 288) (p := 17) hdk_288 dLb_3.2.2.2.2.2.2.2.2.2.2.2.2.1
theorem dL_law_306 : decode cL_law 306 = .ok (.aload_n 0, 1) := fdg (k := 288) (p := 18) hdk_288 dLb_3.2.2.2.2.2.2.2.2.2.2.2.2.2.1
theorem dL_law_307 : decode cL_law 307 = .ok (.iload 4, 2) := fdg (k := 288) (p := 19) hdk_288 dLb_3.2.2.2.2.2.2.2.2.2.2.2.2.2.2.1
theorem dL_law_309 : decode cL_law 309 = .ok (.iconst 1, 1) := fdg (k := 288) (p := 21) hdk_288 dLb_3.2.2.2.2.2.2.2.2.2.2.2.2.2.2.2.1
theorem dL_law_310 : decode cL_law 310 = .ok (.iadd, 1) := fdg (k := 288) (p := 22) hdk_288 dLb_3.2.2.2.2.2.2.2.2.2.2.2.2.2.2.2.2.1
theorem dL_law_311 : decode cL_law 311 = .ok (.iaload, 1) := fdg (k := 288) (p := 23) hdk_288 dLb_3.2.2.2.2.2.2.2.2.2.2.2.2.2.2.2.2.2.1
theorem dL_law_312 : decode cL_law 312 = .ok (.aload_n 0, 1) := fdg (k := 288) (p := 24) hdk_288 dLb_3.2.2.2.2.2.2.2.2.2.2.2.2.2.2.2.2.2.2.1
theorem dL_law_313 : decode cL_law 313 = .ok (.iload 4, 2) := fdg (k := 288) (p := 25) hdk_288 dLb_3.2.2.2.2.2.2.2.2.2.2.2.2.2.2.2.2.2.2.2.1
theorem dL_law_315 : decode cL_law 315 = .ok (.iconst 2, 1) := fdg (k := 288) (p := 27) hdk_288 dLb_3.2.2.2.2.2.2.2.2.2.2.2.2.2.2.2.2.2.2.2.2.1
theorem dL_law_316 : decode cL_law 316 = .ok (.iadd, 1) := fdg (k := 288) (p := 28) hdk_288 dLb_3.2.2.2.2.2.2.2.2.2.2.2.2.2.2.2.2.2.2.2.2.2.1
theorem dL_law_317 : decode cL_law 317 = .ok (.iaload, 1) := fdg (k := 288) (p := 29) hdk_288 dLb_3.2.2.2.2.2.2.2.2.2.2.2.2.2.2.2.2.2.2.2.2.2.2.1
theorem dL_law_318 : decode cL_law 318 = .ok (.aload_n 0, 1) := fdg (k := 288) (p := 30) hdk_288 dLb_3.2.2.2.2.2.2.2.2.2.2.2.2.2.2.2.2.2.2.2.2.2.2.2.1
theorem dL_law_319 : decode cL_law 319 = .ok (.iload 4, 2) := fdg (k := 288) (p := 31) hdk_288 dLb_3.2.2.2.2.2.2.2.2.2.2.2.2.2.2.2.2.2.2.2.2.2.2.2.2.1
theorem dL_law_321 : decode cL_law 321 = .ok (.iconst 3, 1) := fdg (k := 288) (p := 33) hdk_288 dLb_3.2.2.2.2.2.2.2.2.2.2.2.2.2.2.2.2.2.2.2.2.2.2.2.2.2.1
theorem dL_law_322 : decode cL_law 322 = .ok (.iadd, 1) := fdg (k := 288) (p := 34) hdk_288 dLb_3.2.2.2.2.2.2.2.2.2.2.2.2.2.2.2.2.2.2.2.2.2.2.2.2.2.2.1
theorem dL_law_323 : decode cL_law 323 = .ok (.iaload, 1) := fdg (k := 288) (p := 35) hdk_288 dLb_3.2.2.2.2.2.2.2.2.2.2.2.2.2.2.2.2.2.2.2.2.2.2.2.2.2.2.2.1
theorem dL_law_324 : decode cL_law 324 = .ok (.invokevirtual 173, 3) := fdg (k := 288) (p := 36) hdk_288 dLb_3.2.2.2.2.2.2.2.2.2.2.2.2.2.2.2.2.2.2.2.2.2.2.2.2.2.2.2.2.1
theorem dL_law_327 : decode cL_law 327 = .ok (.istore 6, 2) := fdg (k := 288) (p := 39) hdk_288 dLb_3.2.2.2.2.2.2.2.2.2.2.2.2.2.2.2.2.2.2.2.2.2.2.2.2.2.2.2.2.2.1
theorem dL_law_329 : decode cL_law 329 = .ok (.goto 1727, 3) := fdg (k := 288) (p := 41) hdk_288 dLb_3.2.2.2.2.2.2.2.2.2.2.2.2.2.2.2.2.2.2.2.2.2.2.2.2.2.2.2.2.2.2.1
theorem dL_law_332 : decode cL_law 332 = .ok (.aload_n 1, 1) := fdg (k := 288) (p := 44) hdk_288 dLb_3.2.2.2.2.2.2.2.2.2.2.2.2.2.2.2.2.2.2.2.2.2.2.2.2.2.2.2.2.2.2.2
theorem dLb_4 : fdq dk_288 45 (.aload_n 0) 1 = true ∧ fdq dk_288 46 (.iload 4) 2 = true := by decide +kernel
theorem dL_law_333 : decode cL_law 333 = .ok (.aload_n 0, 1) := fdg (k := 288) (p := 45) hdk_288 dLb_4.1
theorem dL_law_334 : decode cL_law 334 = .ok (.iload 4, 2) := fdg (k := 288) (p := 46) hdk_288 dLb_4.2
theorem dLb_5 : fdq dk_336 0 (.iconst 1) 1 = true ∧ fdq dk_336 1 (.iadd) 1 = true ∧ fdq dk_336 2 (.iaload) 1 = true ∧ fdq dk_336 3 (.aload_n 0) 1 = true ∧ fdq dk_336 4 (.iload 4) 2 = true ∧ fdq dk_336 6 (.iconst 2) 1 = true ∧ fdq dk_336 7 (.iadd) 1 = true ∧ fdq dk_336 8 (.iaload) 1 = true ∧ fdq dk_336 9 (.aload_n 3) 1 = true ∧ fdq dk_336 10 (.invokestatic 174) 3 = true ∧ fdq dk_336 13 (.istore 5) 2 = true ∧ fdq dk_336 15 (.aload_n 2) 1 = true ∧ fdq dk_336 16 (.aload_n 0) 1 = true ∧ fdq dk_336 17 (.iload 4) 2 = true ∧ fdq dk_336 19 (.iconst 1) 1 = true ∧ fdq dk_336 20 (.iadd) 1 = true ∧ fdq dk_336 21 (.iaload) 1 = true ∧ fdq dk_336 22 (.aload_n 0) 1 = true ∧ fdq dk_336 23 (.iload 4) 2 = true ∧ fdq dk_336 25 (.iconst 2) 1 = true ∧ fdq dk_336 26 (.iadd) 1 = true ∧ fdq dk_336 27 (.iaload) 1 = true ∧ fdq dk_336 28 (.invokevirtual 176) 3 = true ∧ fdq dk_336 31 (.istore 6) 2 = true ∧ fdq dk_336 33 (.goto 1687) 3 = true ∧ fdq dk_336 36 (.aload_n 1) 1 = true ∧ fdq dk_336 37 (.aload_n 0) 1 = true ∧ fdq dk_336 38 (.iload 4) 2 = true ∧ fdq dk_336 40 (.iconst 1) 1 = true ∧ fdq dk_336 41 (.iadd) 1 = true ∧ fdq dk_336 42 (.iaload) 1 = true ∧ fdq dk_336 43 (.aload_n 0) 1 = true := by decide +kernel
theorem dL_law_336 : decode cL_law 336 = .ok (.iconst 1, 1) := fdg (k := 336) (p := 0) hdk_336 dLb_5.1
theorem dL_law_337 : decode cL_law 337 = .ok (.iadd, 1) := fdg (k := 336) (p := 1) hdk_336 dLb_5.2.1
theorem dL_law_338 : decode cL_law 338 = .ok (.iaload, 1) := fdg (k := 336) (p := 2) hdk_336 dLb_5.2.2.1
theorem dL_law_339 : decode cL_law 339 = .ok (.aload_n 0, 1) := fdg (k := 336) (p := 3) hdk_336 dLb_5.2.2.2.1
theorem dL_law_340 : decode cL_law 340 = .ok (.iload 4, 2) := fdg (k := 336) (p := 4) hdk_336 dLb_5.2.2.2.2.1
theorem dL_law_342 : decode cL_law 342 = .ok (.iconst 2, 1) := fdg (k := 336) (p := 6) hdk_336 dLb_5.2.2.2.2.2.1
theorem dL_law_343 : decode cL_law 343 = .ok (.iadd, 1) := fdg (k := 336) (p := 7) hdk_336 dLb_5.2.2.2.2.2.2.1
theorem dL_law_344 : decode cL_law 344 = .ok (.iaload, 1) := fdg (k := 336) (p := 8) hdk_336 dLb_5.2.2.2.2.2.2.2.1
theorem dL_law_345 : decode cL_law 345 = .ok (.aload_n 3, 1) := fdg (k := 336) (p := 9) hdk_336 dLb_5.2.2.2.2.2.2.2.2.1
theorem dL_law_346 : decode cL_law 346 = .ok (.invokestatic 174, 3) := fdg (k := 336) (p := 10) hdk_336 dLb_5.2.2.2.2.2.2.2.2.2.1
theorem dL_law_349 : decode cL_law 349 = .ok (.istore 5, 2) := fdg (k := 336) (p := 13) hdk_336 dLb_5.2.2.2.2.2.2.2.2.2.2.1
theorem dL_law_351 : decode cL_law 351 = .ok (.aload_n 2, 1) := fdg (k := 336) (p := 15) hdk_336 dLb_5.2.2.2.2.2.2.2.2.2.2.2.1
theorem dL_law_352 : decode cL_law 352 = .ok (.aload_n 0, 1) := fdg (k := 336) (p := 16) hdk_336 dLb_5.2.2.2.2.2.2.2.2.2.2.2.2.1
theorem dL_law_353 : decode cL_law 353 = .ok (.iload 4, 2) := fdg (k := 336) (p := 17) hdk_336 dLb_5.2.2.2.2.2.2.2.2.2.2.2.2.2.1
theorem dL_law_355 : decode cL_law 355 = .ok (.iconst 1, 1) := fdg (k := 336) (p := 19) hdk_336 dLb_5.2.2.2.2.2.2.2.2.2.2.2.2.2.2.1
theorem dL_law_356 : decode cL_law 356 = .ok (.iadd, 1) := fdg (k := 336) (p := 20) hdk_336 dLb_5.2.2.2.2.2.2.2.2.2.2.2.2.2.2.2.1
theorem dL_law_357 : decode cL_law 357 = .ok (.iaload, 1) := fdg (k := 336) (p := 21) hdk_336 dLb_5.2.2.2.2.2.2.2.2.2.2.2.2.2.2.2.2.1
theorem dL_law_358 : decode cL_law 358 = .ok (.aload_n 0, 1) := fdg (k := 336) (p := 22) hdk_336 dLb_5.2.2.2.2.2.2.2.2.2.2.2.2.2.2.2.2.2.1
theorem dL_law_359 : decode cL_law 359 = .ok (.iload 4, 2) := fdg (k := 336) (p := 23) hdk_336 dLb_5.2.2.2.2.2.2.2.2.2.2.2.2.2.2.2.2.2.2.1
theorem dL_law_361 : decode cL_law 361 = .ok (.iconst 2, 1) := fdg (k := 336) (p := 25) hdk_336 dLb_5.2.2.2.2.2.2.2.2.2.2.2.2.2.2.2.2.2.2.2.1
theorem dL_law_362 : decode cL_law 362 = .ok (.iadd, 1) := fdg (k := 336) (p := 26) hdk_336 dLb_5.2.2.2.2.2.2.2.2.2.2.2.2.2.2.2.2.2.2.2.2.1
theorem dL_law_363 : decode cL_law 363 = .ok (.iaload, 1) := fdg (k := 336) (p := 27) hdk_336 dLb_5.2.2.2.2.2.2.2.2.2.2.2.2.2.2.2.2.2.2.2.2.2.1
theorem dL_law_364 : decode cL_law 364 = .ok (.invokevirtual 176, 3) := fdg (k := 336) (p := 28) hdk_336 dLb_5.2.2.2.2.2.2.2.2.2.2.2.2.2.2.2.2.2.2.2.2.2.2.1
theorem dL_law_367 : decode cL_law 367 = .ok (.istore 6, 2) := fdg (k := 336) (p := 31) hdk_336 dLb_5.2.2.2.2.2.2.2.2.2.2.2.2.2.2.2.2.2.2.2.2.2.2.2.1
theorem dL_law_369 : decode cL_law 369 = .ok (.goto 1687, 3) := fdg (k := 336) (p := 33) hdk_336 dLb_5.2.2.2.2.2.2.2.2.2.2.2.2.2.2.2.2.2.2.2.2.2.2.2.2.1
theorem dL_law_372 : decode cL_law 372 = .ok (.aload_n 1, 1) := fdg (k := 336) (p := 36) hdk_336 dLb_5.2.2.2.2.2.2.2.2.2.2.2.2.2.2.2.2.2.2.2.2.2.2.2.2.2.1
theorem dL_law_373 : decode cL_law 373 = .ok (.aload_n 0, 1) := fdg (k := 336) (p := 37) hdk_336 dLb_5.2.2.2.2.2.2.2.2.2.2.2.2.2.2.2.2.2.2.2.2.2.2.2.2.2.2.1
theorem dL_law_374 : decode cL_law 374 = .ok (.iload 4, 2) := fdg (k := 336) (p := 38) hdk_336 dLb_5.2.2.2.2.2.2.2.2.2.2.2.2.2.2.2.2.2.2.2.2.2.2.2.2.2.2.2.1
theorem dL_law_376 : decode cL_law 376 = .ok (.iconst 1, 1) := fdg (k := 336) (p := 40) hdk_336 dLb_5.2.2.2.2.2.2.2.2.2.2.2.2.2.2.2.2.2.2.2.2.2.2.2.2.2.2.2.2.1
theorem dL_law_377 : decode cL_law 377 = .ok (.iadd, 1) := fdg (k := 336) (p := 41) hdk_336 dLb_5.2.2.2.2.2.2.2.2.2.2.2.2.2.2.2.2.2.2.2.2.2.2.2.2.2.2.2.2.2.1
theorem dL_law_378 : decode cL_law 378 = .ok (.iaload, 1) := fdg (k := 336) (p := 42) hdk_336 dLb_5.2.2.2.2.2.2.2.2.2.2.2.2.2.2.2.2.2.2.2.2.2.2.2.2.2.2.2.2.2.2.1
theorem dL_law_379 : decode cL_law 379 = .ok (.aload_n 0, 1) := fdg (k := 336) (p := 43) hdk_336 dLb_5.2.2.2.2.2.2.2.2.2.2.2.2.2.2.2.2.2.2.2.2.2.2.2.2.2.2.2.2.2.2.2
theorem dLb_6 : fdq dk_336 44 (.iload 4) 2 = true ∧ fdq dk_336 46 (.iconst 2) 1 = true ∧ fdq dk_336 47 (.iadd) 1 = true := by decide +kernel
theorem dL_law_380 : decode cL_law 380 = .ok (.iload 4, 2) := fdg (k := 336) (p := 44) hdk_336 dLb_6.1
theorem dL_law_382 : decode cL_law 382 = .ok (.iconst 2, 1) := fdg (k := 336) (p := 46) hdk_336 dLb_6.2.1
theorem dL_law_383 : decode cL_law 383 = .ok (.iadd, 1) := fdg (k := 336) (p := 47) hdk_336 dLb_6.2.2
theorem dLb_7 : fdq dk_384 0 (.iaload) 1 = true ∧ fdq dk_384 1 (.aload_n 0) 1 = true ∧ fdq dk_384 2 (.iload 4) 2 = true ∧ fdq dk_384 4 (.iconst 3) 1 = true ∧ fdq dk_384 5 (.iadd) 1 = true ∧ fdq dk_384 6 (.iaload) 1 = true ∧ fdq dk_384 7 (.aload_n 0) 1 = true ∧ fdq dk_384 8 (.iload 4) 2 = true ∧ fdq dk_384 10 (.iconst 4) 1 = true ∧ fdq dk_384 11 (.iadd) 1 = true ∧ fdq dk_384 12 (.iaload) 1 = true ∧ fdq dk_384 13 (.aload_n 3) 1 = true ∧ fdq dk_384 14 (.invokestatic 177) 3 = true ∧ fdq dk_384 17 (.istore 5) 2 = true ∧ fdq dk_384 19 (.aload_n 2) 1 = true ∧ fdq dk_384 20 (.aload_n 0) 1 = true ∧ fdq dk_384 21 (.iload 4) 2 = true ∧ fdq dk_384 23 (.iconst 1) 1 = true ∧ fdq dk_384 24 (.iadd) 1 = true ∧ fdq dk_384 25 (.iaload) 1 = true ∧ fdq dk_384 26 (.aload_n 0) 1 = true ∧ fdq dk_384 27 (.iload 4) 2 = true ∧ fdq dk_384 29 (.iconst 2) 1 = true ∧ fdq dk_384 30 (.iadd) 1 = true ∧ fdq dk_384 31 (.iaload) 1 = true ∧ fdq dk_384 32 (.aload_n 0) 1 = true ∧ fdq dk_384 33 (.iload 4) 2 = true ∧ fdq dk_384 35 (.iconst 3) 1 = true ∧ fdq dk_384 36 (.iadd) 1 = true ∧ fdq dk_384 37 (.iaload) 1 = true ∧ fdq dk_384 38 (.aload_n 0) 1 = true ∧ fdq dk_384 39 (.iload 4) 2 = true := by decide +kernel
theorem dL_law_384 : decode cL_law 384 = .ok (.iaload, 1) := fdg (k := 384) (p := 0) hdk_384 dLb_7.1
theorem dL_law_385 : decode cL_law 385 = .ok (.aload_n 0, 1) := fdg (k := 384) (p := 1) hdk_384 dLb_7.2.1
theorem dL_law_386 : decode cL_law 386 = .ok (.iload 4, 2) := fdg (k := 384) (p := 2) hdk_384 dLb_7.2.2.1
theorem dL_law_388 : decode cL_law 388 = .ok (.iconst 3, 1) := fdg (k := 384) (p := 4) hdk_384 dLb_7.2.2.2.1
theorem dL_law_389 : decode cL_law 389 = .ok (.iadd, 1) := fdg (k := 384) (p := 5) hdk_384 dLb_7.2.2.2.2.1
theorem dL_law_390 : decode cL_law 390 = .ok (.iaload, 1) := fdg (k := 384) (p := 6) hdk_384 dLb_7.2.2.2.2.2.1
theorem dL_law_391 : decode cL_law 391 = .ok (.aload_n 0, 1) := fdg (k := 384) (p := 7) hdk_384 dLb_7.2.2.2.2.2.2.1
theorem dL_law_392 : decode cL_law 392 = .ok (.iload 4, 2) := fdg (k := 384) (p := 8) hdk_384 dLb_7.2.2.2.2.2.2.2.1
theorem dL_law_394 : decode cL_law 394 = .ok (.iconst 4, 1) := fdg (k := 384) (p := 10) hdk_384 dLb_7.2.2.2.2.2.2.2.2.1
theorem dL_law_395 : decode cL_law 395 = .ok (.iadd, 1) := fdg (k := 384) (p := 11) hdk_384 dLb_7.2.2.2.2.2.2.2.2.2.1
theorem dL_law_396 : decode cL_law 396 = .ok (.iaload, 1) := fdg (k := 384) (p := 12) hdk_384 dLb_7.2.2.2.2.2.2.2.2.2.2.1
theorem dL_law_397 : decode cL_law 397 = .ok (.aload_n 3, 1) := fdg (k := 384) (p := 13) hdk_384 dLb_7.2.2.2.2.2.2.2.2.2.2.2.1
theorem dL_law_398 : decode cL_law 398 = .ok (.invokestatic 177, 3) := fdg (k := 384) (p := 14) hdk_384 dLb_7.2.2.2.2.2.2.2.2.2.2.2.2.1
theorem dL_law_401 : decode cL_law 401 = .ok (.istore 5, 2) := fdg (k := 384) (p := 17) hdk_384 dLb_7.2.2.2.2.2.2.2.2.2.2.2.2.2.1
theorem dL_law_403 : decode cL_law 403 = .ok (.aload_n 2, 1) := fdg (k := 384) (p := 19) hdk_384 dLb_7.2.2.2.2.2.2.2.2.2.2.2.2.2.2.1
theorem dL_law_404 : decode cL_law 404 = .ok (.aload_n 0, 1) := fdg (k := 384) (p := 20) hdk_384 dLb_7.2.2.2.2.2.2.2.2.2.2.2.2.2.2.2.1
theorem dL_law_405 : decode cL_law 405 = .ok (.iload 4, 2) := fdg (k := 384) (p := 21) hdk_384 dLb_7.2.2.2.2.2.2.2.2.2.2.2.2.2.2.2.2.1
theorem dL_law_407 : decode cL_law 407 = .ok (.iconst 1, 1) := fdg (k := 384) (p := 23) hdk_384 dLb_7.2.2.2.2.2.2.2.2.2.2.2.2.2.2.2.2.2.1
theorem dL_law_408 : decode cL_law 408 = .ok (.iadd, 1) := fdg (k := 384) (p := 24) hdk_384 dLb_7.2.2.2.2.2.2.2.2.2.2.2.2.2.2.2.2.2.2.1
theorem dL_law_409 : decode cL_law 409 = .ok (.iaload, 1) := fdg (k := 384) (p := 25) hdk_384 dLb_7.2.2.2.2.2.2.2.2.2.2.2.2.2.2.2.2.2.2.2.1
theorem dL_law_410 : decode cL_law 410 = .ok (.aload_n 0, 1) := fdg (k := 384) (p := 26) hdk_384 dLb_7.2.2.2.2.2.2.2.2.2.2.2.2.2.2.2.2.2.2.2.2.1
theorem dL_law_411 : decode cL_law 411 = .ok (.iload 4, 2) := fdg (k := 384) (p := 27) hdk_384 dLb_7.2.2.2.2.2.2.2.2.2.2.2.2.2.2.2.2.2.2.2.2.2.1
theorem dL_law_413 : decode cL_law 413 = .ok (.iconst 2, 1) := fdg (k := 384) (p := 29) hdk_384 dLb_7.2.2.2.2.2.2.2.2.2.2.2.2.2.2.2.2.2.2.2.2.2.2.1
theorem dL_law_414 : decode cL_law 414 = .ok (.iadd, 1) := fdg (k := 384) (p := 30) hdk_384 dLb_7.2.2.2.2.2.2.2.2.2.2.2.2.2.2.2.2.2.2.2.2.2.2.2.1
theorem dL_law_415 : decode cL_law 415 = .ok (.iaload, 1) := fdg (k := 384) (p := 31) hdk_384 dLb_7.2.2.2.2.2.2.2.2.2.2.2.2.2.2.2.2.2.2.2.2.2.2.2.2.1
theorem dL_law_416 : decode cL_law 416 = .ok (.aload_n 0, 1) := fdg (k := 384) (p := 32) hdk_384 dLb_7.2.2.2.2.2.2.2.2.2.2.2.2.2.2.2.2.2.2.2.2.2.2.2.2.2.1
theorem dL_law_417 : decode cL_law 417 = .ok (.iload 4, 2) := fdg (k := 384) (p := 33) hdk_384 dLb_7.2.2.2.2.2.2.2.2.2.2.2.2.2.2.2.2.2.2.2.2.2.2.2.2.2.2.1
theorem dL_law_419 : decode cL_law 419 = .ok (.iconst 3, 1) := fdg (k := 384) (p := 35) hdk_384 dLb_7.2.2.2.2.2.2.2.2.2.2.2.2.2.2.2.2.2.2.2.2.2.2.2.2.2.2.2.1
theorem dL_law_420 : decode cL_law 420 = .ok (.iadd, 1) := fdg (k := 384) (p := 36) hdk_384 dLb_7.2.2.2.2.2.2.2.2.2.2.2.2.2.2.2.2.2.2.2.2.2.2.2.2.2.2.2.2.1
theorem dL_law_421 : decode cL_law 421 = .ok (.iaload, 1) := fdg (k := 384) (p := 37) hdk_384 dLb_7.2.2.2.2.2.2.2.2.2.2.2.2.2.2.2.2.2.2.2.2.2.2.2.2.2.2.2.2.2.1
theorem dL_law_422 : decode cL_law 422 = .ok (.aload_n 0, 1) := fdg (k := 384) (p := 38) hdk_384 dLb_7.2.2.2.2.2.2.2.2.2.2.2.2.2.2.2.2.2.2.2.2.2.2.2.2.2.2.2.2.2.2.1
theorem dL_law_423 : decode cL_law 423 = .ok (.iload 4, 2) := fdg (k := 384) (p := 39) hdk_384 dLb_7.2.2.2.2.2.2.2.2.2.2.2.2.2.2.2.2.2.2.2.2.2.2.2.2.2.2.2.2.2.2.2
theorem dLb_8 : fdq dk_384 41 (.iconst 4) 1 = true ∧ fdq dk_384 42 (.iadd) 1 = true ∧ fdq dk_384 43 (.iaload) 1 = true ∧ fdq dk_384 44 (.invokevirtual 180) 3 = true ∧ fdq dk_384 47 (.istore 6) 2 = true := by decide +kernel
theorem dL_law_425 : decode cL_law 425 = .ok (.iconst 4, 1) := fdg (k := 384) (p := 41) hdk_384 dLb_8.1
theorem dL_law_426 : decode cL_law 426 = .ok (.iadd, 1) := fdg (k := 384) (p := 42) hdk_384 dLb_8.2.1
theorem dL_law_427 : decode cL_law 427 = .ok (.iaload, 1) := fdg (k := 384) (p := 43) hdk_384 dLb_8.2.2.1
theorem dL_law_428 : decode cL_law 428 = .ok (.invokevirtual 180, 3) := fdg (k := 384) (p := 44) hdk_384 dLb_8.2.2.2.1
theorem dL_law_431 : decode cL_law 431 = .ok (.istore 6, 2) := fdg (k := 384) (p := 47) hdk_384 dLb_8.2.2.2.2
theorem dLb_9 : fdq dk_432 1 (.goto 1623) 3 = true ∧ fdq dk_432 4 (.aload_n 1) 1 = true ∧ fdq dk_432 5 (.aload_n 0) 1 = true ∧ fdq dk_432 6 (.iload 4) 2 = true ∧ fdq dk_432 8 (.iconst 1) 1 = true ∧ fdq dk_432 9 (.iadd) 1 = true ∧ fdq dk_432 10 (.iaload) 1 = true ∧ fdq dk_432 11 (.aload_n 0) 1 = true ∧ fdq dk_432 12 (.iload 4) 2 = true ∧ fdq dk_432 14 (.iconst 2) 1 = true ∧ fdq dk_432 15 (.iadd) 1 = true ∧ fdq dk_432 16 (.iaload) 1 = true ∧ fdq dk_432 17 (.aload_n 0) 1 = true ∧ fdq dk_432 18 (.iload 4) 2 = true ∧ fdq dk_432 20 (.iconst 3) 1 = true ∧ fdq dk_432 21 (.iadd) 1 = true ∧ fdq dk_432 22 (.iaload) 1 = true ∧ fdq dk_432 23 (.aload_n 3) 1 = true ∧ fdq dk_432 24 (.invokestatic 181) 3 = true ∧ fdq dk_432 27 (.istore 5) 2 = true ∧ fdq dk_432 29 (.aload_n 2) 1 = true ∧ fdq dk_432 30 (.aload_n 0) 1 = true ∧ fdq dk_432 31 (.iload 4) 2 = true ∧ fdq dk_432 33 (.iconst 1) 1 = true ∧ fdq dk_432 34 (.iadd) 1 = true ∧ fdq dk_432 35 (.iaload) 1 = true ∧ fdq dk_432 36 (.aload_n 0) 1 = true ∧ fdq dk_432 37 (.iload 4) 2 = true ∧ fdq dk_432 39 (.iconst 2) 1 = true ∧ fdq dk_432 40 (.iadd) 1 = true ∧ fdq dk_432 41 (.iaload) 1 = true ∧ fdq dk_432 42 (.aload_n 0) 1 = true := by decide +kernel
theorem dL_law_433 : decode cL_law 433 = .ok (.goto 1623, 3) := fdg (k := 432) (p := 1) hdk_432 dLb_9.1
theorem dL_law_436 : decode cL_law 436 = .ok (.aload_n 1, 1) := fdg (k := 432) (p := 4) hdk_432 dLb_9.2.1
theorem dL_law_437 : decode cL_law 437 = .ok (.aload_n 0, 1) := fdg (k := 432) (p := 5) hdk_432 dLb_9.2.2.1
theorem dL_law_438 : decode cL_law 438 = .ok (.iload 4, 2) := fdg (k := 432) (p := 6) hdk_432 dLb_9.2.2.2.1
theorem dL_law_440 : decode cL_law 440 = .ok (.iconst 1, 1) := fdg (k := 432) (p := 8) hdk_432 dLb_9.2.2.2.2.1
theorem dL_law_441 : decode cL_law 441 = .ok (.iadd, 1) := fdg (k := 432) (p := 9) hdk_432 dLb_9.2.2.2.2.2.1
theorem dL_law_442 : decode cL_law 442 = .ok (.iaload, 1) := fdg (k := 432) (p := 10) hdk_432 dLb_9.2.2.2.2.2.2.1
theorem dL_law_443 : decode cL_law 443 = .ok (.aload_n 0, 1) := fdg (k := 432) (p := 11) hdk_432 dLb_9.2.2.2.2.2.2.2.1
theorem dL_law_444 : decode cL_law 444 = .ok (.iload 4, 2) := fdg (k := 432) (p := 12) hdk_432 dLb_9.2.2.2.2.2.2.2.2.1
theorem dL_law_446 : decode cL_law 446 = .ok (.iconst 2, 1) := fdg (k := 432) (p := 14) hdk_432 dLb_9.2.2.2.2.2.2.2.2.2.1
theorem dL_law_447 : decode cL_law 447 = .ok (.iadd, 1) := fdg (k := 432) (p := 15) hdk_432 dLb_9.2.2.2.2.2.2.2.2.2.2.1
theorem dL_law_448 : decode cL_law 448 = .ok (.iaload, 1) := fdg (k := 432) (p := 16) hdk_432 dLb_9.2.2.2.2.2.2.2.2.2.2.2.1
theorem dL_law_449 : decode cL_law 449 = .ok (.aload_n 0, 1) := fdg (k := 432) (p := 17) hdk_432 dLb_9.2.2.2.2.2.2.2.2.2.2.2.2.1
theorem dL_law_450 : decode cL_law 450 = .ok (.iload 4, 2) := fdg (k := 432) (p := 18) hdk_432 dLb_9.2.2.2.2.2.2.2.2.2.2.2.2.2.1
theorem dL_law_452 : decode cL_law 452 = .ok (.iconst 3, 1) := fdg (k := 432) (p := 20) hdk_432 dLb_9.2.2.2.2.2.2.2.2.2.2.2.2.2.2.1
theorem dL_law_453 : decode cL_law 453 = .ok (.iadd, 1) := fdg (k := 432) (p := 21) hdk_432 dLb_9.2.2.2.2.2.2.2.2.2.2.2.2.2.2.2.1
theorem dL_law_454 : decode cL_law 454 = .ok (.iaload, 1) := fdg (k := 432) (p := 22) hdk_432 dLb_9.2.2.2.2.2.2.2.2.2.2.2.2.2.2.2.2.1
theorem dL_law_455 : decode cL_law 455 = .ok (.aload_n 3, 1) := fdg (k := 432) (p := 23) hdk_432 dLb_9.2.2.2.2.2.2.2.2.2.2.2.2.2.2.2.2.2.1
theorem dL_law_456 : decode cL_law 456 = .ok (.invokestatic 181, 3) := fdg (k := 432) (p := 24) hdk_432 dLb_9.2.2.2.2.2.2.2.2.2.2.2.2.2.2.2.2.2.2.1
theorem dL_law_459 : decode cL_law 459 = .ok (.istore 5, 2) := fdg (k := 432) (p := 27) hdk_432 dLb_9.2.2.2.2.2.2.2.2.2.2.2.2.2.2.2.2.2.2.2.1
theorem dL_law_461 : decode cL_law 461 = .ok (.aload_n 2, 1) := fdg (k := 432) (p := 29) hdk_432 dLb_9.2.2.2.2.2.2.2.2.2.2.2.2.2.2.2.2.2.2.2.2.1
theorem dL_law_462 : decode cL_law 462 = .ok (.aload_n 0, 1) := fdg (k := 432) (p := 30) hdk_432 dLb_9.2.2.2.2.2.2.2.2.2.2.2.2.2.2.2.2.2.2.2.2.2.1
theorem dL_law_463 : decode cL_law 463 = .ok (.iload 4, 2) := fdg (k := 432) (p := 31) hdk_432 dLb_9.2.2.2.2.2.2.2.2.2.2.2.2.2.2.2.2.2.2.2.2.2.2.1
theorem dL_law_465 : decode cL_law 465 = .ok (.iconst 1, 1) := fdg (k := 432) (p := 33) hdk_432 dLb_9.2.2.2.2.2.2.2.2.2.2.2.2.2.2.2.2.2.2.2.2.2.2.2.1
theorem dL_law_466 : decode cL_law 466 = .ok (.iadd, 1) := fdg (k := 432) (p := 34) hdk_432 dLb_9.2.2.2.2.2.2.2.2.2.2.2.2.2.2.2.2.2.2.2.2.2.2.2.2.1
theorem dL_law_467 : decode cL_law 467 = .ok (.iaload, 1) := fdg (k := 432) (p := 35) hdk_432 dLb_9.2.2.2.2.2.2.2.2.2.2.2.2.2.2.2.2.2.2.2.2.2.2.2.2.2.1
theorem dL_law_468 : decode cL_law 468 = .ok (.aload_n 0, 1) := fdg (k := 432) (p := 36) hdk_432 dLb_9.2.2.2.2.2.2.2.2.2.2.2.2.2.2.2.2.2.2.2.2.2.2.2.2.2.2.1
theorem dL_law_469 : decode cL_law 469 = .ok (.iload 4, 2) := fdg (k := 432) (p := 37) hdk_432 dLb_9.2.2.2.2.2.2.2.2.2.2.2.2.2.2.2.2.2.2.2.2.2.2.2.2.2.2.2.1
theorem dL_law_471 : decode cL_law 471 = .ok (.iconst 2, 1) := fdg (k := 432) (p := 39) hdk_432 dLb_9.2.2.2.2.2.2.2.2.2.2.2.2.2.2.2.2.2.2.2.2.2.2.2.2.2.2.2.2.1
theorem dL_law_472 : decode cL_law 472 = .ok (.iadd, 1) := fdg (k := 432) (p := 40) hdk_432 dLb_9.2.2.2.2.2.2.2.2.2.2.2.2.2.2.2.2.2.2.2.2.2.2.2.2.2.2.2.2.2.1
theorem dL_law_473 : decode cL_law 473 = .ok (.iaload, 1) := fdg (k := 432) (p := 41) hdk_432 dLb_9.2.2.2.2.2.2.2.2.2.2.2.2.2.2.2.2.2.2.2.2.2.2.2.2.2.2.2.2.2.2.1
theorem dL_law_474 : decode cL_law 474 = .ok (.aload_n 0, 1) := fdg (k := 432) (p := 42) hdk_432 dLb_9.2.2.2.2.2.2.2.2.2.2.2.2.2.2.2.2.2.2.2.2.2.2.2.2.2.2.2.2.2.2.2
theorem dLb_10 : fdq dk_432 43 (.iload 4) 2 = true ∧ fdq dk_432 45 (.iconst 3) 1 = true ∧ fdq dk_432 46 (.iadd) 1 = true ∧ fdq dk_432 47 (.iaload) 1 = true := by decide +kernel
theorem dL_law_475 : decode cL_law 475 = .ok (.iload 4, 2) := fdg (k := 432) (p := 43) hdk_432 dLb_10.1
theorem dL_law_477 : decode cL_law 477 = .ok (.iconst 3, 1) := fdg (k := 432) (p := 45) hdk_432 dLb_10.2.1
theorem dL_law_478 : decode cL_law 478 = .ok (.iadd, 1) := fdg (k := 432) (p := 46) hdk_432 dLb_10.2.2.1
theorem dL_law_479 : decode cL_law 479 = .ok (.iaload, 1) := fdg (k := 432) (p := 47) hdk_432 dLb_10.2.2.2
theorem dLb_11 : fdq dk_480 0 (.invokevirtual 183) 3 = true ∧ fdq dk_480 3 (.istore 6) 2 = true ∧ fdq dk_480 5 (.goto 1571) 3 = true ∧ fdq dk_480 8 (.aload_n 1) 1 = true ∧ fdq dk_480 9 (.aload_n 0) 1 = true ∧ fdq dk_480 10 (.iload 4) 2 = true ∧ fdq dk_480 12 (.iconst 1) 1 = true ∧ fdq dk_480 13 (.iadd) 1 = true ∧ fdq dk_480 14 (.iaload) 1 = true ∧ fdq dk_480 15 (.aload_n 0) 1 = true ∧ fdq dk_480 16 (.iload 4) 2 = true ∧ fdq dk_480 18 (.iconst 2) 1 = true ∧ fdq dk_480 19 (.iadd) 1 = true ∧ fdq dk_480 20 (.iaload) 1 = true ∧ fdq dk_480 21 (.aload_n 3) 1 = true ∧ fdq dk_480 22 (.invokestatic 184) 3 = true ∧ fdq dk_480 25 (.istore 5) 2 = true ∧ fdq dk_480 27 (.aload_n 2) 1 = true ∧ fdq dk_480 28 (.aload_n 0) 1 = true ∧ fdq dk_480 29 (.iload 4) 2 = true ∧ fdq dk_480 31 (.iconst 1) 1 = true ∧ fdq dk_480 32 (.iadd) 1 = true ∧ fdq dk_480 33 (.iaload) 1 = true ∧ fdq dk_480 34 (.aload_n 0) 1 = true ∧ fdq dk_480 35 (.iload 4) 2 = true ∧ fdq dk_480 37 (.iconst 2) 1 = true ∧ fdq dk_480 38 (.iadd) 1 = true ∧ fdq dk_480 39 (.iaload) 1 = true ∧ fdq dk_480 40 (.invokevirtual 186) 3 = true ∧ fdq dk_480 43 (.istore 6) 2 = true ∧ fdq dk_480 45 (.goto 1531) 3 = true := by decide +kernel
theorem dL_law_480 : decode cL_law 480 = .ok (.invokevirtual 183, 3) := fdg (k := 480) (p := 0) hdk_480 dLb_11.1
theorem dL_law_483 : decode cL_law 483 = .ok (.istore 6, 2) := fdg (k := 480) (p := 3) hdk_480 dLb_11.2.1
theorem dL_law_485 : decode cL_law 485 = .ok (.goto 1571, 3) := fdg (k := 480) (p := 5) hdk_480 dLb_11.2.2.1
theorem dL_law_488 : decode cL_law 488 = .ok (.aload_n 1, 1) := fdg (k := 480) (p := 8) hdk_480 dLb_11.2.2.2.1
theorem dL_law_489 : decode cL_law 489 = .ok (.aload_n 0, 1) := fdg (k := 480) (p := 9) hdk_480 dLb_11.2.2.2.2.1
theorem dL_law_490 : decode cL_law 490 = .ok (.iload 4, 2) := fdg (k := 480) (p := 10) hdk_480 dLb_11.2.2.2.2.2.1
theorem dL_law_492 : decode cL_law 492 = .ok (.iconst 1, 1) := fdg (k := 480) (p := 12) hdk_480 dLb_11.2.2.2.2.2.2.1
theorem dL_law_493 : decode cL_law 493 = .ok (.iadd, 1) := fdg (k := 480) (p := 13) hdk_480 dLb_11.2.2.2.2.2.2.2.1
theorem dL_law_494 : decode cL_law 494 = .ok (.iaload, 1) := fdg (k := 480) (p := 14) hdk_480 dLb_11.2.2.2.2.2.2.2.2.1
theorem dL_law_495 : decode cL_law 495 = .ok (.aload_n 0, 1) := fdg (k := 480) (p := 15) hdk_480 dLb_11.2.2.2.2.2.2.2.2.2.1
theorem dL_law_496 : decode cL_law 496 = .ok (.iload 4, 2) := fdg (k := 480) (p := 16) hdk_480 dLb_11.2.2.2.2.2.2.2.2.2.2.1
theorem dL_law_498 : decode cL_law 498 = .ok (.iconst 2, 1) := fdg (k := 480) (p := 18) hdk_480 dLb_11.2.2.2.2.2.2.2.2.2.2.2.1
theorem dL_law_499 : decode cL_law 499 = .ok (.iadd, 1) := fdg (k := 480) (p := 19) hdk_480 dLb_11.2.2.2.2.2.2.2.2.2.2.2.2.1
theorem dL_law_500 : decode cL_law 500 = .ok (.iaload, 1) := fdg (k := 480) (p := 20) hdk_480 dLb_11.2.2.2.2.2.2.2.2.2.2.2.2.2.1
theorem dL_law_501 : decode cL_law 501 = .ok (.aload_n 3, 1) := fdg (k := 480) (p := 21) hdk_480 dLb_11.2.2.2.2.2.2.2.2.2.2.2.2.2.2.1
theorem dL_law_502 : decode cL_law 502 = .ok (.invokestatic 184, 3) := fdg (k := 480) (p := 22) hdk_480 dLb_11.2.2.2.2.2.2.2.2.2.2.2.2.2.2.2.1
theorem dL_law_505 : decode cL_law 505 = .ok (.istore 5, 2) := fdg (k := 480) (p := 25) hdk_480 dLb_11.2.2.2.2.2.2.2.2.2.2.2.2.2.2.2.2.1
theorem dL_law_507 : decode cL_law 507 = .ok (.aload_n 2, 1) := fdg (k := 480) (p := 27) hdk_480 dLb_11.2.2.2.2.2.2.2.2.2.2.2.2.2.2.2.2.2.1
theorem dL_law_508 : decode cL_law 508 = .ok (.aload_n 0, 1) := fdg (k := 480) (p := 28) hdk_480 dLb_11.2.2.2.2.2.2.2.2.2.2.2.2.2.2.2.2.2.2.1
theorem dL_law_509 : decode cL_law 509 = .ok (.iload 4, 2) := fdg (k := 480) (p := 29) hdk_480 dLb_11.2.2.2.2.2.2.2.2.2.2.2.2.2.2.2.2.2.2.2.1
theorem dL_law_511 : decode cL_law 511 = .ok (.iconst 1, 1) := fdg (k := 480) (p := 31) hdk_480 dLb_11.2.2.2.2.2.2.2.2.2.2.2.2.2.2.2.2.2.2.2.2.1
theorem dL_law_512 : decode cL_law 512 = .ok (.iadd, 1) := fdg (k := 480) (p := 32) hdk_480 dLb_11.2.2.2.2.2.2.2.2.2.2.2.2.2.2.2.2.2.2.2.2.2.1
theorem dL_law_513 : decode cL_law 513 = .ok (.iaload, 1) := fdg (k := 480) (p := 33) hdk_480 dLb_11.2.2.2.2.2.2.2.2.2.2.2.2.2.2.2.2.2.2.2.2.2.2.1
theorem dL_law_514 : decode cL_law 514 = .ok (.aload_n 0, 1) := fdg (k := 480) (p := 34) hdk_480 dLb_11.2.2.2.2.2.2.2.2.2.2.2.2.2.2.2.2.2.2.2.2.2.2.2.1
theorem dL_law_515 : decode cL_law 515 = .ok (.iload 4, 2) := fdg (k := 480) (p := 35) hdk_480 dLb_11.2.2.2.2.2.2.2.2.2.2.2.2.2.2.2.2.2.2.2.2.2.2.2.2.1
theorem dL_law_517 : decode cL_law 517 = .ok (.iconst 2, 1) := fdg (k := 480) (p := 37) hdk_480 dLb_11.2.2.2.2.2.2.2.2.2.2.2.2.2.2.2.2.2.2.2.2.2.2.2.2.2.1
theorem dL_law_518 : decode cL_law 518 = .ok (.iadd, 1) := fdg (k := 480) (p := 38) hdk_480 dLb_11.2.2.2.2.2.2.2.2.2.2.2.2.2.2.2.2.2.2.2.2.2.2.2.2.2.2.1
theorem dL_law_519 : decode cL_law 519 = .ok (.iaload, 1) := fdg (k := 480) (p := 39) hdk_480 dLb_11.2.2.2.2.2.2.2.2.2.2.2.2.2.2.2.2.2.2.2.2.2.2.2.2.2.2.2.1
theorem dL_law_520 : decode cL_law 520 = .ok (.invokevirtual 186, 3) := fdg (k := 480) (p := 40) hdk_480 dLb_11.2.2.2.2.2.2.2.2.2.2.2.2.2.2.2.2.2.2.2.2.2.2.2.2.2.2.2.2.1
theorem dL_law_523 : decode cL_law 523 = .ok (.istore 6, 2) := fdg (k := 480) (p := 43) hdk_480 dLb_11.2.2.2.2.2.2.2.2.2.2.2.2.2.2.2.2.2.2.2.2.2.2.2.2.2.2.2.2.2.1
theorem dL_law_525 : decode cL_law 525 = .ok (.goto 1531, 3) := fdg (k := 480) (p := 45) hdk_480 dLb_11.2.2.2.2.2.2.2.2.2.2.2.2.2.2.2.2.2.2.2.2.2.2.2.2.2.2.2.2.2.2
theorem dLb_12 : fdq dk_528 0 (.aload_n 1) 1 = true ∧ fdq dk_528 1 (.aload_n 0) 1 = true ∧ fdq dk_528 2 (.iload 4) 2 = true ∧ fdq dk_528 4 (.iconst 1) 1 = true ∧ fdq dk_528 5 (.iadd) 1 = true ∧ fdq dk_528 6 (.iaload) 1 = true ∧ fdq dk_528 7 (.aload_n 3) 1 = true ∧ fdq dk_528 8 (.invokestatic 187) 3 = true ∧ fdq dk_528 11 (.istore 5) 2 = true ∧ fdq dk_528 13 (.aload_n 2) 1 = true ∧ fdq dk_528 14 (.aload_n 0) 1 = true ∧ fdq dk_528 15 (.iload 4) 2 = true ∧ fdq dk_528 17 (.iconst 1) 1 = true ∧ fdq dk_528 18 (.iadd) 1 = true ∧ fdq dk_528 19 (.iaload) 1 = true ∧ fdq dk_528 20 (.invokevirtual 190) 3 = true ∧ fdq dk_528 23 (.istore 6) 2 = true ∧ fdq dk_528 25 (.goto 1503) 3 = true ∧ fdq dk_528 28 (.aload_n 1) 1 = true ∧ fdq dk_528 29 (.aload_n 0) 1 = true ∧ fdq dk_528 30 (.iload 4) 2 = true ∧ fdq dk_528 32 (.iconst 1) 1 = true ∧ fdq dk_528 33 (.iadd) 1 = true ∧ fdq dk_528 34 (.iaload) 1 = true ∧ fdq dk_528 35 (.aload_n 3) 1 = true ∧ fdq dk_528 36 (.invokestatic 191) 3 = true ∧ fdq dk_528 39 (.istore 5) 2 = true ∧ fdq dk_528 41 (.aload_n 2) 1 = true ∧ fdq dk_528 42 (.aload_n 0) 1 = true ∧ fdq dk_528 43 (.iload 4) 2 = true ∧ fdq dk_528 45 (.iconst 1) 1 = true ∧ fdq dk_528 46 (.iadd) 1 = true := by decide +kernel
theorem dL_law_528 : decode cL_law 528 = .ok (.aload_n 1, 1) := fdg (k := 528) (p := 0) hdk_528 dLb_12.1
theorem dL_law_529 : decode cL_law 529 = .ok (.aload_n 0, 1) := fdg (k := 528) (p := 1) hdk_528 dLb_12.2.1
theorem dL_law_530 : decode cL_law 530 = .ok (.iload 4, 2) := fdg (k := 528) (p := 2) hdk_528 dLb_12.2.2.1
theorem dL_law_532 : decode cL_law 532 = .ok (.iconst 1, 1) := fdg (k := 528) (p := 4) hdk_528 dLb_12.2.2.2.1
theorem dL_law_533 : decode cL_law 533 = .ok (.iadd, 1) := fdg (k := 528) (p := 5) hdk_528 dLb_12.2.2.2.2.1
theorem dL_law_534 : decode cL_law 534 = .ok (.iaload, 1) := fdg (k := 528) (p := 6) hdk_528 dLb_12.2.2.2.2.2.1
theorem dL_law_535 : decode cL_law 535 = .ok (.aload_n 3, 1) := fdg (k := 528) (p := 7) hdk_528 dLb_12.2.2.2.2.2.2.1
theorem dL_law_536 : decode cL_law 536 = .ok (.invokestatic 187, 3) := fdg (k := 528) (p := 8) hdk_528 dLb_12.2.2.2.2.2.2.2.1
theorem dL_law_539 : decode cL_law 539 = .ok (.istore 5, 2) := fdg (k := 528) (p := 11) hdk_528 dLb_12.2.2.2.2.2.2.2.2.1
theorem dL_law_541 : decode cL_law 541 = .ok (.aload_n 2, 1) := fdg (k := 528) (p := 13) hdk_528 dLb_12.2.2.2.2.2.2.2.2.2.1
theorem dL_law_542 : decode cL_law 542 = .ok (.aload_n 0, 1) := fdg (k := 528) (p := 14) hdk_528 dLb_12.2.2.2.2.2.2.2.2.2.2.1
theorem dL_law_543 : decode cL_law 543 = .ok (.iload 4, 2) := fdg (k := 528) (p := 15) hdk_528 dLb_12.2.2.2.2.2.2.2.2.2.2.2.1
theorem dL_law_545 : decode cL_law 545 = .ok (.iconst 1, 1) := fdg (k := 528) (p := 17) hdk_528 dLb_12.2.2.2.2.2.2.2.2.2.2.2.2.1
theorem dL_law_546 : decode cL_law 546 = .ok (.iadd, 1) := fdg (k := 528) (p := 18) hdk_528 dLb_12.2.2.2.2.2.2.2.2.2.2.2.2.2.1
theorem dL_law_547 : decode cL_law 547 = .ok (.iaload, 1) := fdg (k := 528) (p := 19) hdk_528 dLb_12.2.2.2.2.2.2.2.2.2.2.2.2.2.2.1
theorem dL_law_548 : decode cL_law 548 = .ok (.invokevirtual 190, 3) := fdg (k := 528) (p := 20) hdk_528 dLb_12.2.2.2.2.2.2.2.2.2.2.2.2.2.2.2.1
theorem dL_law_551 : decode cL_law 551 = .ok (.istore 6, 2) := fdg (k := 528) (p := 23) hdk_528 dLb_12.2.2.2.2.2.2.2.2.2.2.2.2.2.2.2.2.1
theorem dL_law_553 : decode cL_law 553 = .ok (.goto 1503, 3) := fdg (k := 528) (p := 25) hdk_528 dLb_12.2.2.2.2.2.2.2.2.2.2.2.2.2.2.2.2.2.1
theorem dL_law_556 : decode cL_law 556 = .ok (.aload_n 1, 1) := fdg (k := 528) (p := 28) hdk_528 dLb_12.2.2.2.2.2.2.2.2.2.2.2.2.2.2.2.2.2.2.1
theorem dL_law_557 : decode cL_law 557 = .ok (.aload_n 0, 1) := fdg (k := 528) (p := 29) hdk_528 dLb_12.2.2.2.2.2.2.2.2.2.2.2.2.2.2.2.2.2.2.2.1
theorem dL_law_558 : decode cL_law 558 = .ok (.iload 4, 2) := fdg (k := 528) (p := 30) hdk_528 dLb_12.2.2.2.2.2.2.2.2.2.2.2.2.2.2.2.2.2.2.2.2.1
theorem dL_law_560 : decode cL_law 560 = .ok (.iconst 1, 1) := fdg (k := 528) (p := 32) hdk_528 dLb_12.2.2.2.2.2.2.2.2.2.2.2.2.2.2.2.2.2.2.2.2.2.1
theorem dL_law_561 : decode cL_law 561 = .ok (.iadd, 1) := fdg (k := 528) (p := 33) hdk_528 dLb_12.2.2.2.2.2.2.2.2.2.2.2.2.2.2.2.2.2.2.2.2.2.2.1
theorem dL_law_562 : decode cL_law 562 = .ok (.iaload, 1) := fdg (k := 528) (p := 34) hdk_528 dLb_12.2.2.2.2.2.2.2.2.2.2.2.2.2.2.2.2.2.2.2.2.2.2.2.1
theorem dL_law_563 : decode cL_law 563 = .ok (.aload_n 3, 1) := fdg (k := 528) (p := 35) hdk_528 dLb_12.2.2.2.2.2.2.2.2.2.2.2.2.2.2.2.2.2.2.2.2.2.2.2.2.1
theorem dL_law_564 : decode cL_law 564 = .ok (.invokestatic 191, 3) := fdg (k := 528) (p := 36) hdk_528 dLb_12.2.2.2.2.2.2.2.2.2.2.2.2.2.2.2.2.2.2.2.2.2.2.2.2.2.1
theorem dL_law_567 : decode cL_law 567 = .ok (.istore 5, 2) := fdg (k := 528) (p := 39) hdk_528 dLb_12.2.2.2.2.2.2.2.2.2.2.2.2.2.2.2.2.2.2.2.2.2.2.2.2.2.2.1
theorem dL_law_569 : decode cL_law 569 = .ok (.aload_n 2, 1) := fdg (k := 528) (p := 41) hdk_528 dLb_12.2.2.2.2.2.2.2.2.2.2.2.2.2.2.2.2.2.2.2.2.2.2.2.2.2.2.2.1
theorem dL_law_570 : decode cL_law 570 = .ok (.aload_n 0, 1) := fdg (k := 528) (p := 42) hdk_528 dLb_12.2.2.2.2.2.2.2.2.2.2.2.2.2.2.2.2.2.2.2.2.2.2.2.2.2.2.2.2.1
theorem dL_law_571 : decode cL_law 571 = .ok (.iload 4, 2) := fdg (k := 528) (p := 43) hdk_528 dLb_12.2.2.2.2.2.2.2.2.2.2.2.2.2.2.2.2.2.2.2.2.2.2.2.2.2.2.2.2.2.1
theorem dL_law_573 : decode cL_law 573 = .ok (.iconst 1, 1) := fdg (k := 528) (p := 45) hdk_528 dLb_12.2.2.2.2.2.2.2.2.2.2.2.2.2.2.2.2.2.2.2.2.2.2.2.2.2.2.2.2.2.2.1
theorem dL_law_574 : decode cL_law 574 = .ok (.iadd, 1) := fdg (k := 528) (p := 46) hdk_528 dLb_12.2.2.2.2.2.2.2.2.2.2.2.2.2.2.2.2.2.2.2.2.2.2.2.2.2.2.2.2.2.2.2
theorem dLb_13 : fdq dk_528 47 (.iaload) 1 = true := by decide +kernel
theorem dL_law_575 : decode cL_law 575 = .ok (.iaload, 1) := fdg (k := 528) (p := 47) hdk_528 dLb_13
theorem dLb_14 : fdq dk_576 0 (.invokevirtual 193) 3 = true ∧ fdq dk_576 3 (.istore 6) 2 = true ∧ fdq dk_576 5 (.goto 1475) 3 = true ∧ fdq dk_576 8 (.aload_n 1) 1 = true ∧ fdq dk_576 9 (.aload_n 0) 1 = true ∧ fdq dk_576 10 (.iload 4) 2 = true ∧ fdq dk_576 12 (.iconst 1) 1 = true ∧ fdq dk_576 13 (.iadd) 1 = true ∧ fdq dk_576 14 (.iaload) 1 = true ∧ fdq dk_576 15 (.aload_n 3) 1 = true ∧ fdq dk_576 16 (.invokestatic 194) 3 = true ∧ fdq dk_576 19 (.istore 5) 2 = true ∧ fdq dk_576 21 (.aload_n 2) 1 = true ∧ fdq dk_576 22 (.aload_n 0) 1 = true ∧ fdq dk_576 23 (.iload 4) 2 = true ∧ fdq dk_576 25 (.iconst 1) 1 = true ∧ fdq dk_576 26 (.iadd) 1 = true ∧ fdq dk_576 27 (.iaload) 1 = true ∧ fdq dk_576 28 (.invokevirtual 196) 3 = true ∧ fdq dk_576 31 (.astore 6) 2 = true ∧ fdq dk_576 33 (.goto 1447) 3 = true ∧ fdq dk_576 36 (.aload_n 1) 1 = true ∧ fdq dk_576 37 (.aload_n 0) 1 = true ∧ fdq dk_576 38 (.iload 4) 2 = true ∧ fdq dk_576 40 (.iconst 1) 1 = true ∧ fdq dk_576 41 (.iadd) 1 = true ∧ fdq dk_576 42 (.iaload) 1 = true ∧ fdq dk_576 43 (.aload_n 3) 1 = true ∧ fdq dk_576 44 (.invokestatic 197) 3 = true ∧ fdq dk_576 47 (.istore 5) 2 = true := by decide +kernel
theorem dL_law_576 : decode cL_law 576 = .ok (.invokevirtual 193, 3) := fdg (k := 576) (p := 0) hdk_576 dLb_14.1
theorem dL_law_579 : decode cL_law 579 = .ok (.istore 6, 2) := fdg (k := 576) (p := 3) hdk_576 dLb_14.2.1
theorem dL_law_581 : decode cL_law 581 = .ok (.goto 1475, 3) := fdg (k := 576) (p := 5) hdk_576 dLb_14.2.2.1
theorem dL_law_584 : decode cL_law 584 = .ok (.aload_n 1, 1) := fdg (k := 576) (p := 8) hdk_576 dLb_14.2.2.2.1
theorem dL_law_585 : decode cL_law 585 = .ok (.aload_n 0, 1) := fdg (k := 576) (p := 9) hdk_576 dLb_14.2.2.2.2.1
theorem dL_law_586 : decode cL_law 586 = .ok (.iload 4, 2) := fdg (k := 576) (p := 10) hdk_576 dLb_14.2.2.2.2.2.1
theorem dL_law_588 : decode cL_law 588 = .ok (.iconst 1, 1) := fdg (k := 576) (p := 12) hdk_576 dLb_14.2.2.2.2.2.2.1
theorem dL_law_589 : decode cL_law 589 = .ok (.iadd, 1) := fdg (k := 576) (p := 13) hdk_576 dLb_14.2.2.2.2.2.2.2.1
theorem dL_law_590 : decode cL_law 590 = .ok (.iaload, 1) := fdg (k := 576) (p := 14) hdk_576 dLb_14.2.2.2.2.2.2.2.2.1
theorem dL_law_591 : decode cL_law 591 = .ok (.aload_n 3, 1) := fdg (k := 576) (p := 15) hdk_576 dLb_14.2.2.2.2.2.2.2.2.2.1
theorem dL_law_592 : decode cL_law 592 = .ok (.invokestatic 194, 3) := fdg (k := 576) (p := 16) hdk_576 dLb_14.2.2.2.2.2.2.2.2.2.2.1
theorem dL_law_595 : decode cL_law 595 = .ok (.istore 5, 2) := fdg (k := 576) (p := 19) hdk_576 dLb_14.2.2.2.2.2.2.2.2.2.2.2.1
theorem dL_law_597 : decode cL_law 597 = .ok (.aload_n 2, 1) := fdg (k := 576) (p := 21) hdk_576 dLb_14.2.2.2.2.2.2.2.2.2.2.2.2.1
theorem dL_law_598 : decode cL_law 598 = .ok (.aload_n 0, 1) := fdg (k := 576) (p := 22) hdk_576 dLb_14.2.2.2.2.2.2.2.2.2.2.2.2.2.1
theorem dL_law_599 : decode cL_law 599 = .ok (.iload 4, 2) := fdg (k := 576) (p := 23) hdk_576 dLb_14.2.2.2.2.2.2.2.2.2.2.2.2.2.2.1
theorem dL_law_601 : decode cL_law 601 = .ok (.iconst 1, 1) := fdg (k := 576) (p := 25) hdk_576 dLb_14.2.2.2.2.2.2.2.2.2.2.2.2.2.2.2.1
theorem dL_law_602 : decode cL_law 602 = .ok (.iadd, 1) := fdg (k := 576) (p := 26) hdk_576 dLb_14.2.2.2.2.2.2.2.2.2.2.2.2.2.2.2.2.1
theorem dL_law_603 : decode cL_law 603 = .ok (.iaload, 1) := fdg (k := 576) (p := 27) hdk_576 dLb_14.2.2.2.2.2.2.2.2.2.2.2.2.2.2.2.2.2.1
theorem dL_law_604 : decode cL_law 604 = .ok (.invokevirtual 196, 3) := fdg (k := 576) (p := 28) hdk_576 dLb_14.2.2.2.2.2.2.2.2.2.2.2.2.2.2.2.2.2.2.1
theorem dL_law_607 : decode cL_law 607 = .ok (.astore 6, 2) := fdg (k := 576) (p := 31) hdk_576 dLb_14.2.2.2.2.2.2.2.2.2.2.2.2.2.2.2.2.2.2.2.1
theorem dL_law_609 : decode cL_law 609 = .ok (.goto 1447, 3) := fdg (k := 576) (p := 33) hdk_576 dLb_14.2.2.2.2.2.2.2.2.2.2.2.2.2.2.2.2.2.2.2.2.1
theorem dL_law_612 : decode cL_law 612 = .ok (.aload_n 1, 1) := fdg (k := 576) (p := 36) hdk_576 dLb_14.2.2.2.2.2.2.2.2.2.2.2.2.2.2.2.2.2.2.2.2.2.1
theorem dL_law_613 : decode cL_law 613 = .ok (.aload_n 0, 1) := fdg (k := 576) (p := 37) hdk_576 dLb_14.2.2.2.2.2.2.2.2.2.2.2.2.2.2.2.2.2.2.2.2.2.2.1
theorem dL_law_614 : decode cL_law 614 = .ok (.iload 4, 2) := fdg (k := 576) (p := 38) hdk_576 dLb_14.2.2.2.2.2.2.2.2.2.2.2.2.2.2.2.2.2.2.2.2.2.2.2.1
theorem dL_law_616 : decode cL_law 616 = .ok (.iconst 1, 1) := fdg (k := 576) (p := 40) hdk_576 dLb_14.2.2.2.2.2.2.2.2.2.2.2.2.2.2.2.2.2.2.2.2.2.2.2.2.1
theorem dL_law_617 : decode cL_law 617 = .ok (.iadd, 1) := fdg (k := 576) (p := 41) hdk_576 dLb_14.2.2.2.2.2.2.2.2.2.2.2.2.2.2.2.2.2.2.2.2.2.2.2.2.2.1
theorem dL_law_618 : decode cL_law 618 = .ok (.iaload, 1) := fdg (k := 576) (p := 42) hdk_576 dLb_14.2.2.2.2.2.2.2.2.2.2.2.2.2.2.2.2.2.2.2.2.2.2.2.2.2.2.1
theorem dL_law_619 : decode cL_law 619 = .ok (.aload_n 3, 1) := fdg (k := 576) (p := 43) hdk_576 dLb_14.2.2.2.2.2.2.2.2.2.2.2.2.2.2.2.2.2.2.2.2.2.2.2.2.2.2.2.1
theorem dL_law_620 : decode cL_law 620 = .ok (.invokestatic 197, 3) := fdg (k := 576) (p := 44) hdk_576 dLb_14.2.2.2.2.2.2.2.2.2.2.2.2.2.2.2.2.2.2.2.2.2.2.2.2.2.2.2.2.1
theorem dL_law_623 : decode cL_law 623 = .ok (.istore 5, 2) := fdg (k := 576) (p := 47) hdk_576 dLb_14.2.2.2.2.2.2.2.2.2.2.2.2.2.2.2.2.2.2.2.2.2.2.2.2.2.2.2.2.2
theorem dLb_15 : fdq dk_624 1 (.aload_n 2) 1 = true ∧ fdq dk_624 2 (.aload_n 0) 1 = true ∧ fdq dk_624 3 (.iload 4) 2 = true ∧ fdq dk_624 5 (.iconst 1) 1 = true ∧ fdq dk_624 6 (.iadd) 1 = true ∧ fdq dk_624 7 (.iaload) 1 = true ∧ fdq dk_624 8 (.invokevirtual 199) 3 = true ∧ fdq dk_624 11 (.astore 6) 2 = true ∧ fdq dk_624 13 (.goto 1419) 3 = true ∧ fdq dk_624 16 (.aload_n 1) 1 = true ∧ fdq dk_624 17 (.aload_n 0) 1 = true ∧ fdq dk_624 18 (.iload 4) 2 = true ∧ fdq dk_624 20 (.iconst 1) 1 = true ∧ fdq dk_624 21 (.iadd) 1 = true ∧ fdq dk_624 22 (.iaload) 1 = true ∧ fdq dk_624 23 (.aload_n 0) 1 = true ∧ fdq dk_624 24 (.iload 4) 2 = true ∧ fdq dk_624 26 (.iconst 2) 1 = true ∧ fdq dk_624 27 (.iadd) 1 = true ∧ fdq dk_624 28 (.iaload) 1 = true ∧ fdq dk_624 29 (.aload_n 3) 1 = true ∧ fdq dk_624 30 (.invokestatic 200) 3 = true ∧ fdq dk_624 33 (.istore 5) 2 = true ∧ fdq dk_624 35 (.aload_n 2) 1 = true ∧ fdq dk_624 36 (.aload_n 0) 1 = true ∧ fdq dk_624 37 (.iload 4) 2 = true ∧ fdq dk_624 39 (.iconst 1) 1 = true ∧ fdq dk_624 40 (.iadd) 1 = true ∧ fdq dk_624 41 (.iaload) 1 = true ∧ fdq dk_624 42 (.aload_n 0) 1 = true ∧ fdq dk_624 43 (.iload 4) 2 = true ∧ fdq dk_624 45 (.iconst 2) 1 = true := by decide +kernel
theorem dL_law_625 : decode cL_law 625 = .ok (.aload_n 2, 1) := fdg (k := 624) (p := 1) hdk_624 dLb_15.1
theorem dL_law_626 : decode cL_law 626 = .ok (.aload_n 0, 1) := fdg (k := 624) (p := 2) hdk_624 dLb_15.2.1
theorem dL_law_627 : decode cL_law 627 = .ok (.iload 4, 2) := fdg (k := 624) (p := 3) hdk_624 dLb_15.2.2.1
theorem dL_law_629 : decode cL_law 629 = .ok (.iconst 1, 1) := fdg (k := 624) (p := 5) hdk_624 dLb_15.2.2.2.1
theorem dL_law_630 : decode cL_law 630 = .ok (.iadd, 1) := fdg (k := 624) (p := 6) hdk_624 dLb_15.2.2.2.2.1
theorem dL_law_631 : decode cL_law 631 = .ok (.iaload, 1) := fdg (k := 624) (p := 7) hdk_624 dLb_15.2.2.2.2.2.1
theorem dL_law_632 : decode cL_law 632 = .ok (.invokevirtual 199, 3) := fdg (k := 624) (p := 8) hdk_624 dLb_15.2.2.2.2.2.2.1
theorem dL_law_635 : decode cL_law 635 = .ok (.astore 6, 2) := fdg (k := 624) (p := 11) hdk_624 dLb_15.2.2.2.2.2.2.2.1
theorem dL_law_637 : decode cL_law 637 = .ok (.goto 1419, 3) := fdg (k := 624) (p := 13) hdk_624 dLb_15.2.2.2.2.2.2.2.2.1
theorem dL_law_640 : decode cL_law 640 = .ok (.aload_n 1, 1) := fdg (k := 624) (p := 16) hdk_624 dLb_15.2.2.2.2.2.2.2.2.2.1
theorem dL_law_641 : decode cL_law 641 = .ok (.aload_n 0, 1) := fdg (k := 624) (p := 17) hdk_624 dLb_15.2.2.2.2.2.2.2.2.2.2.1
theorem dL_law_642 : decode cL_law 642 = .ok (.iload 4, 2) := fdg (k := 624) (p := 18) hdk_624 dLb_15.2.2.2.2.2.2.2.2.2.2.2.1
theorem dL_law_644 : decode cL_law 644 = .ok (.iconst 1, 1) := fdg (k := 624) (p := 20) hdk_624 dLb_15.2.2.2.2.2.2.2.2.2.2.2.2.1
theorem dL_law_645 : decode cL_law 645 = .ok (.iadd, 1) := fdg (k := 624) (p := 21) hdk_624 dLb_15.2.2.2.2.2.2.2.2.2.2.2.2.2.1
theorem dL_law_646 : decode cL_law 646 = .ok (.iaload, 1) := fdg (k := 624) (p := 22) hdk_624 dLb_15.2.2.2.2.2.2.2.2.2.2.2.2.2.2.1
theorem dL_law_647 : decode cL_law 647 = .ok (.aload_n 0, 1) := fdg (k := 624) (p := 23) hdk_624 dLb_15.2.2.2.2.2.2.2.2.2.2.2.2.2.2.2.1
theorem dL_law_648 : decode cL_law 648 = .ok (.iload 4, 2) := fdg (k := 624) (p := 24) hdk_624 dLb_15.2.2.2.2.2.2.2.2.2.2.2.2.2.2.2.2.1
theorem dL_law_650 : decode cL_law 650 = .ok (.iconst 2, 1) := fdg (k := 624) (p := 26) hdk_624 dLb_15.2.2.2.2.2.2.2.2.2.2.2.2.2.2.2.2.2.1
theorem dL_law_651 : decode cL_law 651 = .ok (.iadd, 1) := fdg (k := 624) (p := 27) hdk_624 dLb_15.2.2.2.2.2.2.2.2.2.2.2.2.2.2.2.2.2.2.1
theorem dL_law_652 : decode cL_law 652 = .ok (.iaload, 1) := fdg (k := 624) (p := 28) hdk_624 dLb_15.2.2.2.2.2.2.2.2.2.2.2.2.2.2.2.2.2.2.2.1
theorem dL_law_653 : decode cL_law 653 = .ok (.aload_n 3, 1) := fdg (k := 624) (p := 29) hdk_624 dLb_15.2.2.2.2.2.2.2.2.2.2.2.2.2.2.2.2.2.2.2.2.1
theorem dL_law_654 : decode cL_law 654 = .ok (.invokestatic 200, 3) := fdg (k := 624) (p := 30) hdk_624 dLb_15.2.2.2.2.2.2.2.2.2.2.2.2.2.2.2.2.2.2.2.2.2.1
theorem dL_law_657 : decode cL_law 657 = .ok (.istore 5, 2) := fdg (k := 624) (p := 33) hdk_624 dLb_15.2.2.2.2.2.2.2.2.2.2.2.2.2.2.2.2.2.2.2.2.2.2.1
theorem dL_law_659 : decode cL_law 659 = .ok (.aload_n 2, 1) := fdg (k := 624) (p := 35) hdk_624 dLb_15.2.2.2.2.2.2.2.2.2.2.2.2.2.2.2.2.2.2.2.2.2.2.2.1
theorem dL_law_660 : decode cL_law 660 = .ok (.aload_n 0, 1) := fdg (k := 624) (p := 36) hdk_624 dLb_15.2.2.2.2.2.2.2.2.2.2.2.2.2.2.2.2.2.2.2.2.2.2.2.2.1
theorem dL_law_661 : decode cL_law 661 = .ok (.iload 4, 2) := fdg (k := 624) (p := 37) hdk_624 dLb_15.2.2.2.2.2.2.2.2.2.2.2.2.2.2.2.2.2.2.2.2.2.2.2.2.2.1
theorem dL_law_663 : decode cL_law 663 = .ok (.iconst 1, 1) := fdg (k := 624) (p := 39) hdk_624 dLb_15.2.2.2.2.2.2.2.2.2.2.2.2.2.2.2.2.2.2.2.2.2.2.2.2.2.2.1
theorem dL_law_664 : decode cL_law 664 = .ok (.iadd, 1) := fdg (k := 624) (p := 40) hdk_624 dLb_15.2.2.2.2.2.2.2.2.2.2.2.2.2.2.2.2.2.2.2.2.2.2.2.2.2.2.2.1
theorem dL_law_665 : decode cL_law 665 = .ok (.iaload, 1) := fdg (k := 624) (p := 41) hdk_624 dLb_15.2.2.2.2.2.2.2.2.2.2.2.2.2.2.2.2.2.2.2.2.2.2.2.2.2.2.2.2.1
theorem dL_law_666 : decode cL_law 666 = .ok (.aload_n 0, 1) := fdg (k := 624) (p := 42) hdk_624 dLb_15.2.2.2.2.2.2.2.2.2.2.2.2.2.2.2.2.2.2.2.2.2.2.2.2.2.2.2.2.2.1
theorem dL_law_667 : decode cL_law 667 = .ok (.iload 4, 2) := fdg (k := 624) (p := 43) hdk_624 dLb_15.2.2.2.2.2.2.2.2.2.2.2.2.2.2.2.2.2.2.2.2.2.2.2.2.2.2.2.2.2.2.1
theorem dL_law_669 : decode cL_law 669 = .ok (.iconst 2, 1) := fdg (k := 624) (p := 45) hdk_624 dLb_15.2.2.2.2.2.2.2.2.2.2.2.2.2.2.2.2.2.2.2.2.2.2.2.2.2.2.2.2.2.2.2
theorem dLb_16 : fdq dk_624 46 (.iadd) 1 = true ∧ fdq dk_624 47 (.iaload) 1 = true := by decide +kernel
theorem dL_law_670 : decode cL_law 670 = .ok (.iadd, 1) := fdg (k := 624) (p := 46) hdk_624 dLb_16.1
theorem dL_law_671 : decode cL_law 671 = .ok (.iaload, 1) := fdg (k := 624) (p := 47) hdk_624 dLb_16.2
theorem dLb_17 : fdq dk_672 0 (.invokevirtual 202) 3 = true ∧ fdq dk_672 3 (.istore 6) 2 = true ∧ fdq dk_672 5 (.goto 1379) 3 = true ∧ fdq dk_672 8 (.aload_n 1) 1 = true ∧ fdq dk_672 9 (.aload_n 0) 1 = true ∧ fdq dk_672 10 (.iload 4) 2 = true ∧ fdq dk_672 12 (.iconst 1) 1 = true ∧ fdq dk_672 13 (.iadd) 1 = true ∧ fdq dk_672 14 (.iaload) 1 = true ∧ fdq dk_672 15 (.aload_n 0) 1 = true ∧ fdq dk_672 16 (.iload 4) 2 = true ∧ fdq dk_672 18 (.iconst 2) 1 = true ∧ fdq dk_672 19 (.iadd) 1 = true ∧ fdq dk_672 20 (.iaload) 1 = true ∧ fdq dk_672 21 (.aload_n 3) 1 = true ∧ fdq dk_672 22 (.invokestatic 203) 3 = true ∧ fdq dk_672 25 (.istore 5) 2 = true ∧ fdq dk_672 27 (.aload_n 2) 1 = true ∧ fdq dk_672 28 (.aload_n 0) 1 = true ∧ fdq dk_672 29 (.iload 4) 2 = true ∧ fdq dk_672 31 (.iconst 1) 1 = true ∧ fdq dk_672 32 (.iadd) 1 = true ∧ fdq dk_672 33 (.iaload) 1 = true ∧ fdq dk_672 34 (.aload_n 0) 1 = true ∧ fdq dk_672 35 (.iload 4) 2 = true ∧ fdq dk_672 37 (.iconst 2) 1 = true ∧ fdq dk_672 38 (.iadd) 1 = true ∧ fdq dk_672 39 (.iaload) 1 = true ∧ fdq dk_672 40 (.invokevirtual 205) 3 = true ∧ fdq dk_672 43 (.istore 6) 2 = true ∧ fdq dk_672 45 (.goto 1339) 3 = true := by decide +kernel
theorem dL_law_672 : decode cL_law 672 = .ok (.invokevirtual 202, 3) := fdg (k := 672) (p := 0) hdk_672 dLb_17.1
theorem dL_law_675 : decode cL_law 675 = .ok (.istore 6, 2) := fdg (k := 672) (p := 3) hdk_672 dLb_17.2.1
theorem dL_law_677 : decode cL_law 677 = .ok (.goto 1379, 3) := fdg (k := 672) (p := 5) hdk_672 dLb_17.2.2.1
theorem dL_law_680 : decode cL_law 680 = .ok (.aload_n 1, 1) := fdg (k := 672) (p := 8) hdk_672 dLb_17.2.2.2.1
theorem dL_law_681 : decode cL_law 681 = .ok (.aload_n 0, 1) := fdg (k := 672) (p := 9) hdk_672 dLb_17.2.2.2.2.1
theorem dL_law_682 : decode cL_law 682 = .ok (.iload 4, 2) := fdg (k := 672) (p := 10) hdk_672 dLb_17.2.2.2.2.2.1
theorem dL_law_684 : decode cL_law 684 = .ok (.iconst 1, 1) := fdg (k := 672) (p := 12) hdk_672 dLb_17.2.2.2.2.2.2.1
theorem dL_law_685 : decode cL_law 685 = .ok (.iadd, 1) := fdg (k := 672) (p := 13) hdk_672 dLb_17.2.2.2.2.2.2.2.1
theorem dL_law_686 : decode cL_law 686 = .ok (.iaload, 1) := fdg (k := 672) (p := 14) hdk_672 dLb_17.2.2.2.2.2.2.2.2.1
theorem dL_law_687 : decode cL_law 687 = .ok (.aload_n 0, 1) := fdg (k := 672) (p := 15) hdk_672 dLb_17.2.2.2.2.2.2.2.2.2.1
theorem dL_law_688 : decode cL_law 688 = .ok (.iload 4, 2) := fdg (k := 672) (p := 16) hdk_672 dLb_17.2.2.2.2.2.2.2.2.2.2.1
theorem dL_law_690 : decode cL_law 690 = .ok (.iconst 2, 1) := fdg (k := 672) (p := 18) hdk_672 dLb_17.2.2.2.2.2.2.2.2.2.2.2.1
theorem dL_law_691 : decode cL_law 691 = .ok (.iadd, 1) := fdg (k := 672) (p := 19) hdk_672 dLb_17.2.2.2.2.2.2.2.2.2.2.2.2.1
theorem dL_law_692 : decode cL_law 692 = .ok (.iaload, 1) := fdg (k := 672) (p := 20) hdk_672 dLb_17.2.2.2.2.2.2.2.2.2.2.2.2.2.1
theorem dL_law_693 : decode cL_law 693 = .ok (.aload_n 3, 1) := fdg (k := 672) (p := 21) hdk_672 dLb_17.2.2.2.2.2.2.2.2.2.2.2.2.2.2.1
theorem dL_law_694 : decode cL_law 694 = .ok (.invokestatic 203, 3) := fdg (k := 672) (p := 22) hdk_672 dLb_17.2.2.2.2.2.2.2.2.2.2.2.2.2.2.2.1
theorem dL_law_697 : decode cL_law 697 = .ok (.istore 5, 2) := fdg (k := 672) (p := 25) hdk_672 dLb_17.2.2.2.2.2.2.2.2.2.2.2.2.2.2.2.2.1
theorem dL_law_699 : decode cL_law 699 = .ok (.aload_n 2, 1) := fdg (k := 672) (p := 27) hdk_672 dLb_17.2.2.2.2.2.2.2.2.2.2.2.2.2.2.2.2.2.1
theorem dL_law_700 : decode cL_law 700 = .ok (.aload_n 0, 1) := fdg (k := 672) (p := 28) hdk_672 dLb_17.2.2.2.2.2.2.2.2.2.2.2.2.2.2.2.2.2.2.1
theorem dL_law_701 : decode cL_law 701 = .ok (.iload 4, 2) := fdg (k := 672) (p := 29) hdk_672 dLb_17.2.2.2.2.2.2.2.2.2.2.2.2.2.2.2.2.2.2.2.1
theorem dL_law_703 : decode cL_law 703 = .ok (.iconst 1, 1) := fdg (k := 672) (p := 31) hdk_672 dLb_17.2.2.2.2.2.2.2.2.2.2.2.2.2.2.2.2.2.2.2.2.1
theorem dL_law_704 : decode cL_law 704 = .ok (.iadd, 1) := fdg (k := 672) (p := 32) hdk_672 dLb_17.2.2.2.2.2.2.2.2.2.2.2.2.2.2.2.2.2.2.2.2.2.1
theorem dL_law_705 : decode cL_law 705 = .ok (.iaload, 1) := fdg (k := 672) (p := 33) hdk_672 dLb_17.2.2.2.2.2.2.2.2.2.2.2.2.2.2.2.2.2.2.2.2.2.2.1
theorem dL_law_706 : decode cL_law 706 = .ok (.aload_n 0, 1) := fdg (k := 672) (p := 34) hdk_672 dLb_17.2.2.2.2.2.2.2.2.2.2.2.2.2.2.2.2.2.2.2.2.2.2.2.1
theorem dL_law_707 : decode cL_law 707 = .ok (.iload 4, 2) := fdg (k := 672) (p := 35) hdk_672 dLb_17.2.2.2.2.2.2.2.2.2.2.2.2.2.2.2.2.2.2.2.2.2.2.2.2.1
theorem dL_law_709 : decode cL_law 709 = .ok (.iconst 2, 1) := fdg (k := 672) (p := 37) hdk_672 dLb_17.2.2.2.2.2.2.2.2.2.2.2.2.2.2.2.2.2.2.2.2.2.2.2.2.2.1
theorem dL_law_710 : decode cL_law 710 = .ok (.iadd, 1) := fdg (k := 672) (p := 38) hdk_672 dLb_17.2.2.2.2.2.2.2.2.2.2.2.2.2.2.2.2.2.2.2.2.2.2.2.2.2.2.1
theorem dL_law_711 : decode cL_law 711 = .ok (.iaload, 1) := fdg (k := 672) (p := 39) hdk_672 dLb_17.2.2.2.2.2.2.2.2.2.2.2.2.2.2.2.2.2.2.2.2.2.2.2.2.2.2.2.1
theorem dL_law_712 : decode cL_law 712 = .ok (.invokevirtual 205, 3) := fdg (k := 672) (p := 40) hdk_672 dLb_17.2.2.2.2.2.2.2.2.2.2.2.2.2.2.2.2.2.2.2.2.2.2.2.2.2.2.2.2.1
theorem dL_law_715 : decode cL_law 715 = .ok (.istore 6, 2) := fdg (k := 672) (p := 43) hdk_672 dLb_17.2.2.2.2.2.2.2.2.2.2.2.2.2.2.2.2.2.2.2.2.2.2.2.2.2.2.2.2.2.1
theorem dL_law_717 : decode cL_law 717 = .ok (.goto 1339, 3) := fdg (k := 672) (p := 45) hdk_672 dLb_17.2.2.2.2.2.2.2.2.2.2.2.2.2.2.2.2.2.2.2.2.2.2.2.2.2.2.2.2.2.2
theorem dLb_18 : fdq dk_720 0 (.aload_n 1) 1 = true ∧ fdq dk_720 1 (.aload_n 0) 1 = true ∧ fdq dk_720 2 (.iload 4) 2 = true ∧ fdq dk_720 4 (.iconst 1) 1 = true ∧ fdq dk_720 5 (.iadd) 1 = true ∧ fdq dk_720 6 (.iaload) 1 = true ∧ fdq dk_720 7 (.aload_n 0) 1 = true ∧ fdq dk_720 8 (.iload 4) 2 = true ∧ fdq dk_720 10 (.iconst 2) 1 = true ∧ fdq dk_720 11 (.iadd) 1 = true ∧ fdq dk_720 12 (.iaload) 1 = true ∧ fdq dk_720 13 (.aload_n 3) 1 = true ∧ fdq dk_720 14 (.invokestatic 206) 3 = true ∧ fdq dk_720 17 (.istore 5) 2 = true ∧ fdq dk_720 19 (.aload_n 2) 1 = true ∧ fdq dk_720 20 (.aload_n 0) 1 = true ∧ fdq dk_720 21 (.iload 4) 2 = true ∧ fdq dk_720 23 (.iconst 1) 1 = true ∧ fdq dk_720 24 (.iadd) 1 = true ∧ fdq dk_720 25 (.iaload) 1 = true ∧ fdq dk_720 26 (.aload_n 0) 1 = true ∧ fdq dk_720 27 (.iload 4) 2 = true ∧ fdq dk_720 29 (.iconst 2) 1 = true ∧ fdq dk_720 30 (.iadd) 1 = true ∧ fdq dk_720 31 (.iaload) 1 = true ∧ fdq dk_720 32 (.invokevirtual 208) 3 = true ∧ fdq dk_720 35 (.istore 6) 2 = true ∧ fdq dk_720 37 (.goto 1299) 3 = true ∧ fdq dk_720 40 (.aload_n 1) 1 = true ∧ fdq dk_720 41 (.aload_n 0) 1 = true ∧ fdq dk_720 42 (.iload 4) 2 = true ∧ fdq dk_720 44 (.iconst 1) 1 = true := by decide +kernel
theorem dL_law_720 : decode cL_law 720 = .ok (.aload_n 1, 1) := fdg (k := 720) (p := 0) hdk_720 dLb_18.1
theorem dL_law_721 : decode cL_law 721 = .ok (.aload_n 0, 1) := fdg (k := 720) (p := 1) hdk_720 dLb_18.2.1
theorem dL_law_722 : decode cL_law 722 = .ok (.iload 4, 2) := fdg (k := 720) (p := 2) hdk_720 dLb_18.2.2.1
theorem dL_law_724 : decode cL_law 724 = .ok (.iconst 1, 1) := fdg (k := 720) (p := 4) hdk_720 dLb_18.2.2.2.1
theorem dL_law_725 : decode cL_law 725 = .ok (.iadd, 1) := fdg (k := 720) (p := 5) hdk_720 dLb_18.2.2.2.2.1
theorem dL_law_726 : decode cL_law 726 = .ok (.iaload, 1) := fdg (k := 720) (p := 6) hdk_720 dLb_18.2.2.2.2.2.1
theorem dL_law_727 : decode cL_law 727 = .ok (.aload_n 0, 1) := fdg (k := 720) (p := 7) hdk_720 dLb_18.2.2.2.2.2.2.1
theorem dL_law_728 : decode cL_law 728 = .ok (.iload 4, 2) := fdg (k := 720) (p := 8) hdk_720 dLb_18.2.2.2.2.2.2.2.1
theorem dL_law_730 : decode cL_law 730 = .ok (.iconst 2, 1) := fdg (k := 720) (p := 10) hdk_720 dLb_18.2.2.2.2.2.2.2.2.1
theorem dL_law_731 : decode cL_law 731 = .ok (.iadd, 1) := fdg (k := 720) (p := 11) hdk_720 dLb_18.2.2.2.2.2.2.2.2.2.1
theorem dL_law_732 : decode cL_law 732 = .ok (.iaload, 1) := fdg (k := 720) (p := 12) hdk_720 dLb_18.2.2.2.2.2.2.2.2.2.2.1
theorem dL_law_733 : decode cL_law 733 = .ok (.aload_n 3, 1) := fdg (k := 720) (p := 13) hdk_720 dLb_18.2.2.2.2.2.2.2.2.2.2.2.1
theorem dL_law_734 : decode cL_law 734 = .ok (.invokestatic 206, 3) := fdg (k := 720) (p := 14) hdk_720 dLb_18.2.2.2.2.2.2.2.2.2.2.2.2.1
theorem dL_law_737 : decode cL_law 737 = .ok (.istore 5, 2) := fdg (k := 720) (p := 17) hdk_720 dLb_18.2.2.2.2.2.2.2.2.2.2.2.2.2.1
theorem dL_law_739 : decode cL_law 739 = .ok (.aload_n 2, 1) := fdg (k := 720) (p := 19) hdk_720 dLb_18.2.2.2.2.2.2.2.2.2.2.2.2.2.2.1
theorem dL_law_740 : decode cL_law 740 = .ok (.aload_n 0, 1) := fdg (k := 720) (p := 20) hdk_720 dLb_18.2.2.2.2.2.2.2.2.2.2.2.2.2.2.2.1
theorem dL_law_741 : decode cL_law 741 = .ok (.iload 4, 2) := fdg (k := 720) (p := 21) hdk_720 dLb_18.2.2.2.2.2.2.2.2.2.2.2.2.2.2.2.2.1
theorem dL_law_743 : decode cL_law 743 = .ok (.iconst 1, 1) := fdg (k := 720) (p := 23) hdk_720 dLb_18.2.2.2.2.2.2.2.2.2.2.2.2.2.2.2.2.2.1
theorem dL_law_744 : decode cL_law 744 = .ok (.iadd, 1) := fdg (k := 720) (p := 24) hdk_720 dLb_18.2.2.2.2.2.2.2.2.2.2.2.2.2.2.2.2.2.2.1
theorem dL_law_745 : decode cL_law 745 = .ok (.iaload, 1) := fdg (k := 720) (p := 25) hdk_720 dLb_18.2.2.2.2.2.2.2.2.2.2.2.2.2.2.2.2.2.2.2.1
theorem dL_law_746 : decode cL_law 746 = .ok (.aload_n 0, 1) := fdg (k := 720) (p := 26) hdk_720 dLb_18.2.2.2.2.2.2.2.2.2.2.2.2.2.2.2.2.2.2.2.2.1
theorem dL_law_747 : decode cL_law 747 = .ok (.iload 4, 2) := fdg (k := 720) (p := 27) hdk_720 dLb_18.2.2.2.2.2.2.2.2.2.2.2.2.2.2.2.2.2.2.2.2.2.1
theorem dL_law_749 : decode cL_law 749 = .ok (.iconst 2, 1) := fdg (k := 720) (p := 29) hdk_720 dLb_18.2.2.2.2.2.2.2.2.2.2.2.2.2.2.2.2.2.2.2.2.2.2.1
theorem dL_law_750 : decode cL_law 750 = .ok (.iadd, 1) := fdg (k := 720) (p := 30) hdk_720 dLb_18.2.2.2.2.2.2.2.2.2.2.2.2.2.2.2.2.2.2.2.2.2.2.2.1
theorem dL_law_751 : decode cL_law 751 = .ok (.iaload, 1) := fdg (k := 720) (p := 31) hdk_720 dLb_18.2.2.2.2.2.2.2.2.2.2.2.2.2.2.2.2.2.2.2.2.2.2.2.2.1
theorem dL_law_752 : decode cL_law 752 = .ok (.invokevirtual 208, 3) := fdg (k := 720) (p := 32) hdk_720 dLb_18.2.2.2.2.2.2.2.2.2.2.2.2.2.2.2.2.2.2.2.2.2.2.2.2.2.1
theorem dL_law_755 : decode cL_law 755 = .ok (.istore 6, 2) := fdg (k := 720) (p := 35) hdk_720 dLb_18.2.2.2.2.2.2.2.2.2.2.2.2.2.2.2.2.2.2.2.2.2.2.2.2.2.2.1
theorem dL_law_757 : decode cL_law 757 = .ok (.goto 1299, 3) := fdg (k := 720) (p := 37) hdk_720 dLb_18.2.2.2.2.2.2.2.2.2.2.2.2.2.2.2.2.2.2.2.2.2.2.2.2.2.2.2.1
theorem dL_law_760 : decode cL_law 760 = .ok (.aload_n 1, 1) := fdg (k := 720) (p := 40) hdk_720 dLb_18.2.2.2.2.2.2.2.2.2.2.2.2.2.2.2.2.2.2.2.2.2.2.2.2.2.2.2.2.1
theorem dL_law_761 : decode cL_law 761 = .ok (.aload_n 0, 1) := fdg (k := 720) (p := 41) hdk_720 dLb_18.2.2.2.2.2.2.2.2.2.2.2.2.2.2.2.2.2.2.2.2.2.2.2.2.2.2.2.2.2.1
theorem dL_law_762 : decode cL_law 762 = .ok (.iload 4, 2) := fdg (k := 720) (p := 42) hdk_720 dLb_18.2.2.2.2.2.2.2.2.2.2.2.2.2.2.2.2.2.2.2.2.2.2.2.2.2.2.2.2.2.2.1
theorem dL_law_764 : decode cL_law 764 = .ok (.iconst 1, 1) := fdg (k := 720) (p := 44) hdk_720 dLb_18.2.2.2.2.2.2.2.2.2.2.2.2.2.2.2.2.2.2.2.2.2.2.2.2.2.2.2.2.2.2.2
theorem dLb_19 : fdq dk_720 45 (.iadd) 1 = true ∧ fdq dk_720 46 (.iaload) 1 = true ∧ fdq dk_720 47 (.aload_n 0) 1 = true := by decide +kernel
theorem dL_law_765 : decode cL_law 765 = .ok (.iadd, 1) := fdg (k := 720) (p := 45) hdk_720 dLb_19.1
theorem dL_law_766 : decode cL_law 766 = .ok (.iaload, 1) := fdg (k := 720) (p := 46) hdk_720 dLb_19.2.1
theorem dL_law_767 : decode cL_law 767 = .ok (.aload_n 0, 1) := fdg (k := 720) (p := 47) hdk_720 dLb_19.2.2
theorem dLb_20 : fdq dk_768 0 (.iload 4) 2 = true ∧ fdq dk_768 2 (.iconst 2) 1 = true ∧ fdq dk_768 3 (.iadd) 1 = true ∧ fdq dk_768 4 (.iaload) 1 = true ∧ fdq dk_768 5 (.aload_n 3) 1 = true ∧ fdq dk_768 6 (.invokestatic 209) 3 = true ∧ fdq dk_768 9 (.istore 5) 2 = true ∧ fdq dk_768 11 (.aload_n 2) 1 = true ∧ fdq dk_768 12 (.aload_n 0) 1 = true ∧ fdq dk_768 13 (.iload 4) 2 = true ∧ fdq dk_768 15 (.iconst 1) 1 = true ∧ fdq dk_768 16 (.iadd) 1 = true ∧ fdq dk_768 17 (.iaload) 1 = true ∧ fdq dk_768 18 (.aload_n 0) 1 = true ∧ fdq dk_768 19 (.iload 4) 2 = true ∧ fdq dk_768 21 (.iconst 2) 1 = true ∧ fdq dk_768 22 (.iadd) 1 = true ∧ fdq dk_768 23 (.iaload) 1 = true ∧ fdq dk_768 24 (.invokevirtual 211) 3 = true ∧ fdq dk_768 27 (.istore 6) 2 = true ∧ fdq dk_768 29 (.goto 1259) 3 = true ∧ fdq dk_768 32 (.aload_n 1) 1 = true ∧ fdq dk_768 33 (.aload_n 0) 1 = true ∧ fdq dk_768 34 (.iload 4) 2 = true ∧ fdq dk_768 36 (.iconst 1) 1 = true ∧ fdq dk_768 37 (.iadd) 1 = true ∧ fdq dk_768 38 (.iaload) 1 = true ∧ fdq dk_768 39 (.aload_n 0) 1 = true ∧ fdq dk_768 40 (.iload 4) 2 = true ∧ fdq dk_768 42 (.iconst 2) 1 = true ∧ fdq dk_768 43 (.iadd) 1 = true ∧ fdq dk_768 44 (.iaload) 1 = true := by decide +kernel
theorem dL_law_768 : decode cL_law 768 = .ok (.iload 4, 2) := fdg (k := 768) (p := 0) hdk_768 dLb_20.1
theorem dL_law_770 : decode cL_law 770 = .ok (.iconst 2, 1) := fdg (k := 768) (p := 2) hdk_768 dLb_20.2.1
theorem dL_law_771 : decode cL_law 771 = .ok (.iadd, 1) := fdg (k := 768) (p := 3) hdk_768 dLb_20.2.2.1
theorem dL_law_772 : decode cL_law 772 = .ok (.iaload, 1) := fdg (k := 768) (p := 4) hdk_768 dLb_20.2.2.2.1
theorem dL_law_773 : decode cL_law 773 = .ok (.aload_n 3, 1) := fdg (k := 768) (p := 5) hdk_768 dLb_20.2.2.2.2.1
theorem dL_law_774 : decode cL_law 774 = .ok (.invokestatic 209, 3) := fdg (k := 768) (p := 6) hdk_768 dLb_20.2.2.2.2.2.1
theorem dL_law_777 : decode cL_law 777 = .ok (.istore 5, 2) := fdg (k := 768) (p := 9) hdk_768 dLb_20.2.2.2.2.2.2.1
theorem dL_law_779 : decode cL_law 779 = .ok (.aload_n 2, 1) := fdg (k := 768) (p := 11) hdk_768 dLb_20.2.2.2.2.2.2.2.1
theorem dL_law_780 : decode cL_law 780 = .ok (.aload_n 0, 1) := fdg (k := 768) (p := 12) hdk_768 dLb_20.2.2.2.2.2.2.2.2.1
theorem dL_law_781 : decode cL_law 781 = .ok (.iload 4, 2) := fdg (k := 768) (p := 13) hdk_768 dLb_20.2.2.2.2.2.2.2.2.2.1
theorem dL_law_783 : decode cL_law 783 = .ok (.iconst 1, 1) := fdg (k := 768) (p := 15) hdk_768 dLb_20.2.2.2.2.2.2.2.2.2.2.1
theorem dL_law_784 : decode cL_law 784 = .ok (.iadd, 1) := fdg (k := 768) (p := 16) hdk_768 dLb_20.2.2.2.2.2.2.2.2.2.2.2.1
theorem dL_law_785 : decode cL_law 785 = .ok (.iaload, 1) := fdg (k := 768) (p := 17) hdk_768 dLb_20.2.2.2.2.2.2.2.2.2.2.2.2.1
theorem dL_law_786 : decode cL_law 786 = .ok (.aload_n 0, 1) := fdg (k := 768) (p := 18) hdk_768 dLb_20.2.2.2.2.2.2.2.2.2.2.2.2.2.1
theorem dL_law_787 : decode cL_law 787 = .ok (.iload 4, 2) := fdg (k := 768) (p := 19) hdk_768 dLb_20.2.2.2.2.2.2.2.2.2.2.2.2.2.2.1
theorem dL_law_789 : decode cL_law 789 = .ok (.iconst 2, 1) := fdg (k := 768) (p := 21) hdk_768 dLb_20.2.2.2.2.2.2.2.2.2.2.2.2.2.2.2.1
theorem dL_law_790 : decode cL_law 790 = .ok (.iadd, 1) := fdg (k := 768) (p := 22) hdk_768 dLb_20.2.2.2.2.2.2.2.2.2.2.2.2.2.2.2.2.1
theorem dL_law_791 : decode cL_law 791 = .ok (.iaload, 1) := fdg (k := 768) (p := 23) hdk_768 dLb_20.2.2.2.2.2.2.2.2.2.2.2.2.2.2.2.2.2.1
theorem dL_law_792 : decode cL_law 792 = .ok (.invokevirtual 211, 3) := fdg (k := 768) (p := 24) hdk_768 dLb_20.2.2.2.2.2.2.2.2.2.2.2.2.2.2.2.2.2.2.1
theorem dL_law_795 : decode cL_law 795 = .ok (.istore 6, 2) := fdg (k := 768) (p := 27) hdk_768 dLb_20.2.2.2.2.2.2.2.2.2.2.2.2.2.2.2.2.2.2.2.1
theorem dL_law_797 : decode cL_law 797 = .ok (.goto 1259, 3) := fdg (k := 768) (p := 29) hdk_768 dLb_20.2.2.2.2.2.2.2.2.2.2.2.2.2.2.2.2.2.2.2.2.1
theorem dL_law_800 : decode cL_law 800 = .ok (.aload_n 1, 1) := fdg (k := 768) (p := 32) hdk_768 dLb_20.2.2.2.2.2.2.2.2.2.2.2.2.2.2.2.2.2.2.2.2.2.1
theorem dL_law_801 : decode cL_law 801 = .ok (.aload_n 0, 1) := fdg (k := 768) (p := 33) hdk_768 dLb_20.2.2.2.2.2.2.2.2.2.2.2.2.2.2.2.2.2.2.2.2.2.2.1
theorem dL_law_802 : decode cL_law 802 = .ok (.iload 4, 2) := fdg (k := 768) (p := 34) hdk_768 dLb_20.2.2.2.2.2.2.2.2.2.2.2.2.2.2.2.2.2.2.2.2.2.2.2.1
theorem dL_law_804 : decode cL_law 804 = .ok (.iconst 1, 1) := fdg (k := 768) (p := 36) hdk_768 dLb_20.2.2.2.2.2.2.2.2.2.2.2.2.2.2.2.2.2.2.2.2.2.2.2.2.1
theorem dL_law_805 : decode cL_law 805 = .ok (.iadd, 1) := fdg (k := 768) (p := 37) hdk_768 dLb_20.2.2.2.2.2.2.2.2.2.2.2.2.2.2.2.2.2.2.2.2.2.2.2.2.2.1
theorem dL_law_806 : decode cL_law 806 = .ok (.iaload, 1) := fdg (k := 768) (p := 38) hdk_768 dLb_20.2.2.2.2.2.2.2.2.2.2.2.2.2.2.2.2.2.2.2.2.2.2.2.2.2.2.1
theorem dL_law_807 : decode cL_law 807 = .ok (.aload_n 0, 1) := fdg (k := 768) (p := 39) hdk_768 dLb_20.2.2.2.2.2.2.2.2.2.2.2.2.2.2.2.2.2.2.2.2.2.2.2.2.2.2.2.1
theorem dL_law_808 : decode cL_law 808 = .ok (.iload 4, 2) := fdg (k := 768) (p := 40) hdk_768 dLb_20.2.2.2.2.2.2.2.2.2.2.2.2.2.2.2.2.2.2.2.2.2.2.2.2.2.2.2.2.1
theorem dL_law_810 : decode cL_law 810 = .ok (.iconst 2, 1) := fdg (k := 768) (p := 42) hdk_768 dLb_20.2.2.2.2.2.2.2.2.2.2.2.2.2.2.2.2.2.2.2.2.2.2.2.2.2.2.2.2.2.1
theorem dL_law_811 : decode cL_law 811 = .ok (.iadd, 1) := fdg (k := 768) (p := 43) hdk_768 dLb_20.2.2.2.2.2.2.2.2.2.2.2.2.2.2.2.2.2.2.2.2.2.2.2.2.2.2.2.2.2.2.1
theorem dL_law_812 : decode cL_law 812 = .ok (.iaload, 1) := fdg (k := 768) (p := 44) hdk_768 dLb_20.2.2.2.2.2.2.2.2.2.2.2.2.2.2.2.2.2.2.2.2.2.2.2.2.2.2.2.2.2.2.2
theorem dLb_21 : fdq dk_768 45 (.aload_n 3) 1 = true ∧ fdq dk_768 46 (.invokestatic 212) 3 = true := by decide +kernel
theorem dL_law_813 : decode cL_law 813 = .ok (.aload_n 3, 1) := fdg (k := 768) (p := 45) hdk_768 dLb_21.1
theorem dL_law_814 : decode cL_law 814 = .ok (.invokestatic 212, 3) := fdg (k := 768) (p := 46) hdk_768 dLb_21.2
theorem dLb_22 : fdq dk_816 1 (.istore 5) 2 = true ∧ fdq dk_816 3 (.aload_n 2) 1 = true ∧ fdq dk_816 4 (.aload_n 0) 1 = true ∧ fdq dk_816 5 (.iload 4) 2 = true ∧ fdq dk_816 7 (.iconst 1) 1 = true ∧ fdq dk_816 8 (.iadd) 1 = true ∧ fdq dk_816 9 (.iaload) 1 = true ∧ fdq dk_816 10 (.aload_n 0) 1 = true ∧ fdq dk_816 11 (.iload 4) 2 = true ∧ fdq dk_816 13 (.iconst 2) 1 = true ∧ fdq dk_816 14 (.iadd) 1 = true ∧ fdq dk_816 15 (.iaload) 1 = true ∧ fdq dk_816 16 (.invokevirtual 214) 3 = true ∧ fdq dk_816 19 (.istore 6) 2 = true ∧ fdq dk_816 21 (.goto 1219) 3 = true ∧ fdq dk_816 24 (.aload_n 1) 1 = true ∧ fdq dk_816 25 (.aload_n 0) 1 = true ∧ fdq dk_816 26 (.iload 4) 2 = true ∧ fdq dk_816 28 (.iconst 1) 1 = true ∧ fdq dk_816 29 (.iadd) 1 = true ∧ fdq dk_816 30 (.iaload) 1 = true ∧ fdq dk_816 31 (.aload_n 0) 1 = true ∧ fdq dk_816 32 (.iload 4) 2 = true ∧ fdq dk_816 34 (.iconst 2) 1 = true ∧ fdq dk_816 35 (.iadd) 1 = true ∧ fdq dk_816 36 (.iaload) 1 = true ∧ fdq dk_816 37 (.aload_n 3) 1 = true ∧ fdq dk_816 38 (.invokestatic 215) 3 = true ∧ fdq dk_816 41 (.istore 5) 2 = true ∧ fdq dk_816 43 (.aload_n 2) 1 = true ∧ fdq dk_816 44 (.aload_n 0) 1 = true ∧ fdq dk_816 45 (.iload 4) 2 = true := by decide +kernel
theorem dL_law_817 : decode cL_law 817 = .ok (.istore 5, 2) := fdg (k := 816) (p := 1) hdk_816 dLb_22.1
theorem dL_law_819 : decode cL_law 819 = .ok (.aload_n 2, 1) := fdg (k := 816) (p := 3) hdk_816 dLb_22.2.1
theorem dL_law_820 : decode cL_law 820 = .ok (.aload_n 0, 1) := fdg (k := 816) (p := 4) hdk_816 dLb_22.2.2.1
theorem dL_law_821 : decode cL_law 821 = .ok (.iload 4, 2) := fdg (k := 816) (p := 5) hdk_816 dLb_22.2.2.2.1
theorem dL_law_823 : decode cL_law 823 = .ok (.iconst 1, 1) := fdg (k := 816) (p := 7) hdk_816 dLb_22.2.2.2.2.1
theorem dL_law_824 : decode cL_law 824 = .ok (.iadd, 1) := fdg (k := 816) (p := 8) hdk_816 dLb_22.2.2.2.2.2.1
theorem dL_law_825 : decode cL_law 825 = .ok (.iaload, 1) := fdg (k := 816) (p := 9) hdk_816 dLb_22.2.2.2.2.2.2.1
theorem dL_law_826 : decode cL_law 826 = .ok (.aload_n 0, 1) := fdg (k := 816) (p := 10) hdk_816 dLb_22.2.2.2.2.2.2.2.1
theorem dL_law_827 : decode cL_law 827 = .ok (.iload 4, 2) := fdg (k := 816) (p := 11) hdk_816 dLb_22.2.2.2.2.2.2.2.2.1
theorem dL_law_829 : decode cL_law 829 = .ok (.iconst 2, 1) := fdg (k := 816) (p := 13) hdk_816 dLb_22.2.2.2.2.2.2.2.2.2.1
theorem dL_law_830 : decode cL_law 830 = .ok (.iadd, 1) := fdg (k := 816) (p := 14) hdk_816 dLb_22.2.2.2.2.2.2.2.2.2.2.1
theorem dL_law_831 : decode cL_law 831 = .ok (.iaload, 1) := fdg (k := 816) (p := 15) hdk_816 dLb_22.2.2.2.2.2.2.2.2.2.2.2.1
theorem dL_law_832 : decode cL_law 832 = .ok (.invokevirtual 214, 3) := fdg (k := 816) (p := 16) hdk_816 dLb_22.2.2.2.2.2.2.2.2.2.2.2.2.1
theorem dL_law_835 : decode cL_law 835 = .ok (.istore 6, 2) := fdg (k := 816) (p := 19) hdk_816 dLb_22.2.2.2.2.2.2.2.2.2.2.2.2.2.1
theorem dL_law_837 : decode cL_law 837 = .ok (.goto 1219, 3) := fdg (k := 816) (p := 21) hdk_816 dLb_22.2.2.2.2.2.2.2.2.2.2.2.2.2.2.1
theorem dL_law_840 : decode cL_law 840 = .ok (.aload_n 1, 1) := fdg (k := 816) (p := 24) hdk_816 dLb_22.2.2.2.2.2.2.2.2.2.2.2.2.2.2.2.1
theorem dL_law_841 : decode cL_law 841 = .ok (.aload_n 0, 1) := fdg (k := 816) (p := 25) hdk_816 dLb_22.2.2.2.2.2.2.2.2.2.2.2.2.2.2.2.2.1
theorem dL_law_842 : decode cL_law 842 = .ok (.iload 4, 2) := fdg (k := 816) (p := 26) hdk_816 dLb_22.2.2.2.2.2.2.2.2.2.2.2.2.2.2.2.2.2.1
theorem dL_law_844 : decode cL_law 844 = .ok (.iconst 1, 1) := fdg (k := 816) (p := 28) hdk_816 dLb_22.2.2.2.2.2.2.2.2.2.2.2.2.2.2.2.2.2.2.1
theorem dL_law_845 : decode cL_law 845 = .ok (.iadd, 1) := fdg (k := 816) (p := 29) hdk_816 dLb_22.2.2.2.2.2.2.2.2.2.2.2.2.2.2.2.2.2.2.2.1
theorem dL_law_846 : decode cL_law 846 = .ok (.iaload, 1) := fdg (k := 816) (p := 30) hdk_816 dLb_22.2.2.2.2.2.2.2.2.2.2.2.2.2.2.2.2.2.2.2.2.1
theorem dL_law_847 : decode cL_law 847 = .ok (.aload_n 0, 1) := fdg (k := 816) (p := 31) hdk_816 dLb_22.2.2.2.2.2.2.2.2.2.2.2.2.2.2.2.2.2.2.2.2.2.1
theorem dL_law_848 : decode cL_law 848 = .ok (.iload 4, 2) := fdg (k := 816) (p := 32) hdk_816 dLb_22.2.2.2.2.2.2.2.2.2.2.2.2.2.2.2.2.2.2.2.2.2.2.1
theorem dL_law_850 : decode cL_law 850 = .ok (.iconst 2, 1) := fdg (k := 816) (p := 34) hdk_816 dLb_22.2.2.2.2.2.2.2.2.2.2.2.2.2.2.2.2.2.2.2.2.2.2.2.1
theorem dL_law_851 : decode cL_law 851 = .ok (.iadd, 1) := fdg (k := 816) (p := 35) hdk_816 dLb_22.2.2.2.2.2.2.2.2.2.2.2.2.2.2.2.2.2.2.2.2.2.2.2.2.1
theorem dL_law_852 : decode cL_law 852 = .ok (.iaload, 1) := fdg (k := 816) (p := 36) hdk_816 dLb_22.2.2.2.2.2.2.2.2.2.2.2.2.2.2.2.2.2.2.2.2.2.2.2.2.2.1
theorem dL_law_853 : decode cL_law 853 = .ok (.aload_n 3, 1) := fdg (k := 816) (p := 37) hdk_816 dLb_22.2.2.2.2.2.2.2.2.2.2.2.2.2.2.2.2.2.2.2.2.2.2.2.2.2.2.1
theorem dL_law_854 : decode cL_law 854 = .ok (.invokestatic 215, 3) := fdg (k := 816) (p := 38) hdk_816 dLb_22.2.2.2.2.2.2.2.2.2.2.2.2.2.2.2.2.2.2.2.2.2.2.2.2.2.2.2.1
theorem dL_law_857 : decode cL_law 857 = .ok (.istore 5, 2) := fdg (k := 816) (p := 41) hdk_816 dLb_22.2.2.2.2.2.2.2.2.2.2.2.2.2.2.2.2.2.2.2.2.2.2.2.2.2.2.2.2.1
theorem dL_law_859 : decode cL_law 859 = .ok (.aload_n 2, 1) := fdg (k := 816) (p := 43) hdk_816 dLb_22.2.2.2.2.2.2.2.2.2.2.2.2.2.2.2.2.2.2.2.2.2.2.2.2.2.2.2.2.2.1
theorem dL_law_860 : decode cL_law 860 = .ok (.aload_n 0, 1) := fdg (k := 816) (p := 44) hdk_816 dLb_22.2.2.2.2.2.2.2.2.2.2.2.2.2.2.2.2.2.2.2.2.2.2.2.2.2.2.2.2.2.2.1
theorem dL_law_861 : decode cL_law 861 = .ok (.iload 4, 2) := fdg (k := 816) (p := 45) hdk_816 dLb_22.2.2.2.2.2.2.2.2.2.2.2.2.2.2.2.2.2.2.2.2.2.2.2.2.2.2.2.2.2.2.2
theorem dLb_23 : fdq dk_816 47 (.iconst 1) 1 = true := by decide +kernel
theorem dL_law_863 : decode cL_law 863 = .ok (.iconst 1, 1) := fdg (k := 816) (p := 47) hdk_816 dLb_23
theorem dLb_24 : fdq dk_864 0 (.iadd) 1 = true ∧ fdq dk_864 1 (.iaload) 1 = true ∧ fdq dk_864 2 (.aload_n 0) 1 = true ∧ fdq dk_864 3 (.iload 4) 2 = true ∧ fdq dk_864 5 (.iconst 2) 1 = true ∧ fdq dk_864 6 (.iadd) 1 = true ∧ fdq dk_864 7 (.iaload) 1 = true ∧ fdq dk_864 8 (.invokevirtual 217) 3 = true ∧ fdq dk_864 11 (.istore 6) 2 = true ∧ fdq dk_864 13 (.goto 1179) 3 = true ∧ fdq dk_864 16 (.aload_n 1) 1 = true ∧ fdq dk_864 17 (.aload_n 0) 1 = true ∧ fdq dk_864 18 (.iload 4) 2 = true ∧ fdq dk_864 20 (.iconst 1) 1 = true ∧ fdq dk_864 21 (.iadd) 1 = true ∧ fdq dk_864 22 (.iaload) 1 = true ∧ fdq dk_864 23 (.aload_n 0) 1 = true ∧ fdq dk_864 24 (.iload 4) 2 = true ∧ fdq dk_864 26 (.iconst 2) 1 = true ∧ fdq dk_864 27 (.iadd) 1 = true ∧ fdq dk_864 28 (.iaload) 1 = true ∧ fdq dk_864 29 (.aload_n 3) 1 = true ∧ fdq dk_864 30 (.invokestatic 218) 3 = true ∧ fdq dk_864 33 (.istore 5) 2 = true ∧ fdq dk_864 35 (.aload_n 2) 1 = true ∧ fdq dk_864 36 (.aload_n 0) 1 = true ∧ fdq dk_864 37 (.iload 4) 2 = true ∧ fdq dk_864 39 (.iconst 1) 1 = true ∧ fdq dk_864 40 (.iadd) 1 = true ∧ fdq dk_864 41 (.iaload) 1 = true ∧ fdq dk_864 42 (.aload_n 0) 1 = true ∧ fdq dk_864 43 (.iload 4) 2 = true := by decide +kernel
theorem dL_law_864 : decode cL_law 864 = .ok (.iadd, 1) := fdg (k := 864) (p := 0) hdk_864 dLb_24.1
theorem dL_law_865 : decode cL_law 865 = .ok (.iaload, 1) := fdg (k := 864) (p := 1) hdk_864 dLb_24.2.1
theorem dL_law_866 : decode cL_law 866 = .ok (.aload_n 0, 1) := fdg (k := 864) (p := 2) hdk_864 dLb_24.2.2.1
theorem dL_law_867 : decode cL_law 867 = .ok (.iload 4, 2) := fdg (k := 864) (p := 3) hdk_864 dLb_24.2.2.2.1
theorem dL_law_869 : decode cL_law 869 = .ok (.iconst 2, 1) := fdg (k := 864) (p := 5) hdk_864 dLb_24.2.2.2.2.1
theorem dL_law_870 : decode cL_law 870 = .ok (.iadd, 1) := fdg (k := 864) (p := 6) hdk_864 dLb_24.2.2.2.2.2.1
theorem dL_law_871 : decode cL_law 871 = .ok (.iaload, 1) := fdg (k := 864) (p := 7) hdk_864 dLb_24.2.2.2.2.2.2.1
theorem dL_law_872 : decode cL_law 872 = .ok (.invokevirtual 217, 3) := fdg (k := 864) (p := 8) hdk_864 dLb_24.2.2.2.2.2.2.2.1
theorem dL_law_875 : decode cL_law 875 = .ok (.istore 6, 2) := fdg (k := 864) (p := 11) hdk_864 dLb_24.2.2.2.2.2.2.2.2.1
theorem dL_law_877 : decode cL_law 877 = .ok (.goto 1179, 3) := fdg (k := 864) (p := 13) hdk_864 dLb_24.2.2.2.2.2.2.2.2.2.1
theorem dL_law_880 : decode cL_law 880 = .ok (.aload_n 1, 1) := fdg (k := 864) (p := 16) hdk_864 dLb_24.2.2.2.2.2.2.2.2.2.2.1
theorem dL_law_881 : decode cL_law 881 = .ok (.aload_n 0, 1) := fdg (k := 864) (p := 17) hdk_864 dLb_24.2.2.2.2.2.2.2.2.2.2.2.1
theorem dL_law_882 : decode cL_law 882 = .ok (.iload 4, 2) := fdg (k := 864) (p := 18) hdk_864 dLb_24.2.2.2.2.2.2.2.2.2.2.2.2.1
theorem dL_law_884 : decode cL_law 884 = .ok (.iconst 1, 1) := fdg (k := 864) (p := 20) hdk_864 dLb_24.2.2.2.2.2.2.2.2.2.2.2.2.2.1
theorem dL_law_885 : decode cL_law 885 = .ok (.iadd, 1) := fdg (k := 864) (p := 21) hdk_864 dLb_24.2.2.2.2.2.2.2.2.2.2.2.2.2.2.1
theorem dL_law_886 : decode cL_law 886 = .ok (.iaload, 1) := fdg (k := 864) (p := 22) hdk_864 dLb_24.2.2.2.2.2.2.2.2.2.2.2.2.2.2.2.1
theorem dL_law_887 : decode cL_law 887 = .ok (.aload_n 0, 1) := fdg (k := 864) (p := 23) hdk_864 dLb_24.2.2.2.2.2.2.2.2.2.2.2.2.2.2.2.2.1
theorem dL_law_888 : decode cL_law 888 = .ok (.iload 4, 2) := fdg (k := 864) (p := 24) hdk_864 dLb_24.2.2.2.2.2.2.2.2.2.2.2.2.2.2.2.2.2.1
theorem dL_law_890 : decode cL_law 890 = .ok (.iconst 2, 1) := fdg (k := 864) (p := 26) hdk_864 dLb_24.2.2.2.2.2.2.2.2.2.2.2.2.2.2.2.2.2.2.1
theorem dL_law_891 : decode cL_law 891 = .ok (.iadd, 1) := fdg (k := 864) (p := 27) hdk_864 dLb_24.2.2.2.2.2.2.2.2.2.2.2.2.2.2.2.2.2.2.2.1
theorem dL_law_892 : decode cL_law 892 = .ok (.iaload, 1) := fdg (k := 864) (p := 28) hdk_864 dLb_24.2.2.2.2.2.2.2.2.2.2.2.2.2.2.2.2.2.2.2.2.1
theorem dL_law_893 : decode cL_law 893 = .ok (.aload_n 3, 1) := fdg (k := 864) (p := 29) hdk_864 dLb_24.2.2.2.2.2.2.2.2.2.2.2.2.2.2.2.2.2.2.2.2.2.1
theorem dL_law_894 : decode cL_law 894 = .ok (.invokestatic 218, 3) := fdg (k := 864) (p := 30) hdk_864 dLb_24.2.2.2.2.2.2.2.2.2.2.2.2.2.2.2.2.2.2.2.2.2.2.1
theorem dL_law_897 : decode cL_law 897 = .ok (.istore 5, 2) := fdg (k := 864) (p := 33) hdk_864 dLb_24.2.2.2.2.2.2.2.2.2.2.2.2.2.2.2.2.2.2.2.2.2.2.2.1
theorem dL_law_899 : decode cL_law 899 = .ok (.aload_n 2, 1) := fdg (k := 864) (p := 35) hdk_864 dLb_24.2.2.2.2.2.2.2.2.2.2.2.2.2.2.2.2.2.2.2.2.2.2.2.2.1
theorem dL_law_900 : decode cL_law 900 = .ok (.aload_n 0, 1) := fdg (k := 864) (p := 36) hdk_864 dLb_24.2.2.2.2.2.2.2.2.2.2.2.2.2.2.2.2.2.2.2.2.2.2.2.2.2.1
theorem dL_law_901 : decode cL_law 901 = .ok (.iload 4, 2) := fdg (k := 864) (p := 37) hdk_864 dLb_24.2.2.2.2.2.2.2.2.2.2.2.2.2.2.2.2.2.2.2.2.2.2.2.2.2.2.1
theorem dL_law_903 : decode cL_law 903 = .ok (.iconst 1, 1) := fdg (k := 864) (p := 39) hdk_864 dLb_24.2.2.2.2.2.2.2.2.2.2.2.2.2.2.2.2.2.2.2.2.2.2.2.2.2.2.2.1
theorem dL_law_904 : decode cL_law 904 = .ok (.iadd, 1) := fdg (k := 864) (p := 40) hdk_864 dLb_24.2.2.2.2.2.2.2.2.2.2.2.2.2.2.2.2.2.2.2.2.2.2.2.2.2.2.2.2.1
theorem dL_law_905 : decode cL_law 905 = .ok (.iaload, 1) := fdg (k := 864) (p := 41) hdk_864 dLb_24.2.2.2.2.2.2.2.2.2.2.2.2.2.2.2.2.2.2.2.2.2.2.2.2.2.2.2.2.2.1
theorem dL_law_906 : decode cL_law 906 = .ok (.aload_n 0, 1) := fdg (k := 864) (p := 42) hdk_864 dLb_24.2.2.2.2.2.2.2.2.2.2.2.2.2.2.2.2.2.2.2.2.2.2.2.2.2.2.2.2.2.2.1
theorem dL_law_907 : decode cL_law 907 = .ok (.iload 4, 2) := fdg (k := 864) (p := 43) hdk_864 dLb_24.2.2.2.2.2.2.2.2.2.2.2.2.2.2.2.2.2.2.2.2.2.2.2.2.2.2.2.2.2.2.2
theorem dLb_25 : fdq dk_864 45 (.iconst 2) 1 = true ∧ fdq dk_864 46 (.iadd) 1 = true ∧ fdq dk_864 47 (.iaload) 1 = true := by decide +kernel
theorem dL_law_909 : decode cL_law 909 = .ok (.iconst 2, 1) := fdg (k := 864) (p := 45) hdk_864 dLb_25.1
theorem dL_law_910 : decode cL_law 910 = .ok (.iadd, 1) := fdg (k := 864) (p := 46) hdk_864 dLb_25.2.1
theorem dL_law_911 : decode cL_law 911 = .ok (.iaload, 1) := fdg (k := 864) (p := 47) hdk_864 dLb_25.2.2
theorem dLb_26 : fdq dk_912 0 (.invokevirtual 220) 3 = true ∧ fdq dk_912 3 (.istore 6) 2 = true ∧ fdq dk_912 5 (.goto 1139) 3 = true ∧ fdq dk_912 8 (.aload_n 1) 1 = true ∧ fdq dk_912 9 (.aload_n 0) 1 = true ∧ fdq dk_912 10 (.iload 4) 2 = true ∧ fdq dk_912 12 (.iconst 1) 1 = true ∧ fdq dk_912 13 (.iadd) 1 = true ∧ fdq dk_912 14 (.iaload) 1 = true ∧ fdq dk_912 15 (.aload_n 0) 1 = true ∧ fdq dk_912 16 (.iload 4) 2 = true ∧ fdq dk_912 18 (.iconst 2) 1 = true ∧ fdq dk_912 19 (.iadd) 1 = true ∧ fdq dk_912 20 (.iaload) 1 = true ∧ fdq dk_912 21 (.aload_n 3) 1 = true ∧ fdq dk_912 22 (.invokestatic 221) 3 = true ∧ fdq dk_912 25 (.istore 5) 2 = true ∧ fdq dk_912 27 (.aload_n 2) 1 = true ∧ fdq dk_912 28 (.aload_n 0) 1 = true ∧ fdq dk_912 29 (.iload 4) 2 = true ∧ fdq dk_912 31 (.iconst 1) 1 = true ∧ fdq dk_912 32 (.iadd) 1 = true ∧ fdq dk_912 33 (.iaload) 1 = true ∧ fdq dk_912 34 (.aload_n 0) 1 = true ∧ fdq dk_912 35 (.iload 4) 2 = true ∧ fdq dk_912 37 (.iconst 2) 1 = true ∧ fdq dk_912 38 (.iadd) 1 = true ∧ fdq dk_912 39 (.iaload) 1 = true ∧ fdq dk_912 40 (.invokevirtual 223) 3 = true ∧ fdq dk_912 43 (.istore 6) 2 = true ∧ fdq dk_912 45 (.goto 1099) 3 = true := by decide +kernel
theorem dL_law_912 : decode cL_law 912 = .ok (.invokevirtual 220, 3) := fdg (k := 912) (p := 0) hdk_912 dLb_26.1
theorem dL_law_915 : decode cL_law 915 = .ok (.istore 6, 2) := fdg (k := 912) (p := 3) hdk_912 dLb_26.2.1
theorem dL_law_917 : decode cL_law 917 = .ok (.goto 1139, 3) := fdg (k := 912) (p := 5) hdk_912 dLb_26.2.2.1
theorem dL_law_920 : decode cL_law 920 = .ok (.aload_n 1, 1) := fdg (k := 912) (p := 8) hdk_912 dLb_26.2.2.2.1
theorem dL_law_921 : decode cL_law 921 = .ok (.aload_n 0, 1) := fdg (k := 912) (p := 9) hdk_912 dLb_26.2.2.2.2.1
theorem dL_law_922 : decode cL_law 922 = .ok (.iload 4, 2) := fdg (k := 912) (p := 10) hdk_912 dLb_26.2.2.2.2.2.1
theorem dL_law_924 : decode cL_law 924 = .ok (.iconst 1, 1) := fdg (k := 912) (p := 12) hdk_912 dLb_26.2.2.2.2.2.2.1
theorem dL_law_925 : decode cL_law 925 = .ok (.iadd, 1) := fdg (k := 912) (p := 13) hdk_912 dLb_26.2.2.2.2.2.2.2.1
theorem dL_law_926 : decode cL_law 926 = .ok (.iaload, 1) := fdg (k := 912) (p := 14) hdk_912 dLb_26.2.2.2.2.2.2.2.2.1
theorem dL_law_927 : decode cL_law 927 = .ok (.aload_n 0, 1) := fdg (k := 912) (p := 15) hdk_912 dLb_26.2.2.2.2.2.2.2.2.2.1
theorem dL_law_928 : decode cL_law 928 = .ok (.iload 4, 2) := fdg (k := 912) (p := 16) hdk_912 dLb_26.2.2.2.2.2.2.2.2.2.2.1
theorem dL_law_930 : decode cL_law 930 = .ok (.iconst 2, 1) := fdg (k := 912) (p := 18) hdk_912 dLb_26.2.2.2.2.2.2.2.2.2.2.2.1
theorem dL_law_931 : decode cL_law 931 = .ok (.iadd, 1) := fdg (k := 912) (p := 19) hdk_912 dLb_26.2.2.2.2.2.2.2.2.2.2.2.2.1
theorem dL_law_932 : decode cL_law 932 = .ok (.iaload, 1) := fdg (k := 912) (p := 20) hdk_912 dLb_26.2.2.2.2.2.2.2.2.2.2.2.2.2.1
theorem dL_law_933 : decode cL_law 933 = .ok (.aload_n 3, 1) := fdg (k := 912) (p := 21) hdk_912 dLb_26.2.2.2.2.2.2.2.2.2.2.2.2.2.2.1
theorem dL_law_934 : decode cL_law 934 = .ok (.invokestatic 221, 3) := fdg (k := 912) (p := 22) hdk_912 dLb_26.2.2.2.2.2.2.2.2.2.2.2.2.2.2.2.1
theorem dL_law_937 : decode cL_law 937 = .ok (.istore 5, 2) := fdg (k := 912) (p := 25) hdk_912 dLb_26.2.2.2.2.2.2.2.2.2.2.2.2.2.2.2.2.1
theorem dL_law_939 : decode cL_law 939 = .ok (.aload_n 2, 1) := fdg (k := 912) (p := 27) hdk_912 dLb_26.2.2.2.2.2.2.2.2.2.2.2.2.2.2.2.2.2.1
theorem dL_law_940 : decode cL_law 940 = .ok (.aload_n 0, 1) := fdg (k := 912) (p := 28) hdk_912 dLb_26.2.2.2.2.2.2.2.2.2.2.2.2.2.2.2.2.2.2.1
theorem dL_law_941 : decode cL_law 941 = .ok (.iload 4, 2) := fdg (k := 912) (p := 29) hdk_912 dLb_26.2.2.2.2.2.2.2.2.2.2.2.2.2.2.2.2.2.2.2.1
theorem dL_law_943 : decode cL_law 943 = .ok (.iconst 1, 1) := fdg (k := 912) (p := 31) hdk_912 dLb_26.2.2.2.2.2.2.2.2.2.2.2.2.2.2.2.2.2.2.2.2.1
theorem dL_law_944 : decode cL_law 944 = .ok (.iadd, 1) := fdg (k := 912) (p := 32) hdk_912 dLb_26.2.2.2.2.2.2.2.2.2.2.2.2.2.2.2.2.2.2.2.2.2.1
theorem dL_law_945 : decode cL_law 945 = .ok (.iaload, 1) := fdg (k := 912) (p := 33) hdk_912 dLb_26.2.2.2.2.2.2.2.2.2.2.2.2.2.2.2.2.2.2.2.2.2.2.1
theorem dL_law_946 : decode cL_law 946 = .ok (.aload_n 0, 1) := fdg (k := 912) (p := 34) hdk_912 dLb_26.2.2.2.2.2.2.2.2.2.2.2.2.2.2.2.2.2.2.2.2.2.2.2.1
theorem dL_law_947 : decode cL_law 947 = .ok (.iload 4, 2) := fdg (k := 912) (p := 35) hdk_912 dLb_26.2.2.2.2.2.2.2.2.2.2.2.2.2.2.2.2.2.2.2.2.2.2.2.2.1
theorem dL_law_949 : decode cL_law 949 = .ok (.iconst 2, 1) := fdg (k := 912) (p := 37) hdk_912 dLb_26.2.2.2.2.2.2.2.2.2.2.2.2.2.2.2.2.2.2.2.2.2.2.2.2.2.1
theorem dL_law_950 : decode cL_law 950 = .ok (.iadd, 1) := fdg (k := 912) (p := 38) hdk_912 dLb_26.2.2.2.2.2.2.2.2.2.2.2.2.2.2.2.2.2.2.2.2.2.2.2.2.2.2.1
theorem dL_law_951 : decode cL_law 951 = .ok (.iaload, 1) := fdg (k := 912) (p := 39) hdk_912 dLb_26.2.2.2.2.2.2.2.2.2.2.2.2.2.2.2.2.2.2.2.2.2.2.2.2.2.2.2.1
theorem dL_law_952 : decode cL_law 952 = .ok (.invokevirtual 223, 3) := fdg (k := 912) (p := 40) hdk_912 dLb_26.2.2.2.2.2.2.2.2.2.2.2.2.2.2.2.2.2.2.2.2.2.2.2.2.2.2.2.2.1
theorem dL_law_955 : decode cL_law 955 = .ok (.istore 6, 2) := fdg (k := 912) (p := 43) hdk_912 dLb_26.2.2.2.2.2.2.2.2.2.2.2.2.2.2.2.2.2.2.2.2.2.2.2.2.2.2.2.2.2.1
theorem dL_law_957 : decode cL_law 957 = .ok (.goto 1099, 3) := fdg (k := 912) (p := 45) hdk_912 dLb_26.2.2.2.2.2.2.2.2.2.2.2.2.2.2.2.2.2.2.2.2.2.2.2.2.2.2.2.2.2.2
theorem dLb_27 : fdq dk_960 0 (.aload_n 1) 1 = true ∧ fdq dk_960 1 (.aload_n 0) 1 = true ∧ fdq dk_960 2 (.iload 4) 2 = true ∧ fdq dk_960 4 (.iconst 1) 1 = true ∧ fdq dk_960 5 (.iadd) 1 = true ∧ fdq dk_960 6 (.iaload) 1 = true ∧ fdq dk_960 7 (.aload_n 3) 1 = true ∧ fdq dk_960 8 (.invokestatic 224) 3 = true ∧ fdq dk_960 11 (.istore 5) 2 = true ∧ fdq dk_960 13 (.aload_n 2) 1 = true ∧ fdq dk_960 14 (.aload_n 0) 1 = true ∧ fdq dk_960 15 (.iload 4) 2 = true ∧ fdq dk_960 17 (.iconst 1) 1 = true ∧ fdq dk_960 18 (.iadd) 1 = true ∧ fdq dk_960 19 (.iaload) 1 = true ∧ fdq dk_960 20 (.invokevirtual 226) 3 = true ∧ fdq dk_960 23 (.istore 6) 2 = true ∧ fdq dk_960 25 (.goto 1071) 3 = true ∧ fdq dk_960 28 (.aload_n 1) 1 = true ∧ fdq dk_960 29 (.aload_n 0) 1 = true ∧ fdq dk_960 30 (.iload 4) 2 = true ∧ fdq dk_960 32 (.iconst 1) 1 = true ∧ fdq dk_960 33 (.iadd) 1 = true ∧ fdq dk_960 34 (.iaload) 1 = true ∧ fdq dk_960 35 (.aload_n 0) 1 = true ∧ fdq dk_960 36 (.iload 4) 2 = true ∧ fdq dk_960 38 (.iconst 2) 1 = true ∧ fdq dk_960 39 (.iadd) 1 = true ∧ fdq dk_960 40 (.iaload) 1 = true ∧ fdq dk_960 41 (.aload_n 0) 1 = true ∧ fdq dk_960 42 (.iload 4) 2 = true ∧ fdq dk_960 44 (.iconst 3) 1 = true := by decide +kernel
theorem dL_law_960 : decode cL_law 960 = .ok (.aload_n 1, 1) := fdg (k := 960) (p := 0) hdk_960 dLb_27.1
theorem dL_law_961 : decode cL_law 961 = .ok (.aload_n 0, 1) := fdg (k := 960) (p := 1) hdk_960 dLb_27.2.1
theorem dL_law_962 : decode cL_law 962 = .ok (.iload 4, 2) := fdg (k := 960) (p := 2) hdk_960 dLb_27.2.2.1
theorem dL_law_964 : decode cL_law 964 = .ok (.iconst 1, 1) := fdg (k := 960) (p := 4) hdk_960 dLb_27.2.2.2.1
theorem dL_law_965 : decode cL_law 965 = .ok (.iadd, 1) := fdg (k := 960) (p := 5) hdk_960 dLb_27.2.2.2.2.1
theorem dL_law_966 : decode cL_law 966 = .ok (.iaload, 1) := fdg (k := 960) (p := 6) hdk_960 dLb_27.2.2.2.2.2.1
theorem dL_law_967 : decode cL_law 967 = .ok (.aload_n 3, 1) := fdg (k := 960) (p := 7) hdk_960 dLb_27.2.2.2.2.2.2.1
theorem dL_law_968 : decode cL_law 968 = .ok (.invokestatic 224, 3) := fdg (k := 960) (p := 8) hdk_960 dLb_27.2.2.2.2.2.2.2.1
theorem dL_law_971 : decode cL_law 971 = .ok (.istore 5, 2) := fdg (k := 960) (p := 11) hdk_960 dLb_27.2.2.2.2.2.2.2.2.1
theorem dL_law_973 : decode cL_law 973 = .ok (.aload_n 2, 1) := fdg (k := 960) (p := 13) hdk_960 dLb_27.2.2.2.2.2.2.2.2.2.1
theorem dL_law_974 : decode cL_law 974 = .ok (.aload_n 0, 1) := fdg (k := 960) (p := 14) hdk_960 dLb_27.2.2.2.2.2.2.2.2.2.2.1
theorem dL_law_975 : decode cL_law 975 = .ok (.iload 4, 2) := fdg (k := 960) (p := 15) hdk_960 dLb_27.2.2.2.2.2.2.2.2.2.2.2.1
theorem dL_law_977 : decode cL_law 977 = .ok (.iconst 1, 1) := fdg (k := 960) (p := 17) hdk_960 dLb_27.2.2.2.2.2.2.2.2.2.2.2.2.1
theorem dL_law_978 : decode cL_law 978 = .ok (.iadd, 1) := fdg (k := 960) (p := 18) hdk_960 dLb_27.2.2.2.2.2.2.2.2.2.2.2.2.2.1
theorem dL_law_979 : decode cL_law 979 = .ok (.iaload, 1) := fdg (k := 960) (p := 19) hdk_960 dLb_27.2.2.2.2.2.2.2.2.2.2.2.2.2.2.1
theorem dL_law_980 : decode cL_law 980 = .ok (.invokevirtual 226, 3) := fdg (k := 960) (p := 20) hdk_960 dLb_27.2.2.2.2.2.2.2.2.2.2.2.2.2.2.2.1
theorem dL_law_983 : decode cL_law 983 = .ok (.istore 6, 2) := fdg (k := 960) (p := 23) hdk_960 dLb_27.2.2.2.2.2.2.2.2.2.2.2.2.2.2.2.2.1
theorem dL_law_985 : decode cL_law 985 = .ok (.goto 1071, 3) := fdg (k := 960) (p := 25) hdk_960 dLb_27.2.2.2.2.2.2.2.2.2.2.2.2.2.2.2.2.2.1
theorem dL_law_988 : decode cL_law 988 = .ok (.aload_n 1, 1) := fdg (k := 960) (p := 28) hdk_960 dLb_27.2.2.2.2.2.2.2.2.2.2.2.2.2.2.2.2.2.2.1
theorem dL_law_989 : decode cL_law 989 = .ok (.aload_n 0, 1) := fdg (k := 960) (p := 29) hdk_960 dLb_27.2.2.2.2.2.2.2.2.2.2.2.2.2.2.2.2.2.2.2.1
theorem dL_law_990 : decode cL_law 990 = .ok (.iload 4, 2) := fdg (k := 960) (p := 30) hdk_960 dLb_27.2.2.2.2.2.2.2.2.2.2.2.2.2.2.2.2.2.2.2.2.1
theorem dL_law_992 : decode cL_law 992 = .ok (.iconst 1, 1) := fdg (k := 960) (p := 32) hdk_960 dLb_27.2.2.2.2.2.2.2.2.2.2.2.2.2.2.2.2.2.2.2.2.2.1
theorem dL_law_993 : decode cL_law 993 = .ok (.iadd, 1) := fdg (k := 960) (p := 33) hdk_960 dLb_27.2.2.2.2.2.2.2.2.2.2.2.2.2.2.2.2.2.2.2.2.2.2.1
theorem dL_law_994 : decode cL_law 994 = .ok (.iaload, 1) := fdg (k := 960) (p := 34) hdk_960 dLb_27.2.2.2.2.2.2.2.2.2.2.2.2.2.2.2.2.2.2.2.2.2.2.2.1
theorem dL_law_995 : decode cL_law 995 = .ok (.aload_n 0, 1) := fdg (k := 960) (p := 35) hdk_960 dLb_27.2.2.2.2.2.2.2.2.2.2.2.2.2.2.2.2.2.2.2.2.2.2.2.2.1
theorem dL_law_996 : decode cL_law 996 = .ok (.iload 4, 2) := fdg (k := 960) (p := 36) hdk_960 dLb_27.2.2.2.2.2.2.2.2.2.2.2.2.2.2.2.2.2.2.2.2.2.2.2.2.2.1
theorem dL_law_998 : decode cL_law 998 = .ok (.iconst 2, 1) := fdg (k := 960) (p := 38) hdk_960 dLb_27.2.2.2.2.2.2.2.2.2.2.2.2.2.2.2.2.2.2.2.2.2.2.2.2.2.2.1
theorem dL_law_999 : decode cL_law 999 = .ok (.iadd, 1) := fdg (k := 960) (p := 39) hdk_960 dLb_27.2.2.2.2.2.2.2.2.2.2.2.2.2.2.2.2.2.2.2.2.2.2.2.2.2.2.2.1
theorem dL_law_1000 : decode cL_law 1000 = .ok (.iaload, 1) := fdg (k := 960) (p := 40) hdk_960 dLb_27.2.2.2.2.2.2.2.2.2.2.2.2.2.2.2.2.2.2.2.2.2.2.2.2.2.2.2.2.1
theorem dL_law_1001 : decode cL_law 1001 = .ok (.aload_n 0, 1) := fdg (k := 960) (p := 41) hdk_960 dLb_27.2.2.2.2.2.2.2.2.2.2.2.2.2.2.2.2.2.2.2.2.2.2.2.2.2.2.2.2.2.1
theorem dL_law_1002 : decode cL_law 1002 = .ok (.iload 4, 2) := fdg (k := 960) (p := 42) hdk_960 dLb_27.2.2.2.2.2.2.2.2.2.2.2.2.2.2.2.2.2.2.2.2.2.2.2.2.2.2.2.2.2.2.1
theorem dL_law_1004 : decode cL_law 1004 = .ok (.iconst 3, 1) := fdg (k := 960) (p := 44) hdk_960 dLb_27.2.2.2.2.2.2.2.2.2.2.2.2.2.2.2.2.2.2.2.2.2.2.2.2.2.2.2.2.2.2.2
theorem dLb_28 : fdq dk_960 45 (.iadd) 1 = true ∧ fdq dk_960 46 (.iaload) 1 = true ∧ fdq dk_960 47 (.aload_n 0) 1 = true := by decide +kernel
theorem dL_law_1005 : decode cL_law 1005 = .ok (.iadd, 1) := fdg (k := 960) (p := 45) hdk_960 dLb_28.1
theorem dL_law_1006 : decode cL_law 1006 = .ok (.iaload, 1) := fdg (k := 960) (p := 46) hdk_960 dLb_28.2.1
theorem dL_law_1007 : decode cL_law 1007 = .ok (.aload_n 0, 1) := fdg (k := 960) (p := 47) hdk_960 dLb_28.2.2
theorem dLb_29 : fdq dk_1008 0 (.iload 4) 2 = true ∧ fdq dk_1008 2 (.iconst 4) 1 = true ∧ fdq dk_1008 3 (.iadd) 1 = true ∧ fdq dk_1008 4 (.iaload) 1 = true ∧ fdq dk_1008 5 (.ifCond .eq 7) 3 = true ∧ fdq dk_1008 8 (.iconst 1) 1 = true ∧ fdq dk_1008 9 (.goto 4) 3 = true ∧ fdq dk_1008 12 (.iconst 0) 1 = true ∧ fdq dk_1008 13 (.aload_n 3) 1 = true ∧ fdq dk_1008 14 (.invokestatic 227) 3 = true ∧ fdq dk_1008 17 (.istore 5) 2 = true ∧ fdq dk_1008 19 (.aload_n 2) 1 = true ∧ fdq dk_1008 20 (.aload_n 0) 1 = true ∧ fdq dk_1008 21 (.iload 4) 2 = true ∧ fdq dk_1008 23 (.iconst 1) 1 = true ∧ fdq dk_1008 24 (.iadd) 1 = true ∧ fdq dk_1008 25 (.iaload) 1 = true ∧ fdq dk_1008 26 (.aload_n 0) 1 = true ∧ fdq dk_1008 27 (.iload 4) 2 = true ∧ fdq dk_1008 29 (.iconst 2) 1 = true ∧ fdq dk_1008 30 (.iadd) 1 = true ∧ fdq dk_1008 31 (.iaload) 1 = true ∧ fdq dk_1008 32 (.aload_n 0) 1 = true ∧ fdq dk_1008 33 (.iload 4) 2 = true ∧ fdq dk_1008 35 (.iconst 3) 1 = true ∧ fdq dk_1008 36 (.iadd) 1 = true ∧ fdq dk_1008 37 (.iaload) 1 = true ∧ fdq dk_1008 38 (.aload_n 0) 1 = true ∧ fdq dk_1008 39 (.iload 4) 2 = true ∧ fdq dk_1008 41 (.iconst 4) 1 = true ∧ fdq dk_1008 42 (.iadd) 1 = true ∧ fdq dk_1008 43 (.iaload) 1 = true := by decide +kernel
theorem dL_law_1008 : decode cL_law 1008 = .ok (.iload 4, 2) := fdg (k := 1008) (p := 0) hdk_1008 dLb_29.1
theorem dL_law_1010 : decode cL_law 1010 = .ok (.iconst 4, 1) := fdg (k := 1008) (p := 2) hdk_1008 dLb_29.2.1
theorem dL_law_1011 : decode cL_law 1011 = .ok (.iadd, 1) := fdg (k := 1008) (p := 3) hdk_1008 dLb_29.2.2.1
theorem dL_law_1012 : decode cL_law 1012 = .ok (.iaload, 1) := fdg (k := 1008) (p := 4) hdk_1008 dLb_29.2.2.2.1
theorem dL_law_1013 : decode cL_law 1013 = .ok (.ifCond .eq 7, 3) := fdg (k := 1008) (p := 5) hdk_1008 dLb_29.2.2.2.2.1
theorem dL_law_1016 : decode cL_law 1016 = .ok (.iconst 1, 1) := fdg (k := 1008) (p := 8) hdk_1008 dLb_29.2.2.2.2.2.1
theorem dL_law_1017 : decode cL_law 1017 = .ok (.goto 4, 3) := fdg (k := 1008) (p := 9) hdk_1008 dLb_29.2.2.2.2.2.2.1
theorem dL_law_1020 : decode cL_law 1020 = .ok (.iconst 0, 1) := fdg (k := 1008) (p := 12) hdk_1008 dLb_29.2.2.2.2.2.2.2.1
theorem dL_law_1021 : decode cL_law 1021 = .ok (.aload_n 3, 1) := fdg (k := 1008) (p := 13) hdk_1008 dLb_29.2.2.2.2.2.2.2.2.1
theorem dL_law_1022 : decode cL_law 1022 = .ok (.invokestatic 227, 3) := fdg (k := 1008) (p := 14) hdk_1008 dLb_29.2.2.2.2.2.2.2.2.2.1
theorem dL_law_1025 : decode cL_law 1025 = .ok (.istore 5, 2) := fdg (k := 1008) (p := 17) hdk_1008 dLb_29.2.2.2.2.2.2.2.2.2.2.1
theorem dL_law_1027 : decode cL_law 1027 = .ok (.aload_n 2, 1) := fdg (k := 1008) (p := 19) hdk_1008 dLb_29.2.2.2.2.2.2.2.2.2.2.2.1
theorem dL_law_1028 : decode cL_law 1028 = .ok (.aload_n 0, 1) := fdg (k := 1008) (p := 20) hdk_1008 dLb_29.2.2.2.2.2.2.2.2.2.2.2.2.1
theorem dL_law_1029 : decode cL_law 1029 = .ok (.iload 4, 2) := fdg (k := 1008) (p := 21) hdk_1008 dLb_29.2.2.2.2.2.2.2.2.2.2.2.2.2.1
theorem dL_law_1031 : decode cL_law 1031 = .ok (.iconst 1, 1) := fdg (k := 1008) (p := 23) hdk_1008 dLb_29.2.2.2.2.2.2.2.2.2.2.2.2.2.2.1
theorem dL_law_1032 : decode cL_law 1032 = .ok (.iadd, 1) := fdg (k := 1008) (p := 24) hdk_1008 dLb_29.2.2.2.2.2.2.2.2.2.2.2.2.2.2.2.1
theorem dL_law_1033 : decode cL_law 1033 = .ok (.iaload, 1) := fdg (k := 1008) (p := 25) hdk_1008 dLb_29.2.2.2.2.2.2.2.2.2.2.2.2.2.2.2.2.1
theorem dL_law_1034 : decode cL_law 1034 = .ok (.aload_n 0, 1) := fdg (k := 1008) (p := 26) hdk_1008 dLb_29.2.2.2.2.2.2.2.2.2.2.2.2.2.2.2.2.2.1
theorem dL_law_1035 : decode cL_law 1035 = .ok (.iload 4, 2) := fdg (k := 1008) (p := 27) hdk_1008 dLb_29.2.2.2.2.2.2.2.2.2.2.2.2.2.2.2.2.2.2.1
theorem dL_law_1037 : decode cL_law 1037 = .ok (.iconst 2, 1) := fdg (k := 1008) (p := 29) hdk_1008 dLb_29.2.2.2.2.2.2.2.2.2.2.2.2.2.2.2.2.2.2.2.1
theorem dL_law_1038 : decode cL_law 1038 = .ok (.iadd, 1) := fdg (k := 1008) (p := 30) hdk_1008 dLb_29.2.2.2.2.2.2.2.2.2.2.2.2.2.2.2.2.2.2.2.2.1
theorem dL_law_1039 : decode cL_law 1039 = .ok (.iaload, 1) := fdg (k := 1008) (p := 31) hdk_1008 dLb_29.2.2.2.2.2.2.2.2.2.2.2.2.2.2.2.2.2.2.2.2.2.1
theorem dL_law_1040 : decode cL_law 1040 = .ok (.aload_n 0, 1) := fdg (k := 1008) (p := 32) hdk_1008 dLb_29.2.2.2.2.2.2.2.2.2.2.2.2.2.2.2.2.2.2.2.2.2.2.1
theorem dL_law_1041 : decode cL_law 1041 = .ok (.iload 4, 2) := fdg (k := 1008) (p := 33) hdk_1008 dLb_29.2.2.2.2.2.2.2.2.2.2.2.2.2.2.2.2.2.2.2.2.2.2.2.1
theorem dL_law_1043 : decode cL_law 1043 = .ok (.iconst 3, 1) := fdg (k := 1008) (p := 35) hdk_1008 dLb_29.2.2.2.2.2.2.2.2.2.2.2.2.2.2.2.2.2.2.2.2.2.2.2.2.1
theorem dL_law_1044 : decode cL_law 1044 = .ok (.iadd, 1) := fdg (k := 1008) (p := 36) hdk_1008 dLb_29.2.2.2.2.2.2.2.2.2.2.2.2.2.2.2.2.2.2.2.2.2.2.2.2.2.1
theorem dL_law_1045 : decode cL_law 1045 = .ok (.iaload, 1) := fdg (k := 1008) (p := 37) hdk_1008 dLb_29.2.2.2.2.2.2.2.2.2.2.2.2.2.2.2.2.2.2.2.2.2.2.2.2.2.2.1
theorem dL_law_1046 : decode cL_law 1046 = .ok (.aload_n 0, 1) := fdg (k := 1008) (p := 38) hdk_1008 dLb_29.2.2.2.2.2.2.2.2.2.2.2.2.2.2.2.2.2.2.2.2.2.2.2.2.2.2.2.1
theorem dL_law_1047 : decode cL_law 1047 = .ok (.iload 4, 2) := fdg (k := 1008) (p := 39) hdk_1008 dLb_29.2.2.2.2.2.2.2.2.2.2.2.2.2.2.2.2.2.2.2.2.2.2.2.2.2.2.2.2.1
theorem dL_law_1049 : decode cL_law 1049 = .ok (.iconst 4, 1) := fdg (k := 1008) (p := 41) hdk_1008 dLb_29.2.2.2.2.2.2.2.2.2.2.2.2.2.2.2.2.2.2.2.2.2.2.2.2.2.2.2.2.2.1
theorem dL_law_1050 : decode cL_law 1050 = .ok (.iadd, 1) := fdg (k := 1008) (p := 42) hdk_1008 dLb_29.2.2.2.2.2.2.2.2.2.2.2.2.2.2.2.2.2.2.2.2.2.2.2.2.2.2.2.2.2.2.1
theorem dL_law_1051 : decode cL_law 1051 = .ok (.iaload, 1) := fdg (k := 1008) (p := 43) hdk_1008 dLb_29.2.2.2.2.2.2.2.2.2.2.2.2.2.2.2.2.2.2.2.2.2.2.2.2.2.2.2.2.2.2.2
theorem dLb_30 : fdq dk_1008 44 (.ifCond .eq 7) 3 = true ∧ fdq dk_1008 47 (.iconst 1) 1 = true := by decide +kernel
theorem dL_law_1052 : decode cL_law 1052 = .ok (.ifCond .eq 7, 3) := fdg (k := 1008) (p := 44) hdk_1008 dLb_30.1
theorem dL_law_1055 : decode cL_law 1055 = .ok (.iconst 1, 1) := fdg (k := 1008) (p := 47) hdk_1008 dLb_30.2
theorem dLb_31 : fdq dk_1056 0 (.goto 4) 3 = true ∧ fdq dk_1056 3 (.iconst 0) 1 = true ∧ fdq dk_1056 4 (.invokevirtual 230) 3 = true ∧ fdq dk_1056 7 (.astore 6) 2 = true ∧ fdq dk_1056 9 (.goto 991) 3 = true ∧ fdq dk_1056 12 (.aload_n 1) 1 = true ∧ fdq dk_1056 13 (.aload_n 0) 1 = true ∧ fdq dk_1056 14 (.iload 4) 2 = true ∧ fdq dk_1056 16 (.iconst 1) 1 = true ∧ fdq dk_1056 17 (.iadd) 1 = true ∧ fdq dk_1056 18 (.iaload) 1 = true ∧ fdq dk_1056 19 (.aload_n 3) 1 = true ∧ fdq dk_1056 20 (.invokestatic 231) 3 = true ∧ fdq dk_1056 23 (.istore 5) 2 = true ∧ fdq dk_1056 25 (.aload_n 2) 1 = true ∧ fdq dk_1056 26 (.aload_n 0) 1 = true ∧ fdq dk_1056 27 (.iload 4) 2 = true ∧ fdq dk_1056 29 (.iconst 1) 1 = true ∧ fdq dk_1056 30 (.iadd) 1 = true ∧ fdq dk_1056 31 (.iaload) 1 = true ∧ fdq dk_1056 32 (.invokevirtual 233) 3 = true ∧ fdq dk_1056 35 (.istore 6) 2 = true ∧ fdq dk_1056 37 (.goto 963) 3 = true ∧ fdq dk_1056 40 (.aload_n 1) 1 = true ∧ fdq dk_1056 41 (.aload_n 0) 1 = true ∧ fdq dk_1056 42 (.iload 4) 2 = true ∧ fdq dk_1056 44 (.iconst 1) 1 = true ∧ fdq dk_1056 45 (.iadd) 1 = true ∧ fdq dk_1056 46 (.iaload) 1 = true ∧ fdq dk_1056 47 (.aload_n 0) 1 = true := by decide +kernel
theorem dL_law_1056 : decode cL_law 1056 = .ok (.goto 4, 3) := fdg (k := 1056) (p := 0) hdk_1056 dLb_31.1
theorem dL_law_1059 : decode cL_law 1059 = .ok (.iconst 0, 1) := fdg (k := 1056) (p := 3) hdk_1056 dLb_31.2.1
theorem dL_law_1060 : decode cL_law 1060 = .ok (.invokevirtual 230, 3) := fdg (k := 1056) (p := 4) hdk_1056 dLb_31.2.2.1
theorem dL_law_1063 : decode cL_law 1063 = .ok (.astore 6, 2) := fdg (k := 1056) (p := 7) hdk_1056 dLb_31.2.2.2.1
theorem dL_law_1065 : decode cL_law 1065 = .ok (.goto 991, 3) := fdg (k := 1056) (p := 9) hdk_1056 dLb_31.2.2.2.2.1
theorem dL_law_1068 : decode cL_law 1068 = .ok (.aload_n 1, 1) := fdg (k := 1056) (p := 12) hdk_1056 dLb_31.2.2.2.2.2.1
theorem dL_law_1069 : decode cL_law 1069 = .ok (.aload_n 0, 1) := fdg (k := 1056) (p := 13) hdk_1056 dLb_31.2.2.2.2.2.2.1
theorem dL_law_1070 : decode cL_law 1070 = .ok (.iload 4, 2) := fdg (k := 1056) (p := 14) hdk_1056 dLb_31.2.2.2.2.2.2.2.1
theorem dL_law_1072 : decode cL_law 1072 = .ok (.iconst 1, 1) := fdg (k := 1056) (p := 16) hdk_1056 dLb_31.2.2.2.2.2.2.2.2.1
theorem dL_law_1073 : decode cL_law 1073 = .ok (.iadd, 1) := fdg (k := 1056) (p := 17) hdk_1056 dLb_31.2.2.2.2.2.2.2.2.2.1
theorem dL_law_1074 : decode cL_law 1074 = .ok (.iaload, 1) := fdg (k := 1056) (p := 18) hdk_1056 dLb_31.2.2.2.2.2.2.2.2.2.2.1
theorem dL_law_1075 : decode cL_law 1075 = .ok (.aload_n 3, 1) := fdg (k := 1056) (p := 19) hdk_1056 dLb_31.2.2.2.2.2.2.2.2.2.2.2.1
theorem dL_law_1076 : decode cL_law 1076 = .ok (.invokestatic 231, 3) := fdg (k := 1056) (p := 20) hdk_1056 dLb_31.2.2.2.2.2.2.2.2.2.2.2.2.1
theorem dL_law_1079 : decode cL_law 1079 = .ok (.istore 5, 2) := fdg (k := 1056) (p := 23) hdk_1056 dLb_31.2.2.2.2.2.2.2.2.2.2.2.2.2.1
theorem dL_law_1081 : decode cL_law 1081 = .ok (.aload_n 2, 1) := fdg (k := 1056) (p := 25) hdk_1056 dLb_31.2.2.2.2.2.2.2.2.2.2.2.2.2.2.1
theorem dL_law_1082 : decode cL_law 1082 = .ok (.aload_n 0, 1) := fdg (k := 1056) (p := 26) hdk_1056 dLb_31.2.2.2.2.2.2.2.2.2.2.2.2.2.2.2.1
theorem dL_law_1083 : decode cL_law 1083 = .ok (.iload 4, 2) := fdg (k := 1056) (p := 27) hdk_1056 dLb_31.2.2.2.2.2.2.2.2.2.2.2.2.2.2.2.2.1
theorem dL_law_1085 : decode cL_law 1085 = .ok (.iconst 1, 1) := fdg (k := 1056) (p := 29) hdk_1056 dLb_31.2.2.2.2.2.2.2.2.2.2.2.2.2.2.2.2.2.1
theorem dL_law_1086 : decode cL_law 1086 = .ok (.iadd, 1) := fdg (k := 1056) (p := 30) hdk_1056 dLb_31.2.2.2.2.2.2.2.2.2.2.2.2.2.2.2.2.2.2.1
theorem dL_law_1087 : decode cL_law 1087 = .ok (.iaload, 1) := fdg (k := 1056) (p := 31) hdk_1056 dLb_31.2.2.2.2.2.2.2.2.2.2.2.2.2.2.2.2.2.2.2.1
theorem dL_law_1088 : decode cL_law 1088 = .ok (.invokevirtual 233, 3) := fdg (k := 1056) (p := 32) hdk_1056 dLb_31.2.2.2.2.2.2.2.2.2.2.2.2.2.2.2.2.2.2.2.2.1
theorem dL_law_1091 : decode cL_law 1091 = .ok (.istore 6, 2) := fdg (k := 1056) (p := 35) hdk_1056 dLb_31.2.2.2.2.2.2.2.2.2.2.2.2.2.2.2.2.2.2.2.2.2.1
theorem dL_law_1093 : decode cL_law 1093 = .ok (.goto 963, 3) := fdg (k := 1056) (p := 37) hdk_1056 dLb_31.2.2.2.2.2.2.2.2.2.2.2.2.2.2.2.2.2.2.2.2.2.2.1
theorem dL_law_1096 : decode cL_law 1096 = .ok (.aload_n 1, 1) := fdg (k := 1056) (p := 40) hdk_1056 dLb_31.2.2.2.2.2.2.2.2.2.2.2.2.2.2.2.2.2.2.2.2.2.2.2.1
theorem dL_law_1097 : decode cL_law 1097 = .ok (.aload_n 0, 1) := fdg (k := 1056) (p := 41) hdk_1056 dLb_31.2.2.2.2.2.2.2.2.2.2.2.2.2.2.2.2.2.2.2.2.2.2.2.2.1
theorem dL_law_1098 : decode cL_law 1098 = .ok (.iload 4, 2) := fdg (k := 1056) (p := 42) hdk_1056 dLb_31.2.2.2.2.2.2.2.2.2.2.2.2.2.2.2.2.2.2.2.2.2.2.2.2.2.1
theorem dL_law_1100 : decode cL_law 1100 = .ok (.iconst 1, 1) := fdg (k := 1056) (p := 44) hdk_1056 dLb_31.2.2.2.2.2.2.2.2.2.2.2.2.2.2.2.2.2.2.2.2.2.2.2.2.2.2.1
theorem dL_law_1101 : decode cL_law 1101 = .ok (.iadd, 1) := fdg (k := 1056) (p := 45) hdk_1056 dLb_31.2.2.2.2.2.2.2.2.2.2.2.2.2.2.2.2.2.2.2.2.2.2.2.2.2.2.2.1
theorem dL_law_1102 : decode cL_law 1102 = .ok (.iaload, 1) := fdg (k := 1056) (p := 46) hdk_1056 dLb_31.2.2.2.2.2.2.2.2.2.2.2.2.2.2.2.2.2.2.2.2.2.2.2.2.2.2.2.2.1
theorem dL_law_1103 : decode cL_law 1103 = .ok (.aload_n 0, 1) := fdg (k := 1056) (p := 47) hdk_1056 dLb_31.2.2.2.2.2.2.2.2.2.2.2.2.2.2.2.2.2.2.2.2.2.2.2.2.2.2.2.2.2
theorem dLb_32 : fdq dk_1104 0 (.iload 4) 2 = true ∧ fdq dk_1104 2 (.iconst 2) 1 = true ∧ fdq dk_1104 3 (.iadd) 1 = true ∧ fdq dk_1104 4 (.iaload) 1 = true ∧ fdq dk_1104 5 (.aload_n 0) 1 = true ∧ fdq dk_1104 6 (.iload 4) 2 = true ∧ fdq dk_1104 8 (.iconst 3) 1 = true ∧ fdq dk_1104 9 (.iadd) 1 = true ∧ fdq dk_1104 10 (.iaload) 1 = true ∧ fdq dk_1104 11 (.aload_n 0) 1 = true ∧ fdq dk_1104 12 (.iload 4) 2 = true ∧ fdq dk_1104 14 (.iconst 4) 1 = true ∧ fdq dk_1104 15 (.iadd) 1 = true ∧ fdq dk_1104 16 (.iaload) 1 = true ∧ fdq dk_1104 17 (.aload_n 0) 1 = true ∧ fdq dk_1104 18 (.iload 4) 2 = true ∧ fdq dk_1104 20 (.iconst 5) 1 = true ∧ fdq dk_1104 21 (.iadd) 1 = true ∧ fdq dk_1104 22 (.iaload) 1 = true ∧ fdq dk_1104 23 (.ifCond .eq 7) 3 = true ∧ fdq dk_1104 26 (.iconst 1) 1 = true ∧ fdq dk_1104 27 (.goto 4) 3 = true ∧ fdq dk_1104 30 (.iconst 0) 1 = true ∧ fdq dk_1104 31 (.aload_n 3) 1 = true ∧ fdq dk_1104 32 (.invokestatic 234) 3 = true ∧ fdq dk_1104 35 (.istore 5) 2 = true ∧ fdq dk_1104 37 (.aload_n 2) 1 = true ∧ fdq dk_1104 38 (.aload_n 0) 1 = true ∧ fdq dk_1104 39 (.iload 4) 2 = true ∧ fdq dk_1104 41 (.iconst 1) 1 = true ∧ fdq dk_1104 42 (.iadd) 1 = true ∧ fdq dk_1104 43 (.iaload) 1 = true := by decide +kernel
theorem dL_law_1104 : decode cL_law 1104 = .ok (.iload 4, 2) := fdg (k := 1104) (p := 0) hdk_1104 dLb_32.1
theorem dL_law_1106 : decode cL_law 1106 = .ok (.iconst 2, 1) := fdg (k := 1104) (p := 2) hdk_1104 dLb_32.2.1
theorem dL_law_1107 : decode cL_law 1107 = .ok (.iadd, 1) := fdg (k := 1104) (p := 3) hdk_1104 dLb_32.2.2.1
theorem dL_law_1108 : decode cL_law 1108 = .ok (.iaload, 1) := fdg (k := 1104) (p := 4) hdk_1104 dLb_32.2.2.2.1
theorem dL_law_1109 : decode cL_law 1109 = .ok (.aload_n 0, 1) := fdg (k := 1104) (p := 5) hdk_1104 dLb_32.2.2.2.2.1
theorem dL_law_1110 : decode cL_law 1110 = .ok (.iload 4, 2) := fdg (k := 1104) (p := 6) hdk_1104 dLb_32.2.2.2.2.2.1
theorem dL_law_1112 : decode cL_law 1112 = .ok (.iconst 3, 1) := fdg (k := 1104) (p := 8) hdk_1104 dLb_32.2.2.2.2.2.2.1
theorem dL_law_1113 : decode cL_law 1113 = .ok (.iadd, 1) := fdg (k := 1104) (p := 9) hdk_1104 dLb_32.2.2.2.2.2.2.2.1
theorem dL_law_1114 : decode cL_law 1114 = .ok (.iaload, 1) := fdg (k := 1104) (p := 10) hdk_1104 dLb_32.2.2.2.2.2.2.2.2.1
theorem dL_law_1115 : decode cL_law 1115 = .ok (.aload_n 0, 1) := fdg (k := 1104) (p := 11) hdk_1104 dLb_32.2.2.2.2.2.2.2.2.2.1
theorem dL_law_1116 : decode cL_law 1116 = .ok (.iload 4, 2) := fdg (k := 1104) (p := 12) hdk_1104 dLb_32.2.2.2.2.2.2.2.2.2.2.1
theorem dL_law_1118 : decode cL_law 1118 = .ok (.iconst 4, 1) := fdg (k := 1104) (p := 14) hdk_1104 dLb_32.2.2.2.2.2.2.2.2.2.2.2.1
theorem dL_law_1119 : decode cL_law 1119 = .ok (.iadd, 1) := fdg (k := 1104) (p := 15) hdk_1104 dLb_32.2.2.2.2.2.2.2.2.2.2.2.2.1
theorem dL_law_1120 : decode cL_law 1120 = .ok (.iaload, 1) := fdg (k := 1104) (p := 16) hdk_1104 dLb_32.2.2.2.2.2.2.2.2.2.2.2.2.2.1
theorem dL_law_1121 : decode cL_law 1121 = .ok (.aload_n 0, 1) := fdg (k := 1104) (p := 17) hdk_1104 dLb_32.2.2.2.2.2.2.2.2.2.2.2.2.2.2.1
theorem dL_law_1122 : decode cL_law 1122 = .ok (.iload 4, 2) := fdg (k := 1104) (p := 18) hdk_1104 dLb_32.2.2.2.2.2.2.2.2.2.2.2.2.2.2.2.1
theorem dL_law_1124 : decode cL_law 1124 = .ok (.iconst 5, 1) := fdg (k := 1104) (p := 20) hdk_1104 dLb_32.2.2.2.2.2.2.2.2.2.2.2.2.2.2.2.2.1
theorem dL_law_1125 : decode cL_law 1125 = .ok (.iadd, 1) := fdg (k := 1104) (p := 21) hdk_1104 dLb_32.2.2.2.2.2.2.2.2.2.2.2.2.2.2.2.2.2.1
theorem dL_law_1126 : decode cL_law 1126 = .ok (.iaload, 1) := fdg (k := 1104) (p := 22) hdk_1104 dLb_32.2.2.2.2.2.2.2.2.2.2.2.2.2.2.2.2.2.2.1
theorem dL_law_1127 : decode cL_law 1127 = .ok (.ifCond .eq 7, 3) := fdg (k := 1104) (p := 23) hdk_1104 dLb_32.2.2.2.2.2.2.2.2.2.2.2.2.2.2.2.2.2.2.2.1
theorem dL_law_1130 : decode cL_law 1130 = .ok (.iconst 1, 1) := fdg (k := 1104) (p := 26) hdk_1104 dLb_32.2.2.2.2.2.2.2.2.2.2.2.2.2.2.2.2.2.2.2.2.1
theorem dL_law_1131 : decode cL_law 1131 = .ok (.goto 4, 3) := fdg (k := 1104) (p := 27) hdk_1104 dLb_32.2.2.2.2.2.2.2.2.2.2.2.2.2.2.2.2.2.2.2.2.2.1
theorem dL_law_1134 : decode cL_law 1134 = .ok (.iconst 0, 1) := fdg (k := 1104) (p := 30) hdk_1104 dLb_32.2.2.2.2.2.2.2.2.2.2.2.2.2.2.2.2.2.2.2.2.2.2.1
theorem dL_law_1135 : decode cL_law 1135 = .ok (.aload_n 3, 1) := fdg (k := 1104) (p := 31) hdk_1104 dLb_32.2.2.2.2.2.2.2.2.2.2.2.2.2.2.2.2.2.2.2.2.2.2.2.1
theorem dL_law_1136 : decode cL_law 1136 = .ok (.invokestatic 234, 3) := fdg (k := 1104) (p := 32) hdk_1104 dLb_32.2.2.2.2.2.2.2.2.2.2.2.2.2.2.2.2.2.2.2.2.2.2.2.2.1
theorem dL_law_1139 : decode cL_law 1139 = .ok (.istore 5, 2) := fdg (k := 1104) (p := 35) hdk_1104 dLb_32.2.2.2.2.2.2.2.2.2.2.2.2.2.2.2.2.2.2.2.2.2.2.2.2.2.1
theorem dL_law_1141 : decode cL_law 1141 = .ok (.aload_n 2, 1) := fdg (k := 1104) (p := 37) hdk_1104 dLb_32.2.2.2.2.2.2.2.2.2.2.2.2.2.2.2.2.2.2.2.2.2.2.2.2.2.2.1
theorem dL_law_1142 : decode cL_law 1142 = .ok (.aload_n 0, 1) := fdg (k := 1104) (p := 38) hdk_1104 dLb_32.2.2.2.2.2.2.2.2.2.2.2.2.2.2.2.2.2.2.2.2.2.2.2.2.2.2.2.1
theorem dL_law_1143 : decode cL_law 1143 = .ok (.iload 4, 2) := fdg (k := 1104) (p := 39) hdk_1104 dLb_32.2.2.2.2.2.2.2.2.2.2.2.2.2.2.2.2.2.2.2.2.2.2.2.2.2.2.2.2.1
theorem dL_law_1145 : decode cL_law 1145 = .ok (.iconst 1, 1) := fdg (k := 1104) (p := 41) hdk_1104 dLb_32.2.2.2.2.2.2.2.2.2.2.2.2.2.2.2.2.2.2.2.2.2.2.2.2.2.2.2.2.2.1
theorem dL_law_1146 : decode cL_law 1146 = .ok (.iadd, 1) := fdg (k := 1104) (p := 42) hdk_1104 dLb_32.2.2.2.2.2.2.2.2.2.2.2.2.2.2.2.2.2.2.2.2.2.2.2.2.2.2.2.2.2.2.1
theorem dL_law_1147 : decode cL_law 1147 = .ok (.iaload, 1) := fdg (k := 1104) (p := 43) hdk_1104 dLb_32.2.2.2.2.2.2.2.2.2.2.2.2.2.2.2.2.2.2.2.2.2.2.2.2.2.2.2.2.2.2.2
theorem dLb_33 : fdq dk_1104 44 (.aload_n 0) 1 = true ∧ fdq dk_1104 45 (.iload 4) 2 = true ∧ fdq dk_1104 47 (.iconst 2) 1 = true := by decide +kernel
theorem dL_law_1148 : decode cL_law 1148 = .ok (.aload_n 0, 1) := fdg (k := 1104) (p := 44) hdk_1104 dLb_33.1
theorem dL_law_1149 : decode cL_law 1149 = .ok (.iload 4, 2) := fdg (k := 1104) (p := 45) hdk_1104 dLb_33.2.1
theorem dL_law_1151 : decode cL_law 1151 = .ok (.iconst 2, 1) := fdg (k := 1104) (p := 47) hdk_1104 dLb_33.2.2
theorem dLb_34 : fdq dk_1152 0 (.iadd) 1 = true ∧ fdq dk_1152 1 (.iaload) 1 = true ∧ fdq dk_1152 2 (.aload_n 0) 1 = true ∧ fdq dk_1152 3 (.iload 4) 2 = true ∧ fdq dk_1152 5 (.iconst 3) 1 = true ∧ fdq dk_1152 6 (.iadd) 1 = true ∧ fdq dk_1152 7 (.iaload) 1 = true ∧ fdq dk_1152 8 (.aload_n 0) 1 = true ∧ fdq dk_1152 9 (.iload 4) 2 = true ∧ fdq dk_1152 11 (.iconst 4) 1 = true ∧ fdq dk_1152 12 (.iadd) 1 = true ∧ fdq dk_1152 13 (.iaload) 1 = true ∧ fdq dk_1152 14 (.aload_n 0) 1 = true ∧ fdq dk_1152 15 (.iload 4) 2 = true ∧ fdq dk_1152 17 (.iconst 5) 1 = true ∧ fdq dk_1152 18 (.iadd) 1 = true ∧ fdq dk_1152 19 (.iaload) 1 = true ∧ fdq dk_1152 20 (.ifCond .eq 7) 3 = true ∧ fdq dk_1152 23 (.iconst 1) 1 = true ∧ fdq dk_1152 24 (.goto 4) 3 = true ∧ fdq dk_1152 27 (.iconst 0) 1 = true ∧ fdq dk_1152 28 (.invokevirtual 237) 3 = true ∧ fdq dk_1152 31 (.istore 6) 2 = true ∧ fdq dk_1152 33 (.goto 871) 3 = true ∧ fdq dk_1152 36 (.aload_n 1) 1 = true ∧ fdq dk_1152 37 (.aload_n 0) 1 = true ∧ fdq dk_1152 38 (.iload 4) 2 = true ∧ fdq dk_1152 40 (.iconst 1) 1 = true ∧ fdq dk_1152 41 (.iadd) 1 = true ∧ fdq dk_1152 42 (.iaload) 1 = true ∧ fdq dk_1152 43 (.aload_n 0) 1 = true ∧ fdq dk_1152 44 (.iload 4) 2 = true := by decide +kernel
theorem dL_law_1152 : decode cL_law 1152 = .ok (.iadd, 1) := fdg (k := 1152) (p := 0) hdk_1152 dLb_34.1
theorem dL_law_1153 : decode cL_law 1153 = .ok (.iaload, 1) := fdg (k := 1152) (p := 1) hdk_1152 dLb_34.2.1
theorem dL_law_1154 : decode cL_law 1154 = .ok (.aload_n 0, 1) := fdg (k := 1152) (p := 2) hdk_1152 dLb_34.2.2.1
theorem dL_law_1155 : decode cL_law 1155 = .ok (.iload 4, 2) := fdg (k := 1152) (p := 3) hdk_1152 dLb_34.2.2.2.1
theorem dL_law_1157 : decode cL_law 1157 = .ok (.iconst 3, 1) := fdg (k := 1152) (p := 5) hdk_1152 dLb_34.2.2.2.2.1
theorem dL_law_1158 : decode cL_law 1158 = .ok (.iadd, 1) := fdg (k := 1152) (p := 6) hdk_1152 dLb_34.2.2.2.2.2.1
theorem dL_law_1159 : decode cL_law 1159 = .ok (.iaload, 1) := fdg (k := 1152) (p := 7) hdk_1152 dLb_34.2.2.2.2.2.2.1
theorem dL_law_1160 : decode cL_law 1160 = .ok (.aload_n 0, 1) := fdg (k := 1152) (p := 8) hdk_1152 dLb_34.2.2.2.2.2.2.2.1
theorem dL_law_1161 : decode cL_law 1161 = .ok (.iload 4, 2) := fdg (k := 1152) (p := 9) hdk_1152 dLb_34.2.2.2.2.2.2.2.2.1
theorem dL_law_1163 : decode cL_law 1163 = .ok (.iconst 4, 1) := fdg (k := 1152) (p := 11) hdk_1152 dLb_34.2.2.2.2.2.2.2.2.2.1
theorem dL_law_1164 : decode cL_law 1164 = .ok (.iadd, 1) := fdg (k := 1152) (p := 12) hdk_1152 dLb_34.2.2.2.2.2.2.2.2.2.2.1
theorem dL_law_1165 : decode cL_law 1165 = .ok (.iaload, 1) := fdg (k := 1152) (p := 13) hdk_1152 dLb_34.2.2.2.2.2.2.2.2.2.2.2.1
theorem dL_law_1166 : decode cL_law 1166 = .ok (.aload_n 0, 1) := fdg (k := 1152) (p := 14) hdk_1152 dLb_34.2.2.2.2.2.2.2.2.2.2.2.2.1
theorem dL_law_1167 : decode cL_law 1167 = .ok (.iload 4, 2) := fdg (k := 1152) (p := 15) hdk_1152 dLb_34.2.2.2.2.2.2.2.2.2.2.2.2.2.1
theorem dL_law_1169 : decode cL_law 1169 = .ok (.iconst 5, 1) := fdg (k := 1152) (p := 17) hdk_1152 dLb_34.2.2.2.2.2.2.2.2.2.2.2.2.2.2.1
theorem dL_law_1170 : decode cL_law 1170 = .ok (.iadd, 1) := fdg (k := 1152) (p := 18) hdk_1152 dLb_34.2.2.2.2.2.2.2.2.2.2.2.2.2.2.2.1
theorem dL_law_1171 : decode cL_law 1171 = .ok (.iaload, 1) := fdg (k := 1152) (p := 19) hdk_1152 dLb_34.2.2.2.2.2.2.2.2.2.2.2.2.2.2.2.2.1
theorem dL_law_1172 : decode cL_law 1172 = .ok (.ifCond .eq 7, 3) := fdg (k := 1152) (p := 20) hdk_1152 dLb_34.2.2.2.2.2.2.2.2.2.2.2.2.2.2.2.2.2.1
theorem dL_law_1175 : decode cL_law 1175 = .ok (.iconst 1, 1) := fdg (k := 1152) (p := 23) hdk_1152 dLb_34.2.2.2.2.2.2.2.2.2.2.2.2.2.2.2.2.2.2.1
theorem dL_law_1176 : decode cL_law 1176 = .ok (.goto 4, 3) := fdg (k := 1152) (p := 24) hdk_1152 dLb_34.2.2.2.2.2.2.2.2.2.2.2.2.2.2.2.2.2.2.2.1
theorem dL_law_1179 : decode cL_law 1179 = .ok (.iconst 0, 1) := fdg (k := 1152) (p := 27) hdk_1152 dLb_34.2.2.2.2.2.2.2.2.2.2.2.2.2.2.2.2.2.2.2.2.1
theorem dL_law_1180 : decode cL_law 1180 = .ok (.invokevirtual 237, 3) := fdg (k := 1152) (p := 28) hdk_1152 dLb_34.2.2.2.2.2.2.2.2.2.2.2.2.2.2.2.2.2.2.2.2.2.1
theorem dL_law_1183 : decode cL_law 1183 = .ok (.istore 6, 2) := fdg (k := 1152) (p := 31) hdk_1152 dLb_34.2.2.2.2.2.2.2.2.2.2.2.2.2.2.2.2.2.2.2.2.2.2.1
theorem dL_law_1185 : decode cL_law 1185 = .ok (.goto 871, 3) := fdg (k := 1152) (p := 33) hdk_1152 dLb_34.2.2.2.2.2.2.2.2.2.2.2.2.2.2.2.2.2.2.2.2.2.2.2.1
theorem dL_law_1188 : decode cL_law 1188 = .ok (.aload_n 1, 1) := fdg (k := 1152) (p := 36) hdk_1152 dLb_34.2.2.2.2.2.2.2.2.2.2.2.2.2.2.2.2.2.2.2.2.2.2.2.2.1
theorem dL_law_1189 : decode cL_law 1189 = .ok (.aload_n 0, 1) := fdg (k := 1152) (p := 37) hdk_1152 dLb_34.2.2.2.2.2.2.2.2.2.2.2.2.2.2.2.2.2.2.2.2.2.2.2.2.2.1
theorem dL_law_1190 : decode cL_law 1190 = .ok (.iload 4, 2) := fdg (k := 1152) (p := 38) hdk_1152 dLb_34.2.2.2.2.2.2.2.2.2.2.2.2.2.2.2.2.2.2.2.2.2.2.2.2.2.2.1
theorem dL_law_1192 : decode cL_law 1192 = .ok (.iconst 1, 1) := fdg (k := 1152) (p := 40) hdk_1152 dLb_34.2.2.2.2.2.2.2.2.2.2.2.2.2.2.2.2.2.2.2.2.2.2.2.2.2.2.2.1
theorem dL_law_1193 : decode cL_law 1193 = .ok (.iadd, 1) := fdg (k := 1152) (p := 41) hdk_1152 dLb_34.2.2.2.2.2.2.2.2.2.2.2.2.2.2.2.2.2.2.2.2.2.2.2.2.2.2.2.2.1
theorem dL_law_1194 : decode cL_law 1194 = .ok (.iaload, 1) := fdg (k := 1152) (p := 42) hdk_1152 dLb_34.2.2.2.2.2.2.2.2.2.2.2.2.2.2.2.2.2.2.2.2.2.2.2.2.2.2.2.2.2.1
theorem dL_law_1195 : decode cL_law 1195 = .ok (.aload_n 0, 1) := fdg (k := 1152) (p := 43) hdk_1152 dLb_34.2.2.2.2.2.2.2.2.2.2.2.2.2.2.2.2.2.2.2.2.2.2.2.2.2.2.2.2.2.2.1
theorem dL_law_1196 : decode cL_law 1196 = .ok (.iload 4, 2) := fdg (k := 1152) (p := 44) hdk_1152 dLb_34.2.2.2.2.2.2.2.2.2.2.2.2.2.2.2.2.2.2.2.2.2.2.2.2.2.2.2.2.2.2.2
theorem dLb_35 : fdq dk_1152 46 (.iconst 2) 1 = true ∧ fdq dk_1152 47 (.iadd) 1 = true := by decide +kernel
theorem dL_law_1198 : decode cL_law 1198 = .ok (.iconst 2, 1) := fdg (k := 1152) (p := 46) hdk_1152 dLb_35.1
theorem dL_law_1199 : decode cL_law 1199 = .ok (.iadd, 1) := fdg (k := 1152) (p := 47) hdk_1152 dLb_35.2
theorem dLb_36 : fdq dk_1200 0 (.iaload) 1 = true ∧ fdq dk_1200 1 (.aload_n 0) 1 = true ∧ fdq dk_1200 2 (.iload 4) 2 = true ∧ fdq dk_1200 4 (.iconst 3) 1 = true ∧ fdq dk_1200 5 (.iadd) 1 = true ∧ fdq dk_1200 6 (.iaload) 1 = true ∧ fdq dk_1200 7 (.aload_n 3) 1 = true ∧ fdq dk_1200 8 (.invokestatic 238) 3 = true ∧ fdq dk_1200 11 (.istore 5) 2 = true ∧ fdq dk_1200 13 (.aload_n 2) 1 = true ∧ fdq dk_1200 14 (.aload_n 0) 1 = true ∧ fdq dk_1200 15 (.iload 4) 2 = true ∧ fdq dk_1200 17 (.iconst 1) 1 = true ∧ fdq dk_1200 18 (.iadd) 1 = true ∧ fdq dk_1200 19 (.iaload) 1 = true ∧ fdq dk_1200 20 (.aload_n 0) 1 = true ∧ fdq dk_1200 21 (.iload 4) 2 = true ∧ fdq dk_1200 23 (.iconst 2) 1 = true ∧ fdq dk_1200 24 (.iadd) 1 = true ∧ fdq dk_1200 25 (.iaload) 1 = true ∧ fdq dk_1200 26 (.aload_n 0) 1 = true ∧ fdq dk_1200 27 (.iload 4) 2 = true ∧ fdq dk_1200 29 (.iconst 3) 1 = true ∧ fdq dk_1200 30 (.iadd) 1 = true ∧ fdq dk_1200 31 (.iaload) 1 = true ∧ fdq dk_1200 32 (.invokevirtual 240) 3 = true ∧ fdq dk_1200 35 (.istore 6) 2 = true ∧ fdq dk_1200 37 (.goto 819) 3 = true ∧ fdq dk_1200 40 (.aload_n 1) 1 = true ∧ fdq dk_1200 41 (.aload_n 0) 1 = true ∧ fdq dk_1200 42 (.iload 4) 2 = true ∧ fdq dk_1200 44 (.iconst 1) 1 = true := by decide +kernel
theorem dL_law_1200 : decode cL_law 1200 = .ok (.iaload, 1) := fdg (k := 1200) (p := 0) hdk_1200 dLb_36.1
theorem dL_law_1201 : decode cL_law 1201 = .ok (.aload_n 0, 1) := fdg (k := 1200) (p := 1) hdk_1200 dLb_36.2.1
theorem dL_law_1202 : decode cL_law 1202 = .ok (.iload 4, 2) := fdg (k := 1200) (p := 2) hdk_1200 dLb_36.2.2.1
theorem dL_law_1204 : decode cL_law 1204 = .ok (.iconst 3, 1) := fdg (k := 1200) (p := 4) hdk_1200 dLb_36.2.2.2.1
theorem dL_law_1205 : decode cL_law 1205 = .ok (.iadd, 1) := fdg (k := 1200) (p := 5) hdk_1200 dLb_36.2.2.2.2.1
theorem dL_law_1206 : decode cL_law 1206 = .ok (.iaload, 1) := fdg (k := 1200) (p := 6) hdk_1200 dLb_36.2.2.2.2.2.1
theorem dL_law_1207 : decode cL_law 1207 = .ok (.aload_n 3, 1) := fdg (k := 1200) (p := 7) hdk_1200 dLb_36.2.2.2.2.2.2.1
theorem dL_law_1208 : decode cL_law 1208 = .ok (.invokestatic 238, 3) := fdg (k := 1200) (p := 8) hdk_1200 dLb_36.2.2.2.2.2.2.2.1
theorem dL_law_1211 : decode cL_law 1211 = .ok (.istore 5, 2) := fdg (k := 1200) (p := 11) hdk_1200 dLb_36.2.2.2.2.2.2.2.2.1
theorem dL_law_1213 : decode cL_law 1213 = .ok (.aload_n 2, 1) := fdg (k := 1200) (p := 13) hdk_1200 dLb_36.2.2.2.2.2.2.2.2.2.1
theorem dL_law_1214 : decode cL_law 1214 = .ok (.aload_n 0, 1) := fdg (k := 1200) (p := 14) hdk_1200 dLb_36.2.2.2.2.2.2.2.2.2.2.1
theorem dL_law_1215 : decode cL_law 1215 = .ok (.iload 4, 2) := fdg (k := 1200) (p := 15) hdk_1200 dLb_36.2.2.2.2.2.2.2.2.2.2.2.1
theorem dL_law_1217 : decode cL_law 1217 = .ok (.iconst 1, 1) := fdg (k := 1200) (p := 17) hdk_1200 dLb_36.2.2.2.2.2.2.2.2.2.2.2.2.1
theorem dL_law_1218 : decode cL_law 1218 = .ok (.iadd, 1) := fdg (k := 1200) (p := 18) hdk_1200 dLb_36.2.2.2.2.2.2.2.2.2.2.2.2.2.1
theorem dL_law_1219 : decode cL_law 1219 = .ok (.iaload, 1) := fdg (k := 1200) (p := 19) hdk_1200 dLb_36.2.2.2.2.2.2.2.2.2.2.2.2.2.2.1
theorem dL_law_1220 : decode cL_law 1220 = .ok (.aload_n 0, 1) := fdg (k := 1200) (p := 20) hdk_1200 dLb_36.2.2.2.2.2.2.2.2.2.2.2.2.2.2.2.1
theorem dL_law_1221 : decode cL_law 1221 = .ok (.iload 4, 2) := fdg (k := 1200) (p := 21) hdk_1200 dLb_36.2.2.2.2.2.2.2.2.2.2.2.2.2.2.2.2.1
theorem dL_law_1223 : decode cL_law 1223 = .ok (.iconst 2, 1) := fdg (k := 1200) (p := 23) hdk_1200 dLb_36.2.2.2.2.2.2.2.2.2.2.2.2.2.2.2.2.2.1
theorem dL_law_1224 : decode cL_law 1224 = .ok (.iadd, 1) := fdg (k := 1200) (p := 24) hdk_1200 dLb_36.2.2.2.2.2.2.2.2.2.2.2.2.2.2.2.2.2.2.1
theorem dL_law_1225 : decode cL_law 1225 = .ok (.iaload, 1) := fdg (k := 1200) (p := 25) hdk_1200 dLb_36.2.2.2.2.2.2.2.2.2.2.2.2.2.2.2.2.2.2.2.1
theorem dL_law_1226 : decode cL_law 1226 = .ok (.aload_n 0, 1) := fdg (k := 1200) (p := 26) hdk_1200 dLb_36.2.2.2.2.2.2.2.2.2.2.2.2.2.2.2.2.2.2.2.2.1
theorem dL_law_1227 : decode cL_law 1227 = .ok (.iload 4, 2) := fdg (k := 1200) (p := 27) hdk_1200 dLb_36.2.2.2.2.2.2.2.2.2.2.2.2.2.2.2.2.2.2.2.2.2.1
theorem dL_law_1229 : decode cL_law 1229 = .ok (.iconst 3, 1) := fdg (k := 1200) (p := 29) hdk_1200 dLb_36.2.2.2.2.2.2.2.2.2.2.2.2.2.2.2.2.2.2.2.2.2.2.1
theorem dL_law_1230 : decode cL_law 1230 = .ok (.iadd, 1) := fdg (k := 1200) (p := 30) hdk_1200 dLb_36.2.2.2.2.2.2.2.2.2.2.2.2.2.2.2.2.2.2.2.2.2.2.2.1
theorem dL_law_1231 : decode cL_law 1231 = .ok (.iaload, 1) := fdg (k := 1200) (p := 31) hdk_1200 dLb_36.2.2.2.2.2.2.2.2.2.2.2.2.2.2.2.2.2.2.2.2.2.2.2.2.1
theorem dL_law_1232 : decode cL_law 1232 = .ok (.invokevirtual 240, 3) := fdg (k := 1200) (p := 32) hdk_1200 dLb_36.2.2.2.2.2.2.2.2.2.2.2.2.2.2.2.2.2.2.2.2.2.2.2.2.2.1
theorem dL_law_1235 : decode cL_law 1235 = .ok (.istore 6, 2) := fdg (k := 1200) (p := 35) hdk_1200 dLb_36.2.2.2.2.2.2.2.2.2.2.2.2.2.2.2.2.2.2.2.2.2.2.2.2.2.2.1
theorem dL_law_1237 : decode cL_law 1237 = .ok (.goto 819, 3) := fdg (k := 1200) (p := 37) hdk_1200 dLb_36.2.2.2.2.2.2.2.2.2.2.2.2.2.2.2.2.2.2.2.2.2.2.2.2.2.2.2.1
theorem dL_law_1240 : decode cL_law 1240 = .ok (.aload_n 1, 1) := fdg (k := 1200) (p := 40) hdk_1200 dLb_36.2.2.2.2.2.2.2.2.2.2.2.2.2.2.2.2.2.2.2.2.2.2.2.2.2.2.2.2.1
theorem dL_law_1241 : decode cL_law 1241 = .ok (.aload_n 0, 1) := fdg (k := 1200) (p := 41) hdk_1200 dLb_36.2.2.2.2.2.2.2.2.2.2.2.2.2.2.2.2.2.2.2.2.2.2.2.2.2.2.2.2.2.1
theorem dL_law_1242 : decode cL_law 1242 = .ok (.iload 4, 2) := fdg (k := 1200) (p := 42) hdk_1200 dLb_36.2.2.2.2.2.2.2.2.2.2.2.2.2.2.2.2.2.2.2.2.2.2.2.2.2.2.2.2.2.2.1
theorem dL_law_1244 : decode cL_law 1244 = .ok (.iconst 1, 1) := fdg (k := 1200) (p := 44) hdk_1200 dLb_36.2.2.2.2.2.2.2.2.2.2.2.2.2.2.2.2.2.2.2.2.2.2.2.2.2.2.2.2.2.2.2
theorem dLb_37 : fdq dk_1200 45 (.iadd) 1 = true ∧ fdq dk_1200 46 (.iaload) 1 = true ∧ fdq dk_1200 47 (.aload_n 0) 1 = true := by decide +kernel
theorem dL_law_1245 : decode cL_law 1245 = .ok (.iadd, 1) := fdg (k := 1200) (p := 45) hdk_1200 dLb_37.1
theorem dL_law_1246 : decode cL_law 1246 = .ok (.iaload, 1) := fdg (k := 1200) (p := 46) hdk_1200 dLb_37.2.1
theorem dL_law_1247 : decode cL_law 1247 = .ok (.aload_n 0, 1) := fdg (k := 1200) (p := 47) hdk_1200 dLb_37.2.2
theorem dLb_38 : fdq dk_1248 0 (.iload 4) 2 = true ∧ fdq dk_1248 2 (.iconst 2) 1 = true ∧ fdq dk_1248 3 (.iadd) 1 = true ∧ fdq dk_1248 4 (.iaload) 1 = true ∧ fdq dk_1248 5 (.aload_n 0) 1 = true ∧ fdq dk_1248 6 (.iload 4) 2 = true ∧ fdq dk_1248 8 (.iconst 3) 1 = true ∧ fdq dk_1248 9 (.iadd) 1 = true ∧ fdq dk_1248 10 (.iaload) 1 = true ∧ fdq dk_1248 11 (.aload_n 3) 1 = true ∧ fdq dk_1248 12 (.invokestatic 241) 3 = true ∧ fdq dk_1248 15 (.istore 5) 2 = true ∧ fdq dk_1248 17 (.aload_n 2) 1 = true ∧ fdq dk_1248 18 (.aload_n 0) 1 = true ∧ fdq dk_1248 19 (.iload 4) 2 = true ∧ fdq dk_1248 21 (.iconst 1) 1 = true ∧ fdq dk_1248 22 (.iadd) 1 = true ∧ fdq dk_1248 23 (.iaload) 1 = true ∧ fdq dk_1248 24 (.aload_n 0) 1 = true ∧ fdq dk_1248 25 (.iload 4) 2 = true ∧ fdq dk_1248 27 (.iconst 2) 1 = true ∧ fdq dk_1248 28 (.iadd) 1 = true ∧ fdq dk_1248 29 (.iaload) 1 = true ∧ fdq dk_1248 30 (.aload_n 0) 1 = true ∧ fdq dk_1248 31 (.iload 4) 2 = true ∧ fdq dk_1248 33 (.iconst 3) 1 = true ∧ fdq dk_1248 34 (.iadd) 1 = true ∧ fdq dk_1248 35 (.iaload) 1 = true ∧ fdq dk_1248 36 (.invokevirtual 243) 3 = true ∧ fdq dk_1248 39 (.istore 6) 2 = true ∧ fdq dk_1248 41 (.goto 767) 3 = true ∧ fdq dk_1248 44 (.aload_n 1) 1 = true := by decide +kernel
theorem dL_law_1248 : decode cL_law 1248 = .ok (.iload 4, 2) := fdg (k := 1248) (p := 0) hdk_1248 dLb_38.1
theorem dL_law_1250 : decode cL_law 1250 = .ok (.iconst 2, 1) := fdg (k := 1248) (p := 2) hdk_1248 dLb_38.2.1
theorem dL_law_1251 : decode cL_law 1251 = .ok (.iadd, 1) := fdg (k := 1248) (p := 3) hdk_1248 dLb_38.2.2.1
theorem dL_law_1252 : decode cL_law 1252 = .ok (.iaload, 1) := fdg (k := 1248) (p := 4) hdk_1248 dLb_38.2.2.2.1
theorem dL_law_1253 : decode cL_law 1253 = .ok (.aload_n 0, 1) := fdg (k := 1248) (p := 5) hdk_1248 dLb_38.2.2.2.2.1
theorem dL_law_1254 : decode cL_law 1254 = .ok (.iload 4, 2) := fdg (k := 1248) (p := 6) hdk_1248 dLb_38.2.2.2.2.2.1
theorem dL_law_1256 : decode cL_law 1256 = .ok (.iconst 3, 1) := fdg (k := 1248) (p := 8) hdk_1248 dLb_38.2.2.2.2.2.2.1
theorem dL_law_1257 : decode cL_law 1257 = .ok (.iadd, 1) := fdg (k := 1248) (p := 9) hdk_1248 dLb_38.2.2.2.2.2.2.2.1
theorem dL_law_1258 : decode cL_law 1258 = .ok (.iaload, 1) := fdg (k := 1248) (p := 10) hdk_1248 dLb_38.2.2.2.2.2.2.2.2.1
theorem dL_law_1259 : decode cL_law 1259 = .ok (.aload_n 3, 1) := fdg (k := 1248) (p := 11) hdk_1248 dLb_38.2.2.2.2.2.2.2.2.2.1
theorem dL_law_1260 : decode cL_law 1260 = .ok (.invokestatic 241, 3) := fdg (k := 1248) (p := 12) hdk_1248 dLb_38.2.2.2.2.2.2.2.2.2.2.1
theorem dL_law_1263 : decode cL_law 1263 = .ok (.istore 5, 2) := fdg (k := 1248) (p := 15) hdk_1248 dLb_38.2.2.2.2.2.2.2.2.2.2.2.1
theorem dL_law_1265 : decode cL_law 1265 = .ok (.aload_n 2, 1) := fdg (k := 1248) (p := 17) hdk_1248 dLb_38.2.2.2.2.2.2.2.2.2.2.2.2.1
theorem dL_law_1266 : decode cL_law 1266 = .ok (.aload_n 0, 1) := fdg (k := 1248) (p := 18) hdk_1248 dLb_38.2.2.2.2.2.2.2.2.2.2.2.2.2.1
theorem dL_law_1267 : decode cL_law 1267 = .ok (.iload 4, 2) := fdg (k := 1248) (p := 19) hdk_1248 dLb_38.2.2.2.2.2.2.2.2.2.2.2.2.2.2.1
theorem dL_law_1269 : decode cL_law 1269 = .ok (.iconst 1, 1) := fdg (k := 1248) (p := 21) hdk_1248 dLb_38.2.2.2.2.2.2.2.2.2.2.2.2.2.2.2.1
theorem dL_law_1270 : decode cL_law 1270 = .ok (.iadd, 1) := fdg (k := 1248) (p := 22) hdk_1248 dLb_38.2.2.2.2.2.2.2.2.2.2.2.2.2.2.2.2.1
theorem dL_law_1271 : decode cL_law 1271 = .ok (.iaload, 1) := fdg (k := 1248) (p := 23) hdk_1248 dLb_38.2.2.2.2.2.2.2.2.2.2.2.2.2.2.2.2.2.1
theorem dL_law_1272 : decode cL_law 1272 = .ok (.aload_n 0, 1) := fdg (k := 1248) (p := 24) hdk_1248 dLb_38.2.2.2.2.2.2.2.2.2.2.2.2.2.2.2.2.2.2.1
theorem dL_law_1273 : decode cL_law 1273 = .ok (.iload 4, 2) := fdg (k := 1248) (p := 25) hdk_1248 dLb_38.2.2.2.2.2.2.2.2.2.2.2.2.2.2.2.2.2.2.2.1
theorem dL_law_1275 : decode cL_law 1275 = .ok (.iconst 2, 1) := fdg (k := 1248) (p := 27) hdk_1248 dLb_38.2.2.2.2.2.2.2.2.2.2.2.2.2.2.2.2.2.2.2.2.1
theorem dL_law_1276 : decode cL_law 1276 = .ok (.iadd, 1) := fdg (k := 1248) (p := 28) hdk_1248 dLb_38.2.2.2.2.2.2.2.2.2.2.2.2.2.2.2.2.2.2.2.2.2.1
theorem dL_law_1277 : decode cL_law 1277 = .ok (.iaload, 1) := fdg (k := 1248) (p := 29) hdk_1248 dLb_38.2.2.2.2.2.2.2.2.2.2.2.2.2.2.2.2.2.2.2.2.2.2.1
theorem dL_law_1278 : decode cL_law 1278 = .ok (.aload_n 0, 1) := fdg (k := 1248) (p := 30) hdk_1248 dLb_38.2.2.2.2.2.2.2.2.2.2.2.2.2.2.2.2.2.2.2.2.2.2.2.1
theorem dL_law_1279 : decode cL_law 1279 = .ok (.iload 4, 2) := fdg (k := 1248) (p := 31) hdk_1248 dLb_38.2.2.2.2.2.2.2.2.2.2.2.2.2.2.2.2.2.2.2.2.2.2.2.2.1
theorem dL_law_1281 : decode cL_law 1281 = .ok (.iconst 3, 1) := fdg (k := 1248) (p := 33) hdk_1248 dLb_38.2.2.2.2.2.2.2.2.2.2.2.2.2.2.2.2.2.2.2.2.2.2.2.2.2.1
theorem dL_law_1282 : decode cL_law 1282 = .ok (.iadd, 1) := fdg (k := 1248) (p := 34) hdk_1248 dLb_38.2.2.2.2.2.2.2.2.2.2.2.2.2.2.2.2.2.2.2.2.2.2.2.2.2.2.1
theorem dL_law_1283 : decode cL_law 1283 = .ok (.iaload, 1) := fdg (k := 1248) (p := 35) hdk_1248 dLb_38.2.2.2.2.2.2.2.2.2.2.2.2.2.2.2.2.2.2.2.2.2.2.2.2.2.2.2.1
theorem dL_law_1284 : decode cL_law 1284 = .ok (.invokevirtual 243, 3) := fdg (k := 1248) (p := 36) hdk_1248 dLb_38.2.2.2.2.2.2.2.2.2.2.2.2.2.2.2.2.2.2.2.2.2.2.2.2.2.2.2.2.1
theorem dL_law_1287 : decode cL_law 1287 = .ok (.istore 6, 2) := fdg (k := 1248) (p := 39) hdk_1248 dLb_38.2.2.2.2.2.2.2.2.2.2.2.2.2.2.2.2.2.2.2.2.2.2.2.2.2.2.2.2.2.1
theorem dL_law_1289 : decode cL_law 1289 = .ok (.goto 767, 3) := fdg (k := 1248) (p := 41) hdk_1248 dLb_38.2.2.2.2.2.2.2.2.2.2.2.2.2.2.2.2.2.2.2.2.2.2.2.2.2.2.2.2.2.2.1
theorem dL_law_1292 : decode cL_law 1292 = .ok (.aload_n 1, 1) := fdg (k := 1248) (p := 44) hdk_1248 dLb_38.2.2.2.2.2.2.2.2.2.2.2.2.2.2.2.2.2.2.2.2.2.2.2.2.2.2.2.2.2.2.2
theorem dLb_39 : fdq dk_1248 45 (.aload_n 0) 1 = true ∧ fdq dk_1248 46 (.iload 4) 2 = true := by decide +kernel
theorem dL_law_1293 : decode cL_law 1293 = .ok (.aload_n 0, 1) := fdg (k := 1248) (p := 45) hdk_1248 dLb_39.1
theorem dL_law_1294 : decode cL_law 1294 = .ok (.iload 4, 2) := fdg (k := 1248) (p := 46) hdk_1248 dLb_39.2
theorem dLb_40 : fdq dk_1296 0 (.iconst 1) 1 = true ∧ fdq dk_1296 1 (.iadd) 1 = true ∧ fdq dk_1296 2 (.iaload) 1 = true ∧ fdq dk_1296 3 (.aload_n 0) 1 = true ∧ fdq dk_1296 4 (.iload 4) 2 = true ∧ fdq dk_1296 6 (.iconst 2) 1 = true ∧ fdq dk_1296 7 (.iadd) 1 = true ∧ fdq dk_1296 8 (.iaload) 1 = true ∧ fdq dk_1296 9 (.aload_n 3) 1 = true ∧ fdq dk_1296 10 (.invokestatic 244) 3 = true ∧ fdq dk_1296 13 (.istore 5) 2 = true ∧ fdq dk_1296 15 (.aload_n 2) 1 = true ∧ fdq dk_1296 16 (.aload_n 0) 1 = true ∧ fdq dk_1296 17 (.iload 4) 2 = true ∧ fdq dk_1296 19 (.iconst 1) 1 = true ∧ fdq dk_1296 20 (.iadd) 1 = true ∧ fdq dk_1296 21 (.iaload) 1 = true ∧ fdq dk_1296 22 (.aload_n 0) 1 = true ∧ fdq dk_1296 23 (.iload 4) 2 = true ∧ fdq dk_1296 25 (.iconst 2) 1 = true ∧ fdq dk_1296 26 (.iadd) 1 = true ∧ fdq dk_1296 27 (.iaload) 1 = true ∧ fdq dk_1296 28 (.invokevirtual 246) 3 = true ∧ fdq dk_1296 31 (.istore 6) 2 = true ∧ fdq dk_1296 33 (.goto 727) 3 = true ∧ fdq dk_1296 36 (.aload_n 1) 1 = true ∧ fdq dk_1296 37 (.aload_n 0) 1 = true ∧ fdq dk_1296 38 (.iload 4) 2 = true ∧ fdq dk_1296 40 (.iconst 1) 1 = true ∧ fdq dk_1296 41 (.iadd) 1 = true ∧ fdq dk_1296 42 (.iaload) 1 = true ∧ fdq dk_1296 43 (.aload_n 0) 1 = true := by decide +kernel
theorem dL_law_1296 : decode cL_law 1296 = .ok (.iconst 1, 1) := fdg (k := 1296) (p := 0) hdk_1296 dLb_40.1
theorem dL_law_1297 : decode cL_law 1297 = .ok (.iadd, 1) := fdg (k := 1296) (p := 1) hdk_1296 dLb_40.2.1
theorem dL_law_1298 : decode cL_law 1298 = .ok (.iaload, 1) := fdg (k := 1296) (p := 2) hdk_1296 dLb_40.2.2.1
theorem dL_law_1299 : decode cL_law 1299 = .ok (.aload_n 0, 1) := fdg (k := 1296) (p := 3) hdk_1296 dLb_40.2.2.2.1
theorem dL_law_1300 : decode cL_law 1300 = .ok (.iload 4, 2) := fdg (k := 1296) (p := 4) hdk_1296 dLb_40.2.2.2.2.1
theorem dL_law_1302 : decode cL_law 1302 = .ok (.iconst 2, 1) := fdg (k := 1296) (p := 6) hdk_1296 dLb_40.2.2.2.2.2.1
theorem dL_law_1303 : decode cL_law 1303 = .ok (.iadd, 1) := fdg (k := 1296) (p := 7) hdk_1296 dLb_40.2.2.2.2.2.2.1
theorem dL_law_1304 : decode cL_law 1304 = .ok (.iaload, 1) := fdg (k := 1296) (p := 8) hdk_1296 dLb_40.2.2.2.2.2.2.2.1
theorem dL_law_1305 : decode cL_law 1305 = .ok (.aload_n 3, 1) := fdg (k := 1296) (p := 9) hdk_1296 dLb_40.2.2.2.2.2.2.2.2.1
theorem dL_law_1306 : decode cL_law 1306 = .ok (.invokestatic 244, 3) := fdg (k := 1296) (p := 10) hdk_1296 dLb_40.2.2.2.2.2.2.2.2.2.1
theorem dL_law_1309 : decode cL_law 1309 = .ok (.istore 5, 2) := fdg (k := 1296) (p := 13) hdk_1296 dLb_40.2.2.2.2.2.2.2.2.2.2.1
theorem dL_law_1311 : decode cL_law 1311 = .ok (.aload_n 2, 1) := fdg (k := 1296) (p := 15) hdk_1296 dLb_40.2.2.2.2.2.2.2.2.2.2.2.1
theorem dL_law_1312 : decode cL_law 1312 = .ok (.aload_n 0, 1) := fdg (k := 1296) (p := 16) hdk_1296 dLb_40.2.2.2.2.2.2.2.2.2.2.2.2.1
theorem dL_law_1313 : decode cL_law 1313 = .ok (.iload 4, 2) := fdg (k := 1296) (p := 17) hdk_1296 dLb_40.2.2.2.2.2.2.2.2.2.2.2.2.2.1
theorem dL_law_1315 : decode cL_law 1315 = .ok (.iconst 1, 1) := fdg (k := 1296) (p := 19) hdk_1296 dLb_40.2.2.2.2.2.2.2.2.2.2.2.2.2.2.1
theorem dL_law_1316 : decode cL_law 1316 = .ok (.iadd, 1) := fdg (k := 1296) (p := 20) hdk_1296 dLb_40.2.2.2.2.2.2.2.2.2.2.2.2.2.2.2.1
theorem dL_law_1317 : decode cL_law 1317 = .ok (.iaload, 1) := fdg (k := 1296) (p := 21) hdk_1296 dLb_40.2.2.2.2.2.2.2.2.2.2.2.2.2.2.2.2.1
theorem dL_law_1318 : decode cL_law 1318 = .ok (.aload_n 0, 1) := fdg (k := 1296) (p := 22) hdk_1296 dLb_40.2.2.2.2.2.2.2.2.2.2.2.2.2.2.2.2.2.1
theorem dL_law_1319 : decode cL_law 1319 = .ok (.iload 4, 2) := fdg (k := 1296) (p := 23) hdk_1296 dLb_40.2.2.2.2.2.2.2.2.2.2.2.2.2.2.2.2.2.2.1
theorem dL_law_1321 : decode cL_law 1321 = .ok (.iconst 2, 1) := fdg (k := 1296) (p := 25) hdk_1296 dLb_40.2.2.2.2.2.2.2.2.2.2.2.2.2.2.2.2.2.2.2.1
theorem dL_law_1322 : decode cL_law 1322 = .ok (.iadd, 1) := fdg (k := 1296) (p := 26) hdk_1296 dLb_40.2.2.2.2.2.2.2.2.2.2.2.2.2.2.2.2.2.2.2.2.1
theorem dL_law_1323 : decode cL_law 1323 = .ok (.iaload, 1) := fdg (k := 1296) (p := 27) hdk_1296 dLb_40.2.2.2.2.2.2.2.2.2.2.2.2.2.2.2.2.2.2.2.2.2.1
theorem dL_law_1324 : decode cL_law 1324 = .ok (.invokevirtual 246, 3) := fdg (k := 1296) (p := 28) hdk_1296 dLb_40.2.2.2.2.2.2.2.2.2.2.2.2.2.2.2.2.2.2.2.2.2.2.1
theorem dL_law_1327 : decode cL_law 1327 = .ok (.istore 6, 2) := fdg (k := 1296) (p := 31) hdk_1296 dLb_40.2.2.2.2.2.2.2.2.2.2.2.2.2.2.2.2.2.2.2.2.2.2.2.1
theorem dL_law_1329 : decode cL_law 1329 = .ok (.goto 727, 3) := fdg (k := 1296) (p := 33) hdk_1296 dLb_40.2.2.2.2.2.2.2.2.2.2.2.2.2.2.2.2.2.2.2.2.2.2.2.2.1
theorem dL_law_1332 : decode cL_law 1332 = .ok (.aload_n 1, 1) := fdg (k := 1296) (p := 36) hdk_1296 dLb_40.2.2.2.2.2.2.2.2.2.2.2.2.2.2.2.2.2.2.2.2.2.2.2.2.2.1
theorem dL_law_1333 : decode cL_law 1333 = .ok (.aload_n 0, 1) := fdg (k := 1296) (p := 37) hdk_1296 dLb_40.2.2.2.2.2.2.2.2.2.2.2.2.2.2.2.2.2.2.2.2.2.2.2.2.2.2.1
theorem dL_law_1334 : decode cL_law 1334 = .ok (.iload 4, 2) := fdg (k := 1296) (p := 38) hdk_1296 dLb_40.2.2.2.2.2.2.2.2.2.2.2.2.2.2.2.2.2.2.2.2.2.2.2.2.2.2.2.1
theorem dL_law_1336 : decode cL_law 1336 = .ok (.iconst 1, 1) := fdg (k := 1296) (p := 40) hdk_1296 dLb_40.2.2.2.2.2.2.2.2.2.2.2.2.2.2.2.2.2.2.2.2.2.2.2.2.2.2.2.2.1
theorem dL_law_1337 : decode cL_law 1337 = .ok (.iadd, 1) := fdg (k := 1296) (p := 41) hdk_1296 dLb_40.2.2.2.2.2.2.2.2.2.2.2.2.2.2.2.2.2.2.2.2.2.2.2.2.2.2.2.2.2.1
theorem dL_law_1338 : decode cL_law 1338 = .ok (.iaload, 1) := fdg (k := 1296) (p := 42) hdk_1296 dLb_40.2.2.2.2.2.2.2.2.2.2.2.2.2.2.2.2.2.2.2.2.2.2.2.2.2.2.2.2.2.2.1
theorem dL_law_1339 : decode cL_law 1339 = .ok (.aload_n 0, 1) := fdg (k := 1296) (p := 43) hdk_1296 dLb_40.2.2.2.2.2.2.2.2.2.2.2.2.2.2.2.2.2.2.2.2.2.2.2.2.2.2.2.2.2.2.2
theorem dLb_41 : fdq dk_1296 44 (.iload 4) 2 = true ∧ fdq dk_1296 46 (.iconst 2) 1 = true ∧ fdq dk_1296 47 (.iadd) 1 = true := by decide +kernel
theorem dL_law_1340 : decode cL_law 1340 = .ok (.iload 4, 2) := fdg (k := 1296) (p := 44) hdk_1296 dLb_41.1
theorem dL_law_1342 : decode cL_law 1342 = .ok (.iconst 2, 1) := fdg (k := 1296) (p := 46) hdk_1296 dLb_41.2.1
theorem dL_law_1343 : decode cL_law 1343 = .ok (.iadd, 1) := fdg (k := 1296) (p := 47) hdk_1296 dLb_41.2.2
theorem dLb_42 : fdq dk_1344 0 (.iaload) 1 = true ∧ fdq dk_1344 1 (.ifCond .eq 7) 3 = true ∧ fdq dk_1344 4 (.iconst 1) 1 = true ∧ fdq dk_1344 5 (.goto 4) 3 = true ∧ fdq dk_1344 8 (.iconst 0) 1 = true ∧ fdq dk_1344 9 (.aload_n 3) 1 = true ∧ fdq dk_1344 10 (.invokestatic 247) 3 = true ∧ fdq dk_1344 13 (.istore 5) 2 = true ∧ fdq dk_1344 15 (.aload_n 2) 1 = true ∧ fdq dk_1344 16 (.aload_n 0) 1 = true ∧ fdq dk_1344 17 (.iload 4) 2 = true ∧ fdq dk_1344 19 (.iconst 1) 1 = true ∧ fdq dk_1344 20 (.iadd) 1 = true ∧ fdq dk_1344 21 (.iaload) 1 = true ∧ fdq dk_1344 22 (.aload_n 0) 1 = true ∧ fdq dk_1344 23 (.iload 4) 2 = true ∧ fdq dk_1344 25 (.iconst 2) 1 = true ∧ fdq dk_1344 26 (.iadd) 1 = true ∧ fdq dk_1344 27 (.iaload) 1 = true ∧ fdq dk_1344 28 (.ifCond .eq 7) 3 = true ∧ fdq dk_1344 31 (.iconst 1) 1 = true ∧ fdq dk_1344 32 (.goto 4) 3 = true ∧ fdq dk_1344 35 (.iconst 0) 1 = true ∧ fdq dk_1344 36 (.invokevirtual 250) 3 = true ∧ fdq dk_1344 39 (.istore 6) 2 = true ∧ fdq dk_1344 41 (.goto 671) 3 = true ∧ fdq dk_1344 44 (.aload_n 1) 1 = true ∧ fdq dk_1344 45 (.aload_n 0) 1 = true ∧ fdq dk_1344 46 (.iload 4) 2 = true := by decide +kernel
theorem dL_law_1344 : decode cL_law 1344 = .ok (.iaload, 1) := fdg (k := 1344) (p := 0) hdk_1344 dLb_42.1
theorem dL_law_1345 : decode cL_law 1345 = .ok (.ifCond .eq 7, 3) := fdg (k := 1344) (p := 1) hdk_1344 dLb_42.2.1
theorem dL_law_1348 : decode cL_law 1348 = .ok (.iconst 1, 1) := fdg (k := 1344) (p := 4) hdk_1344 dLb_42.2.2.1
theorem dL_law_1349 : decode cL_law 1349 = .ok (.goto 4, 3) := fdg (k := 1344) (p := 5) hdk_1344 dLb_42.2.2.2.1
theorem dL_law_1352 : decode cL_law 1352 = .ok (.iconst 0, 1) := fdg (k := 1344) (p := 8) hdk_1344 dLb_42.2.2.2.2.1
theorem dL_law_1353 : decode cL_law 1353 = .ok (.aload_n 3, 1) := fdg (k := 1344) (p := 9) hdk_1344 dLb_42.2.2.2.2.2.1
theorem dL_law_1354 : decode cL_law 1354 = .ok (.invokestatic 247, 3) := fdg (k := 1344) (p := 10) hdk_1344 dLb_42.2.2.2.2.2.2.1
theorem dL_law_1357 : decode cL_law 1357 = .ok (.istore 5, 2) := fdg (k := 1344) (p := 13) hdk_1344 dLb_42.2.2.2.2.2.2.2.1
theorem dL_law_1359 : decode cL_law 1359 = .ok (.aload_n 2, 1) := fdg (k := 1344) (p := 15) hdk_1344 dLb_42.2.2.2.2.2.2.2.2.1
theorem dL_law_1360 : decode cL_law 1360 = .ok (.aload_n 0, 1) := fdg (k := 1344) (p := 16) hdk_1344 dLb_42.2.2.2.2.2.2.2.2.2.1
theorem dL_law_1361 : decode cL_law 1361 = .ok (.iload 4, 2) := fdg (k := 1344) (p := 17) hdk_1344 dLb_42.2.2.2.2.2.2.2.2.2.2.1
theorem dL_law_1363 : decode cL_law 1363 = .ok (.iconst 1, 1) := fdg (k := 1344) (p := 19) hdk_1344 dLb_42.2.2.2.2.2.2.2.2.2.2.2.1
theorem dL_law_1364 : decode cL_law 1364 = .ok (.iadd, 1) := fdg (k := 1344) (p := 20) hdk_1344 dLb_42.2.2.2.2.2.2.2.2.2.2.2.2.1
theorem dL_law_1365 : decode cL_law 1365 = .ok (.iaload, 1) := fdg (k := 1344) (p := 21) hdk_1344 dLb_42.2.2.2.2.2.2.2.2.2.2.2.2.2.1
theorem dL_law_1366 : decode cL_law 1366 = .ok (.aload_n 0, 1) := fdg (k := 1344) (p := 22) hdk_1344 dLb_42.2.2.2.2.2.2.2.2.2.2.2.2.2.2.1
theorem dL_law_1367 : decode cL_law 1367 = .ok (.iload 4, 2) := fdg (k := 1344) (p := 23) hdk_1344 dLb_42.2.2.2.2.2.2.2.2.2.2.2.2.2.2.2.1
theorem dL_law_1369 : decode cL_law 1369 = .ok (.iconst 2, 1) := fdg (k := 1344) (p := 25) hdk_1344 dLb_42.2.2.2.2.2.2.2.2.2.2.2.2.2.2.2.2.1
theorem dL_law_1370 : decode cL_law 1370 = .ok (.iadd, 1) := fdg (k := 1344) (p := 26) hdk_1344 dLb_42.2.2.2.2.2.2.2.2.2.2.2.2.2.2.2.2.2.1
theorem dL_law_1371 : decode cL_law 1371 = .ok (.iaload, 1) := fdg (k := 1344) (p := 27) hdk_1344 dLb_42.2.2.2.2.2.2.2.2.2.2.2.2.2.2.2.2.2.2.1
theorem dL_law_1372 : decode cL_law 1372 = .ok (.ifCond .eq 7, 3) := fdg (k := 1344) (p := 28) hdk_1344 dLb_42.2.2.2.2.2.2.2.2.2.2.2.2.2.2.2.2.2.2.2.1
theorem dL_law_1375 : decode cL_law 1375 = .ok (.iconst 1, 1) := fdg (k := 1344) (p := 31) hdk_1344 dLb_42.2.2.2.2.2.2.2.2.2.2.2.2.2.2.2.2.2.2.2.2.1
theorem dL_law_1376 : decode cL_law 1376 = .ok (.goto 4, 3) := fdg (k := 1344) (p := 32) hdk_1344 dLb_42.2.2.2.2.2.2.2.2.2.2.2.2.2.2.2.2.2.2.2.2.2.1
theorem dL_law_1379 : decode cL_law 1379 = .ok (.iconst 0, 1) := fdg (k := 1344) (p := 35) hdk_1344 dLb_42.2.2.2.2.2.2.2.2.2.2.2.2.2.2.2.2.2.2.2.2.2.2.1
theorem dL_law_1380 : decode cL_law 1380 = .ok (.invokevirtual 250, 3) := fdg (k := 1344) (p := 36) hdk_1344 dLb_42.2.2.2.2.2.2.2.2.2.2.2.2.2.2.2.2.2.2.2.2.2.2.2.1
theorem dL_law_1383 : decode cL_law 1383 = .ok (.istore 6, 2) := fdg (k := 1344) (p := 39) hdk_1344 dLb_42.2.2.2.2.2.2.2.2.2.2.2.2.2.2.2.2.2.2.2.2.2.2.2.2.1
theorem dL_law_1385 : decode cL_law 1385 = .ok (.goto 671, 3) := fdg (k := 1344) (p := 41) hdk_1344 dLb_42.2.2.2.2.2.2.2.2.2.2.2.2.2.2.2.2.2.2.2.2.2.2.2.2.2.1
theorem dL_law_1388 : decode cL_law 1388 = .ok (.aload_n 1, 1) := fdg (k := 1344) (p := 44) hdk_1344 dLb_42.2.2.2.2.2.2.2.2.2.2.2.2.2.2.2.2.2.2.2.2.2.2.2.2.2.2.1
theorem dL_law_1389 : decode cL_law 1389 = .ok (.aload_n 0, 1) := fdg (k := 1344) (p := 45) hdk_1344 dLb_42.2.2.2.2.2.2.2.2.2.2.2.2.2.2.2.2.2.2.2.2.2.2.2.2.2.2.2.1
theorem dL_law_1390 : decode cL_law 1390 = .ok (.iload 4, 2) := fdg (k := 1344) (p := 46) hdk_1344 dLb_42.2.2.2.2.2.2.2.2.2.2.2.2.2.2.2.2.2.2.2.2.2.2.2.2.2.2.2.2
theorem dLb_43 : fdq dk_1392 0 (.iconst 1) 1 = true ∧ fdq dk_1392 1 (.iadd) 1 = true ∧ fdq dk_1392 2 (.iaload) 1 = true ∧ fdq dk_1392 3 (.aload_n 3) 1 = true ∧ fdq dk_1392 4 (.invokestatic 251) 3 = true ∧ fdq dk_1392 7 (.istore 5) 2 = true ∧ fdq dk_1392 9 (.aload_n 2) 1 = true ∧ fdq dk_1392 10 (.aload_n 0) 1 = true ∧ fdq dk_1392 11 (.iload 4) 2 = true ∧ fdq dk_1392 13 (.iconst 1) 1 = true ∧ fdq dk_1392 14 (.iadd) 1 = true ∧ fdq dk_1392 15 (.iaload) 1 = true ∧ fdq dk_1392 16 (.invokevirtual 253) 3 = true ∧ fdq dk_1392 19 (.istore 6) 2 = true ∧ fdq dk_1392 21 (.goto 643) 3 = true ∧ fdq dk_1392 24 (.aload_n 1) 1 = true ∧ fdq dk_1392 25 (.aload_n 0) 1 = true ∧ fdq dk_1392 26 (.iload 4) 2 = true ∧ fdq dk_1392 28 (.iconst 1) 1 = true ∧ fdq dk_1392 29 (.iadd) 1 = true ∧ fdq dk_1392 30 (.iaload) 1 = true ∧ fdq dk_1392 31 (.aload_n 0) 1 = true ∧ fdq dk_1392 32 (.iload 4) 2 = true ∧ fdq dk_1392 34 (.iconst 2) 1 = true ∧ fdq dk_1392 35 (.iadd) 1 = true ∧ fdq dk_1392 36 (.iaload) 1 = true ∧ fdq dk_1392 37 (.aload_n 3) 1 = true ∧ fdq dk_1392 38 (.invokestatic 254) 3 = true ∧ fdq dk_1392 41 (.istore 5) 2 = true ∧ fdq dk_1392 43 (.aload_n 2) 1 = true ∧ fdq dk_1392 44 (.aload_n 0) 1 = true ∧ fdq dk_1392 45 (.iload 4) 2 = true := by decide +kernel
theorem dL_law_1392 : decode cL_law 1392 = .ok (.iconst 1, 1) := fdg (k := 1392) (p := 0) hdk_1392 dLb_43.1
theorem dL_law_1393 : decode cL_law 1393 = .ok (.iadd, 1) := fdg (k := 1392) (p := 1) hdk_1392 dLb_43.2.1
theorem dL_law_1394 : decode cL_law 1394 = .ok (.iaload, 1) := fdg (k := 1392) (p := 2) hdk_1392 dLb_43.2.2.1
theorem dL_law_1395 : decode cL_law 1395 = .ok (.aload_n 3, 1) := fdg (k := 1392) (p := 3) hdk_1392 dLb_43.2.2.2.1
theorem dL_law_1396 : decode cL_law 1396 = .ok (.invokestatic 251, 3) := fdg (k := 1392) (p := 4) hdk_1392 dLb_43.2.2.2.2.1
theorem dL_law_1399 : decode cL_law 1399 = .ok (.istore 5, 2) := fdg (k := 1392) (p := 7) hdk_1392 dLb_43.2.2.2.2.2.1
theorem dL_law_1401 : decode cL_law 1401 = .ok (.aload_n 2, 1) := fdg (k := 1392) (p := 9) hdk_1392 dLb_43.2.2.2.2.2.2.1
theorem dL_law_1402 : decode cL_law 1402 = .ok (.aload_n 0, 1) := fdg (k := 1392) (p := 10) hdk_1392 dLb_43.2.2.2.2.2.2.2.1
theorem dL_law_1403 : decode cL_law 1403 = .ok (.iload 4, 2) := fdg (k := 1392) (p := 11) hdk_1392 dLb_43.2.2.2.2.2.2.2.2.1
theorem dL_law_1405 : decode cL_law 1405 = .ok (.iconst 1, 1) := fdg (k := 1392) (p := 13) hdk_1392 dLb_43.2.2.2.2.2.2.2.2.2.1
theorem dL_law_1406 : decode cL_law 1406 = .ok (.iadd, 1) := fdg (k := 1392) (p := 14) hdk_1392 dLb_43.2.2.2.2.2.2.2.2.2.2.1
theorem dL_law_1407 : decode cL_law 1407 = .ok (.iaload, 1) := fdg (k := 1392) (p := 15) hdk_1392 dLb_43.2.2.2.2.2.2.2.2.2.2.2.1
theorem dL_law_1408 : decode cL_law 1408 = .ok (.invokevirtual 253, 3) := fdg (k := 1392) (p := 16) hdk_1392 dLb_43.2.2.2.2.2.2.2.2.2.2.2.2.1
theorem dL_law_1411 : decode cL_law 1411 = .ok (.istore 6, 2) := fdg (k := 1392) (p := 19) hdk_1392 dLb_43.2.2.2.2.2.2.2.2.2.2.2.2.2.1
theorem dL_law_1413 : decode cL_law 1413 = .ok (.goto 643, 3) := fdg (k := 1392) (p := 21) hdk_1392 dLb_43.2.2.2.2.2.2.2.2.2.2.2.2.2.2.1
theorem dL_law_1416 : decode cL_law 1416 = .ok (.aload_n 1, 1) := fdg (k := 1392) (p := 24) hdk_1392 dLb_43.2.2.2.2.2.2.2.2.2.2.2.2.2.2.2.1
theorem dL_law_1417 : decode cL_law 1417 = .ok (.aload_n 0, 1) := fdg (k := 1392) (p := 25) hdk_1392 dLb_43.2.2.2.2.2.2.2.2.2.2.2.2.2.2.2.2.1
theorem dL_law_1418 : decode cL_law 1418 = .ok (.iload 4, 2) := fdg (k := 1392) (p := 26) hdk_1392 dLb_43.2.2.2.2.2.2.2.2.2.2.2.2.2.2.2.2.2.1
theorem dL_law_1420 : decode cL_law 1420 = .ok (.iconst 1, 1) := fdg (k := 1392) (p := 28) hdk_1392 dLb_43.2.2.2.2.2.2.2.2.2.2.2.2.2.2.2.2.2.2.1
theorem dL_law_1421 : decode cL_law 1421 = .ok (.iadd, 1) := fdg (k := 1392) (p := 29) hdk_1392 dLb_43.2.2.2.2.2.2.2.2.2.2.2.2.2.2.2.2.2.2.2.1
theorem dL_law_1422 : decode cL_law 1422 = .ok (.iaload, 1) := fdg (k := 1392) (p := 30) hdk_1392 dLb_43.2.2.2.2.2.2.2.2.2.2.2.2.2.2.2.2.2.2.2.2.1
theorem dL_law_1423 : decode cL_law 1423 = .ok (.aload_n 0, 1) := fdg (k := 1392) (p := 31) hdk_1392 dLb_43.2.2.2.2.2.2.2.2.2.2.2.2.2.2.2.2.2.2.2.2.2.1
theorem dL_law_1424 : decode cL_law 1424 = .ok (.iload 4, 2) := fdg (k := 1392) (p := 32) hdk_1392 dLb_43.2.2.2.2.2.2.2.2.2.2.2.2.2.2.2.2.2.2.2.2.2.2.1
theorem dL_law_1426 : decode cL_law 1426 = .ok (.iconst 2, 1) := fdg (k := 1392) (p := 34) hdk_1392 dLb_43.2.2.2.2.2.2.2.2.2.2.2.2.2.2.2.2.2.2.2.2.2.2.2.1
theorem dL_law_1427 : decode cL_law 1427 = .ok (.iadd, 1) := fdg (k := 1392) (p := 35) hdk_1392 dLb_43.2.2.2.2.2.2.2.2.2.2.2.2.2.2.2.2.2.2.2.2.2.2.2.2.1
theorem dL_law_1428 : decode cL_law 1428 = .ok (.iaload, 1) := fdg (k := 1392) (p := 36) hdk_1392 dLb_43.2.2.2.2.2.2.2.2.2.2.2.2.2.2.2.2.2.2.2.2.2.2.2.2.2.1
theorem dL_law_1429 : decode cL_law 1429 = .ok (.aload_n 3, 1) := fdg (k := 1392) (p := 37) hdk_1392 dLb_43.2.2.2.2.2.2.2.2.2.2.2.2.2.2.2.2.2.2.2.2.2.2.2.2.2.2.1
theorem dL_law_1430 : decode cL_law 1430 = .ok (.invokestatic 254, 3) := fdg (k := 1392) (p := 38) hdk_1392 dLb_43.2.2.2.2.2.2.2.2.2.2.2.2.2.2.2.2.2.2.2.2.2.2.2.2.2.2.2.1
theorem dL_law_1433 : decode cL_law 1433 = .ok (.istore 5, 2) := fdg (k := 1392) (p := 41) hdk_1392 dLb_43.2.2.2.2.2.2.2.2.2.2.2.2.2.2.2.2.2.2.2.2.2.2.2.2.2.2.2.2.1
theorem dL_law_1435 : decode cL_law 1435 = .ok (.aload_n 2, 1) := fdg (k := 1392) (p := 43) hdk_1392 dLb_43.2.2.2.2.2.2.2.2.2.2.2.2.2.2.2.2.2.2.2.2.2.2.2.2.2.2.2.2.2.1
theorem dL_law_1436 : decode cL_law 1436 = .ok (.aload_n 0, 1) := fdg (k := 1392) (p := 44) hdk_1392 dLb_43.2.2.2.2.2.2.2.2.2.2.2.2.2.2.2.2.2.2.2.2.2.2.2.2.2.2.2.2.2.2.1
theorem dL_law_1437 : decode cL_law 1437 = .ok (.iload 4, 2) := fdg (k := 1392) (p := 45) hdk_1392 dLb_43.2.2.2.2.2.2.2.2.2.2.2.2.2.2.2.2.2.2.2.2.2.2.2.2.2.2.2.2.2.2.2
theorem dLb_44 : fdq dk_1392 47 (.iconst 1) 1 = true := by decide +kernel
theorem dL_law_1439 : decode cL_law 1439 = .ok (.iconst 1, 1) := fdg (k := 1392) (p := 47) hdk_1392 dLb_44
theorem dLb_45 : fdq dk_1440 0 (.iadd) 1 = true ∧ fdq dk_1440 1 (.iaload) 1 = true ∧ fdq dk_1440 2 (.aload_n 0) 1 = true ∧ fdq dk_1440 3 (.iload 4) 2 = true ∧ fdq dk_1440 5 (.iconst 2) 1 = true ∧ fdq dk_1440 6 (.iadd) 1 = true ∧ fdq dk_1440 7 (.iaload) 1 = true ∧ fdq dk_1440 8 (.invokevirtual 256) 3 = true ∧ fdq dk_1440 11 (.istore 6) 2 = true ∧ fdq dk_1440 13 (.goto 603) 3 = true ∧ fdq dk_1440 16 (.aload_n 1) 1 = true ∧ fdq dk_1440 17 (.aload_n 0) 1 = true ∧ fdq dk_1440 18 (.iload 4) 2 = true ∧ fdq dk_1440 20 (.iconst 1) 1 = true ∧ fdq dk_1440 21 (.iadd) 1 = true ∧ fdq dk_1440 22 (.iaload) 1 = true ∧ fdq dk_1440 23 (.aload_n 0) 1 = true ∧ fdq dk_1440 24 (.iload 4) 2 = true ∧ fdq dk_1440 26 (.iconst 2) 1 = true ∧ fdq dk_1440 27 (.iadd) 1 = true ∧ fdq dk_1440 28 (.iaload) 1 = true ∧ fdq dk_1440 29 (.aload_n 0) 1 = true ∧ fdq dk_1440 30 (.iload 4) 2 = true ∧ fdq dk_1440 32 (.iconst 3) 1 = true ∧ fdq dk_1440 33 (.iadd) 1 = true ∧ fdq dk_1440 34 (.iaload) 1 = true ∧ fdq dk_1440 35 (.aload_n 3) 1 = true ∧ fdq dk_1440 36 (.invokestatic 257) 3 = true ∧ fdq dk_1440 39 (.istore 5) 2 = true ∧ fdq dk_1440 41 (.aload_n 2) 1 = true ∧ fdq dk_1440 42 (.aload_n 0) 1 = true ∧ fdq dk_1440 43 (.iload 4) 2 = true := by decide +kernel
theorem dL_law_1440 : decode cL_law 1440 = .ok (.iadd, 1) := fdg (k := 1440) (p := 0) hdk_1440 dLb_45.1
theorem dL_law_1441 : decode cL_law 1441 = .ok (.iaload, 1) := fdg (k := 1440) (p := 1) hdk_1440 dLb_45.2.1
theorem dL_law_1442 : decode cL_law 1442 = .ok (.aload_n 0, 1) := fdg (k := 1440) (p := 2) hdk_1440 dLb_45.2.2.1
theorem dL_law_1443 : decode cL_law 1443 = .ok (.iload 4, 2) := fdg (k := 1440) (p := 3) hdk_1440 dLb_45.2.2.2.1
theorem dL_law_1445 : decode cL_law 1445 = .ok (.iconst 2, 1) := fdg (k := 1440) (p := 5) hdk_1440 dLb_45.2.2.2.2.1
theorem dL_law_1446 : decode cL_law 1446 = .ok (.iadd, 1) := fdg (k := 1440) (p := 6) hdk_1440 dLb_45.2.2.2.2.2.1
theorem dL_law_1447 : decode cL_law 1447 = .ok (.iaload, 1) := fdg (k := 1440) (p := 7) hdk_1440 dLb_45.2.2.2.2.2.2.1
theorem dL_law_1448 : decode cL_law 1448 = .ok (.invokevirtual 256, 3) := fdg (k := 1440) (p := 8) hdk_1440 dLb_45.2.2.2.2.2.2.2.1
theorem dL_law_1451 : decode cL_law 1451 = .ok (.istore 6, 2) := fdg (k := 1440) (p := 11) hdk_1440 dLb_45.2.2.2.2.2.2.2.2.1
theorem dL_law_1453 : decode cL_law 1453 = .ok (.goto 603, 3) := fdg (k := 1440) (p := 13) hdk_1440 dLb_45.2.2.2.2.2.2.2.2.2.1
theorem dL_law_1456 : decode cL_law 1456 = .ok (.aload_n 1, 1) := fdg (k := 1440) (p := 16) hdk_1440 dLb_45.2.2.2.2.2.2.2.2.2.2.1
theorem dL_law_1457 : decode cL_law 1457 = .ok (.aload_n 0, 1) := fdg (k := 1440) (p := 17) hdk_1440 dLb_45.2.2.2.2.2.2.2.2.2.2.2.1
theorem dL_law_1458 : decode cL_law 1458 = .ok (.iload 4, 2) := fdg (k := 1440) (p := 18) hdk_1440 dLb_45.2.2.2.2.2.2.2.2.2.2.2.2.1
theorem dL_law_1460 : decode cL_law 1460 = .ok (.iconst 1, 1) := fdg (k := 1440) (p := 20) hdk_1440 dLb_45.2.2.2.2.2.2.2.2.2.2.2.2.2.1
theorem dL_law_1461 : decode cL_law 1461 = .ok (.iadd, 1) := fdg (k := 1440) (p := 21) hdk_1440 dLb_45.2.2.2.2.2.2.2.2.2.2.2.2.2.2.1
theorem dL_law_1462 : decode cL_law 1462 = .ok (.iaload, 1) := fdg (k := 1440) (p := 22) hdk_1440 dLb_45.2.2.2.2.2.2.2.2.2.2.2.2.2.2.2.1
theorem dL_law_1463 : decode cL_law 1463 = .ok (.aload_n 0, 1) := fdg (k := 1440) (p := 23) hdk_1440 dLb_45.2.2.2.2.2.2.2.2.2.2.2.2.2.2.2.2.1
theorem dL_law_1464 : decode cL_law 1464 = .ok (.iload 4, 2) := fdg (k := 1440) (p := 24) hdk_1440 dLb_45.2.2.2.2.2.2.2.2.2.2.2.2.2.2.2.2.2.1
theorem dL_law_1466 : decode cL_law 1466 = .ok (.iconst 2, 1) := fdg (k := 1440) (p := 26) hdk_1440 dLb_45.2.2.2.2.2.2.2.2.2.2.2.2.2.2.2.2.2.2.1
theorem dL_law_1467 : decode cL_law 1467 = .ok (.iadd, 1) := fdg (k := 1440) (p := 27) hdk_1440 dLb_45.2.2.2.2.2.2.2.2.2.2.2.2.2.2.2.2.2.2.2.1
theorem dL_law_1468 : decode cL_law 1468 = .ok (.iaload, 1) := fdg (k := 1440) (p := 28) hdk_1440 dLb_45.2.2.2.2.2.2.2.2.2.2.2.2.2.2.2.2.2.2.2.2.1
theorem dL_law_1469 : decode cL_law 1469 = .ok (.aload_n 0, 1) := fdg (k := 1440) (p := 29) hdk_1440 dLb_45.2.2.2.2.2.2.2.2.2.2.2.2.2.2.2.2.2.2.2.2.2.1
theorem dL_law_1470 : decode cL_law 1470 = .ok (.iload 4, 2) := fdg (k := 1440) (p := 30) hdk_1440 dLb_45.2.2.2.2.2.2.2.2.2.2.2.2.2.2.2.2.2.2.2.2.2.2.1
theorem dL_law_1472 : decode cL_law 1472 = .ok (.iconst 3, 1) := fdg (k := 1440) (p := 32) hdk_1440 dLb_45.2.2.2.2.2.2.2.2.2.2.2.2.2.2.2.2.2.2.2.2.2.2.2.1
theorem dL_law_1473 : decode cL_law 1473 = .ok (.iadd, 1) := fdg (k := 1440) (p := 33) hdk_1440 dLb_45.2.2.2.2.2.2.2.2.2.2.2.2.2.2.2.2.2.2.2.2.2.2.2.2.1
theorem dL_law_1474 : decode cL_law 1474 = .ok (.iaload, 1) := fdg (k := 1440) (p := 34) hdk_1440 dLb_45.2.2.2.2.2.2.2.2.2.2.2.2.2.2.2.2.2.2.2.2.2.2.2.2.2.1
theorem dL_law_1475 : decode cL_law 1475 = .ok (.aload_n 3, 1) := fdg (k := 1440) (p := 35) hdk_1440 dLb_45.2.2.2.2.2.2.2.2.2.2.2.2.2.2.2.2.2.2.2.2.2.2.2.2.2.2.1
theorem dL_law_1476 : decode cL_law 1476 = .ok (.invokestatic 257, 3) := fdg (k := 1440) (p := 36) hdk_1440 dLb_45.2.2.2.2.2.2.2.2.2.2.2.2.2.2.2.2.2.2.2.2.2.2.2.2.2.2.2.1
theorem dL_law_1479 : decode cL_law 1479 = .ok (.istore 5, 2) := fdg (k := 1440) (p := 39) hdk_1440 dLb_45.2.2.2.2.2.2.2.2.2.2.2.2.2.2.2.2.2.2.2.2.2.2.2.2.2.2.2.2.1
theorem dL_law_1481 : decode cL_law 1481 = .ok (.aload_n 2, 1) := fdg (k := 1440) (p := 41) hdk_1440 dLb_45.2.2.2.2.2.2.2.2.2.2.2.2.2.2.2.2.2.2.2.2.2.2.2.2.2.2.2.2.2.1
theorem dL_law_1482 : decode cL_law 1482 = .ok (.aload_n 0, 1) := fdg (k := 1440) (p := 42) hdk_1440 dLb_45.2.2.2.2.2.2.2.2.2.2.2.2.2.2.2.2.2.2.2.2.2.2.2.2.2.2.2.2.2.2.1
theorem dL_law_1483 : decode cL_law 1483 = .ok (.iload 4, 2) := fdg (k := 1440) (p := 43) hdk_1440 dLb_45.2.2.2.2.2.2.2.2.2.2.2.2.2.2.2.2.2.2.2.2.2.2.2.2.2.2.2.2.2.2.2
theorem dLb_46 : fdq dk_1440 45 (.iconst 1) 1 = true ∧ fdq dk_1440 46 (.iadd) 1 = true ∧ fdq dk_1440 47 (.iaload) 1 = true := by decide +kernel
theorem dL_law_1485 : decode cL_law 1485 = .ok (.iconst 1, 1) := fdg (k := 1440) (p := 45) hdk_1440 dLb_46.1
theorem dL_law_1486 : decode cL_law 1486 = .ok (.iadd, 1) := fdg (k := 1440) (p := 46) hdk_1440 dLb_46.2.1
theorem dL_law_1487 : decode cL_law 1487 = .ok (.iaload, 1) := fdg (k := 1440) (p := 47) hdk_1440 dLb_46.2.2
theorem dLb_47 : fdq dk_1488 0 (.aload_n 0) 1 = true ∧ fdq dk_1488 1 (.iload 4) 2 = true ∧ fdq dk_1488 3 (.iconst 2) 1 = true ∧ fdq dk_1488 4 (.iadd) 1 = true ∧ fdq dk_1488 5 (.iaload) 1 = true ∧ fdq dk_1488 6 (.aload_n 0) 1 = true ∧ fdq dk_1488 7 (.iload 4) 2 = true ∧ fdq dk_1488 9 (.iconst 3) 1 = true ∧ fdq dk_1488 10 (.iadd) 1 = true ∧ fdq dk_1488 11 (.iaload) 1 = true ∧ fdq dk_1488 12 (.invokevirtual 259) 3 = true ∧ fdq dk_1488 15 (.istore 6) 2 = true ∧ fdq dk_1488 17 (.goto 551) 3 = true ∧ fdq dk_1488 20 (.aload_n 1) 1 = true ∧ fdq dk_1488 21 (.aload_n 0) 1 = true ∧ fdq dk_1488 22 (.iload 4) 2 = true ∧ fdq dk_1488 24 (.iconst 1) 1 = true ∧ fdq dk_1488 25 (.iadd) 1 = true ∧ fdq dk_1488 26 (.iaload) 1 = true ∧ fdq dk_1488 27 (.aload_n 0) 1 = true ∧ fdq dk_1488 28 (.iload 4) 2 = true ∧ fdq dk_1488 30 (.iconst 2) 1 = true ∧ fdq dk_1488 31 (.iadd) 1 = true ∧ fdq dk_1488 32 (.iaload) 1 = true ∧ fdq dk_1488 33 (.aload_n 3) 1 = true ∧ fdq dk_1488 34 (.invokestatic 260) 3 = true ∧ fdq dk_1488 37 (.istore 5) 2 = true ∧ fdq dk_1488 39 (.aload_n 2) 1 = true ∧ fdq dk_1488 40 (.aload_n 0) 1 = true ∧ fdq dk_1488 41 (.iload 4) 2 = true ∧ fdq dk_1488 43 (.iconst 1) 1 = true ∧ fdq dk_1488 44 (.iadd) 1 = true := by decide +kernel
theorem dL_law_1488 : decode cL_law 1488 = .ok (.aload_n 0, 1) := fdg (k := 1488) (p := 0) hdk_1488 dLb_47.1
theorem dL_law_1489 : decode cL_law 1489 = .ok (.iload 4, 2) := fdg (k := 1488) (p := 1) hdk_1488 dLb_47.2.1
theorem dL_law_1491 : decode cL_law 1491 = .ok (.iconst 2, 1) := fdg (k := 1488) (p := 3) hdk_1488 dLb_47.2.2.1
theorem dL_law_1492 : decode cL_law 1492 = .ok (.iadd, 1) := fdg (k := 1488) (p := 4) hdk_1488 dLb_47.2.2.2.1
theorem dL_law_1493 : decode cL_law 1493 = .ok (.iaload, 1) := fdg (k := 1488) (p := 5) hdk_1488 dLb_47.2.2.2.2.1
theorem dL_law_1494 : decode cL_law 1494 = .ok (.aload_n 0, 1) := fdg (k := 1488) (p := 6) hdk_1488 dLb_47.2.2.2.2.2.1
theorem dL_law_1495 : decode cL_law 1495 = .ok (.iload 4, 2) := fdg (k := 1488) (p := 7) hdk_1488 dLb_47.2.2.2.2.2.2.1
theorem dL_law_1497 : decode cL_law 1497 = .ok (.iconst 3, 1) := fdg (k := 1488) (p := 9) hdk_1488 dLb_47.2.2.2.2.2.2.2.1
theorem dL_law_1498 : decode cL_law 1498 = .ok (.iadd, 1) := fdg (k := 1488) (p := 10) hdk_1488 dLb_47.2.2.2.2.2.2.2.2.1
theorem dL_law_1499 : decode cL_law 1499 = .ok (.iaload, 1) := fdg (k := 1488) (p := 11) hdk_1488 dLb_47.2.2.2.2.2.2.2.2.2.1
theorem dL_law_1500 : decode cL_law 1500 = .ok (.invokevirtual 259, 3) := fdg (k := 1488) (p := 12) hdk_1488 dLb_47.2.2.2.2.2.2.2.2.2.2.1
theorem dL_law_1503 : decode cL_law 1503 = .ok (.istore 6, 2) := fdg (k := 1488) (p := 15) hdk_1488 dLb_47.2.2.2.2.2.2.2.2.2.2.2.1
theorem dL_law_1505 : decode cL_law 1505 = .ok (.goto 551, 3) := fdg (k := 1488) (p := 17) hdk_1488 dLb_47.2.2.2.2.2.2.2.2.2.2.2.2.1
theorem dL_law_1508 : decode cL_law 1508 = .ok (.aload_n 1, 1) := fdg (k := 1488) (p := 20) hdk_1488 dLb_47.2.2.2.2.2.2.2.2.2.2.2.2.2.1
theorem dL_law_1509 : decode cL_law 1509 = .ok (.aload_n 0, 1) := fdg (k := 1488) (p := 21) hdk_1488 dLb_47.2.2.2.2.2.2.2.2.2.2.2.2.2.2.1
theorem dL_law_1510 : decode cL_law 1510 = .ok (.iload 4, 2) := fdg (k := 1488) (p := 22) hdk_1488 dLb_47.2.2.2.2.2.2.2.2.2.2.2.2.2.2.2.1
theorem dL_law_1512 : decode cL_law 1512 = .ok (.iconst 1, 1) := fdg (k := 1488) (p := 24) hdk_1488 dLb_47.2.2.2.2.2.2.2.2.2.2.2.2.2.2.2.2.1
theorem dL_law_1513 : decode cL_law 1513 = .ok (.iadd, 1) := fdg (k := 1488) (p := 25) hdk_1488 dLb_47.2.2.2.2.2.2.2.2.2.2.2.2.2.2.2.2.2.1
theorem dL_law_1514 : decode cL_law 1514 = .ok (.iaload, 1) := fdg (k := 1488) (p := 26) hdk_1488 dLb_47.2.2.2.2.2.2.2.2.2.2.2.2.2.2.2.2.2.2.1
theorem dL_law_1515 : decode cL_law 1515 = .ok (.aload_n 0, 1) := fdg (k := 1488) (p := 27) hdk_1488 dLb_47.2.2.2.2.2.2.2.2.2.2.2.2.2.2.2.2.2.2.2.1
theorem dL_law_1516 : decode cL_law 1516 = .ok (.iload 4, 2) := fdg (k := 1488) (p := 28) hdk_1488 dLb_47.2.2.2.2.2.2.2.2.2.2.2.2.2.2.2.2.2.2.2.2.1
theorem dL_law_1518 : decode cL_law 1518 = .ok (.iconst 2, 1) := fdg (k := 1488) (p := 30) hdk_1488 dLb_47.2.2.2.2.2.2.2.2.2.2.2.2.2.2.2.2.2.2.2.2.2.1
theorem dL_law_1519 : decode cL_law 1519 = .ok (.iadd, 1) := fdg (k := 1488) (p := 31) hdk_1488 dLb_47.2.2.2.2.2.2.2.2.2.2.2.2.2.2.2.2.2.2.2.2.2.2.1
theorem dL_law_1520 : decode cL_law 1520 = .ok (.iaload, 1) := fdg (k := 1488) (p := 32) hdk_1488 dLb_47.2.2.2.2.2.2.2.2.2.2.2.2.2.2.2.2.2.2.2.2.2.2.2.1
theorem dL_law_1521 : decode cL_law 1521 = .ok (.aload_n 3, 1) := fdg (k := 1488) (p := 33) hdk_1488 dLb_47.2.2.2.2.2.2.2.2.2.2.2.2.2.2.2.2.2.2.2.2.2.2.2.2.1
theorem dL_law_1522 : decode cL_law 1522 = .ok (.invokestatic 260, 3) := fdg (k := 1488) (p := 34) hdk_1488 dLb_47.2.2.2.2.2.2.2.2.2.2.2.2.2.2.2.2.2.2.2.2.2.2.2.2.2.1
theorem dL_law_1525 : decode cL_law 1525 = .ok (.istore 5, 2) := fdg (k := 1488) (p := 37) hdk_1488 dLb_47.2.2.2.2.2.2.2.2.2.2.2.2.2.2.2.2.2.2.2.2.2.2.2.2.2.2.1
theorem dL_law_1527 : decode cL_law 1527 = .ok (.aload_n 2, 1) := fdg (k := 1488) (p := 39) hdk_1488 dLb_47.2.2.2.2.2.2.2.2.2.2.2.2.2.2.2.2.2.2.2.2.2.2.2.2.2.2.2.1
theorem dL_law_1528 : decode cL_law 1528 = .ok (.aload_n 0, 1) := fdg (k := 1488) (p := 40) hdk_1488 dLb_47.2.2.2.2.2.2.2.2.2.2.2.2.2.2.2.2.2.2.2.2.2.2.2.2.2.2.2.2.1
theorem dL_law_1529 : decode cL_law 1529 = .ok (.iload 4, 2) := fdg (k := 1488) (p := 41) hdk_1488 dLb_47.2.2.2.2.2.2.2.2.2.2.2.2.2.2.2.2.2.2.2.2.2.2.2.2.2.2.2.2.2.1
theorem dL_law_1531 : decode cL_law 1531 = .ok (.iconst 1, 1) := fdg (k := 1488) (p := 43) hdk_1488 dLb_47.2.2.2.2.2.2.2.2.2.2.2.2.2.2.2.2.2.2.2.2.2.2.2.2.2.2.2.2.2.2.1
theorem dL_law_1532 : decode cL_law 1532 = .ok (.iadd, 1) := fdg (k := 1488) (p := 44) hdk_1488 dLb_47.2.2.2.2.2.2.2.2.2.2.2.2.2.2.2.2.2.2.2.2.2.2.2.2.2.2.2.2.2.2.2
theorem dLb_48 : fdq dk_1488 45 (.iaload) 1 = true ∧ fdq dk_1488 46 (.aload_n 0) 1 = true ∧ fdq dk_1488 47 (.iload 4) 2 = true := by decide +kernel
theorem dL_law_1533 : decode cL_law 1533 = .ok (.iaload, 1) := fdg (k := 1488) (p := 45) hdk_1488 dLb_48.1
theorem dL_law_1534 : decode cL_law 1534 = .ok (.aload_n 0, 1) := fdg (k := 1488) (p := 46) hdk_1488 dLb_48.2.1
theorem dL_law_1535 : decode cL_law 1535 = .ok (.iload 4, 2) := fdg (k := 1488) (p := 47) hdk_1488 dLb_48.2.2
theorem dLb_49 : fdq dk_1536 1 (.iconst 2) 1 = true ∧ fdq dk_1536 2 (.iadd) 1 = true ∧ fdq dk_1536 3 (.iaload) 1 = true ∧ fdq dk_1536 4 (.invokevirtual 262) 3 = true ∧ fdq dk_1536 7 (.istore 6) 2 = true ∧ fdq dk_1536 9 (.goto 511) 3 = true ∧ fdq dk_1536 12 (.aload_n 1) 1 = true ∧ fdq dk_1536 13 (.aload_n 0) 1 = true ∧ fdq dk_1536 14 (.iload 4) 2 = true ∧ fdq dk_1536 16 (.iconst 1) 1 = true ∧ fdq dk_1536 17 (.iadd) 1 = true ∧ fdq dk_1536 18 (.iaload) 1 = true ∧ fdq dk_1536 19 (.aload_n 0) 1 = true ∧ fdq dk_1536 20 (.iload 4) 2 = true ∧ fdq dk_1536 22 (.iconst 2) 1 = true ∧ fdq dk_1536 23 (.iadd) 1 = true ∧ fdq dk_1536 24 (.iaload) 1 = true ∧ fdq dk_1536 25 (.aload_n 0) 1 = true ∧ fdq dk_1536 26 (.iload 4) 2 = true ∧ fdq dk_1536 28 (.iconst 3) 1 = true ∧ fdq dk_1536 29 (.iadd) 1 = true ∧ fdq dk_1536 30 (.iaload) 1 = true ∧ fdq dk_1536 31 (.aload_n 3) 1 = true ∧ fdq dk_1536 32 (.invokestatic 263) 3 = true ∧ fdq dk_1536 35 (.istore 5) 2 = true ∧ fdq dk_1536 37 (.aload_n 2) 1 = true ∧ fdq dk_1536 38 (.aload_n 0) 1 = true ∧ fdq dk_1536 39 (.iload 4) 2 = true ∧ fdq dk_1536 41 (.iconst 1) 1 = true ∧ fdq dk_1536 42 (.iadd) 1 = true ∧ fdq dk_1536 43 (.iaload) 1 = true ∧ fdq dk_1536 44 (.aload_n 0) 1 = true := by decide +kernel
theorem dL_law_1537 : decode cL_law 1537 = .ok (.iconst 2, 1) := fdg (k := 1536) (p := 1) hdk_1536 dLb_49.1
theorem dL_law_1538 : decode cL_law 1538 = .ok (.iadd, 1) := fdg (k := 1536) (p := 2) hdk_1536 dLb_49.2.1
theorem dL_law_1539 : decode cL_law 1539 = .ok (.iaload, 1) := fdg (k := 1536) (p := 3) hdk_1536 dLb_49.2.2.1
theorem dL_law_1540 : decode cL_law 1540 = .ok (.invokevirtual 262, 3) := fdg (k := 1536) (p := 4) hdk_1536 dLb_49.2.2.2.1
theorem dL_law_1543 : decode cL_law 1543 = .ok (.istore 6, 2) := fdg (k := 1536) (p := 7) hdk_1536 dLb_49.2.2.2.2.1
theorem dL_law_1545 : decode cL_law 1545 = .ok (.goto 511, 3) := fdg (k := 1536) (p := 9) hdk_1536 dLb_49.2.2.2.2.2.1
theorem dL_law_1548 : decode cL_law 1548 = .ok (.aload_n 1, 1) := fdg (k := 1536) (p := 12) hdk_1536 dLb_49.2.2.2.2.2.2.1
theorem dL_law_1549 : decode cL_law 1549 = .ok (.aload_n 0, 1) := fdg (k := 1536) (p := 13) hdk_1536 dLb_49.2.2.2.2.2.2.2.1
theorem dL_law_1550 : decode cL_law 1550 = .ok (.iload 4, 2) := fdg (k := 1536) (p := 14) hdk_1536 dLb_49.2.2.2.2.2.2.2.2.1
theorem dL_law_1552 : decode cL_law 1552 = .ok (.iconst 1, 1) := fdg (k := 1536) (p := 16) hdk_1536 dLb_49.2.2.2.2.2.2.2.2.2.1
theorem dL_law_1553 : decode cL_law 1553 = .ok (.iadd, 1) := fdg (k := 1536) (p := 17) hdk_1536 dLb_49.2.2.2.2.2.2.2.2.2.2.1
theorem dL_law_1554 : decode cL_law 1554 = .ok (.iaload, 1) := fdg (k := 1536) (p := 18) hdk_1536 dLb_49.2.2.2.2.2.2.2.2.2.2.2.1
theorem dL_law_1555 : decode cL_law 1555 = .ok (.aload_n 0, 1) := fdg (k := 1536) (p := 19) hdk_1536 dLb_49.2.2.2.2.2.2.2.2.2.2.2.2.1
theorem dL_law_1556 : decode cL_law 1556 = .ok (.iload 4, 2) := fdg (k := 1536) (p := 20) hdk_1536 dLb_49.2.2.2.2.2.2.2.2.2.2.2.2.2.1
theorem dL_law_1558 : decode cL_law 1558 = .ok (.iconst 2, 1) := fdg (k := 1536) (p := 22) hdk_1536 dLb_49.2.2.2.2.2.2.2.2.2.2.2.2.2.2.1
theorem dL_law_1559 : decode cL_law 1559 = .ok (.iadd, 1) := fdg (k := 1536) (p := 23) hdk_1536 dLb_49.2.2.2.2.2.2.2.2.2.2.2.2.2.2.2.1
theorem dL_law_1560 : decode cL_law 1560 = .ok (.iaload, 1) := fdg (k := 1536) (p := 24) hdk_1536 dLb_49.2.2.2.2.2.2.2.2.2.2.2.2.2.2.2.2.1
theorem dL_law_1561 : decode cL_law 1561 = .ok (.aload_n 0, 1) := fdg (k := 1536) (p := 25) hdk_1536 dLb_49.2.2.2.2.2.2.2.2.2.2.2.2.2.2.2.2.2.1
theorem dL_law_1562 : decode cL_law 1562 = .ok (.iload 4, 2) := fdg (k := 1536) (p := 26) hdk_1536 dLb_49.2.2.2.2.2.2.2.2.2.2.2.2.2.2.2.2.2.2.1
theorem dL_law_1564 : decode cL_law 1564 = .ok (.iconst 3, 1) := fdg (k := 1536) (p := 28) hdk_1536 dLb_49.2.2.2.2.2.2.2.2.2.2.2.2.2.2.2.2.2.2.2.1
theorem dL_law_1565 : decode cL_law 1565 = .ok (.iadd, 1) := fdg (k := 1536) (p := 29) hdk_1536 dLb_49.2.2.2.2.2.2.2.2.2.2.2.2.2.2.2.2.2.2.2.2.1
theorem dL_law_1566 : decode cL_law 1566 = .ok (.iaload, 1) := fdg (k := 1536) (p := 30) hdk_1536 dLb_49.2.2.2.2.2.2.2.2.2.2.2.2.2.2.2.2.2.2.2.2.2.1
theorem dL_law_1567 : decode cL_law 1567 = .ok (.aload_n 3, 1) := fdg (k := 1536) (p := 31) hdk_1536 dLb_49.2.2.2.2.2.2.2.2.2.2.2.2.2.2.2.2.2.2.2.2.2.2.1
theorem dL_law_1568 : decode cL_law 1568 = .ok (.invokestatic 263, 3) := fdg (k := 1536) (p := 32) hdk_1536 dLb_49.2.2.2.2.2.2.2.2.2.2.2.2.2.2.2.2.2.2.2.2.2.2.2.1
theorem dL_law_1571 : decode cL_law 1571 = .ok (.istore 5, 2) := fdg (k := 1536) (p := 35) hdk_1536 dLb_49.2.2.2.2.2.2.2.2.2.2.2.2.2.2.2.2.2.2.2.2.2.2.2.2.1
theorem dL_law_1573 : decode cL_law 1573 = .ok (.aload_n 2, 1) := fdg (k := 1536) (p := 37) hdk_1536 dLb_49.2.2.2.2.2.2.2.2.2.2.2.2.2.2.2.2.2.2.2.2.2.2.2.2.2.1
theorem dL_law_1574 : decode cL_law 1574 = .ok (.aload_n 0, 1) := fdg (k := 1536) (p := 38) hdk_1536 dLb_49.2.2.2.2.2.2.2.2.2.2.2.2.2.2.2.2.2.2.2.2.2.2.2.2.2.2.1
theorem dL_law_1575 : decode cL_law 1575 = .ok (.iload 4, 2) := fdg (k := 1536) (p := 39) hdk_1536 dLb_49.2.2.2.2.2.2.2.2.2.2.2.2.2.2.2.2.2.2.2.2.2.2.2.2.2.2.2.1
theorem dL_law_1577 : decode cL_law 1577 = .ok (.iconst 1, 1) := fdg (k := 1536) (p := 41) hdk_1536 dLb_49.2.2.2.2.2.2.2.2.2.2.2.2.2.2.2.2.2.2.2.2.2.2.2.2.2.2.2.2.1
theorem dL_law_1578 : decode cL_law 1578 = .ok (.iadd, 1) := fdg (k := 1536) (p := 42) hdk_1536 dLb_49.2.2.2.2.2.2.2.2.2.2.2.2.2.2.2.2.2.2.2.2.2.2.2.2.2.2.2.2.2.1
theorem dL_law_1579 : decode cL_law 1579 = .ok (.iaload, 1) := fdg (k := 1536) (p := 43) hdk_1536 dLb_49.2.2.2.2.2.2.2.2.2.2.2.2.2.2.2.2.2.2.2.2.2.2.2.2.2.2.2.2.2.2.1
theorem dL_law_1580 : decode cL_law 1580 = .ok (.aload_n 0, 1) := fdg (k := 1536) (p := 44) hdk_1536 dLb_49.2.2.2.2.2.2.2.2.2.2.2.2.2.2.2.2.2.2.2.2.2.2.2.2.2.2.2.2.2.2.2
theorem dLb_50 : fdq dk_1536 45 (.iload 4) 2 = true ∧ fdq dk_1536 47 (.iconst 2) 1 = true := by decide +kernel
theorem dL_law_1581 : decode cL_law 1581 = .ok (.iload 4, 2) := fdg (k := 1536) (p := 45) hdk_1536 dLb_50.1
theorem dL_law_1583 : decode cL_law 1583 = .ok (.iconst 2, 1) := fdg (k := 1536) (p := 47) hdk_1536 dLb_50.2
theorem dLb_51 : fdq dk_1584 0 (.iadd) 1 = true ∧ fdq dk_1584 1 (.iaload) 1 = true ∧ fdq dk_1584 2 (.aload_n 0) 1 = true ∧ fdq dk_1584 3 (.iload 4) 2 = true ∧ fdq dk_1584 5 (.iconst 3) 1 = true ∧ fdq dk_1584 6 (.iadd) 1 = true ∧ fdq dk_1584 7 (.iaload) 1 = true ∧ fdq dk_1584 8 (.invokevirtual 265) 3 = true ∧ fdq dk_1584 11 (.istore 6) 2 = true ∧ fdq dk_1584 13 (.goto 459) 3 = true ∧ fdq dk_1584 16 (.aload_n 1) 1 = true ∧ fdq dk_1584 17 (.aload_n 0) 1 = true ∧ fdq dk_1584 18 (.iload 4) 2 = true ∧ fdq dk_1584 20 (.iconst 1) 1 = true ∧ fdq dk_1584 21 (.iadd) 1 = true ∧ fdq dk_1584 22 (.iaload) 1 = true ∧ fdq dk_1584 23 (.aload_n 0) 1 = true ∧ fdq dk_1584 24 (.iload 4) 2 = true ∧ fdq dk_1584 26 (.iconst 2) 1 = true ∧ fdq dk_1584 27 (.iadd) 1 = true ∧ fdq dk_1584 28 (.iaload) 1 = true ∧ fdq dk_1584 29 (.aload_n 3) 1 = true ∧ fdq dk_1584 30 (.invokestatic 266) 3 = true ∧ fdq dk_1584 33 (.istore 5) 2 = true ∧ fdq dk_1584 35 (.aload_n 2) 1 = true ∧ fdq dk_1584 36 (.aload_n 0) 1 = true ∧ fdq dk_1584 37 (.iload 4) 2 = true ∧ fdq dk_1584 39 (.iconst 1) 1 = true ∧ fdq dk_1584 40 (.iadd) 1 = true ∧ fdq dk_1584 41 (.iaload) 1 = true ∧ fdq dk_1584 42 (.aload_n 0) 1 = true ∧ fdq dk_1584 43 (.iload 4) 2 = true := by decide +kernel
theorem dL_law_1584 : decode cL_law 1584 = .ok (.iadd, 1) := fdg (k := 1584) (p := 0) hdk_1584 dLb_51.1
theorem dL_law_1585 : decode cL_law 1585 = .ok (.iaload, 1) := fdg (k := 1584) (p := 1) hdk_1584 dLb_51.2.1
theorem dL_law_1586 : decode cL_law 1586 = .ok (.aload_n 0, 1) := fdg (k := 1584) (p := 2) hdk_1584 dLb_51.2.2.1
theorem dL_law_1587 : decode cL_law 1587 = .ok (.iload 4, 2) := fdg (k := 1584) (p := 3) hdk_1584 dLb_51.2.2.2.1
theorem dL_law_1589 : decode cL_law 1589 = .ok (.iconst 3, 1) := fdg (k := 1584) (p := 5) hdk_1584 dLb_51.2.2.2.2.1
theorem dL_law_1590 : decode cL_law 1590 = .ok (.iadd, 1) := fdg (k := 1584) (p := 6) hdk_1584 dLb_51.2.2.2.2.2.1
theorem dL_law_1591 : decode cL_law 1591 = .ok (.iaload, 1) := fdg (k := 1584) (p := 7) hdk_1584 dLb_51.2.2.2.2.2.2.1
theorem dL_law_1592 : decode cL_law 1592 = .ok (.invokevirtual 265, 3) := fdg (k := 1584) (p := 8) hdk_1584 dLb_51.2.2.2.2.2.2.2.1
theorem dL_law_1595 : decode cL_law 1595 = .ok (.istore 6, 2) := fdg (k := 1584) (p := 11) hdk_1584 dLb_51.2.2.2.2.2.2.2.2.1
theorem dL_law_1597 : decode cL_law 1597 = .ok (.goto 459, 3) := fdg (k := 1584) (p := 13) hdk_1584 dLb_51.2.2.2.2.2.2.2.2.2.1
theorem dL_law_1600 : decode cL_law 1600 = .ok (.aload_n 1, 1) := fdg (k := 1584) (p := 16) hdk_1584 dLb_51.2.2.2.2.2.2.2.2.2.2.1
theorem dL_law_1601 : decode cL_law 1601 = .ok (.aload_n 0, 1) := fdg (k := 1584) (p := 17) hdk_1584 dLb_51.2.2.2.2.2.2.2.2.2.2.2.1
theorem dL_law_1602 : decode cL_law 1602 = .ok (.iload 4, 2) := fdg (k := 1584) (p := 18) hdk_1584 dLb_51.2.2.2.2.2.2.2.2.2.2.2.2.1
theorem dL_law_1604 : decode cL_law 1604 = .ok (.iconst 1, 1) := fdg (k := 1584) (p := 20) hdk_1584 dLb_51.2.2.2.2.2.2.2.2.2.2.2.2.2.1
theorem dL_law_1605 : decode cL_law 1605 = .ok (.iadd, 1) := fdg (k := 1584) (p := 21) hdk_1584 dLb_51.2.2.2.2.2.2.2.2.2.2.2.2.2.2.1
theorem dL_law_1606 : decode cL_law 1606 = .ok (.iaload, 1) := fdg (k := 1584) (p := 22) hdk_1584 dLb_51.2.2.2.2.2.2.2.2.2.2.2.2.2.2.2.1
theorem dL_law_1607 : decode cL_law 1607 = .ok (.aload_n 0, 1) := fdg (k := 1584) (p := 23) hdk_1584 dLb_51.2.2.2.2.2.2.2.2.2.2.2.2.2.2.2.2.1
theorem dL_law_1608 : decode cL_law 1608 = .ok (.iload 4, 2) := fdg (k := 1584) (p := 24) hdk_1584 dLb_51.2.2.2.2.2.2.2.2.2.2.2.2.2.2.2.2.2.1
theorem dL_law_1610 : decode cL_law 1610 = .ok (.iconst 2, 1) := fdg (k := 1584) (p := 26) hdk_1584 dLb_51.2.2.2.2.2.2.2.2.2.2.2.2.2.2.2.2.2.2.1
theorem dL_law_1611 : decode cL_law 1611 = .ok (.iadd, 1) := fdg (k := 1584) (p := 27) hdk_1584 dLb_51.2.2.2.2.2.2.2.2.2.2.2.2.2.2.2.2.2.2.2.1
theorem dL_law_1612 : decode cL_law 1612 = .ok (.iaload, 1) := fdg (k := 1584) (p := 28) hdk_1584 dLb_51.2.2.2.2.2.2.2.2.2.2.2.2.2.2.2.2.2.2.2.2.1
theorem dL_law_1613 : decode cL_law 1613 = .ok (.aload_n 3, 1) := fdg (k := 1584) (p := 29) hdk_1584 dLb_51.2.2.2.2.2.2.2.2.2.2.2.2.2.2.2.2.2.2.2.2.2.1
theorem dL_law_1614 : decode cL_law 1614 = .ok (.invokestatic 266, 3) := fdg (k := 1584) (p := 30) hdk_1584 dLb_51.2.2.2.2.2.2.2.2.2.2.2.2.2.2.2.2.2.2.2.2.2.2.1
theorem dL_law_1617 : decode cL_law 1617 = .ok (.istore 5, 2) := fdg (k := 1584) (p := 33) hdk_1584 dLb_51.2.2.2.2.2.2.2.2.2.2.2.2.2.2.2.2.2.2.2.2.2.2.2.1
theorem dL_law_1619 : decode cL_law 1619 = .ok (.aload_n 2, 1) := fdg (k := 1584) (p := 35) hdk_1584 dLb_51.2.2.2.2.2.2.2.2.2.2.2.2.2.2.2.2.2.2.2.2.2.2.2.2.1
theorem dL_law_1620 : decode cL_law 1620 = .ok (.aload_n 0, 1) := fdg (k := 1584) (p := 36) hdk_1584 dLb_51.2.2.2.2.2.2.2.2.2.2.2.2.2.2.2.2.2.2.2.2.2.2.2.2.2.1
theorem dL_law_1621 : decode cL_law 1621 = .ok (.iload 4, 2) := fdg (k := 1584) (p := 37) hdk_1584 dLb_51.2.2.2.2.2.2.2.2.2.2.2.2.2.2.2.2.2.2.2.2.2.2.2.2.2.2.1
theorem dL_law_1623 : decode cL_law 1623 = .ok (.iconst 1, 1) := fdg (k := 1584) (p := 39) hdk_1584 dLb_51.2.2.2.2.2.2.2.2.2.2.2.2.2.2.2.2.2.2.2.2.2.2.2.2.2.2.2.1
theorem dL_law_1624 : decode cL_law 1624 = .ok (.iadd, 1) := fdg (k := 1584) (p := 40) hdk_1584 dLb_51.2.2.2.2.2.2.2.2.2.2.2.2.2.2.2.2.2.2.2.2.2.2.2.2.2.2.2.2.1
theorem dL_law_1625 : decode cL_law 1625 = .ok (.iaload, 1) := fdg (k := 1584) (p := 41) hdk_1584 dLb_51.2.2.2.2.2.2.2.2.2.2.2.2.2.2.2.2.2.2.2.2.2.2.2.2.2.2.2.2.2.1
theorem dL_law_1626 : decode cL_law 1626 = .ok (.aload_n 0, 1) := fdg (k := 1584) (p := 42) hdk_1584 dLb_51.2.2.2.2.2.2.2.2.2.2.2.2.2.2.2.2.2.2.2.2.2.2.2.2.2.2.2.2.2.2.1
theorem dL_law_1627 : decode cL_law 1627 = .ok (.iload 4, 2) := fdg (k := 1584) (p := 43) hdk_1584 dLb_51.2.2.2.2.2.2.2.2.2.2.2.2.2.2.2.2.2.2.2.2.2.2.2.2.2.2.2.2.2.2.2
theorem dLb_52 : fdq dk_1584 45 (.iconst 2) 1 = true ∧ fdq dk_1584 46 (.iadd) 1 = true ∧ fdq dk_1584 47 (.iaload) 1 = true := by decide +kernel
theorem dL_law_1629 : decode cL_law 1629 = .ok (.iconst 2, 1) := fdg (k := 1584) (p := 45) hdk_1584 dLb_52.1
theorem dL_law_1630 : decode cL_law 1630 = .ok (.iadd, 1) := fdg (k := 1584) (p := 46) hdk_1584 dLb_52.2.1
theorem dL_law_1631 : decode cL_law 1631 = .ok (.iaload, 1) := fdg (k := 1584) (p := 47) hdk_1584 dLb_52.2.2
theorem dLb_53 : fdq dk_1632 0 (.invokevirtual 268) 3 = true ∧ fdq dk_1632 3 (.istore 6) 2 = true ∧ fdq dk_1632 5 (.goto 419) 3 = true ∧ fdq dk_1632 8 (.aload_n 1) 1 = true ∧ fdq dk_1632 9 (.aload_n 0) 1 = true ∧ fdq dk_1632 10 (.iload 4) 2 = true ∧ fdq dk_1632 12 (.iconst 1) 1 = true ∧ fdq dk_1632 13 (.iadd) 1 = true ∧ fdq dk_1632 14 (.iaload) 1 = true ∧ fdq dk_1632 15 (.aload_n 0) 1 = true ∧ fdq dk_1632 16 (.iload 4) 2 = true ∧ fdq dk_1632 18 (.iconst 2) 1 = true ∧ fdq dk_1632 19 (.iadd) 1 = true ∧ fdq dk_1632 20 (.iaload) 1 = true ∧ fdq dk_1632 21 (.aload_n 3) 1 = true ∧ fdq dk_1632 22 (.invokestatic 269) 3 = true ∧ fdq dk_1632 25 (.istore 5) 2 = true ∧ fdq dk_1632 27 (.aload_n 2) 1 = true ∧ fdq dk_1632 28 (.aload_n 0) 1 = true ∧ fdq dk_1632 29 (.iload 4) 2 = true ∧ fdq dk_1632 31 (.iconst 1) 1 = true ∧ fdq dk_1632 32 (.iadd) 1 = true ∧ fdq dk_1632 33 (.iaload) 1 = true ∧ fdq dk_1632 34 (.aload_n 0) 1 = true ∧ fdq dk_1632 35 (.iload 4) 2 = true ∧ fdq dk_1632 37 (.iconst 2) 1 = true ∧ fdq dk_1632 38 (.iadd) 1 = true ∧ fdq dk_1632 39 (.iaload) 1 = true ∧ fdq dk_1632 40 (.invokevirtual 271) 3 = true ∧ fdq dk_1632 43 (.istore 6) 2 = true ∧ fdq dk_1632 45 (.goto 379) 3 = true := by decide +kernel
theorem dL_law_1632 : decode cL_law 1632 = .ok (.invokevirtual 268, 3) := fdg (k := 1632) (p := 0) hdk_1632 dLb_53.1
theorem dL_law_1635 : decode cL_law 1635 = .ok (.istore 6, 2) := fdg (k := 1632) (p := 3) hdk_1632 dLb_53.2.1
theorem dL_law_1637 : decode cL_law 1637 = .ok (.goto 419, 3) := fdg (k := 1632) (p := 5) hdk_1632 dLb_53.2.2.1
theorem dL_law_1640 : decode cL_law 1640 = .ok (.aload_n 1, 1) := fdg (k := 1632) (p := 8) hdk_1632 dLb_53.2.2.2.1
theorem dL_law_1641 : decode cL_law 1641 = .ok (.aload_n 0, 1) := fdg (k := 1632) (p := 9) hdk_1632 dLb_53.2.2.2.2.1
theorem dL_law_1642 : decode cL_law 1642 = .ok (.iload 4, 2) := fdg (k := 1632) (p := 10) hdk_1632 dLb_53.2.2.2.2.2.1
theorem dL_law_1644 : decode cL_law 1644 = .ok (.iconst 1, 1) := fdg (k := 1632) (p := 12) hdk_1632 dLb_53.2.2.2.2.2.2.1
theorem dL_law_1645 : decode cL_law 1645 = .ok (.iadd, 1) := fdg (k := 1632) (p := 13) hdk_1632 dLb_53.2.2.2.2.2.2.2.1
theorem dL_law_1646 : decode cL_law 1646 = .ok (.iaload, 1) := fdg (k := 1632) (p := 14) hdk_1632 dLb_53.2.2.2.2.2.2.2.2.1
theorem dL_law_1647 : decode cL_law 1647 = .ok (.aload_n 0, 1) := fdg (k := 1632) (p := 15) hdk_1632 dLb_53.2.2.2.2.2.2.2.2.2.1
theorem dL_law_1648 : decode cL_law 1648 = .ok (.iload 4, 2) := fdg (k := 1632) (p := 16) hdk_1632 dLb_53.2.2.2.2.2.2.2.2.2.2.1
theorem dL_law_1650 : decode cL_law 1650 = .ok (.iconst 2, 1) := fdg (k := 1632) (p := 18) hdk_1632 dLb_53.2.2.2.2.2.2.2.2.2.2.2.1
theorem dL_law_1651 : decode cL_law 1651 = .ok (.iadd, 1) := fdg (k := 1632) (p := 19) hdk_1632 dLb_53.2.2.2.2.2.2.2.2.2.2.2.2.1
theorem dL_law_1652 : decode cL_law 1652 = .ok (.iaload, 1) := fdg (k := 1632) (p := 20) hdk_1632 dLb_53.2.2.2.2.2.2.2.2.2.2.2.2.2.1
theorem dL_law_1653 : decode cL_law 1653 = .ok (.aload_n 3, 1) := fdg (k := 1632) (p := 21) hdk_1632 dLb_53.2.2.2.2.2.2.2.2.2.2.2.2.2.2.1
theorem dL_law_1654 : decode cL_law 1654 = .ok (.invokestatic 269, 3) := fdg (k := 1632) (p := 22) hdk_1632 dLb_53.2.2.2.2.2.2.2.2.2.2.2.2.2.2.2.1
theorem dL_law_1657 : decode cL_law 1657 = .ok (.istore 5, 2) := fdg (k := 1632) (p := 25) hdk_1632 dLb_53.2.2.2.2.2.2.2.2.2.2.2.2.2.2.2.2.1
theorem dL_law_1659 : decode cL_law 1659 = .ok (.aload_n 2, 1) := fdg (k := 1632) (p := 27) hdk_1632 dLb_53.2.2.2.2.2.2.2.2.2.2.2.2.2.2.2.2.2.1
theorem dL_law_1660 : decode cL_law 1660 = .ok (.aload_n 0, 1) := fdg (k := 1632) (p := 28) hdk_1632 dLb_53.2.2.2.2.2.2.2.2.2.2.2.2.2.2.2.2.2.2.1
theorem dL_law_1661 : decode cL_law 1661 = .ok (.iload 4, 2) := fdg (k := 1632) (p := 29) hdk_1632 dLb_53.2.2.2.2.2.2.2.2.2.2.2.2.2.2.2.2.2.2.2.1
theorem dL_law_1663 : decode cL_law 1663 = .ok (.iconst 1, 1) := fdg (k := 1632) (p := 31) hdk_1632 dLb_53.2.2.2.2.2.2.2.2.2.2.2.2.2.2.2.2.2.2.2.2.1
theorem dL_law_1664 : decode cL_law 1664 = .ok (.iadd, 1) := fdg (k := 1632) (p := 32) hdk_1632 dLb_53.2.2.2.2.2.2.2.2.2.2.2.2.2.2.2.2.2.2.2.2.2.1
theorem dL_law_1665 : decode cL_law 1665 = .ok (.iaload, 1) := fdg (k := 1632) (p := 33) hdk_1632 dLb_53.2.2.2.2.2.2.2.2.2.2.2.2.2.2.2.2.2.2.2.2.2.2.1
theorem dL_law_1666 : decode cL_law 1666 = .ok (.aload_n 0, 1) := fdg (k := 1632) (p := 34) hdk_1632 dLb_53.2.2.2.2.2.2.2.2.2.2.2.2.2.2.2.2.2.2.2.2.2.2.2.1
theorem dL_law_1667 : decode cL_law 1667 = .ok (.iload 4, 2) := fdg (k := 1632) (p := 35) hdk_1632 dLb_53.2.2.2.2.2.2.2.2.2.2.2.2.2.2.2.2.2.2.2.2.2.2.2.2.1
theorem dL_law_1669 : decode cL_law 1669 = .ok (.iconst 2, 1) := fdg (k := 1632) (p := 37) hdk_1632 dLb_53.2.2.2.2.2.2.2.2.2.2.2.2.2.2.2.2.2.2.2.2.2.2.2.2.2.1
theorem dL_law_1670 : decode cL_law 1670 = .ok (.iadd, 1) := fdg (k := 1632) (p := 38) hdk_1632 dLb_53.2.2.2.2.2.2.2.2.2.2.2.2.2.2.2.2.2.2.2.2.2.2.2.2.2.2.1
theorem dL_law_1671 : decode cL_law 1671 = .ok (.iaload, 1) := fdg (k := 1632) (p := 39) hdk_1632 dLb_53.2.2.2.2.2.2.2.2.2.2.2.2.2.2.2.2.2.2.2.2.2.2.2.2.2.2.2.1
theorem dL_law_1672 : decode cL_law 1672 = .ok (.invokevirtual 271, 3) := fdg (k := 1632) (p := 40) hdk_1632 dLb_53.2.2.2.2.2.2.2.2.2.2.2.2.2.2.2.2.2.2.2.2.2.2.2.2.2.2.2.2.1
theorem dL_law_1675 : decode cL_law 1675 = .ok (.istore 6, 2) := fdg (k := 1632) (p := 43) hdk_1632 dLb_53.2.2.2.2.2.2.2.2.2.2.2.2.2.2.2.2.2.2.2.2.2.2.2.2.2.2.2.2.2.1
theorem dL_law_1677 : decode cL_law 1677 = .ok (.goto 379, 3) := fdg (k := 1632) (p := 45) hdk_1632 dLb_53.2.2.2.2.2.2.2.2.2.2.2.2.2.2.2.2.2.2.2.2.2.2.2.2.2.2.2.2.2.2
theorem dLb_54 : fdq dk_1680 0 (.aload_n 1) 1 = true ∧ fdq dk_1680 1 (.aload_n 0) 1 = true ∧ fdq dk_1680 2 (.iload 4) 2 = true ∧ fdq dk_1680 4 (.iconst 1) 1 = true ∧ fdq dk_1680 5 (.iadd) 1 = true ∧ fdq dk_1680 6 (.iaload) 1 = true ∧ fdq dk_1680 7 (.aload_n 0) 1 = true ∧ fdq dk_1680 8 (.iload 4) 2 = true ∧ fdq dk_1680 10 (.iconst 2) 1 = true ∧ fdq dk_1680 11 (.iadd) 1 = true ∧ fdq dk_1680 12 (.iaload) 1 = true ∧ fdq dk_1680 13 (.aload_n 3) 1 = true ∧ fdq dk_1680 14 (.invokestatic 272) 3 = true ∧ fdq dk_1680 17 (.istore 5) 2 = true ∧ fdq dk_1680 19 (.aload_n 2) 1 = true ∧ fdq dk_1680 20 (.aload_n 0) 1 = true ∧ fdq dk_1680 21 (.iload 4) 2 = true ∧ fdq dk_1680 23 (.iconst 1) 1 = true ∧ fdq dk_1680 24 (.iadd) 1 = true ∧ fdq dk_1680 25 (.iaload) 1 = true ∧ fdq dk_1680 26 (.aload_n 0) 1 = true ∧ fdq dk_1680 27 (.iload 4) 2 = true ∧ fdq dk_1680 29 (.iconst 2) 1 = true ∧ fdq dk_1680 30 (.iadd) 1 = true ∧ fdq dk_1680 31 (.iaload) 1 = true ∧ fdq dk_1680 32 (.invokevirtual 274) 3 = true ∧ fdq dk_1680 35 (.istore 6) 2 = true ∧ fdq dk_1680 37 (.goto 339) 3 = true ∧ fdq dk_1680 40 (.aload_n 1) 1 = true ∧ fdq dk_1680 41 (.aload_n 0) 1 = true ∧ fdq dk_1680 42 (.iload 4) 2 = true ∧ fdq dk_1680 44 (.iconst 1) 1 = true := by decide +kernel
theorem dL_law_1680 : decode cL_law 1680 = .ok (.aload_n 1, 1) := fdg (k := 1680) (p := 0) hdk_1680 dLb_54.1
theorem dL_law_1681 : decode cL_law 1681 = .ok (.aload_n 0, 1) := fdg (k := 1680) (p := 1) hdk_1680 dLb_54.2.1
theorem dL_law_1682 : decode cL_law 1682 = .ok (.iload 4, 2) := fdg (k := 1680) (p := 2) hdk_1680 dLb_54.2.2.1
theorem dL_law_1684 : decode cL_law 1684 = .ok (.iconst 1, 1) := fdg (k := 1680) (p := 4) hdk_1680 dLb_54.2.2.2.1
theorem dL_law_1685 : decode cL_law 1685 = .ok (.iadd, 1) := fdg (k := 1680) (p := 5) hdk_1680 dLb_54.2.2.2.2.1
theorem dL_law_1686 : decode cL_law 1686 = .ok (.iaload, 1) := fdg (k := 1680) (p := 6) hdk_1680 dLb_54.2.2.2.2.2.1
theorem dL_law_1687 : decode cL_law 1687 = .ok (.aload_n 0, 1) := fdg (k := 1680) (p := 7) hdk_1680 dLb_54.2.2.2.2.2.2.1
theorem dL_law_1688 : decode cL_law 1688 = .ok (.iload 4, 2) := fdg (k := 1680) (p := 8) hdk_1680 dLb_54.2.2.2.2.2.2.2.1
theorem dL_law_1690 : decode cL_law 1690 = .ok (.iconst 2, 1) := fdg (k := 1680) (p := 10) hdk_1680 dLb_54.2.2.2.2.2.2.2.2.1
theorem dL_law_1691 : decode cL_law 1691 = .ok (.iadd, 1) := fdg (k := 1680) (p := 11) hdk_1680 dLb_54.2.2.2.2.2.2.2.2.2.1
theorem dL_law_1692 : decode cL_law 1692 = .ok (.iaload, 1) := fdg (k := 1680) (p := 12) hdk_1680 dLb_54.2.2.2.2.2.2.2.2.2.2.1
theorem dL_law_1693 : decode cL_law 1693 = .ok (.aload_n 3, 1) := fdg (k := 1680) (p := 13) hdk_1680 dLb_54.2.2.2.2.2.2.2.2.2.2.2.1
theorem dL_law_1694 : decode cL_law 1694 = .ok (.invokestatic 272, 3) := fdg (k := 1680) (p := 14) hdk_1680 dLb_54.2.2.2.2.2.2.2.2.2.2.2.2.1
theorem dL_law_1697 : decode cL_law 1697 = .ok (.istore 5, 2) := fdg (k := 1680) (p := 17) hdk_1680 dLb_54.2.2.2.2.2.2.2.2.2.2.2.2.2.1
theorem dL_law_1699 : decode cL_law 1699 = .ok (.aload_n 2, 1) := fdg (k := 1680) (p := 19) hdk_1680 dLb_54.2.2.2.2.2.2.2.2.2.2.2.2.2.2.1
theorem dL_law_1700 : decode cL_law 1700 = .ok (.aload_n 0, 1) := fdg (k := 1680) (p := 20) hdk_1680 dLb_54.2.2.2.2.2.2.2.2.2.2.2.2.2.2.2.1
theorem dL_law_1701 : decode cL_law 1701 = .ok (.iload 4, 2) := fdg (k := 1680) (p := 21) hdk_1680 dLb_54.2.2.2.2.2.2.2.2.2.2.2.2.2.2.2.2.1
theorem dL_law_1703 : decode cL_law 1703 = .ok (.iconst 1, 1) := fdg (k := 1680) (p := 23) hdk_1680 dLb_54.2.2.2.2.2.2.2.2.2.2.2.2.2.2.2.2.2.1
theorem dL_law_1704 : decode cL_law 1704 = .ok (.iadd, 1) := fdg (k := 1680) (p := 24) hdk_1680 dLb_54.2.2.2.2.2.2.2.2.2.2.2.2.2.2.2.2.2.2.1
theorem dL_law_1705 : decode cL_law 1705 = .ok (.iaload, 1) := fdg (k := 1680) (p := 25) hdk_1680 dLb_54.2.2.2.2.2.2.2.2.2.2.2.2.2.2.2.2.2.2.2.1
theorem dL_law_1706 : decode cL_law 1706 = .ok (.aload_n 0, 1) := fdg (k := 1680) (p := 26) hdk_1680 dLb_54.2.2.2.2.2.2.2.2.2.2.2.2.2.2.2.2.2.2.2.2.1
theorem dL_law_1707 : decode cL_law 1707 = .ok (.iload 4, 2) := fdg (k := 1680) (p := 27) hdk_1680 dLb_54.2.2.2.2.2.2.2.2.2.2.2.2.2.2.2.2.2.2.2.2.2.1
theorem dL_law_1709 : decode cL_law 1709 = .ok (.iconst 2, 1) := fdg (k := 1680) (p := 29) hdk_1680 dLb_54.2.2.2.2.2.2.2.2.2.2.2.2.2.2.2.2.2.2.2.2.2.2.1
theorem dL_law_1710 : decode cL_law 1710 = .ok (.iadd, 1) := fdg (k := 1680) (p := 30) hdk_1680 dLb_54.2.2.2.2.2.2.2.2.2.2.2.2.2.2.2.2.2.2.2.2.2.2.2.1
theorem dL_law_1711 : decode cL_law 1711 = .ok (.iaload, 1) := fdg (k := 1680) (p := 31) hdk_1680 dLb_54.2.2.2.2.2.2.2.2.2.2.2.2.2.2.2.2.2.2.2.2.2.2.2.2.1
theorem dL_law_1712 : decode cL_law 1712 = .ok (.invokevirtual 274, 3) := fdg (k := 1680) (p := 32) hdk_1680 dLb_54.2.2.2.2.2.2.2.2.2.2.2.2.2.2.2.2.2.2.2.2.2.2.2.2.2.1
theorem dL_law_1715 : decode cL_law 1715 = .ok (.istore 6, 2) := fdg (k := 1680) (p := 35) hdk_1680 dLb_54.2.2.2.2.2.2.2.2.2.2.2.2.2.2.2.2.2.2.2.2.2.2.2.2.2.2.1
theorem dL_law_1717 : decode cL_law 1717 = .ok (.goto 339, 3) := fdg (k := 1680) (p := 37) hdk_1680 dLb_54.2.2.2.2.2.2.2.2.2.2.2.2.2.2.2.2.2.2.2.2.2.2.2.2.2.2.2.1
theorem dL_law_1720 : decode cL_law 1720 = .ok (.aload_n 1, 1) := fdg (k := 1680) (p := 40) hdk_1680 dLb_54.2.2.2.2.2.2.2.2.2.2.2.2.2.2.2.2.2.2.2.2.2.2.2.2.2.2.2.2.1
theorem dL_law_1721 : decode cL_law 1721 = .ok (.aload_n 0, 1) := fdg (k := 1680) (p := 41) hdk_1680 dLb_54.2.2.2.2.2.2.2.2.2.2.2.2.2.2.2.2.2.2.2.2.2.2.2.2.2.2.2.2.2.1
theorem dL_law_1722 : decode cL_law 1722 = .ok (.iload 4, 2) := fdg (k := 1680) (p := 42) hdk_1680 dLb_54.2.2.2.2.2.2.2.2.2.2.2.2.2.2.2.2.2.2.2.2.2.2.2.2.2.2.2.2.2.2.1
theorem dL_law_1724 : decode cL_law 1724 = .ok (.iconst 1, 1) := fdg (k := 1680) (p := 44) hdk_1680 dLb_54.2.2.2.2.2.2.2.2.2.2.2.2.2.2.2.2.2.2.2.2.2.2.2.2.2.2.2.2.2.2.2
theorem dLb_55 : fdq dk_1680 45 (.iadd) 1 = true ∧ fdq dk_1680 46 (.iaload) 1 = true ∧ fdq dk_1680 47 (.aload_n 0) 1 = true := by decide +kernel
theorem dL_law_1725 : decode cL_law 1725 = .ok (.iadd, 1) := fdg (k := 1680) (p := 45) hdk_1680 dLb_55.1
theorem dL_law_1726 : decode cL_law 1726 = .ok (.iaload, 1) := fdg (k := 1680) (p := 46) hdk_1680 dLb_55.2.1
theorem dL_law_1727 : decode cL_law 1727 = .ok (.aload_n 0, 1) := fdg (k := 1680) (p := 47) hdk_1680 dLb_55.2.2
theorem dLb_56 : fdq dk_1728 0 (.iload 4) 2 = true ∧ fdq dk_1728 2 (.iconst 2) 1 = true ∧ fdq dk_1728 3 (.iadd) 1 = true ∧ fdq dk_1728 4 (.iaload) 1 = true ∧ fdq dk_1728 5 (.aload_n 3) 1 = true ∧ fdq dk_1728 6 (.invokestatic 275) 3 = true ∧ fdq dk_1728 9 (.istore 5) 2 = true ∧ fdq dk_1728 11 (.aload_n 2) 1 = true ∧ fdq dk_1728 12 (.aload_n 0) 1 = true ∧ fdq dk_1728 13 (.iload 4) 2 = true ∧ fdq dk_1728 15 (.iconst 1) 1 = true ∧ fdq dk_1728 16 (.iadd) 1 = true ∧ fdq dk_1728 17 (.iaload) 1 = true ∧ fdq dk_1728 18 (.aload_n 0) 1 = true ∧ fdq dk_1728 19 (.iload 4) 2 = true ∧ fdq dk_1728 21 (.iconst 2) 1 = true ∧ fdq dk_1728 22 (.iadd) 1 = true ∧ fdq dk_1728 23 (.iaload) 1 = true ∧ fdq dk_1728 24 (.invokevirtual 277) 3 = true ∧ fdq dk_1728 27 (.istore 6) 2 = true ∧ fdq dk_1728 29 (.goto 299) 3 = true ∧ fdq dk_1728 32 (.aload_n 1) 1 = true ∧ fdq dk_1728 33 (.aload_n 0) 1 = true ∧ fdq dk_1728 34 (.iload 4) 2 = true ∧ fdq dk_1728 36 (.iconst 1) 1 = true ∧ fdq dk_1728 37 (.iadd) 1 = true ∧ fdq dk_1728 38 (.iaload) 1 = true ∧ fdq dk_1728 39 (.aload_n 0) 1 = true ∧ fdq dk_1728 40 (.iload 4) 2 = true ∧ fdq dk_1728 42 (.iconst 2) 1 = true ∧ fdq dk_1728 43 (.iadd) 1 = true ∧ fdq dk_1728 44 (.iaload) 1 = true := by decide +kernel
theorem dL_law_1728 : decode cL_law 1728 = .ok (.iload 4, 2) := fdg (k := 1728) (p := 0) hdk_1728 dLb_56.1
theorem dL_law_1730 : decode cL_law 1730 = .ok (.iconst 2, 1) := fdg (k := 1728) (p := 2) hdk_1728 dLb_56.2.1
theorem dL_law_1731 : decode cL_law 1731 = .ok (.iadd, 1) := fdg (k := 1728) (p := 3) hdk_1728 dLb_56.2.2.1
theorem dL_law_1732 : decode cL_law 1732 = .ok (.iaload, 1) := fdg (k := 1728) (p := 4) hdk_1728 dLb_56.2.2.2.1
theorem dL_law_1733 : decode cL_law 1733 = .ok (.aload_n 3, 1) := fdg (k := 1728) (p := 5) hdk_1728 dLb_56.2.2.2.2.1
theorem dL_law_1734 : decode cL_law 1734 = .ok (.invokestatic 275, 3) := fdg (k := 1728) (p := 6) hdk_1728 dLb_56.2.2.2.2.2.1
theorem dL_law_1737 : decode cL_law 1737 = .ok (.istore 5, 2) := fdg (k := 1728) (p := 9) hdk_1728 dLb_56.2.2.2.2.2.2.1
theorem dL_law_1739 : decode cL_law 1739 = .ok (.aload_n 2, 1) := fdg (k := 1728) (p := 11) hdk_1728 dLb_56.2.2.2.2.2.2.2.1
theorem dL_law_1740 : decode cL_law 1740 = .ok (.aload_n 0, 1) := fdg (k := 1728) (p := 12) hdk_1728 dLb_56.2.2.2.2.2.2.2.2.1
theorem dL_law_1741 : decode cL_law 1741 = .ok (.iload 4, 2) := fdg (k := 1728) (p := 13) hdk_1728 dLb_56.2.2.2.2.2.2.2.2.2.1
theorem dL_law_1743 : decode cL_law 1743 = .ok (.iconst 1, 1) := fdg (k := 1728) (p := 15) hdk_1728 dLb_56.2.2.2.2.2.2.2.2.2.2.1
theorem dL_law_1744 : decode cL_law 1744 = .ok (.iadd, 1) := fdg (k := 1728) (p := 16) hdk_1728 dLb_56.2.2.2.2.2.2.2.2.2.2.2.1
theorem dL_law_1745 : decode cL_law 1745 = .ok (.iaload, 1) := fdg (k := 1728) (p := 17) hdk_1728 dLb_56.2.2.2.2.2.2.2.2.2.2.2.2.1
theorem dL_law_1746 : decode cL_law 1746 = .ok (.aload_n 0, 1) := fdg (k := 1728) (p := 18) hdk_1728 dLb_56.2.2.2.2.2.2.2.2.2.2.2.2.2.1
theorem dL_law_1747 : decode cL_law 1747 = .ok (.iload 4, 2) := fdg (k := 1728) (p := 19) hdk_1728 dLb_56.2.2.2.2.2.2.2.2.2.2.2.2.2.2.1
theorem dL_law_1749 : decode cL_law 1749 = .ok (.iconst 2, 1) := fdg (k := 1728) (p := 21) hdk_1728 dLb_56.2.2.2.2.2.2.2.2.2.2.2.2.2.2.2.1
theorem dL_law_1750 : decode cL_law 1750 = .ok (.iadd, 1) := fdg (k := 1728) (p := 22) hdk_1728 dLb_56.2.2.2.2.2.2.2.2.2.2.2.2.2.2.2.2.1
theorem dL_law_1751 : decode cL_law 1751 = .ok (.iaload, 1) := fdg (k := 1728) (p := 23) hdk_1728 dLb_56.2.2.2.2.2.2.2.2.2.2.2.2.2.2.2.2.2.1
theorem dL_law_1752 : decode cL_law 1752 = .ok (.invokevirtual 277, 3) := fdg (k := 1728) (p := 24) hdk_1728 dLb_56.2.2.2.2.2.2.2.2.2.2.2.2.2.2.2.2.2.2.1
theorem dL_law_1755 : decode cL_law 1755 = .ok (.istore 6, 2) := fdg (k := 1728) (p := 27) hdk_1728 dLb_56.2.2.2.2.2.2.2.2.2.2.2.2.2.2.2.2.2.2.2.1
theorem dL_law_1757 : decode cL_law 1757 = .ok (.goto 299, 3) := fdg (k := 1728) (p := 29) hdk_1728 dLb_56.2.2.2.2.2.2.2.2.2.2.2.2.2.2.2.2.2.2.2.2.1
theorem dL_law_1760 : decode cL_law 1760 = .ok (.aload_n 1, 1) := fdg (k := 1728) (p := 32) hdk_1728 dLb_56.2.2.2.2.2.2.2.2.2.2.2.2.2.2.2.2.2.2.2.2.2.1
theorem dL_law_1761 : decode cL_law 1761 = .ok (.aload_n 0, 1) := fdg (k := 1728) (p := 33) hdk_1728 dLb_56.2.2.2.2.2.2.2.2.2.2.2.2.2.2.2.2.2.2.2.2.2.2.1
theorem dL_law_1762 : decode cL_law 1762 = .ok (.iload 4, 2) := fdg (k := 1728) (p := 34) hdk_1728 dLb_56.2.2.2.2.2.2.2.2.2.2.2.2.2.2.2.2.2.2.2.2.2.2.2.1
theorem dL_law_1764 : decode cL_law 1764 = .ok (.iconst 1, 1) := fdg (k := 1728) (p := 36) hdk_1728 dLb_56.2.2.2.2.2.2.2.2.2.2.2.2.2.2.2.2.2.2.2.2.2.2.2.2.1
theorem dL_law_1765 : decode cL_law 1765 = .ok (.iadd, 1) := fdg (k := 1728) (p := 37) hdk_1728 dLb_56.2.2.2.2.2.2.2.2.2.2.2.2.2.2.2.2.2.2.2.2.2.2.2.2.2.1
theorem dL_law_1766 : decode cL_law 1766 = .ok (.iaload, 1) := fdg (k := 1728) (p := 38) hdk_1728 dLb_56.2.2.2.2.2.2.2.2.2.2.2.2.2.2.2.2.2.2.2.2.2.2.2.2.2.2.1
theorem dL_law_1767 : decode cL_law 1767 = .ok (.aload_n 0, 1) := fdg (k := 1728) (p := 39) hdk_1728 dLb_56.2.2.2.2.2.2.2.2.2.2.2.2.2.2.2.2.2.2.2.2.2.2.2.2.2.2.2.1
theorem dL_law_1768 : decode cL_law 1768 = .ok (.iload 4, 2) := fdg (k := 1728) (p := 40) hdk_1728 dLb_56.2.2.2.2.2.2.2.2.2.2.2.2.2.2.2.2.2.2.2.2.2.2.2.2.2.2.2.2.1
theorem dL_law_1770 : decode cL_law 1770 = .ok (.iconst 2, 1) := fdg (k := 1728) (p := 42) hdk_1728 dLb_56.2.2.2.2.2.2.2.2.2.2.2.2.2.2.2.2.2.2.2.2.2.2.2.2.2.2.2.2.2.1
theorem dL_law_1771 : decode cL_law 1771 = .ok (.iadd, 1) := fdg (k := 1728) (p := 43) hdk_1728 dLb_56.2.2.2.2.2.2.2.2.2.2.2.2.2.2.2.2.2.2.2.2.2.2.2.2.2.2.2.2.2.2.1
theorem dL_law_1772 : decode cL_law 1772 = .ok (.iaload, 1) := fdg (k := 1728) (p := 44) hdk_1728 dLb_56.2.2.2.2.2.2.2.2.2.2.2.2.2.2.2.2.2.2.2.2.2.2.2.2.2.2.2.2.2.2.2
theorem dLb_57 : fdq dk_1728 45 (.aload_n 3) 1 = true ∧ fdq dk_1728 46 (.invokestatic 278) 3 = true := by decide +kernel
theorem dL_law_1773 : decode cL_law 1773 = .ok (.aload_n 3, 1) := fdg (k := 1728) (p := 45) hdk_1728 dLb_57.1
theorem dL_law_1774 : decode cL_law 1774 = .ok (.invokestatic 278, 3) := fdg (k := 1728) (p := 46) hdk_1728 dLb_57.2
theorem dLb_58 : fdq dk_1776 1 (.istore 5) 2 = true ∧ fdq dk_1776 3 (.aload_n 2) 1 = true ∧ fdq dk_1776 4 (.aload_n 0) 1 = true ∧ fdq dk_1776 5 (.iload 4) 2 = true ∧ fdq dk_1776 7 (.iconst 1) 1 = true ∧ fdq dk_1776 8 (.iadd) 1 = true ∧ fdq dk_1776 9 (.iaload) 1 = true ∧ fdq dk_1776 10 (.aload_n 0) 1 = true ∧ fdq dk_1776 11 (.iload 4) 2 = true ∧ fdq dk_1776 13 (.iconst 2) 1 = true ∧ fdq dk_1776 14 (.iadd) 1 = true ∧ fdq dk_1776 15 (.iaload) 1 = true ∧ fdq dk_1776 16 (.invokevirtual 280) 3 = true ∧ fdq dk_1776 19 (.istore 6) 2 = true ∧ fdq dk_1776 21 (.goto 259) 3 = true ∧ fdq dk_1776 24 (.aload_n 1) 1 = true ∧ fdq dk_1776 25 (.aload_n 0) 1 = true ∧ fdq dk_1776 26 (.iload 4) 2 = true ∧ fdq dk_1776 28 (.iconst 1) 1 = true ∧ fdq dk_1776 29 (.iadd) 1 = true ∧ fdq dk_1776 30 (.iaload) 1 = true ∧ fdq dk_1776 31 (.aload_n 0) 1 = true ∧ fdq dk_1776 32 (.iload 4) 2 = true ∧ fdq dk_1776 34 (.iconst 2) 1 = true ∧ fdq dk_1776 35 (.iadd) 1 = true ∧ fdq dk_1776 36 (.iaload) 1 = true ∧ fdq dk_1776 37 (.aload_n 0) 1 = true ∧ fdq dk_1776 38 (.iload 4) 2 = true ∧ fdq dk_1776 40 (.iconst 3) 1 = true ∧ fdq dk_1776 41 (.iadd) 1 = true ∧ fdq dk_1776 42 (.iaload) 1 = true ∧ fdq dk_1776 43 (.aload_n 3) 1 = true := by decide +kernel
theorem dL_law_1777 : decode cL_law 1777 = .ok (.istore 5, 2) := fdg (k := 1776) (p := 1) hdk_1776 dLb_58.1
theorem dL_law_1779 : decode cL_law 1779 = .ok (.aload_n 2, 1) := fdg (k := 1776) (p := 3) hdk_1776 dLb_58.2.1
theorem dL_law_1780 : decode cL_law 1780 = .ok (.aload_n 0, 1) := fdg (k := 1776) (p := 4) hdk_1776 dLb_58.2.2.1
theorem dL_law_1781 : decode cL_law 1781 = .ok (.iload 4, 2) := fdg (k := 1776) (p := 5) hdk_1776 dLb_58.2.2.2.1
theorem dL_law_1783 : decode cL_law 1783 = .ok (.iconst 1, 1) := fdg (k := 1776) (p := 7) hdk_1776 dLb_58.2.2.2.2.1
theorem dL_law_1784 : decode cL_law 1784 = .ok (.iadd, 1) := fdg (k := 1776) (p := 8) hdk_1776 dLb_58.2.2.2.2.2.1
theorem dL_law_1785 : decode cL_law 1785 = .ok (.iaload, 1) := fdg (k := 1776) (p := 9) hdk_1776 dLb_58.2.2.2.2.2.2.1
theorem dL_law_1786 : decode cL_law 1786 = .ok (.aload_n 0, 1) := fdg (k := 1776) (p := 10) hdk_1776 dLb_58.2.2.2.2.2.2.2.1
theorem dL_law_1787 : decode cL_law 1787 = .ok (.iload 4, 2) := fdg (k := 1776) (p := 11) hdk_1776 dLb_58.2.2.2.2.2.2.2.2.1
theorem dL_law_1789 : decode cL_law 1789 = .ok (.iconst 2, 1) := fdg (k := 1776) (p := 13) hdk_1776 dLb_58.2.2.2.2.2.2.2.2.2.1
theorem dL_law_1790 : decode cL_law 1790 = .ok (.iadd, 1) := fdg (k := 1776) (p := 14) hdk_1776 dLb_58.2.2.2.2.2.2.2.2.2.2.1
theorem dL_law_1791 : decode cL_law 1791 = .ok (.iaload, 1) := fdg (k := 1776) (p := 15) hdk_1776 dLb_58.2.2.2.2.2.2.2.2.2.2.2.1
theorem dL_law_1792 : decode cL_law 1792 = .ok (.invokevirtual 280, 3) := fdg (k := 1776) (p := 16) hdk_1776 dLb_58.2.2.2.2.2.2.2.2.2.2.2.2.1
theorem dL_law_1795 : decode cL_law 1795 = .ok (.istore 6, 2) := fdg (k := 1776) (p := 19) hdk_1776 dLb_58.2.2.2.2.2.2.2.2.2.2.2.2.2.1
theorem dL_law_1797 : decode cL_law 1797 = .ok (.goto 259, 3) := fdg (k := 1776) (p := 21) hdk_1776 dLb_58.2.2.2.2.2.2.2.2.2.2.2.2.2.2.1
theorem dL_law_1800 : decode cL_law 1800 = .ok (.aload_n 1, 1) := fdg (k := 1776) (p := 24) hdk_1776 dLb_58.2.2.2.2.2.2.2.2.2.2.2.2.2.2.2.1
theorem dL_law_1801 : decode cL_law 1801 = .ok (.aload_n 0, 1) := fdg (k := 1776) (p := 25) hdk_1776 dLb_58.2.2.2.2.2.2.2.2.2.2.2.2.2.2.2.2.1
theorem dL_law_1802 : decode cL_law 1802 = .ok (.iload 4, 2) := fdg (k := 1776) (p := 26) hdk_1776 dLb_58.2.2.2.2.2.2.2.2.2.2.2.2.2.2.2.2.2.1
theorem dL_law_1804 : decode cL_law 1804 = .ok (.iconst 1, 1) := fdg (k := 1776) (p := 28) hdk_1776 dLb_58.2.2.2.2.2.2.2.2.2.2.2.2.2.2.2.2.2.2.1
theorem dL_law_1805 : decode cL_law 1805 = .ok (.iadd, 1) := fdg (k := 1776) (p := 29) hdk_1776 dLb_58.2.2.2.2.2.2.2.2.2.2.2.2.2.2.2.2.2.2.2.1
theorem dL_law_1806 : decode cL_law 1806 = .ok (.iaload, 1) := fdg (k := 1776) (p := 30) hdk_1776 dLb_58.2.2.2.2.2.2.2.2.2.2.2.2.2.2.2.2.2.2.2.2.1
theorem dL_law_1807 : decode cL_law 1807 = .ok (.aload_n 0, 1) := fdg (k := 1776) (p := 31) hdk_1776 dLb_58.2.2.2.2.2.2.2.2.2.2.2.2.2.2.2.2.2.2.2.2.2.1
theorem dL_law_1808 : decode cL_law 1808 = .ok (.iload 4, 2) := fdg (k := 1776) (p := 32) hdk_1776 dLb_58.2.2.2.2.2.2.2.2.2.2.2.2.2.2.2.2.2.2.2.2.2.2.1
theorem dL_law_1810 : decode cL_law 1810 = .ok (.iconst 2, 1) := fdg (k := 1776) (p := 34) hdk_1776 dLb_58.2.2.2.2.2.2.2.2.2.2.2.2.2.2.2.2.2.2.2.2.2.2.2.1
theorem dL_law_1811 : decode cL_law 1811 = .ok (.iadd, 1) := fdg (k := 1776) (p := 35) hdk_1776 dLb_58.2.2.2.2.2.2.2.2.2.2.2.2.2.2.2.2.2.2.2.2.2.2.2.2.1
theorem dL_law_1812 : decode cL_law 1812 = .ok (.iaload, 1) := fdg (k := 1776) (p := 36) hdk_1776 dLb_58.2.2.2.2.2.2.2.2.2.2.2.2.2.2.2.2.2.2.2.2.2.2.2.2.2.1
theorem dL_law_1813 : decode cL_law 1813 = .ok (.aload_n 0, 1) := fdg (k := 1776) (p := 37) hdk_1776 dLb_58.2.2.2.2.2.2.2.2.2.2.2.2.2.2.2.2.2.2.2.2.2.2.2.2.2.2.1
theorem dL_law_1814 : decode cL_law 1814 = .ok (.iload 4, 2) := fdg (k := 1776) (p := 38) hdk_1776 dLb_58.2.2.2.2.2.2.2.2.2.2.2.2.2.2.2.2.2.2.2.2.2.2.2.2.2.2.2.1
theorem dL_law_1816 : decode cL_law 1816 = .ok (.iconst 3, 1) := fdg (k := 1776) (p := 40) hdk_1776 dLb_58.2.2.2.2.2.2.2.2.2.2.2.2.2.2.2.2.2.2.2.2.2.2.2.2.2.2.2.2.1
theorem dL_law_1817 : decode cL_law 1817 = .ok (.iadd, 1) := fdg (k := 1776) (p := 41) hdk_1776 dLb_58.2.2.2.2.2.2.2.2.2.2.2.2.2.2.2.2.2.2.2.2.2.2.2.2.2.2.2.2.2.1
theorem dL_law_1818 : decode cL_law 1818 = .ok (.iaload, 1) := fdg (k := 1776) (p := 42) hdk_1776 dLb_58.2.2.2.2.2.2.2.2.2.2.2.2.2.2.2.2.2.2.2.2.2.2.2.2.2.2.2.2.2.2.1
theorem dL_law_1819 : decode cL_law 1819 = .ok (.aload_n 3, 1) := fdg (k := 1776) (p := 43) hdk_1776 dLb_58.2.2.2.2.2.2.2.2.2.2.2.2.2.2.2.2.2.2.2.2.2.2.2.2.2.2.2.2.2.2.2
theorem dLb_59 : fdq dk_1776 44 (.invokestatic 281) 3 = true ∧ fdq dk_1776 47 (.istore 5) 2 = true := by decide +kernel
theorem dL_law_1820 : decode cL_law 1820 = .ok (.invokestatic 281, 3) := fdg (k := 1776) (p := 44) hdk_1776 dLb_59.1
theorem dL_law_1823 : decode cL_law 1823 = .ok (.istore 5, 2) := fdg (k := 1776) (p := 47) hdk_1776 dLb_59.2
theorem dLb_60 : fdq dk_1824 1 (.aload_n 2) 1 = true ∧ fdq dk_1824 2 (.aload_n 0) 1 = true ∧ fdq dk_1824 3 (.iload 4) 2 = true ∧ fdq dk_1824 5 (.iconst 1) 1 = true ∧ fdq dk_1824 6 (.iadd) 1 = true ∧ fdq dk_1824 7 (.iaload) 1 = true ∧ fdq dk_1824 8 (.aload_n 0) 1 = true ∧ fdq dk_1824 9 (.iload 4) 2 = true ∧ fdq dk_1824 11 (.iconst 2) 1 = true ∧ fdq dk_1824 12 (.iadd) 1 = true ∧ fdq dk_1824 13 (.iaload) 1 = true ∧ fdq dk_1824 14 (.aload_n 0) 1 = true ∧ fdq dk_1824 15 (.iload 4) 2 = true ∧ fdq dk_1824 17 (.iconst 3) 1 = true ∧ fdq dk_1824 18 (.iadd) 1 = true ∧ fdq dk_1824 19 (.iaload) 1 = true ∧ fdq dk_1824 20 (.invokevirtual 283) 3 = true ∧ fdq dk_1824 23 (.istore 6) 2 = true ∧ fdq dk_1824 25 (.goto 207) 3 = true ∧ fdq dk_1824 28 (.aload_n 1) 1 = true ∧ fdq dk_1824 29 (.aload_n 0) 1 = true ∧ fdq dk_1824 30 (.iload 4) 2 = true ∧ fdq dk_1824 32 (.iconst 1) 1 = true ∧ fdq dk_1824 33 (.iadd) 1 = true ∧ fdq dk_1824 34 (.iaload) 1 = true ∧ fdq dk_1824 35 (.aload_n 3) 1 = true ∧ fdq dk_1824 36 (.invokestatic 284) 3 = true ∧ fdq dk_1824 39 (.istore 5) 2 = true ∧ fdq dk_1824 41 (.aload_n 2) 1 = true ∧ fdq dk_1824 42 (.aload_n 0) 1 = true ∧ fdq dk_1824 43 (.iload 4) 2 = true ∧ fdq dk_1824 45 (.iconst 1) 1 = true := by decide +kernel
theorem dL_law_1825 : decode cL_law 1825 = .ok (.aload_n 2, 1) := fdg (k := 1824) (p := 1) hdk_1824 dLb_60.1
theorem dL_law_1826 : decode cL_law 1826 = .ok (.aload_n 0, 1) := fdg (k := 1824) (p := 2) hdk_1824 dLb_60.2.1
theorem dL_law_1827 : decode cL_law 1827 = .ok (.iload 4, 2) := fdg (k := 1824) (p := 3) hdk_1824 dLb_60.2.2.1
theorem dL_law_1829 : decode cL_law 1829 = .ok (.iconst 1, 1) := fdg (k := 1824) (p := 5) hdk_1824 dLb_60.2.2.2.1
theorem dL_law_1830 : decode cL_law 1830 = .ok (.iadd, 1) := fdg (k := 1824) (p := 6) hdk_1824 dLb_60.2.2.2.2.1
theorem dL_law_1831 : decode cL_law 1831 = .ok (.iaload, 1) := fdg (k := 1824) (p := 7) hdk_1824 dLb_60.2.2.2.2.2.1
theorem dL_law_1832 : decode cL_law 1832 = .ok (.aload_n 0, 1) := fdg (k := 1824) (p := 8) hdk_1824 dLb_60.2.2.2.2.2.2.1
theorem dL_law_1833 : decode cL_law 1833 = .ok (.iload 4, 2) := fdg (k := 1824) (p := 9) hdk_1824 dLb_60.2.2.2.2.2.2.2.1
theorem dL_law_1835 : decode cL_law 1835 = .ok (.iconst 2, 1) := fdg (k := 1824) (p := 11) hdk_1824 dLb_60.2.2.2.2.2.2.2.2.1
theorem dL_law_1836 : decode cL_law 1836 = .ok (.iadd, 1) := fdg (k := 1824) (p := 12) hdk_1824 dLb_60.2.2.2.2.2.2.2.2.2.1
theorem dL_law_1837 : decode cL_law 1837 = .ok (.iaload, 1) := fdg (k := 1824) (p := 13) hdk_1824 dLb_60.2.2.2.2.2.2.2.2.2.2.1
theorem dL_law_1838 : decode cL_law 1838 = .ok (.aload_n 0, 1) := fdg (k := 1824) (p := 14) hdk_1824 dLb_60.2.2.2.2.2.2.2.2.2.2.2.1
theorem dL_law_1839 : decode cL_law 1839 = .ok (.iload 4, 2) := fdg (k := 1824) (p := 15) hdk_1824 dLb_60.2.2.2.2.2.2.2.2.2.2.2.2.1
theorem dL_law_1841 : decode cL_law 1841 = .ok (.iconst 3, 1) := fdg (k := 1824) (p := 17) hdk_1824 dLb_60.2.2.2.2.2.2.2.2.2.2.2.2.2.1
theorem dL_law_1842 : decode cL_law 1842 = .ok (.iadd, 1) := fdg (k := 1824) (p := 18) hdk_1824 dLb_60.2.2.2.2.2.2.2.2.2.2.2.2.2.2.1
theorem dL_law_1843 : decode cL_law 1843 = .ok (.iaload, 1) := fdg (k := 1824) (p := 19) hdk_1824 dLb_60.2.2.2.2.2.2.2.2.2.2.2.2.2.2.2.1
theorem dL_law_1844 : decode cL_law 1844 = .ok (.invokevirtual 283, 3) := fdg (k := 1824) (p := 20) hdk_1824 dLb_60.2.2.2.2.2.2.2.2.2.2.2.2.2.2.2.2.1
theorem dL_law_1847 : decode cL_law 1847 = .ok (.istore 6, 2) := fdg (k := 1824) (p := 23) hdk_1824 dLb_60.2.2.2.2.2.2.2.2.2.2.2.2.2.2.2.2.2.1
theorem dL_law_1849 : decode cL_law 1849 = .ok (.goto 207, 3) := fdg (k := 1824) (p := 25) hdk_1824 dLb_60.2.2.2.2.2.2.2.2.2.2.2.2.2.2.2.2.2.2.1
theorem dL_law_1852 : decode cL_law 1852 = .ok (.aload_n 1, 1) := fdg (k := 1824) (p := 28) hdk_1824 dLb_60.2.2.2.2.2.2.2.2.2.2.2.2.2.2.2.2.2.2.2.1
theorem dL_law_1853 : decode cL_law 1853 = .ok (.aload_n 0, 1) := fdg (k := 1824) (p := 29) hdk_1824 dLb_60.2.2.2.2.2.2.2.2.2.2.2.2.2.2.2.2.2.2.2.2.1
theorem dL_law_1854 : decode cL_law 1854 = .ok (.iload 4, 2) := fdg (k := 1824) (p := 30) hdk_1824 dLb_60.2.2.2.2.2.2.2.2.2.2.2.2.2.2.2.2.2.2.2.2.2.1
theorem dL_law_1856 : decode cL_law 1856 = .ok (.iconst 1, 1) := fdg (k := 1824) (p := 32) hdk_1824 dLb_60.2.2.2.2.2.2.2.2.2.2.2.2.2.2.2.2.2.2.2.2.2.2.1
theorem dL_law_1857 : decode cL_law 1857 = .ok (.iadd, 1) := fdg (k := 1824) (p := 33) hdk_1824 dLb_60.2.2.2.2.2.2.2.2.2.2.2.2.2.2.2.2.2.2.2.2.2.2.2.1
theorem dL_law_1858 : decode cL_law 1858 = .ok (.iaload, 1) := fdg (k := 1824) (p := 34) hdk_1824 dLb_60.2.2.2.2.2.2.2.2.2.2.2.2.2.2.2.2.2.2.2.2.2.2.2.2.1
theorem dL_law_1859 : decode cL_law 1859 = .ok (.aload_n 3, 1) := fdg (k := 1824) (p := 35) hdk_1824 dLb_60.2.2.2.2.2.2.2.2.2.2.2.2.2.2.2.2.2.2.2.2.2.2.2.2.2.1
theorem dL_law_1860 : decode cL_law 1860 = .ok (.invokestatic 284, 3) := fdg (k := 1824) (p := 36) hdk_1824 dLb_60.2.2.2.2.2.2.2.2.2.2.2.2.2.2.2.2.2.2.2.2.2.2.2.2.2.2.1
theorem dL_law_1863 : decode cL_law 1863 = .ok (.istore 5, 2) := fdg (k := 1824) (p := 39) hdk_1824 dLb_60.2.2.2.2.2.2.2.2.2.2.2.2.2.2.2.2.2.2.2.2.2.2.2.2.2.2.2.1
theorem dL_law_1865 : decode cL_law 1865 = .ok (.aload_n 2, 1) := fdg (k := 1824) (p := 41) hdk_1824 dLb_60.2.2.2.2.2.2.2.2.2.2.2.2.2.2.2.2.2.2.2.2.2.2.2.2.2.2.2.2.1
theorem dL_law_1866 : decode cL_law 1866 = .ok (.aload_n 0, 1) := fdg (k := 1824) (p := 42) hdk_1824 dLb_60.2.2.2.2.2.2.2.2.2.2.2.2.2.2.2.2.2.2.2.2.2.2.2.2.2.2.2.2.2.1
theorem dL_law_1867 : decode cL_law 1867 = .ok (.iload 4, 2) := fdg (k := 1824) (p := 43) hdk_1824 dLb_60.2.2.2.2.2.2.2.2.2.2.2.2.2.2.2.2.2.2.2.2.2.2.2.2.2.2.2.2.2.2.1
theorem dL_law_1869 : decode cL_law 1869 = .ok (.iconst 1, 1) := fdg (k := 1824) (p := 45) hdk_1824 dLb_60.2.2.2.2.2.2.2.2.2.2.2.2.2.2.2.2.2.2.2.2.2.2.2.2.2.2.2.2.2.2.2
theorem dLb_61 : fdq dk_1824 46 (.iadd) 1 = true ∧ fdq dk_1824 47 (.iaload) 1 = true := by decide +kernel
theorem dL_law_1870 : decode cL_law 1870 = .ok (.iadd, 1) := fdg (k := 1824) (p := 46) hdk_1824 dLb_61.1
theorem dL_law_1871 : decode cL_law 1871 = .ok (.iaload, 1) := fdg (k := 1824) (p := 47) hdk_1824 dLb_61.2
theorem dLb_62 : fdq dk_1872 0 (.invokevirtual 286) 3 = true ∧ fdq dk_1872 3 (.istore 6) 2 = true ∧ fdq dk_1872 5 (.goto 179) 3 = true ∧ fdq dk_1872 8 (.aload_n 1) 1 = true ∧ fdq dk_1872 9 (.aload_n 0) 1 = true ∧ fdq dk_1872 10 (.iload 4) 2 = true ∧ fdq dk_1872 12 (.iconst 1) 1 = true ∧ fdq dk_1872 13 (.iadd) 1 = true ∧ fdq dk_1872 14 (.iaload) 1 = true ∧ fdq dk_1872 15 (.aload_n 0) 1 = true ∧ fdq dk_1872 16 (.iload 4) 2 = true ∧ fdq dk_1872 18 (.iconst 2) 1 = true ∧ fdq dk_1872 19 (.iadd) 1 = true ∧ fdq dk_1872 20 (.iaload) 1 = true ∧ fdq dk_1872 21 (.aload_n 0) 1 = true ∧ fdq dk_1872 22 (.iload 4) 2 = true ∧ fdq dk_1872 24 (.iconst 3) 1 = true ∧ fdq dk_1872 25 (.iadd) 1 = true ∧ fdq dk_1872 26 (.iaload) 1 = true ∧ fdq dk_1872 27 (.aload_n 3) 1 = true ∧ fdq dk_1872 28 (.invokestatic 287) 3 = true ∧ fdq dk_1872 31 (.istore 5) 2 = true ∧ fdq dk_1872 33 (.aload_n 2) 1 = true ∧ fdq dk_1872 34 (.aload_n 0) 1 = true ∧ fdq dk_1872 35 (.iload 4) 2 = true ∧ fdq dk_1872 37 (.iconst 1) 1 = true ∧ fdq dk_1872 38 (.iadd) 1 = true ∧ fdq dk_1872 39 (.iaload) 1 = true ∧ fdq dk_1872 40 (.aload_n 0) 1 = true ∧ fdq dk_1872 41 (.iload 4) 2 = true ∧ fdq dk_1872 43 (.iconst 2) 1 = true ∧ fdq dk_1872 44 (.iadd) 1 = true := by decide +kernel
theorem dL_law_1872 : decode cL_law 1872 = .ok (.invokevirtual 286, 3) := fdg (k := 1872) (p := 0) hdk_1872 dLb_62.1
theorem dL_law_1875 : decode cL_law 1875 = .ok (.istore 6, 2) := fdg (k := 1872) (p := 3) hdk_1872 dLb_62.2.1
theorem dL_law_1877 : decode cL_law 1877 = .ok (.goto 179, 3) := fdg (k := 1872) (p := 5) hdk_1872 dLb_62.2.2.1
theorem dL_law_1880 : decode cL_law 1880 = .ok (.aload_n 1, 1) := fdg (k := 1872) (p := 8) hdk_1872 dLb_62.2.2.2.1
theorem dL_law_1881 : decode cL_law 1881 = .ok (.aload_n 0, 1) := fdg (k := 1872) (p := 9) hdk_1872 dLb_62.2.2.2.2.1
theorem dL_law_1882 : decode cL_law 1882 = .ok (.iload 4, 2) := fdg (k := 1872) (p := 10) hdk_1872 dLb_62.2.2.2.2.2.1
theorem dL_law_1884 : decode cL_law 1884 = .ok (.iconst 1, 1) := fdg (k := 1872) (p := 12) hdk_1872 dLb_62.2.2.2.2.2.2.1
theorem dL_law_1885 : decode cL_law 1885 = .ok (.iadd, 1) := fdg (k := 1872) (p := 13) hdk_1872 dLb_62.2.2.2.2.2.2.2.1
theorem dL_law_1886 : decode cL_law 1886 = .ok (.iaload, 1) := fdg (k := 1872) (p := 14) hdk_1872 dLb_62.2.2.2.2.2.2.2.2.1
theorem dL_law_1887 : decode cL_law 1887 = .ok (.aload_n 0, 1) := fdg (k := 1872) (p := 15) hdk_1872 dLb_62.2.2.2.2.2.2.2.2.2.1
theorem dL_law_1888 : decode cL_law 1888 = .ok (.iload 4, 2) := fdg (k := 1872) (p := 16) hdk_1872 dLb_62.2.2.2.2.2.2.2.2.2.2.1
theorem dL_law_1890 : decode cL_law 1890 = .ok (.iconst 2, 1) := fdg (k := 1872) (p := 18) hdk_1872 dLb_62.2.2.2.2.2.2.2.2.2.2.2.1
theorem dL_law_1891 : decode cL_law 1891 = .ok (.iadd, 1) := fdg (k := 1872) (p := 19) hdk_1872 dLb_62.2.2.2.2.2.2.2.2.2.2.2.2.1
theorem dL_law_1892 : decode cL_law 1892 = .ok (.iaload, 1) := fdg (k := 1872) (p := 20) hdk_1872 dLb_62.2.2.2.2.2.2.2.2.2.2.2.2.2.1
theorem dL_law_1893 : decode cL_law 1893 = .ok (.aload_n 0, 1) := fdg (k := 1872) (p := 21) hdk_1872 dLb_62.2.2.2.2.2.2.2.2.2.2.2.2.2.2.1
theorem dL_law_1894 : decode cL_law 1894 = .ok (.iload 4, 2) := fdg (k := 1872) (p := 22) hdk_1872 dLb_62.2.2.2.2.2.2.2.2.2.2.2.2.2.2.2.1
theorem dL_law_1896 : decode cL_law 1896 = .ok (.iconst 3, 1) := fdg (k := 1872) (p := 24) hdk_1872 dLb_62.2.2.2.2.2.2.2.2.2.2.2.2.2.2.2.2.1
theorem dL_law_1897 : decode cL_law 1897 = .ok (.iadd, 1) := fdg (k := 1872) (p := 25) hdk_1872 dLb_62.2.2.2.2.2.2.2.2.2.2.2.2.2.2.2.2.2.1
theorem dL_law_1898 : decode cL_law 1898 = .ok (.iaload, 1) := fdg (k := 1872) (p := 26) hdk_1872 dLb_62.2.2.2.2.2.2.2.2.2.2.2.2.2.2.2.2.2.2.1
theorem dL_law_1899 : decode cL_law 1899 = .ok (.aload_n 3, 1) := fdg (k := 1872) (p := 27) hdk_1872 dLb_62.2.2.2.2.2.2.2.2.2.2.2.2.2.2.2.2.2.2.2.1
theorem dL_law_1900 : decode cL_law 1900 = .ok (.invokestatic 287, 3) := fdg (k := 1872) (p := 28) hdk_1872 dLb_62.2.2.2.2.2.2.2.2.2.2.2.2.2.2.2.2.2.2.2.2.1
theorem dL_law_1903 : decode cL_law 1903 = .ok (.istore 5, 2) := fdg (k := 1872) (p := 31) hdk_1872 dLb_62.2.2.2.2.2.2.2.2.2.2.2.2.2.2.2.2.2.2.2.2.2.1
theorem dL_law_1905 : decode cL_law 1905 = .ok (.aload_n 2, 1) := fdg (k := 1872) (p := 33) hdk_1872 dLb_62.2.2.2.2.2.2.2.2.2.2.2.2.2.2.2.2.2.2.2.2.2.2.1
theorem dL_law_1906 : decode cL_law 1906 = .ok (.aload_n 0, 1) := fdg (k := 1872) (p := 34) hdk_1872 dLb_62.2.2.2.2.2.2.2.2.2.2.2.2.2.2.2.2.2.2.2.2.2.2.2.1
theorem dL_law_1907 : decode cL_law 1907 = .ok (.iload 4, 2) := fdg (k := 1872) (p := 35) hdk_1872 dLb_62.2.2.2.2.2.2.2.2.2.2.2.2.2.2.2.2.2.2.2.2.2.2.2.2.1
theorem dL_law_1909 : decode cL_law 1909 = .ok (.iconst 1, 1) := fdg (k := 1872) (p := 37) hdk_1872 dLb_62.2.2.2.2.2.2.2.2.2.2.2.2.2.2.2.2.2.2.2.2.2.2.2.2.2.1
theorem dL_law_1910 : decode cL_law 1910 = .ok (.iadd, 1) := fdg (k := 1872) (p := 38) hdk_1872 dLb_62.2.2.2.2.2.2.2.2.2.2.2.2.2.2.2.2.2.2.2.2.2.2.2.2.2.2.1
theorem dL_law_1911 : decode cL_law 1911 = .ok (.iaload, 1) := fdg (k := 1872) (p := 39) hdk_1872 dLb_62.2.2.2.2.2.2.2.2.2.2.2.2.2.2.2.2.2.2.2.2.2.2.2.2.2.2.2.1
theorem dL_law_1912 : decode cL_law 1912 = .ok (.aload_n 0, 1) := fdg (k := 1872) (p := 40) hdk_1872 dLb_62.2.2.2.2.2.2.2.2.2.2.2.2.2.2.2.2.2.2.2.2.2.2.2.2.2.2.2.2.1
theorem dL_law_1913 : decode cL_law 1913 = .ok (.iload 4, 2) := fdg (k := 1872) (p := 41) hdk_1872 dLb_62.2.2.2.2.2.2.2.2.2.2.2.2.2.2.2.2.2.2.2.2.2.2.2.2.2.2.2.2.2.1
theorem dL_law_1915 : decode cL_law 1915 = .ok (.iconst 2, 1) := fdg (k := 1872) (p := 43) hdk_1872 dLb_62.2.2.2.2.2.2.2.2.2.2.2.2.2.2.2.2.2.2.2.2.2.2.2.2.2.2.2.2.2.2.1
theorem dL_law_1916 : decode cL_law 1916 = .ok (.iadd, 1) := fdg (k := 1872) (p := 44) hdk_1872 dLb_62.2.2.2.2.2.2.2.2.2.2.2.2.2.2.2.2.2.2.2.2.2.2.2.2.2.2.2.2.2.2.2
theorem dLb_63 : fdq dk_1872 45 (.iaload) 1 = true ∧ fdq dk_1872 46 (.aload_n 0) 1 = true ∧ fdq dk_1872 47 (.iload 4) 2 = true := by decide +kernel
theorem dL_law_1917 : decode cL_law 1917 = .ok (.iaload, 1) := fdg (k := 1872) (p := 45) hdk_1872 dLb_63.1
theorem dL_law_1918 : decode cL_law 1918 = .ok (.aload_n 0, 1) := fdg (k := 1872) (p := 46) hdk_1872 dLb_63.2.1
theorem dL_law_1919 : decode cL_law 1919 = .ok (.iload 4, 2) := fdg (k := 1872) (p := 47) hdk_1872 dLb_63.2.2
theorem dLb_64 : fdq dk_1920 1 (.iconst 3) 1 = true ∧ fdq dk_1920 2 (.iadd) 1 = true ∧ fdq dk_1920 3 (.iaload) 1 = true ∧ fdq dk_1920 4 (.invokevirtual 289) 3 = true ∧ fdq dk_1920 7 (.istore 6) 2 = true ∧ fdq dk_1920 9 (.goto 127) 3 = true ∧ fdq dk_1920 12 (.aload_n 1) 1 = true ∧ fdq dk_1920 13 (.invokevirtual 290) 3 = true ∧ fdq dk_1920 16 (.pop) 1 = true ∧ fdq dk_1920 17 (.aload_n 2) 1 = true ∧ fdq dk_1920 18 (.invokevirtual 294) 3 = true ∧ fdq dk_1920 21 (.pop) 1 = true ∧ fdq dk_1920 22 (.goto 114) 3 = true ∧ fdq dk_1920 25 (.aload_n 1) 1 = true ∧ fdq dk_1920 26 (.aload_n 0) 1 = true ∧ fdq dk_1920 27 (.iload 4) 2 = true ∧ fdq dk_1920 29 (.iconst 1) 1 = true ∧ fdq dk_1920 30 (.iadd) 1 = true ∧ fdq dk_1920 31 (.iaload) 1 = true ∧ fdq dk_1920 32 (.aload_n 3) 1 = true ∧ fdq dk_1920 33 (.invokestatic 295) 3 = true ∧ fdq dk_1920 36 (.istore 5) 2 = true ∧ fdq dk_1920 38 (.aload_n 2) 1 = true ∧ fdq dk_1920 39 (.aload_n 0) 1 = true ∧ fdq dk_1920 40 (.iload 4) 2 = true ∧ fdq dk_1920 42 (.iconst 1) 1 = true ∧ fdq dk_1920 43 (.iadd) 1 = true ∧ fdq dk_1920 44 (.iaload) 1 = true ∧ fdq dk_1920 45 (.invokevirtual 297) 3 = true := by decide +kernel
theorem dL_law_1921 : decode cL_law 1921 = .ok (.iconst 3, 1) := fdg (k := 1920) (p := 1) hdk_1920 dLb_64.1
theorem dL_law_1922 : decode cL_law 1922 = .ok (.iadd, 1) := fdg (k := 1920) (p := 2) hdk_1920 dLb_64.2.1
theorem dL_law_1923 : decode cL_law 1923 = .ok (.iaload, 1) := fdg (k := 1920) (p := 3) hdk_1920 dLb_64.2.2.1
theorem dL_law_1924 : decode cL_law 1924 = .ok (.invokevirtual 289, 3) := fdg (k := 1920) (p := 4) hdk_1920 dLb_64.2.2.2.1
theorem dL_law_1927 : decode cL_law 1927 = .ok (.istore 6, 2) := fdg (k := 1920) (p := 7) hdk_1920 dLb_64.2.2.2.2.1
theorem dL_law_1929 : decode cL_law 1929 = .ok (.goto 127, 3) := fdg (k := 1920) (p := 9) hdk_1920 dLb_64.2.2.2.2.2.1
theorem dL_law_1932 : decode cL_law 1932 = .ok (.aload_n 1, 1) := fdg (k := 1920) (p := 12) hdk_1920 dLb_64.2.2.2.2.2.2.1
theorem dL_law_1933 : decode cL_law 1933 = .ok (.invokevirtual 290, 3) := fdg (k := 1920) (p := 13) hdk_1920 dLb_64.2.2.2.2.2.2.2.1
theorem dL_law_1936 : decode cL_law 1936 = .ok (.pop, 1) := fdg (k := 1920) (p := 16) hdk_1920 dLb_64.2.2.2.2.2.2.2.2.1
theorem dL_law_1937 : decode cL_law 1937 = .ok (.aload_n 2, 1) := fdg (k := 1920) (p := 17) hdk_1920 dLb_64.2.2.2.2.2.2.2.2.2.1
theorem dL_law_1938 : decode cL_law 1938 = .ok (.invokevirtual 294, 3) := fdg (k := 1920) (p := 18) hdk_1920 dLb_64.2.2.2.2.2.2.2.2.2.2.1
theorem dL_law_1941 : decode cL_law 1941 = .ok (.pop, 1) := fdg (k := 1920) (p := 21) hdk_1920 dLb_64.2.2.2.2.2.2.2.2.2.2.2.1
theorem dL_law_1942 : decode cL_law 1942 = .ok (.goto 114, 3) := fdg (k := 1920) (p := 22) hdk_1920 dLb_64.2.2.2.2.2.2.2.2.2.2.2.2.1
theorem dL_law_1945 : decode cL_law 1945 = .ok (.aload_n 1, 1) := fdg (k := 1920) (p := 25) hdk_1920 dLb_64.2.2.2.2.2.2.2.2.2.2.2.2.2.1
theorem dL_law_1946 : decode cL_law 1946 = .ok (.aload_n 0, 1) := fdg (k := 1920) (p := 26) hdk_1920 dLb_64.2.2.2.2.2.2.2.2.2.2.2.2.2.2.1
theorem dL_law_1947 : decode cL_law 1947 = .ok (.iload 4, 2) := fdg (k := 1920) (p := 27) hdk_1920 dLb_64.2.2.2.2.2.2.2.2.2.2.2.2.2.2.2.1
theorem dL_law_1949 : decode cL_law 1949 = .ok (.iconst 1, 1) := fdg (k := 1920) (p := 29) hdk_1920 dLb_64.2.2.2.2.2.2.2.2.2.2.2.2.2.2.2.2.1
theorem dL_law_1950 : decode cL_law 1950 = .ok (.iadd, 1) := fdg (k := 1920) (p := 30) hdk_1920 dLb_64.2.2.2.2.2.2.2.2.2.2.2.2.2.2.2.2.2.1
theorem dL_law_1951 : decode cL_law 1951 = .ok (.iaload, 1) := fdg (k := 1920) (p := 31) hdk_1920 dLb_64.2.2.2.2.2.2.2.2.2.2.2.2.2.2.2.2.2.2.1
theorem dL_law_1952 : decode cL_law 1952 = .ok (.aload_n 3, 1) := fdg (k := 1920) (p := 32) hdk_1920 dLb_64.2.2.2.2.2.2.2.2.2.2.2.2.2.2.2.2.2.2.2.1
theorem dL_law_1953 : decode cL_law 1953 = .ok (.invokestatic 295, 3) := fdg (k := 1920) (p := 33) hdk_1920 dLb_64.2.2.2.2.2.2.2.2.2.2.2.2.2.2.2.2.2.2.2.2.1
theorem dL_law_1956 : decode cL_law 1956 = .ok (.istore 5, 2) := fdg (k := 1920) (p := 36) hdk_1920 dLb_64.2.2.2.2.2.2.2.2.2.2.2.2.2.2.2.2.2.2.2.2.2.1
theorem dL_law_1958 : decode cL_law 1958 = .ok (.aload_n 2, 1) := fdg (k := 1920) (p := 38) hdk_1920 dLb_64.2.2.2.2.2.2.2.2.2.2.2.2.2.2.2.2.2.2.2.2.2.2.1
theorem dL_law_1959 : decode cL_law 1959 = .ok (.aload_n 0, 1) := fdg (k := 1920) (p := 39) hdk_1920 dLb_64.2.2.2.2.2.2.2.2.2.2.2.2.2.2.2.2.2.2.2.2.2.2.2.1
theorem dL_law_1960 : decode cL_law 1960 = .ok (.iload 4, 2) := fdg (k := 1920) (p := 40) hdk_1920 dLb_64.2.2.2.2.2.2.2.2.2.2.2.2.2.2.2.2.2.2.2.2.2.2.2.2.1
theorem dL_law_1962 : decode cL_law 1962 = .ok (.iconst 1, 1) := fdg (k := 1920) (p := 42) hdk_1920 dLb_64.2.2.2.2.2.2.2.2.2.2.2.2.2.2.2.2.2.2.2.2.2.2.2.2.2.1
theorem dL_law_1963 : decode cL_law 1963 = .ok (.iadd, 1) := fdg (k := 1920) (p := 43) hdk_1920 dLb_64.2.2.2.2.2.2.2.2.2.2.2.2.2.2.2.2.2.2.2.2.2.2.2.2.2.2.1
theorem dL_law_1964 : decode cL_law 1964 = .ok (.iaload, 1) := fdg (k := 1920) (p := 44) hdk_1920 dLb_64.2.2.2.2.2.2.2.2.2.2.2.2.2.2.2.2.2.2.2.2.2.2.2.2.2.2.2.1
theorem dL_law_1965 : decode cL_law 1965 = .ok (.invokevirtual 297, 3) := fdg (k := 1920) (p := 45) hdk_1920 dLb_64.2.2.2.2.2.2.2.2.2.2.2.2.2.2.2.2.2.2.2.2.2.2.2.2.2.2.2.2
theorem dLb_65 : fdq dk_1968 0 (.istore 6) 2 = true ∧ fdq dk_1968 2 (.goto 86) 3 = true ∧ fdq dk_1968 5 (.aload_n 1) 1 = true ∧ fdq dk_1968 6 (.aload_n 0) 1 = true ∧ fdq dk_1968 7 (.iload 4) 2 = true ∧ fdq dk_1968 9 (.iconst 1) 1 = true ∧ fdq dk_1968 10 (.iadd) 1 = true ∧ fdq dk_1968 11 (.iaload) 1 = true ∧ fdq dk_1968 12 (.aload_n 3) 1 = true ∧ fdq dk_1968 13 (.invokestatic 298) 3 = true ∧ fdq dk_1968 16 (.istore 5) 2 = true ∧ fdq dk_1968 18 (.aload_n 2) 1 = true ∧ fdq dk_1968 19 (.aload_n 0) 1 = true ∧ fdq dk_1968 20 (.iload 4) 2 = true ∧ fdq dk_1968 22 (.iconst 1) 1 = true ∧ fdq dk_1968 23 (.iadd) 1 = true ∧ fdq dk_1968 24 (.iaload) 1 = true ∧ fdq dk_1968 25 (.invokevirtual 300) 3 = true ∧ fdq dk_1968 28 (.istore 6) 2 = true ∧ fdq dk_1968 30 (.goto 58) 3 = true ∧ fdq dk_1968 33 (.aload_n 1) 1 = true ∧ fdq dk_1968 34 (.aload_n 0) 1 = true ∧ fdq dk_1968 35 (.iload 4) 2 = true ∧ fdq dk_1968 37 (.iconst 1) 1 = true ∧ fdq dk_1968 38 (.iadd) 1 = true ∧ fdq dk_1968 39 (.iaload) 1 = true ∧ fdq dk_1968 40 (.aload_n 3) 1 = true ∧ fdq dk_1968 41 (.invokestatic 301) 3 = true ∧ fdq dk_1968 44 (.istore 5) 2 = true ∧ fdq dk_1968 46 (.aload_n 2) 1 = true ∧ fdq dk_1968 47 (.aload_n 0) 1 = true := by decide +kernel
theorem dL_law_1968 : decode cL_law 1968 = .ok (.istore 6, 2) := fdg (k := 1968) (p := 0) hdk_1968 dLb_65.1
theorem dL_law_1970 : decode cL_law 1970 = .ok (.goto 86, 3) := fdg (k := 1968) (p := 2) hdk_1968 dLb_65.2.1
theorem dL_law_1973 : decode cL_law 1973 = .ok (.aload_n 1, 1) := fdg (k := 1968) (p := 5) hdk_1968 dLb_65.2.2.1
theorem dL_law_1974 : decode cL_law 1974 = .ok (.aload_n 0, 1) := fdg (k := 1968) (p := 6) hdk_1968 dLb_65.2.2.2.1
theorem dL_law_1975 : decode cL_law 1975 = .ok (.iload 4, 2) := fdg (k := 1968) (p := 7) hdk_1968 dLb_65.2.2.2.2.1
theorem dL_law_1977 : decode cL_law 1977 = .ok (.iconst 1, 1) := fdg (k := 1968) (p := 9) hdk_1968 dLb_65.2.2.2.2.2.1
theorem dL_law_1978 : decode cL_law 1978 = .ok (.iadd, 1) := fdg (k := 1968) (p := 10) hdk_1968 dLb_65.2.2.2.2.2.2.1
theorem dL_law_1979 : decode cL_law 1979 = .ok (.iaload, 1) := fdg (k := 1968) (p := 11) hdk_1968 dLb_65.2.2.2.2.2.2.2.1
theorem dL_law_1980 : decode cL_law 1980 = .ok (.aload_n 3, 1) := fdg (k := 1968) (p := 12) hdk_1968 dLb_65.2.2.2.2.2.2.2.2.1
theorem dL_law_1981 : decode cL_law 1981 = .ok (.invokestatic 298, 3) := fdg (k := 1968) (p := 13) hdk_1968 dLb_65.2.2.2.2.2.2.2.2.2.1
theorem dL_law_1984 : decode cL_law 1984 = .ok (.istore 5, 2) := fdg (k := 1968) (p := 16) hdk_1968 dLb_65.2.2.2.2.2.2.2.2.2.2.1
theorem dL_law_1986 : decode cL_law 1986 = .ok (.aload_n 2, 1) := fdg (k := 1968) (p := 18) hdk_1968 dLb_65.2.2.2.2.2.2.2.2.2.2.2.1
theorem dL_law_1987 : decode cL_law 1987 = .ok (.aload_n 0, 1) := fdg (k := 1968) (p := 19) hdk_1968 dLb_65.2.2.2.2.2.2.2.2.2.2.2.2.1
theorem dL_law_1988 : decode cL_law 1988 = .ok (.iload 4, 2) := fdg (k := 1968) (p := 20) hdk_1968 dLb_65.2.2.2.2.2.2.2.2.2.2.2.2.2.1
theorem dL_law_1990 : decode cL_law 1990 = .ok (.iconst 1, 1) := fdg (k := 1968) (p := 22) hdk_1968 dLb_65.2.2.2.2.2.2.2.2.2.2.2.2.2.2.1
theorem dL_law_1991 : decode cL_law 1991 = .ok (.iadd, 1) := fdg (k := 1968) (p := 23) hdk_1968 dLb_65.2.2.2.2.2.2.2.2.2.2.2.2.2.2.2.1
theorem dL_law_1992 : decode cL_law 1992 = .ok (.iaload, 1) := fdg (k := 1968) (p := 24) hdk_1968 dLb_65.2.2.2.2.2.2.2.2.2.2.2.2.2.2.2.2.1
theorem dL_law_1993 : decode cL_law 1993 = .ok (.invokevirtual 300, 3) := fdg (k := 1968) (p := 25) hdk_1968 dLb_65.2.2.2.2.2.2.2.2.2.2.2.2.2.2.2.2.2.1
theorem dL_law_1996 : decode cL_law 1996 = .ok (.istore 6, 2) := fdg (k := 1968) (p := 28) hdk_1968 dLb_65.2.2.2.2.2.2.2.2.2.2.2.2.2.2.2.2.2.2.1
theorem dL_law_1998 : decode cL_law 1998 = .ok (.goto 58, 3) := fdg (k := 1968) (p := 30) hdk_1968 dLb_65.2.2.2.2.2.2.2.2.2.2.2.2.2.2.2.2.2.2.2.1
theorem dL_law_2001 : decode cL_law 2001 = .ok (.aload_n 1, 1) := fdg (k := 1968) (p := 33) hdk_1968 dLb_65.2.2.2.2.2.2.2.2.2.2.2.2.2.2.2.2.2.2.2.2.1
theorem dL_law_2002 : decode cL_law 2002 = .ok (.aload_n 0, 1) := fdg (k := 1968) (p := 34) hdk_1968 dLb_65.2.2.2.2.2.2.2.2.2.2.2.2.2.2.2.2.2.2.2.2.2.1
theorem dL_law_2003 : decode cL_law 2003 = .ok (.iload 4, 2) := fdg (k := 1968) (p := 35) hdk_1968 dLb_65.2.2.2.2.2.2.2.2.2.2.2.2.2.2.2.2.2.2.2.2.2.2.1
theorem dL_law_2005 : decode cL_law 2005 = .ok (.iconst 1, 1) := fdg (k := 1968) (p := 37) hdk_1968 dLb_65.2.2.2.2.2.2.2.2.2.2.2.2.2.2.2.2.2.2.2.2.2.2.2.1
theorem dL_law_2006 : decode cL_law 2006 = .ok (.iadd, 1) := fdg (k := 1968) (p := 38) hdk_1968 dLb_65.2.2.2.2.2.2.2.2.2.2.2.2.2.2.2.2.2.2.2.2.2.2.2.2.1
theorem dL_law_2007 : decode cL_law 2007 = .ok (.iaload, 1) := fdg (k := 1968) (p := 39) hdk_1968 dLb_65.2.2.2.2.2.2.2.2.2.2.2.2.2.2.2.2.2.2.2.2.2.2.2.2.2.1
theorem dL_law_2008 : decode cL_law 2008 = .ok (.aload_n 3, 1) := fdg (k := 1968) (p := 40) hdk_1968 dLb_65.2.2.2.2.2.2.2.2.2.2.2.2.2.2.2.2.2.2.2.2.2.2.2.2.2.2.1
theorem dL_law_2009 : decode cL_law 2009 = .ok (.invokestatic 301, 3) := fdg (k := 1968) (p := 41) hdk_1968 dLb_65.2.2.2.2.2.2.2.2.2.2.2.2.2.2.2.2.2.2.2.2.2.2.2.2.2.2.2.1
theorem dL_law_2012 : decode cL_law 2012 = .ok (.istore 5, 2) := fdg (k := 1968) (p := 44) hdk_1968 dLb_65.2.2.2.2.2.2.2.2.2.2.2.2.2.2.2.2.2.2.2.2.2.2.2.2.2.2.2.2.1
theorem dL_law_2014 : decode cL_law 2014 = .ok (.aload_n 2, 1) := fdg (k := 1968) (p := 46) hdk_1968 dLb_65.2.2.2.2.2.2.2.2.2.2.2.2.2.2.2.2.2.2.2.2.2.2.2.2.2.2.2.2.2.1
theorem dL_law_2015 : decode cL_law 2015 = .ok (.aload_n 0, 1) := fdg (k := 1968) (p := 47) hdk_1968 dLb_65.2.2.2.2.2.2.2.2.2.2.2.2.2.2.2.2.2.2.2.2.2.2.2.2.2.2.2.2.2.2
theorem dLb_66 : fdq dk_2016 0 (.iload 4) 2 = true ∧ fdq dk_2016 2 (.iconst 1) 1 = true ∧ fdq dk_2016 3 (.iadd) 1 = true ∧ fdq dk_2016 4 (.iaload) 1 = true ∧ fdq dk_2016 5 (.invokevirtual 303) 3 = true ∧ fdq dk_2016 8 (.istore 6) 2 = true ∧ fdq dk_2016 10 (.goto 30) 3 = true ∧ fdq dk_2016 13 (.aload_n 1) 1 = true ∧ fdq dk_2016 14 (.invokevirtual 304) 3 = true ∧ fdq dk_2016 17 (.pop) 1 = true ∧ fdq dk_2016 18 (.aload_n 2) 1 = true ∧ fdq dk_2016 19 (.invokevirtual 308) 3 = true ∧ fdq dk_2016 22 (.pop) 1 = true ∧ fdq dk_2016 23 (.goto 17) 3 = true ∧ fdq dk_2016 26 (.aload_n 1) 1 = true ∧ fdq dk_2016 27 (.invokevirtual 309) 3 = true ∧ fdq dk_2016 30 (.aload_n 2) 1 = true ∧ fdq dk_2016 31 (.invokevirtual 313) 3 = true ∧ fdq dk_2016 34 (.lcmp) 1 = true ∧ fdq dk_2016 35 (.ifCond .eq 5) 3 = true ∧ fdq dk_2016 38 (.iconst 0) 1 = true ∧ fdq dk_2016 39 (.ireturn) 1 = true ∧ fdq dk_2016 40 (.iinc 4 6) 3 = true ∧ fdq dk_2016 43 (.goto (-2032)) 3 = true ∧ fdq dk_2016 46 (.iconst 1) 1 = true ∧ fdq dk_2016 47 (.ireturn) 1 = true := by decide +kernel
theorem dL_law_2016 : decode cL_law 2016 = .ok (.iload 4, 2) := fdg (k := 2016) (p := 0) hdk_2016 dLb_66.1
theorem dL_law_2018 : decode cL_law 2018 = .ok (.iconst 1, 1) := fdg (k := 2016) (p := 2) hdk_2016 dLb_66.2.1
theorem dL_law_2019 : decode cL_law 2019 = .ok (.iadd, 1) := fdg (k := 2016) (p := 3) hdk_2016 dLb_66.2.2.1
theorem dL_law_2020 : decode cL_law 2020 = .ok (.iaload, 1) := fdg (k := 2016) (p := 4) hdk_2016 dLb_66.2.2.2.1
theorem dL_law_2021 : decode cL_law 2021 = .ok (.invokevirtual 303, 3) := fdg (k := 2016) (p := 5) hdk_2016 dLb_66.2.2.2.2.1
theorem dL_law_2024 : decode cL_law 2024 = .ok (.istore 6, 2) := fdg (k := 2016) (p := 8) hdk_2016 dLb_66.2.2.2.2.2.1
theorem dL_law_2026 : decode cL_law 2026 = .ok (.goto 30, 3) := fdg (k := 2016) (p := 10) hdk_2016 dLb_66.2.2.2.2.2.2.1
theorem dL_law_2029 : decode cL_law 2029 = .ok (.aload_n 1, 1) := fdg (k := 2016) (p := 13) hdk_2016 dLb_66.2.2.2.2.2.2.2.1
theorem dL_law_2030 : decode cL_law 2030 = .ok (.invokevirtual 304, 3) := fdg (k := 2016) (p := 14) hdk_2016 dLb_66.2.2.2.2.2.2.2.2.1
theorem dL_law_2033 : decode cL_law 2033 = .ok (.pop, 1) := fdg (k := 2016) (p := 17) hdk_2016 dLb_66.2.2.2.2.2.2.2.2.2.1
theorem dL_law_2034 : decode cL_law 2034 = .ok (.aload_n 2, 1) := fdg (k := 2016) (p := 18) hdk_2016 dLb_66.2.2.2.2.2.2.2.2.2.2.1
theorem dL_law_2035 : decode cL_law 2035 = .ok (.invokevirtual 308, 3) := fdg (k := 2016) (p := 19) hdk_2016 dLb_66.2.2.2.2.2.2.2.2.2.2.2.1
theorem dL_law_2038 : decode cL_law 2038 = .ok (.pop, 1) := fdg (k := 2016) (p := 22) hdk_2016 dLb_66.2.2.2.2.2.2.2.2.2.2.2.2.1
theorem dL_law_2039 : decode cL_law 2039 = .ok (.goto 17, 3) := fdg (k := 2016) (p := 23) hdk_2016 dLb_66.2.2.2.2.2.2.2.2.2.2.2.2.2.1
theorem dL_law_2042 : decode cL_law 2042 = .ok (.aload_n 1, 1) := fdg (k := 2016) (p := 26) hdk_2016 dLb_66.2.2.2.2.2.2.2.2.2.2.2.2.2.2.1
theorem dL_law_2043 : decode cL_law 2043 = .ok (.invokevirtual 309, 3) := fdg (k := 2016) (p := 27) hdk_2016 dLb_66.2.2.2.2.2.2.2.2.2.2.2.2.2.2.2.1
theorem dL_law_2046 : decode cL_law 2046 = .ok (.aload_n 2, 1) := fdg (k := 2016) (p := 30) hdk_2016 dLb_66.2.2.2.2.2.2.2.2.2.2.2.2.2.2.2.2.1
theorem dL_law_2047 : decode cL_law 2047 = .ok (.invokevirtual 313, 3) := fdg (k := 2016) (p := 31) hdk_2016 dLb_66.2.2.2.2.2.2.2.2.2.2.2.2.2.2.2.2.2.1
theorem dL_law_2050 : decode cL_law 2050 = .ok (.lcmp, 1) := fdg (k := 2016) (p := 34) hdk_2016 dLb_66.2.2.2.2.2.2.2.2.2.2.2.2.2.2.2.2.2.2.1
theorem dL_law_2051 : decode cL_law 2051 = .ok (.ifCond .eq 5, 3) := fdg (k := 2016) (p := 35) hdk_2016 dLb_66.2.2.2.2.2.2.2.2.2.2.2.2.2.2.2.2.2.2.2.1
theorem dL_law_2054 : decode cL_law 2054 = .ok (.iconst 0, 1) := fdg (k := 2016) (p := 38) hdk_2016 dLb_66.2.2.2.2.2.2.2.2.2.2.2.2.2.2.2.2.2.2.2.2.1
theorem dL_law_2055 : decode cL_law 2055 = .ok (.ireturn, 1) := fdg (k := 2016) (p := 39) hdk_2016 dLb_66.2.2.2.2.2.2.2.2.2.2.2.2.2.2.2.2.2.2.2.2.2.1
theorem dL_law_2056 : decode cL_law 2056 = .ok (.iinc 4 6, 3) := fdg (k := 2016) (p := 40) hdk_2016 dLb_66.2.2.2.2.2.2.2.2.2.2.2.2.2.2.2.2.2.2.2.2.2.2.1
theorem dL_law_2059 : decode cL_law 2059 = .ok (.goto (-2032), 3) := fdg (k := 2016) (p := 43) hdk_2016 dLb_66.2.2.2.2.2.2.2.2.2.2.2.2.2.2.2.2.2.2.2.2.2.2.2.1
theorem dL_law_2062 : decode cL_law 2062 = .ok (.iconst 1, 1) := fdg (k := 2016) (p := 46) hdk_2016 dLb_66.2.2.2.2.2.2.2.2.2.2.2.2.2.2.2.2.2.2.2.2.2.2.2.2.1
theorem dL_law_2063 : decode cL_law 2063 = .ok (.ireturn, 1) := fdg (k := 2016) (p := 47) hdk_2016 dLb_66.2.2.2.2.2.2.2.2.2.2.2.2.2.2.2.2.2.2.2.2.2.2.2.2.2
theorem dL_law_44 : decode cL_law 44 = .ok (.tableswitch 2012 0 44 #[196, 236, 288, 328, 392, 444, 484, 512, 540, 568, 596, 636, 676, 716, 756, 796, 836, 876, 916, 944, 1024, 1052, 1144, 1196, 1248, 1288, 1344, 1372, 1412, 1464, 1504, 1556, 1596, 1636, 1676, 1716, 1756, 1808, 1836, 1888, 1901, 1929, 1957, 1985, 1998], 196) := by decide +kernel

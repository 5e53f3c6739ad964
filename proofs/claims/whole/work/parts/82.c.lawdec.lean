theorem dl_size : cL_law.size = 3320 := by decide +kernel
def dk_0 : ByteArray := dlk cL_law 0 54
theorem hdk_0 : dlS 0 cL_law dk_0 := dl_S cL_law 0 54 (Nat.le_trans (by decide : 0 ≤ 3320) (Nat.le_of_eq dl_size.symm))
def dk_48 : ByteArray := dlk cL_law 48 54
theorem hdk_48 : dlS 48 cL_law dk_48 := dl_S cL_law 48 54 (Nat.le_trans (by decide : 48 ≤ 3320) (Nat.le_of_eq dl_size.symm))
def dk_96 : ByteArray := dlk cL_law 96 54
theorem hdk_96 : dlS 96 cL_law dk_96 := dl_S cL_law 96 54 (Nat.le_trans (by decide : 96 ≤ 3320) (Nat.le_of_eq dl_size.symm))
def dk_144 : ByteArray := dlk cL_law 144 54
theorem hdk_144 : dlS 144 cL_law dk_144 := dl_S cL_law 144 54 (Nat.le_trans (by decide : 144 ≤ 3320) (Nat.le_of_eq dl_size.symm))
def dk_192 : ByteArray := dlk cL_law 192 54
theorem hdk_192 : dlS 192 cL_law dk_192 := dl_S cL_law 192 54 (Nat.le_trans (by decide : 192 ≤ 3320) (Nat.le_of_eq dl_size.symm))
def dk_240 : ByteArray := dlk cL_law 240 54
theorem hdk_240 : dlS 240 cL_law dk_240 := dl_S cL_law 240 54 (Nat.le_trans (by decide : 240 ≤ 3320) (Nat.le_of_eq dl_size.symm))
def dk_288 : ByteArray := dlk cL_law 288 54
theorem hdk_288 : dlS 288 cL_law dk_288 := dl_S cL_law 288 54 (Nat.le_trans (by decide : 288 ≤ 3320) (Nat.le_of_eq dl_size.symm))
def dk_336 : ByteArray := dlk cL_law 336 54
theorem hdk_336 : dlS 336 cL_law dk_336 := dl_S cL_law 336 54 (Nat.le_trans (by decide : 336 ≤ 3320) (Nat.le_of_eq dl_size.symm))
def dk_384 : ByteArray := dlk cL_law 384 54
theorem hdk_384 : dlS 384 cL_law dk_384 := dl_S cL_law 384 54 (Nat.le_trans (by decide : 384 ≤ 3320) (Nat.le_of_eq dl_size.symm))
def dk_432 : ByteArray := dlk cL_law 432 54
theorem hdk_432 : dlS 432 cL_law dk_432 := dl_S cL_law 432 54 (Nat.le_trans (by decide : 432 ≤ 3320) (Nat.le_of_eq dl_size.symm))
def dk_480 : ByteArray := dlk cL_law 480 54
theorem hdk_480 : dlS 480 cL_law dk_480 := dl_S cL_law 480 54 (Nat.le_trans (by decide : 480 ≤ 3320) (Nat.le_of_eq dl_size.symm))
def dk_528 : ByteArray := dlk cL_law 528 54
theorem hdk_528 : dlS 528 cL_law dk_528 := dl_S cL_law 528 54 (Nat.le_trans (by decide : 528 ≤ 3320) (Nat.le_of_eq dl_size.symm))
def dk_576 : ByteArray := dlk cL_law 576 54
theorem hdk_576 : dlS 576 cL_law dk_576 := dl_S cL_law 576 54 (Nat.le_trans (by decide : 576 ≤ 3320) (Nat.le_of_eq dl_size.symm))
def dk_624 : ByteArray := dlk cL_law 624 54
theorem hdk_624 : dlS 624 cL_law dk_624 := dl_S cL_law 624 54 (Nat.le_trans (by decide : 624 ≤ 3320) (Nat.le_of_eq dl_size.symm))
def dk_672 : ByteArray := dlk cL_law 672 54
theorem hdk_672 : dlS 672 cL_law dk_672 := dl_S cL_law 672 54 (Nat.le_trans (by decide : 672 ≤ 3320) (Nat.le_of_eq dl_size.symm))
def dk_720 : ByteArray := dlk cL_law 720 54
theorem hdk_720 : dlS 720 cL_law dk_720 := dl_S cL_law 720 54 (Nat.le_trans (by decide : 720 ≤ 3320) (Nat.le_of_eq dl_size.symm))
def dk_768 : ByteArray := dlk cL_law 768 54
theorem hdk_768 : dlS 768 cL_law dk_768 := dl_S cL_law 768 54 (Nat.le_trans (by decide : 768 ≤ 3320) (Nat.le_of_eq dl_size.symm))
def dk_816 : ByteArray := dlk cL_law 816 54
theorem hdk_816 : dlS 816 cL_law dk_816 := dl_S cL_law 816 54 (Nat.le_trans (by decide : 816 ≤ 3320) (Nat.le_of_eq dl_size.symm))
def dk_864 : ByteArray := dlk cL_law 864 54
theorem hdk_864 : dlS 864 cL_law dk_864 := dl_S cL_law 864 54 (Nat.le_trans (by decide : 864 ≤ 3320) (Nat.le_of_eq dl_size.symm))
def dk_912 : ByteArray := dlk cL_law 912 54
theorem hdk_912 : dlS 912 cL_law dk_912 := dl_S cL_law 912 54 (Nat.le_trans (by decide : 912 ≤ 3320) (Nat.le_of_eq dl_size.symm))
def dk_960 : ByteArray := dlk cL_law 960 54
theorem hdk_960 : dlS 960 cL_law dk_960 := dl_S cL_law 960 54 (Nat.le_trans (by decide : 960 ≤ 3320) (Nat.le_of_eq dl_size.symm))
def dk_1008 : ByteArray := dlk cL_law 1008 54
theorem hdk_1008 : dlS 1008 cL_law dk_1008 := dl_S cL_law 1008 54 (Nat.le_trans (by decide : 1008 ≤ 3320) (Nat.le_of_eq dl_size.symm))
def dk_1056 : ByteArray := dlk cL_law 1056 54
theorem hdk_1056 : dlS 1056 cL_law dk_1056 := dl_S cL_law 1056 54 (Nat.le_trans (by decide : 1056 ≤ 3320) (Nat.le_of_eq dl_size.symm))
def dk_1104 : ByteArray := dlk cL_law 1104 54
theorem hdk_1104 : dlS 1104 cL_law dk_1104 := dl_S cL_law 1104 54 (Nat.le_trans (by decide : 1104 ≤ 3320) (Nat.le_of_eq dl_size.symm))
def dk_1152 : ByteArray := dlk cL_law 1152 54
theorem hdk_1152 : dlS 1152 cL_law dk_1152 := dl_S cL_law 1152 54 (Nat.le_trans (by decide : 1152 ≤ 3320) (Nat.le_of_eq dl_size.symm))
def dk_1200 : ByteArray := dlk cL_law 1200 54
theorem hdk_1200 : dlS 1200 cL_law dk_1200 := dl_S cL_law 1200 54 (Nat.le_trans (by decide : 1200 ≤ 3320) (Nat.le_of_eq dl_size.symm))
def dk_1248 : ByteArray := dlk cL_law 1248 54
theorem hdk_1248 : dlS 1248 cL_law dk_1248 := dl_S cL_law 1248 54 (Nat.le_trans (by decide : 1248 ≤ 3320) (Nat.le_of_eq dl_size.symm))
def dk_1296 : ByteArray := dlk cL_law 1296 54
theorem hdk_1296 : dlS 1296 cL_law dk_1296 := dl_S cL_law 1296 54 (Nat.le_trans (by decide : 1296 ≤ 3320) (Nat.le_of_eq dl_size.symm))
def dk_1344 : ByteArray := dlk cL_law 1344 54
theorem hdk_1344 : dlS 1344 cL_law dk_1344 := dl_S cL_law 1344 54 (Nat.le_trans (by decide : 1344 ≤ 3320) (Nat.le_of_eq dl_size.symm))
def dk_1392 : ByteArray := dlk cL_law 1392 54
theorem hdk_1392 : dlS 1392 cL_law dk_1392 := dl_S cL_law 1392 54 (Nat.le_trans (by decide : 1392 ≤ 3320) (Nat.le_of_eq dl_size.symm))
def dk_1440 : ByteArray := dlk cL_law 1440 54
theorem hdk_1440 : dlS 1440 cL_law dk_1440 := dl_S cL_law 1440 54 (Nat.le_trans (by decide : 1440 ≤ 3320) (Nat.le_of_eq dl_size.symm))
def dk_1488 : ByteArray := dlk cL_law 1488 54
theorem hdk_1488 : dlS 1488 cL_law dk_1488 := dl_S cL_law 1488 54 (Nat.le_trans (by decide : 1488 ≤ 3320) (Nat.le_of_eq dl_size.symm))
def dk_1536 : ByteArray := dlk cL_law 1536 54
theorem hdk_1536 : dlS 1536 cL_law dk_1536 := dl_S cL_law 1536 54 (Nat.le_trans (by decide : 1536 ≤ 3320) (Nat.le_of_eq dl_size.symm))
def dk_1584 : ByteArray := dlk cL_law 1584 54
theorem hdk_1584 : dlS 1584 cL_law dk_1584 := dl_S cL_law 1584 54 (Nat.le_trans (by decide : 1584 ≤ 3320) (Nat.le_of_eq dl_size.symm))
def dk_1632 : ByteArray := dlk cL_law 1632 54
theorem hdk_1632 : dlS 1632 cL_law dk_1632 := dl_S cL_law 1632 54 (Nat.le_trans (by decide : 1632 ≤ 3320) (Nat.le_of_eq dl_size.symm))
def dk_1680 : ByteArray := dlk cL_law 1680 54
theorem hdk_1680 : dlS 1680 cL_law dk_1680 := dl_S cL_law 1680 54 (Nat.le_trans (by decide : 1680 ≤ 3320) (Nat.le_of_eq dl_size.symm))
def dk_1728 : ByteArray := dlk cL_law 1728 54
theorem hdk_1728 : dlS 1728 cL_law dk_1728 := dl_S cL_law 1728 54 (Nat.le_trans (by decide : 1728 ≤ 3320) (Nat.le_of_eq dl_size.symm))
def dk_1776 : ByteArray := dlk cL_law 1776 54
theorem hdk_1776 : dlS 1776 cL_law dk_1776 := dl_S cL_law 1776 54 (Nat.le_trans (by decide : 1776 ≤ 3320) (Nat.le_of_eq dl_size.symm))
def dk_1824 : ByteArray := dlk cL_law 1824 54
theorem hdk_1824 : dlS 1824 cL_law dk_1824 := dl_S cL_law 1824 54 (Nat.le_trans (by decide : 1824 ≤ 3320) (Nat.le_of_eq dl_size.symm))
def dk_1872 : ByteArray := dlk cL_law 1872 54
theorem hdk_1872 : dlS 1872 cL_law dk_1872 := dl_S cL_law 1872 54 (Nat.le_trans (by decide : 1872 ≤ 3320) (Nat.le_of_eq dl_size.symm))
def dk_1920 : ByteArray := dlk cL_law 1920 54
theorem hdk_1920 : dlS 1920 cL_law dk_1920 := dl_S cL_law 1920 54 (Nat.le_trans (by decide : 1920 ≤ 3320) (Nat.le_of_eq dl_size.symm))
def dk_1968 : ByteArray := dlk cL_law 1968 54
theorem hdk_1968 : dlS 1968 cL_law dk_1968 := dl_S cL_law 1968 54 (Nat.le_trans (by decide : 1968 ≤ 3320) (Nat.le_of_eq dl_size.symm))
def dk_2016 : ByteArray := dlk cL_law 2016 54
theorem hdk_2016 : dlS 2016 cL_law dk_2016 := dl_S cL_law 2016 54 (Nat.le_trans (by decide : 2016 ≤ 3320) (Nat.le_of_eq dl_size.symm))
def dk_2064 : ByteArray := dlk cL_law 2064 54
theorem hdk_2064 : dlS 2064 cL_law dk_2064 := dl_S cL_law 2064 54 (Nat.le_trans (by decide : 2064 ≤ 3320) (Nat.le_of_eq dl_size.symm))
def dk_2112 : ByteArray := dlk cL_law 2112 54
theorem hdk_2112 : dlS 2112 cL_law dk_2112 := dl_S cL_law 2112 54 (Nat.le_trans (by decide : 2112 ≤ 3320) (Nat.le_of_eq dl_size.symm))
def dk_2160 : ByteArray := dlk cL_law 2160 54
theorem hdk_2160 : dlS 2160 cL_law dk_2160 := dl_S cL_law 2160 54 (Nat.le_trans (by decide : 2160 ≤ 3320) (Nat.le_of_eq dl_size.symm))
def dk_2208 : ByteArray := dlk cL_law 2208 54
theorem hdk_2208 : dlS 2208 cL_law dk_2208 := dl_S cL_law 2208 54 (Nat.le_trans (by decide : 2208 ≤ 3320) (Nat.le_of_eq dl_size.symm))
def dk_2256 : ByteArray := dlk cL_law 2256 54
theorem hdk_2256 : dlS 2256 cL_law dk_2256 := dl_S cL_law 2256 54 (Nat.le_trans (by decide : 2256 ≤ 3320) (Nat.le_of_eq dl_size.symm))
def dk_2304 : ByteArray := dlk cL_law 2304 54
theorem hdk_2304 : dlS 2304 cL_law dk_2304 := dl_S cL_law 2304 54 (Nat.le_trans (by decide : 2304 ≤ 3320) (Nat.le_of_eq dl_size.symm))
def dk_2352 : ByteArray := dlk cL_law 2352 54
theorem hdk_2352 : dlS 2352 cL_law dk_2352 := dl_S cL_law 2352 54 (Nat.le_trans (by decide : 2352 ≤ 3320) (Nat.le_of_eq dl_size.symm))
def dk_2400 : ByteArray := dlk cL_law 2400 54
theorem hdk_2400 : dlS 2400 cL_law dk_2400 := dl_S cL_law 2400 54 (Nat.le_trans (by decide : 2400 ≤ 3320) (Nat.le_of_eq dl_size.symm))
def dk_2448 : ByteArray := dlk cL_law 2448 54
theorem hdk_2448 : dlS 2448 cL_law dk_2448 := dl_S cL_law 2448 54 (Nat.le_trans (by decide : 2448 ≤ 3320) (Nat.le_of_eq dl_size.symm))
def dk_2496 : ByteArray := dlk cL_law 2496 54
theorem hdk_2496 : dlS 2496 cL_law dk_2496 := dl_S cL_law 2496 54 (Nat.le_trans (by decide : 2496 ≤ 3320) (Nat.le_of_eq dl_size.symm))
def dk_2544 : ByteArray := dlk cL_law 2544 54
theorem hdk_2544 : dlS 2544 cL_law dk_2544 := dl_S cL_law 2544 54 (Nat.le_trans (by decide : 2544 ≤ 3320) (Nat.le_of_eq dl_size.symm))
def dk_2592 : ByteArray := dlk cL_law 2592 54
theorem hdk_2592 : dlS 2592 cL_law dk_2592 := dl_S cL_law 2592 54 (Nat.le_trans (by decide : 2592 ≤ 3320) (Nat.le_of_eq dl_size.symm))
def dk_2640 : ByteArray := dlk cL_law 2640 54
theorem hdk_2640 : dlS 2640 cL_law dk_2640 := dl_S cL_law 2640 54 (Nat.le_trans (by decide : 2640 ≤ 3320) (Nat.le_of_eq dl_size.symm))
def dk_2688 : ByteArray := dlk cL_law 2688 54
theorem hdk_2688 : dlS 2688 cL_law dk_2688 := dl_S cL_law 2688 54 (Nat.le_trans (by decide : 2688 ≤ 3320) (Nat.le_of_eq dl_size.symm))
def dk_2736 : ByteArray := dlk cL_law 2736 54
theorem hdk_2736 : dlS 2736 cL_law dk_2736 := dl_S cL_law 2736 54 (Nat.le_trans (by decide : 2736 ≤ 3320) (Nat.le_of_eq dl_size.symm))
def dk_2784 : ByteArray := dlk cL_law 2784 54
theorem hdk_2784 : dlS 2784 cL_law dk_2784 := dl_S cL_law 2784 54 (Nat.le_trans (by decide : 2784 ≤ 3320) (Nat.le_of_eq dl_size.symm))
def dk_2832 : ByteArray := dlk cL_law 2832 54
theorem hdk_2832 : dlS 2832 cL_law dk_2832 := dl_S cL_law 2832 54 (Nat.le_trans (by decide : 2832 ≤ 3320) (Nat.le_of_eq dl_size.symm))
def dk_2880 : ByteArray := dlk cL_law 2880 54
theorem hdk_2880 : dlS 2880 cL_law dk_2880 := dl_S cL_law 2880 54 (Nat.le_trans (by decide : 2880 ≤ 3320) (Nat.le_of_eq dl_size.symm))
def dk_2928 : ByteArray := dlk cL_law 2928 54
theorem hdk_2928 : dlS 2928 cL_law dk_2928 := dl_S cL_law 2928 54 (Nat.le_trans (by decide : 2928 ≤ 3320) (Nat.le_of_eq dl_size.symm))
def dk_2976 : ByteArray := dlk cL_law 2976 54
theorem hdk_2976 : dlS 2976 cL_law dk_2976 := dl_S cL_law 2976 54 (Nat.le_trans (by decide : 2976 ≤ 3320) (Nat.le_of_eq dl_size.symm))
def dk_3024 : ByteArray := dlk cL_law 3024 54
theorem hdk_3024 : dlS 3024 cL_law dk_3024 := dl_S cL_law 3024 54 (Nat.le_trans (by decide : 3024 ≤ 3320) (Nat.le_of_eq dl_size.symm))
def dk_3072 : ByteArray := dlk cL_law 3072 54
theorem hdk_3072 : dlS 3072 cL_law dk_3072 := dl_S cL_law 3072 54 (Nat.le_trans (by decide : 3072 ≤ 3320) (Nat.le_of_eq dl_size.symm))
def dk_3120 : ByteArray := dlk cL_law 3120 54
theorem hdk_3120 : dlS 3120 cL_law dk_3120 := dl_S cL_law 3120 54 (Nat.le_trans (by decide : 3120 ≤ 3320) (Nat.le_of_eq dl_size.symm))
def dk_3168 : ByteArray := dlk cL_law 3168 54
theorem hdk_3168 : dlS 3168 cL_law dk_3168 := dl_S cL_law 3168 54 (Nat.le_trans (by decide : 3168 ≤ 3320) (Nat.le_of_eq dl_size.symm))
def dk_3216 : ByteArray := dlk cL_law 3216 54
theorem hdk_3216 : dlS 3216 cL_law dk_3216 := dl_S cL_law 3216 54 (Nat.le_trans (by decide : 3216 ≤ 3320) (Nat.le_of_eq dl_size.symm))
def dk_3264 : ByteArray := dlk cL_law 3264 54
theorem hdk_3264 : dlS 3264 cL_law dk_3264 := dl_S cL_law 3264 54 (Nat.le_trans (by decide : 3264 ≤ 3320) (Nat.le_of_eq dl_size.symm))
def dk_3312 : ByteArray := dlk cL_law 3312 54
theorem hdk_3312 : dlS 3312 cL_law dk_3312 := dl_S cL_law 3312 54 (Nat.le_trans (by decide : 3312 ≤ 3320) (Nat.le_of_eq dl_size.symm))
theorem dLb_0 : fdq dk_0 0 (.new 8) 3 = true ∧ fdq dk_0 3 (.dup) 1 = true ∧ fdq dk_0 4 (.invokespecial 159) 3 = true ∧ fdq dk_0 7 (.astore_n 1) 1 = true ∧ fdq dk_0 8 (.new 160) 3 = true ∧ fdq dk_0 11 (.dup) 1 = true ∧ fdq dk_0 12 (.invokespecial 162) 3 = true ∧ fdq dk_0 15 (.astore_n 2) 1 = true ∧ fdq dk_0 16 (.new 14) 3 = true ∧ fdq dk_0 19 (.dup) 1 = true ∧ fdq dk_0 20 (.invokespecial 163) 3 = true ∧ fdq dk_0 23 (.astore_n 3) 1 = true ∧ fdq dk_0 24 (.iconst 0) 1 = true ∧ fdq dk_0 25 (.istore 4) 2 = true ∧ fdq dk_0 27 (.iload 4) 2 = true ∧ fdq dk_0 29 (.aload_n 0) 1 = true ∧ fdq dk_0 30 (.arraylength) 1 = true ∧ fdq dk_0 31 (.bipush 6) 2 = true ∧ fdq dk_0 33 (.isub) 1 = true ∧ fdq dk_0 34 (.if_icmp .gt 3284) 3 = true ∧ fdq dk_0 37 (.aload_n 0) 1 = true ∧ fdq dk_0 38 (.iload 4) 2 = true ∧ fdq dk_0 40 (.iaload) 1 = true ∧ fdq dk_0 41 (.bipush 63) 2 = true ∧ fdq dk_0 43 (.iand) 1 = true := by decide +kernel
theorem dL_law_0 : decode cL_law 0 = .ok (.new 8, 3) := fdg (k := 0) (p := 0) hdk_0 dLb_0.1
theorem dL_law_3 : decode cL_law 3 = .ok (.dup, 1) := fdg (k := 0) (p := 3) hdk_0 dLb_0.2.1
theorem dL_law_4 : decode cL_law 4 = .ok (.invokespecial 159, 3) := fdg (k := 0) (p := 4) hdk_0 dLb_0.2.2.1
theorem dL_law_7 : decode cL_law 7 = .ok (.astore_n 1, 1) := fdg (k := 0) (p := 7) hdk_0 dLb_0.2.2.2.1
theorem dL_law_8 : decode cL_law 8 = .ok (.new 160, 3) := fdg (k := 0) (p := 8) hdk_0 dLb_0.2.2.2.2.1
theorem dL_law_11 : decode cL_law 11 = .ok (.dup, 1) := fdg (k := 0) (p := 11) hdk_0 dLb_0.2.2.2.2.2.1
theorem dL_law_12 : decode cL_law 12 = .ok (.invokespecial 162, 3) := fdg (k := 0) (p := 12) hdk_0 dLb_0.2.2.2.2.2.2.1
theorem dL_law_15 : decode cL_law 15 = .ok (.astore_n 2, 1) := fdg (k := 0) (p := 15) hdk_0 dLb_0.2.2.2.2.2.2.2.1
theorem dL_law_16 : decode cL_law 16 = .ok (.new 14, 3) := fdg (k := 0) (p := 16) hdk_0 dLb_0.2.2.2.2.2.2.2.2.1
theorem dL_law_19 : decode cL_law 19 = .ok (.dup, 1) := fdg (k := 0) (p := 19) hdk_0 dLb_0.2.2.2.2.2.2.2.2.2.1
theorem dL_law_20 : decode cL_law 20 = .ok (.invokespecial 163, 3) := fdg (k := 0) (p := 20) hdk_0 dLb_0.2.2.2.2.2.2.2.2.2.2.1
theorem dL_law_23 : decode cL_law 23 = .ok (.astore_n 3, 1) := fdg (k := 0) (p := 23) hdk_0 dLb_0.2.2.2.2.2.2.2.2.2.2.2.1
theorem dL_law_24 : decode cL_law 24 = .ok (.iconst 0, 1) := fdg (k := 0) (p := 24) hdk_0 dLb_0.2.2.2.2.2.2.2.2.2.2.2.2.1
theorem dL_law_25 : decode cL_law 25 = .ok (.istore 4, 2) := fdg (k := 0) (p := 25) hdk_0 dLb_0.2.2.2.2.2.2.2.2.2.2.2.2.2.1
theorem dL_law_27 : decode cL_law 27 = .ok (.iload 4, 2) := fdg (k := 0) (p := 27) hdk_0 dLb_0.2.2.2.2.2.2.2.2.2.2.2.2.2.2.1
theorem dL_law_29 : decode cL_law 29 = .ok (.aload_n 0, 1) := fdg (k := 0) (p := 29) hdk_0 dLb_0.2.2.2.2.2.2.2.2.2.2.2.2.2.2.2.1
theorem dL_law_30 : decode cL_law 30 = .ok (.arraylength, 1) := fdg (k := 0) (p := 30) hdk_0 dLb_0.2.2.2.2.2.2.2.2.2.2.2.2.2.2.2.2.1
theorem dL_law_31 : decode cL_law 31 = .ok (.bipush 6, 2) := fdg (k := 0) (p := 31) hdk_0 dLb_0.2.2.2.2.2.2.2.2.2.2.2.2.2.2.2.2.2.1
theorem dL_law_33 : decode cL_law 33 = .ok (.isub, 1) := fdg (k := 0) (p := 33) hdk_0 dLb_0.2.2.2.2.2.2.2.2.2.2.2.2.2.2.2.2.2.2.1
theorem dL_law_34 : decode cL_law 34 = .ok (.if_icmp .gt 3284, 3) := fdg (k := 0) (p := 34) hdk_0 dLb_0.2.2.2.2.2.2.2.2.2.2.2.2.2.2.2.2.2.2.2.1
theorem dL_law_37 : decode cL_law 37 = .ok (.aload_n 0, 1) := fdg (k := 0) (p := 37) hdk_0 dLb_0.2.2.2.2.2.2.2.2.2.2.2.2.2.2.2.2.2.2.2.2.1
theorem dL_law_38 : decode cL_law 38 = .ok (.iload 4, 2) := fdg (k := 0) (p := 38) hdk_0 dLb_0.2.2.2.2.2.2.2.2.2.2.2.2.2.2.2.2.2.2.2.2.2.1
theorem dL_law_40 : decode cL_law 40 = .ok (.iaload, 1) := fdg (k := 0) (p := 40) hdk_0 dLb_0.2.2.2.2.2.2.2.2.2.2.2.2.2.2.2.2.2.2.2.2.2.2.1
theorem dL_law_41 : decode cL_law 41 = .ok (.bipush 63, 2) := fdg (k := 0) (p := 41) hdk_0 dLb_0.2.2.2.2.2.2.2.2.2.2.2.2.2.2.2.2.2.2.2.2.2.2.2.1
theorem dL_law_43 : decode cL_law 43 = .ok (.iand, 1) := fdg (k := 0) (p := 43) hdk_0 dLb_0.2.2.2.2.2.2.2.2.2.2.2.2.2.2.2.2.2.2.2.2.2.2.2.2
theorem dLb_1 : fdq dk_240 0 (.aload_n 1) 1 = true ∧ fdq dk_240 1 (.aload_n 0) 1 = true ∧ fdq dk_240 2 (.iload 4) 2 = true ∧ fdq dk_240 4 (.iconst 1) 1 = true ∧ fdq dk_240 5 (.iadd) 1 = true ∧ fdq dk_240 6 (.iaload) 1 = true ∧ fdq dk_240 7 (.aload_n 0) 1 = true ∧ fdq dk_240 8 (.iload 4) 2 = true ∧ fdq dk_240 10 (.iconst 2) 1 = true ∧ fdq dk_240 11 (.iadd) 1 = true ∧ fdq dk_240 12 (.iaload) 1 = true ∧ fdq dk_240 13 (.aload_n 3) 1 = true ∧ fdq dk_240 14 (.invokestatic 164) 3 = true ∧ fdq dk_240 17 (.istore 5) 2 = true ∧ fdq dk_240 19 (.aload_n 2) 1 = true ∧ fdq dk_240 20 (.aload_n 0) 1 = true ∧ fdq dk_240 21 (.iload 4) 2 = true ∧ fdq dk_240 23 (.iconst 1) 1 = true ∧ fdq dk_240 24 (.iadd) 1 = true ∧ fdq dk_240 25 (.iaload) 1 = true ∧ fdq dk_240 26 (.aload_n 0) 1 = true ∧ fdq dk_240 27 (.iload 4) 2 = true ∧ fdq dk_240 29 (.iconst 2) 1 = true ∧ fdq dk_240 30 (.iadd) 1 = true ∧ fdq dk_240 31 (.iaload) 1 = true ∧ fdq dk_240 32 (.invokevirtual 169) 3 = true ∧ fdq dk_240 35 (.istore 6) 2 = true ∧ fdq dk_240 37 (.aload_n 2) 1 = true ∧ fdq dk_240 38 (.invokevirtual 170) 3 = true ∧ fdq dk_240 41 (.iload 5) 2 = true ∧ fdq dk_240 43 (.if_icmp .eq 5) 3 = true ∧ fdq dk_240 46 (.iconst 0) 1 = true := by decide +kernel
theorem dL_law_240 : decode cL_law 240 = .ok (.aload_n 1, 1) := fdg (k := 240) (p := 0) hdk_240 dLb_1.1
theorem dL_law_241 : decode cL_law 241 = .ok (.aload_n 0, 1) := fdg (k := 240) (p := 1) hdk_240 dLb_1.2.1
theorem dL_law_242 : decode cL_law 242 = .ok (.iload 4, 2) := fdg (k := 240) (p := 2) hdk_240 dLb_1.2.2.1
theorem dL_law_244 : decode cL_law 244 = .ok (.iconst 1, 1) := fdg (k := 240) (p := 4) hdk_240 dLb_1.2.2.2.1
theorem dL_law_245 : decode cL_law 245 = .ok (.iadd, 1) := fdg (k := 240) (p := 5) hdk_240 dLb_1.2.2.2.2.1
theorem dL_law_246 : decode cL_law 246 = .ok (.iaload, 1) := fdg (k := 240) (p := 6) hdk_240 dLb_1.2.2.2.2.2.1
theorem dL_law_247 : decode cL_law 247 = .ok (.aload_n 0, 1) := fdg (k := 240) (p := 7) hdk_240 dLb_1.2.2.2.2.2.2.1
theorem dL_law_248 : decode cL_law 248 = .ok (.iload 4, 2) := fdg (k := 240) (p := 8) hdk_240 dLb_1.2.2.2.2.2.2.2.1
theorem dL_law_250 : decode cL_law 250 = .ok (.iconst 2, 1) := fdg (k := 240) (p := 10) hdk_240 dLb_1.2.2.2.2.2.2.2.2.1
theorem dL_law_251 : decode cL_law 251 = .ok (.iadd, 1) := fdg (k := 240) (p := 11) hdk_240 dLb_1.2.2.2.2.2.2.2.2.2.1
theorem dL_law_252 : decode cL_law 252 = .ok (.iaload, 1) := fdg (k := 240) (p := 12) hdk_240 dLb_1.2.2.2.2.2.2.2.2.2.2.1
theorem dL_law_253 : decode cL_law 253 = .ok (.aload_n 3, 1) := fdg (k := 240) (p := 13) hdk_240 dLb_1.2.2.2.2.2.2.2.2.2.2.2.1
theorem dL_law_254 : decode cL_law 254 = .ok (.invokestatic 164, 3) := fdg (k := 240) (p := 14) hdk_240 dLb_1.2.2.2.2.2.2.2.2.2.2.2.2.1
theorem dL_law_257 : decode cL_law 257 = .ok (.istore 5, 2) := fdg (k := 240) (p := 17) hdk_240 dLb_1.2.2.2.2.2.2.2.2.2.2.2.2.2.1
theorem dL_law_259 : decode cL_law 259 = .ok (.aload_n 2, 1) := fdg (k := 240) (p := 19) hdk_240 dLb_1.2.2.2.2.2.2.2.2.2.2.2.2.2.2.1
theorem dL_law_260 : decode cL_law 260 = .ok (.aload_n 0, 1) := fdg (k := 240) (p := 20) hdk_240 dLb_1.2.2.2.2.2.2.2.2.2.2.2.2.2.2.2.1
theorem dL_law_261 : decode cL_law 261 = .ok (.iload 4, 2) := fdg (k := 240) (p := 21) hdk_240 dLb_1.2.2.2.2.2.2.2.2.2.2.2.2.2.2.2.2.1
theorem dL_law_263 : decode cL_law 263 = .ok (.iconst 1, 1) := fdg (k := 240) (p := 23) hdk_240 dLb_1.2.2.2.2.2.2.2.2.2.2.2.2.2.2.2.2.2.1
theorem dL_law_264 : decode cL_law 264 = .ok (.iadd, 1) := fdg (k := 240) (p := 24) hdk_240 dLb_1.2.2.2.2.2.2.2.2.2.2.2.2.2.2.2.2.2.2.1
theorem dL_law_265 : decode cL_law 265 = .ok (.iaload, 1) := fdg (k := 240) (p := 25) hdk_240 dLb_1.2.2.2.2.2.2.2.2.2.2.2.2.2.2.2.2.2.2.2.1
theorem dL_law_266 : decode cL_law 266 = .ok (.aload_n 0, 1) := fdg (k := 240) (p := 26) hdk_240 dLb_1.2.2.2.2.2.2.2.2.2.2.2.2.2.2.2.2.2.2.2.2.1
theorem dL_law_267 : decode cL_law 267 = .ok (.iload 4, 2) := fdg (k := 240) (p := 27) hdk_240 dLb_1.2.2.2.2.2.2.2.2.2.2.2.2.2.2.2.2.2.2.2.2.2.1
theorem dL_law_269 : decode cL_law 269 = .ok (.iconst 2, 1) := fdg (k := 240) (p := 29) hdk_240 dLb_1.2.2.2.2.2.2.2.2.2.2.2.2.2.2.2.2.2.2.2.2.2.2.1
theorem dL_law_270 : decode cL_law 270 = .ok (.iadd, 1) := fdg (k := 240) (p := 30) hdk_240 dLb_1.2.2.2.2.2.2.2.2.2.2.2.2.2.2.2.2.2.2.2.2.2.2.2.1
theorem dL_law_271 : decode cL_law 271 = .ok (.iaload, 1) := fdg (k := 240) (p := 31) hdk_240 dLb_1.2.2.2.2.2.2.2.2.2.2.2.2.2.2.2.2.2.2.2.2.2.2.2.2.1
theorem dL_law_272 : decode cL_law 272 = .ok (.invokevirtual 169, 3) := fdg (k := 240) (p := 32) hdk_240 dLb_1.2.2.2.2.2.2.2.2.2.2.2.2.2.2.2.2.2.2.2.2.2.2.2.2.2.1
theorem dL_law_275 : decode cL_law 275 = .ok (.istore 6, 2) := fdg (k := 240) (p := 35) hdk_240 dLb_1.2.2.2.2.2.2.2.2.2.2.2.2.2.2.2.2.2.2.2.2.2.2.2.2.2.2.1
theorem dL_law_277 : decode cL_law 277 = .ok (.aload_n 2, 1) := fdg (k := 240) (p := 37) hdk_240 dLb_1.2.2.2.2.2.2.2.2.2.2.2.2.2.2.2.2.2.2.2.2.2.2.2.2.2.2.2.1
theorem dL_law_278 : decode cL_law 278 = .ok (.invokevirtual 170, 3) := fdg (k := 240) (p := 38) hdk_240 dLb_1.2.2.2.2.2.2.2.2.2.2.2.2.2.2.2.2.2.2.2.2.2.2.2.2.2.2.2.2.1
theorem dL_law_281 : decode cL_law 281 = .ok (.iload 5, 2) := fdg (k := 240) (p := 41) hdk_240 dLb_1.2.2.2.2.2.2.2.2.2.2.2.2.2.2.2.2.2.2.2.2.2.2.2.2.2.2.2.2.2.1
theorem dL_law_283 : decode cL_law 283 = .ok (.if_icmp .eq 5, 3) := fdg (k := 240) (p := 43) hdk_240 dLb_1.2.2.2.2.2.2.2.2.2.2.2.2.2.2.2.2.2.2.2.2.2.2.2.2.2.2.2.2.2.2.1
theorem dL_law_286 : decode cL_law 286 = .ok (.iconst 0, 1) := fdg (k := 240) (p := 46) hdk_240 dLb_1.2.2.2.2.2.2.2.2.2.2.2.2.2.2.2.2.2.2.2.2.2.2.2.2.2.2.2.2.2.2.2
theorem dLb_2 : fdq dk_240 47 (.ireturn) 1 = true := by decide +kernel
theorem dL_law_287 : decode cL_law 287 = .ok (.ireturn, 1) := fdg (k := 240) (p := 47) hdk_240 dLb_2
theorem dLb_3 : fdq dk_288 0 (.iload 5) 2 = true ∧ fdq dk_288 2 (.ifCond .ne 16) 3 = true ∧ fdq dk_288 5 (.aload_n 3) 1 = true ∧ fdq dk_288 6 (.getfield 13) 3 = true ∧ fdq dk_288 9 (.iload 6) 2 = true ∧ fdq dk_288 11 (.i2l) 1 = true ∧ fdq dk_288 12 (.lcmp) 1 = true ∧ fdq dk_288 13 (.ifCond .eq 5) 3 = true ∧ fdq dk_288 16 (.iconst 0) 1 = true ∧ fdq dk_288 17 (.ireturn) 1 = true ∧ fdq dk_288 18 (.goto 3006) 3 = true ∧ fdq dk_288 21 (.aload_n 1) 1 = true ∧ fdq dk_288 22 (.aload_n 0) 1 = true ∧ fdq dk_288 23 (.iload 4) 2 = true ∧ fdq dk_288 25 (.iconst 1) 1 = true ∧ fdq dk_288 26 (.iadd) 1 = true ∧ fdq dk_288 27 (.iaload) 1 = true ∧ fdq dk_288 28 (.aload_n 0) 1 = true ∧ fdq dk_288 29 (.iload 4) 2 = true ∧ fdq dk_288 31 (.iconst 2) 1 = true ∧ fdq dk_288 32 (.iadd) 1 = true ∧ fdq dk_288 33 (.iaload) 1 = true ∧ fdq dk_288 34 (.aload_n 0) 1 = true ∧ fdq dk_288 35 (.iload 4) 2 = true ∧ fdq dk_288 37 (.iconst 3) 1 = true ∧ fdq dk_288 38 (.iadd) 1 = true ∧ fdq dk_288 39 (.iaload) 1 = true ∧ fdq dk_288 40 (.aload_n 3) 1 = true ∧ fdq dk_288 41 (.invokestatic 174) 3 = true ∧ fdq dk_288 44 (.istore 5) 2 = true ∧ fdq dk_288 46 (.aload_n 2) 1 = true ∧ fdq dk_288 47 (.aload_n 0) 1 = true := by decide +kernel
theorem dL_law_288 : decode cL_law 288 = .ok (.iload 5, 2) := fdg (k := 288) (p := 0) hdk_288 dLb_3.1
theorem dL_law_290 : decode cL_law 290 = .ok (.ifCond .ne 16, 3) := fdg (k := 288) (p := 2) hdk_288 dLb_3.2.1
theorem dL_law_293 : decode cL_law 293 = .ok (.aload_n 3, 1) := fdg (k := 288) (p := 5) hdk_288 dLb_3.2.2.1
theorem dL_law_294 : decode cL_law 294 = .ok (.getfield 13, 3) := fdg (k := 288) (p := 6) hdk_288 dLb_3.2.2.2.1
theorem dL_law_297 : decode cL_law 297 = .ok (.iload 6, 2) := fdg (k := 288) (p := 9) hdk_288 dLb_3.2.2.2.2.1
theorem dL_law_299 : decode cL_law 299 = .ok (.i2l, 1) := fdg (k := 288) (p := 11) hdk_288 dLb_3.2.2.2.2.2.1
theorem dL_law_300 : decode cL_law 300 = .ok (.lcmp, 1) := fdg (k := 288) (p := 12) hdk_288 dLb_3.2.2.2.2.2.2.1
theorem dL_law_301 : decode cL_law 301 = .ok (.ifCond .eq 5, 3) := fdg (k := 288) (p := 13) hdk_288 dLb_3.2.2.2.2.2.2.2.1
theorem dL_law_304 : decode cL_law 304 = .ok (.iconst 0, 1) := fdg (k := 288) (p := 16) hdk_288 dLb_3.2.2.2.2.2.2.2.2.1
theorem dL_law_305 : decode cL_law 305 = .ok (.ireturn, 1) := fdg (k := 288) (p := 17) hdk_288 dLb_3.2.2.2.2.2.2.2.2.2.1
theorem dL_law_306 : decode cL_law 306 = .ok (.goto 3006, 3) := fdg (k := 288) (p := 18) hdk_288 dLb_3.2.2.2.2.2.2.2.2.2.2.1
theorem dL_law_309 : decode cL_law 309 = .ok (.aload_n 1, 1) := fdg (k := 288) (p := 21) hdk_288 dLb_3.2.2.2.2.2.2.2.2.2.2.2.1
theorem dL_law_310 : decode cL_law 310 = .ok (.aload_n 0, 1) := fdg (k := 288) (p := 22) hdk_288 dLb_3.2.2.2.2.2.2.2.2.2.2.2.2.1
theorem dL_law_311 : decode cL_law 311 = .ok (.iload 4, 2) := fdg (k := 288) (p := 23) hdk_288 dLb_3.2.2.2.2.2.2.2.2.2.2.2.2.2.1
theorem dL_law_313 : decode cL_law 313 = .ok (.iconst 1, 1) := fdg (k := 288) (p := 25) hdk_288 dLb_3.2.2.2.2.2.2.2.2.2.2.2.2.2.2.1
theorem dL_law_314 : decode cL_law 314 = .ok (.iadd, 1) := fdg (k := 288) (p := 26) hdk_288 dLb_3.2.2.2.2.2.2.2.2.2.2.2.2.2.2.2.1
theorem dL_law_315 : decode cL_law 315 = .ok (.iaload, 1) := fdg (k := 288) (p := 27) hdk_288 dLb_3.2.2.2.2.2.2.2.2.2.2.2.2.2.2.2.2.1
theorem dL_law_316 : decode cL_law 316 = .ok (.aload_n 0, 1) := fdg (k := 288) (p := 28) hdk_288 dLb_3.2.2.2.2.2.2.2.2.2.2.2.2.2.2.2.2.2.1
theorem dL_law_317 : decode cL_law 317 = .ok (.iload 4, 2) := fdg (k := 288) (p := 29) hdk_288 dLb_3.2.2.2.2.2.2.2.2.2.2.2.2.2.2.2.2.2.2.1
theorem dL_law_319 : decode cL_law 319 = .ok (.iconst 2, 1) := fdg (k := 288) (p := 31) hdk_288 dLb_3.2.2.2.2.2.2.2.2.2.2.2.2.2.2.2.2.2.2.2.1
theorem dL_law_320 : decode cL_law 320 = .ok (.iadd, 1) := fdg (k := 288) (p := 32) hdk_288 dLb_3.2.2.2.2.2.2.2.2.2.2.2.2.2.2.2.2.2.2.2.2.1
theorem dL_law_321 : decode cL_law 321 = .ok (.iaload, 1) := fdg (k := 288) (p := 33) hdk_288 dLb_3.2.2.2.2.2.2.2.2.2.2.2.2.2.2.2.2.2.2.2.2.2.1
theorem dL_law_322 : decode cL_law 322 = .ok (.aload_n 0, 1) := fdg (k := 288) (p := 34) hdk_288 dLb_3.2.2.2.2.2.2.2.2.2.2.2.2.2.2.2.2.2.2.2.2.2.2.1
theorem dL_law_323 : decode cL_law 323 = .ok (.iload 4, 2) := fdg (k := 288) (p := 35) hdk_288 dLb_3.2.2.2.2.2.2.2.2.2.2.2.2.2.2.2.2.2.2.2.2.2.2.2.1
theorem dL_law_325 : decode cL_law 325 = .ok (.iconst 3, 1) := fdg (k := 288) (p := 37) hdk_288 dLb_3.2.2.2.2.2.2.2.2.2.2.2.2.2.2.2.2.2.2.2.2.2.2.2.2.1
theorem dL_law_326 : decode cL_law 326 = .ok (.iadd, 1) := fdg (k := 288) (p := 38) hdk_288 dLb_3.2.2.2.2.2.2.2.2.2.2.2.2.2.2.2.2.2.2.2.2.2.2.2.2.2.1
theorem dL_law_327 : decode cL_law 327 = .ok (.iaload, 1) := fdg (k := 288) (p := 39) hdk_288 dLb_3.2.2.2.2.2.2.2.2.2.2.2.2.2.2.2.2.2.2.2.2.2.2.2.2.2.2.1
theorem dL_law_328 : decode cL_law 328 = .ok (.aload_n 3, 1) := fdg (k := 288) (p := 40) hdk_288 dLb_3.2.2.2.2.2.2.2.2.2.2.2.2.2.2.2.2.2.2.2.2.2.2.2.2.2.2.2.1
theorem dL_law_329 : decode cL_law 329 = .ok (.invokestatic 174, 3) := fdg (k := 288) (p := 41) hdk_288 dLb_3.2.2.2.2.2.2.2.2.2.2.2.2.2.2.2.2.2.2.2.2.2.2.2.2.2.2.2.2.1
theorem dL_law_332 : decode cL_law 332 = .ok (.istore 5, 2) := fdg (k := 288) (p := 44) hdk_288 dLb_3.2.2.2.2.2.2.2.2.2.2.2.2.2.2.2.2.2.2.2.2.2.2.2.2.2.2.2.2.2.1
theorem dL_law_334 : decode cL_law 334 = .ok (.aload_n 2, 1) := fdg (k := 288) (p := 46) hdk_288 dLb_3.2.2.2.2.2.2.2.2.2.2.2.2.2.2.2.2.2.2.2.2.2.2.2.2.2.2.2.2.2.2.1
theorem dL_law_335 : decode cL_law 335 = .ok (.aload_n 0, 1) := fdg (k := 288) (p := 47) hdk_288 dLb_3.2.2.2.2.2.2.2.2.2.2.2.2.2.2.2.2.2.2.2.2.2.2.2.2.2.2.2.2.2.2.2
theorem dLb_4 : fdq dk_336 0 (.iload 4) 2 = true ∧ fdq dk_336 2 (.iconst 1) 1 = true ∧ fdq dk_336 3 (.iadd) 1 = true ∧ fdq dk_336 4 (.iaload) 1 = true ∧ fdq dk_336 5 (.aload_n 0) 1 = true ∧ fdq dk_336 6 (.iload 4) 2 = true ∧ fdq dk_336 8 (.iconst 2) 1 = true ∧ fdq dk_336 9 (.iadd) 1 = true ∧ fdq dk_336 10 (.iaload) 1 = true ∧ fdq dk_336 11 (.aload_n 0) 1 = true ∧ fdq dk_336 12 (.iload 4) 2 = true ∧ fdq dk_336 14 (.iconst 3) 1 = true ∧ fdq dk_336 15 (.iadd) 1 = true ∧ fdq dk_336 16 (.iaload) 1 = true ∧ fdq dk_336 17 (.invokevirtual 177) 3 = true ∧ fdq dk_336 20 (.istore 6) 2 = true ∧ fdq dk_336 22 (.aload_n 2) 1 = true ∧ fdq dk_336 23 (.invokevirtual 170) 3 = true ∧ fdq dk_336 26 (.iload 5) 2 = true ∧ fdq dk_336 28 (.if_icmp .eq 5) 3 = true ∧ fdq dk_336 31 (.iconst 0) 1 = true ∧ fdq dk_336 32 (.ireturn) 1 = true ∧ fdq dk_336 33 (.iload 5) 2 = true ∧ fdq dk_336 35 (.ifCond .ne 16) 3 = true ∧ fdq dk_336 38 (.aload_n 3) 1 = true ∧ fdq dk_336 39 (.getfield 13) 3 = true ∧ fdq dk_336 42 (.iload 6) 2 = true ∧ fdq dk_336 44 (.i2l) 1 = true ∧ fdq dk_336 45 (.lcmp) 1 = true ∧ fdq dk_336 46 (.ifCond .eq 5) 3 = true := by decide +kernel
theorem dL_law_336 : decode cL_law 336 = .ok (.iload 4, 2) := fdg (k := 336) (p := 0) hdk_336 dLb_4.1
theorem dL_law_338 : decode cL_law 338 = .ok (.iconst 1, 1) := fdg (k := 336) (p := 2) hdk_336 dLb_4.2.1
theorem dL_law_339 : decode cL_law 339 = .ok (.iadd, 1) := fdg (k := 336) (p := 3) hdk_336 dLb_4.2.2.1
theorem dL_law_340 : decode cL_law 340 = .ok (.iaload, 1) := fdg (k := 336) (p := 4) hdk_336 dLb_4.2.2.2.1
theorem dL_law_341 : decode cL_law 341 = .ok (.aload_n 0, 1) := fdg (k := 336) (p := 5) hdk_336 dLb_4.2.2.2.2.1
theorem dL_law_342 : decode cL_law 342 = .ok (.iload 4, 2) := fdg (k := 336) (p := 6) hdk_336 dLb_4.2.2.2.2.2.1
theorem dL_law_344 : decode cL_law 344 = .ok (.iconst 2, 1) := fdg (k := 336) (p := 8) hdk_336 dLb_4.2.2.2.2.2.2.1
theorem dL_law_345 : decode cL_law 345 = .ok (.iadd, 1) := fdg (k := 336) (p := 9) hdk_336 dLb_4.2.2.2.2.2.2.2.1
theorem dL_law_346 : decode cL_law 346 = .ok (.iaload, 1) := fdg (k := 336) (p := 10) hdk_336 dLb_4.2.2.2.2.2.2.2.2.1
theorem dL_law_347 : decode cL_law 347 = .ok (.aload_n 0, 1) := fdg (k := 336) (p := 11) hdk_336 dLb_4.2.2.2.2.2.2.2.2.2.1
theorem dL_law_348 : decode cL_law 348 = .ok (.iload 4, 2) := fdg (k := 336) (p := 12) hdk_336 dLb_4.2.2.2.2.2.2.2.2.2.2.1
theorem dL_law_350 : decode cL_law 350 = .ok (.iconst 3, 1) := fdg (k := 336) (p := 14) hdk_336 dLb_4.2.2.2.2.2.2.2.2.2.2.2.1
theorem dL_law_351 : decode cL_law 351 = .ok (.iadd, 1) := fdg (k := 336) (p := 15) hdk_336 dLb_4.2.2.2.2.2.2.2.2.2.2.2.2.1
theorem dL_law_352 : decode cL_law 352 = .ok (.iaload, 1) := fdg (k := 336) (p := 16) hdk_336 dLb_4.2.2.2.2.2.2.2.2.2.2.2.2.2.1
theorem dL_law_353 : decode cL_law 353 = .ok (.invokevirtual 177, 3) := fdg (k := 336) (p := 17) hdk_336 dLb_4.2.2.2.2.2.2.2.2.2.2.2.2.2.2.1
theorem dL_law_356 : decode cL_law 356 = .ok (.istore 6, 2) := fdg (k := 336) (p := 20) hdk_336 dLb_4.2.2.2.2.2.2.2.2.2.2.2.2.2.2.2.1
theorem dL_law_358 : decode cL_law 358 = .ok (.aload_n 2, 1) := fdg (k := 336) (p := 22) hdk_336 dLb_4.2.2.2.2.2.2.2.2.2.2.2.2.2.2.2.2.1
theorem dL_law_359 : decode cL_law 359 = .ok (.invokevirtual 170, 3) := fdg (k := 336) (p := 23) hdk_336 dLb_4.2.2.2.2.2.2.2.2.2.2.2.2.2.2.2.2.2.1
theorem dL_law_362 : decode cL_law 362 = .ok (.iload 5, 2) := fdg (k := 336) (p := 26) hdk_336 dLb_4.2.2.2.2.2.2.2.2.2.2.2.2.2.2.2.2.2.2.1
theorem dL_law_364 : decode cL_law 364 = .ok (.if_icmp .eq 5, 3) := fdg (k := 336) (p := 28) hdk_336 dLb_4.2.2.2.2.2.2.2.2.2.2.2.2.2.2.2.2.2.2.2.1
theorem dL_law_367 : decode cL_law 367 = .ok (.iconst 0, 1) := fdg (k := 336) (p := 31) hdk_336 dLb_4.2.2.2.2.2.2.2.2.2.2.2.2.2.2.2.2.2.2.2.2.1
theorem dL_law_368 : decode cL_law 368 = .ok (.ireturn, 1) := fdg (k := 336) (p := 32) hdk_336 dLb_4.2.2.2.2.2.2.2.2.2.2.2.2.2.2.2.2.2.2.2.2.2.1
theorem dL_law_369 : decode cL_law 369 = .ok (.iload 5, 2) := fdg (k := 336) (p := 33) hdk_336 dLb_4.2.2.2.2.2.2.2.2.2.2.2.2.2.2.2.2.2.2.2.2.2.2.1
theorem dL_law_371 : decode cL_law 371 = .ok (.ifCond .ne 16, 3) := fdg (k := 336) (p := 35) hdk_336 dLb_4.2.2.2.2.2.2.2.2.2.2.2.2.2.2.2.2.2.2.2.2.2.2.2.1
theorem dL_law_374 : decode cL_law 374 = .ok (.aload_n 3, 1) := fdg (k := 336) (p := 38) hdk_336 dLb_4.2.2.2.2.2.2.2.2.2.2.2.2.2.2.2.2.2.2.2.2.2.2.2.2.1
theorem dL_law_375 : decode cL_law 375 = .ok (.getfield 13, 3) := fdg (k := 336) (p := 39) hdk_336 dLb_4.2.2.2.2.2.2.2.2.2.2.2.2.2.2.2.2.2.2.2.2.2.2.2.2.2.1
theorem dL_law_378 : decode cL_law 378 = .ok (.iload 6, 2) := fdg (k := 336) (p := 42) hdk_336 dLb_4.2.2.2.2.2.2.2.2.2.2.2.2.2.2.2.2.2.2.2.2.2.2.2.2.2.2.1
theorem dL_law_380 : decode cL_law 380 = .ok (.i2l, 1) := fdg (k := 336) (p := 44) hdk_336 dLb_4.2.2.2.2.2.2.2.2.2.2.2.2.2.2.2.2.2.2.2.2.2.2.2.2.2.2.2.1
theorem dL_law_381 : decode cL_law 381 = .ok (.lcmp, 1) := fdg (k := 336) (p := 45) hdk_336 dLb_4.2.2.2.2.2.2.2.2.2.2.2.2.2.2.2.2.2.2.2.2.2.2.2.2.2.2.2.2.1
theorem dL_law_382 : decode cL_law 382 = .ok (.ifCond .eq 5, 3) := fdg (k := 336) (p := 46) hdk_336 dLb_4.2.2.2.2.2.2.2.2.2.2.2.2.2.2.2.2.2.2.2.2.2.2.2.2.2.2.2.2.2
theorem dLb_5 : fdq dk_384 1 (.iconst 0) 1 = true ∧ fdq dk_384 2 (.ireturn) 1 = true ∧ fdq dk_384 3 (.goto 2925) 3 = true ∧ fdq dk_384 6 (.aload_n 1) 1 = true ∧ fdq dk_384 7 (.aload_n 0) 1 = true ∧ fdq dk_384 8 (.iload 4) 2 = true ∧ fdq dk_384 10 (.iconst 1) 1 = true ∧ fdq dk_384 11 (.iadd) 1 = true ∧ fdq dk_384 12 (.iaload) 1 = true ∧ fdq dk_384 13 (.aload_n 0) 1 = true ∧ fdq dk_384 14 (.iload 4) 2 = true ∧ fdq dk_384 16 (.iconst 2) 1 = true ∧ fdq dk_384 17 (.iadd) 1 = true ∧ fdq dk_384 18 (.iaload) 1 = true ∧ fdq dk_384 19 (.aload_n 3) 1 = true ∧ fdq dk_384 20 (.invokestatic 178) 3 = true ∧ fdq dk_384 23 (.istore 5) 2 = true ∧ fdq dk_384 25 (.aload_n 2) 1 = true ∧ fdq dk_384 26 (.aload_n 0) 1 = true ∧ fdq dk_384 27 (.iload 4) 2 = true ∧ fdq dk_384 29 (.iconst 1) 1 = true ∧ fdq dk_384 30 (.iadd) 1 = true ∧ fdq dk_384 31 (.iaload) 1 = true ∧ fdq dk_384 32 (.aload_n 0) 1 = true ∧ fdq dk_384 33 (.iload 4) 2 = true ∧ fdq dk_384 35 (.iconst 2) 1 = true ∧ fdq dk_384 36 (.iadd) 1 = true ∧ fdq dk_384 37 (.iaload) 1 = true ∧ fdq dk_384 38 (.invokevirtual 180) 3 = true ∧ fdq dk_384 41 (.istore 6) 2 = true ∧ fdq dk_384 43 (.aload_n 2) 1 = true ∧ fdq dk_384 44 (.invokevirtual 170) 3 = true := by decide +kernel
theorem dL_law_385 : decode cL_law 385 = .ok (.iconst 0, 1) := fdg (k := 384) (p := 1) hdk_384 dLb_5.1
theorem dL_law_386 : decode cL_law 386 = .ok (.ireturn, 1) := fdg (k := 384) (p := 2) hdk_384 dLb_5.2.1
theorem dL_law_387 : decode cL_law 387 = .ok (.goto 2925, 3) := fdg (k := 384) (p := 3) hdk_384 dLb_5.2.2.1
theorem dL_law_390 : decode cL_law 390 = .ok (.aload_n 1, 1) := fdg (k := 384) (p := 6) hdk_384 dLb_5.2.2.2.1
theorem dL_law_391 : decode cL_law 391 = .ok (.aload_n 0, 1) := fdg (k := 384) (p := 7) hdk_384 dLb_5.2.2.2.2.1
theorem dL_law_392 : decode cL_law 392 = .ok (.iload 4, 2) := fdg (k := 384) (p := 8) hdk_384 dLb_5.2.2.2.2.2.1
theorem dL_law_394 : decode cL_law 394 = .ok (.iconst 1, 1) := fdg (k := 384) (p := 10) hdk_384 dLb_5.2.2.2.2.2.2.1
theorem dL_law_395 : decode cL_law 395 = .ok (.iadd, 1) := fdg (k := 384) (p := 11) hdk_384 dLb_5.2.2.2.2.2.2.2.1
theorem dL_law_396 : decode cL_law 396 = .ok (.iaload, 1) := fdg (k := 384) (p := 12) hdk_384 dLb_5.2.2.2.2.2.2.2.2.1
theorem dL_law_397 : decode cL_law 397 = .ok (.aload_n 0, 1) := fdg (k := 384) (p := 13) hdk_384 dLb_5.2.2.2.2.2.2.2.2.2.1
theorem dL_law_398 : decode cL_law 398 = .ok (.iload 4, 2) := fdg (k := 384) (p := 14) hdk_384 dLb_5.2.2.2.2.2.2.2.2.2.2.1
theorem dL_law_400 : decode cL_law 400 = .ok (.iconst 2, 1) := fdg (k := 384) (p := 16) hdk_384 dLb_5.2.2.2.2.2.2.2.2.2.2.2.1
theorem dL_law_401 : decode cL_law 401 = .ok (.iadd, 1) := fdg (k := 384) (p := 17) hdk_384 dLb_5.2.2.2.2.2.2.2.2.2.2.2.2.1
theorem dL_law_402 : decode cL_law 402 = .ok (.iaload, 1) := fdg (k := 384) (p := 18) hdk_384 dLb_5.2.2.2.2.2.2.2.2.2.2.2.2.2.1
theorem dL_law_403 : decode cL_law 403 = .ok (.aload_n 3, 1) := fdg (k := 384) (p := 19) hdk_384 dLb_5.2.2.2.2.2.2.2.2.2.2.2.2.2.2.1
theorem dL_law_404 : decode cL_law 404 = .ok (.invokestatic 178, 3) := fdg (k := 384) (p := 20) hdk_384 dLb_5.2.2.2.2.2.2.2.2.2.2.2.2.2.2.2.1
theorem dL_law_407 : decode cL_law 407 = .ok (.istore 5, 2) := fdg (k := 384) (p := 23) hdk_384 dLb_5.2.2.2.2.2.2.2.2.2.2.2.2.2.2.2.2.1
theorem dL_law_409 : decode cL_law 409 = .ok (.aload_n 2, 1) := fdg (k := 384) (p := 25) hdk_384 dLb_5.2.2.2.2.2.2.2.2.2.2.2.2.2.2.2.2.2.1
theorem dL_law_410 : decode cL_law 410 = .ok (.aload_n 0, 1) := fdg (k := 384) (p := 26) hdk_384 dLb_5.2.2.2.2.2.2.2.2.2.2.2.2.2.2.2.2.2.2.1
theorem dL_law_411 : decode cL_law 411 = .ok (.iload 4, 2) := fdg (k := 384) (p := 27) hdk_384 dLb_5.2.2.2.2.2.2.2.2.2.2.2.2.2.2.2.2.2.2.2.1
theorem dL_law_413 : decode cL_law 413 = .ok (.iconst 1, 1) := fdg (k := 384) (p := 29) hdk_384 dLb_5.2.2.2.2.2.2.2.2.2.2.2.2.2.2.2.2.2.2.2.2.1
theorem dL_law_414 : decode cL_law 414 = .ok (.iadd, 1) := fdg (k := 384) (p := 30) hdk_384 dLb_5.2.2.2.2.2.2.2.2.2.2.2.2.2.2.2.2.2.2.2.2.2.1
theorem dL_law_415 : decode cL_law 415 = .ok (.iaload, 1) := fdg (k := 384) (p := 31) hdk_384 dLb_5.2.2.2.2.2.2.2.2.2.2.2.2.2.2.2.2.2.2.2.2.2.2.1
theorem dL_law_416 : decode cL_law 416 = .ok (.aload_n 0, 1) := fdg (k := 384) (p := 32) hdk_384 dLb_5.2.2.2.2.2.2.2.2.2.2.2.2.2.2.2.2.2.2.2.2.2.2.2.1
theorem dL_law_417 : decode cL_law 417 = .ok (.iload 4, 2) := fdg (k := 384) (p := 33) hdk_384 dLb_5.2.2.2.2.2.2.2.2.2.2.2.2.2.2.2.2.2.2.2.2.2.2.2.2.1
theorem dL_law_419 : decode cL_law 419 = .ok (.iconst 2, 1) := fdg (k := 384) (p := 35) hdk_384 dLb_5.2.2.2.2.2.2.2.2.2.2.2.2.2.2.2.2.2.2.2.2.2.2.2.2.2.1
theorem dL_law_420 : decode cL_law 420 = .ok (.iadd, 1) := fdg (k := 384) (p := 36) hdk_384 dLb_5.2.2.2.2.2.2.2.2.2.2.2.2.2.2.2.2.2.2.2.2.2.2.2.2.2.2.1
theorem dL_law_421 : decode cL_law 421 = .ok (.iaload, 1) := fdg (k := 384) (p := 37) hdk_384 dLb_5.2.2.2.2.2.2.2.2.2.2.2.2.2.2.2.2.2.2.2.2.2.2.2.2.2.2.2.1
theorem dL_law_422 : decode cL_law 422 = .ok (.invokevirtual 180, 3) := fdg (k := 384) (p := 38) hdk_384 dLb_5.2.2.2.2.2.2.2.2.2.2.2.2.2.2.2.2.2.2.2.2.2.2.2.2.2.2.2.2.1
theorem dL_law_425 : decode cL_law 425 = .ok (.istore 6, 2) := fdg (k := 384) (p := 41) hdk_384 dLb_5.2.2.2.2.2.2.2.2.2.2.2.2.2.2.2.2.2.2.2.2.2.2.2.2.2.2.2.2.2.1
theorem dL_law_427 : decode cL_law 427 = .ok (.aload_n 2, 1) := fdg (k := 384) (p := 43) hdk_384 dLb_5.2.2.2.2.2.2.2.2.2.2.2.2.2.2.2.2.2.2.2.2.2.2.2.2.2.2.2.2.2.2.1
theorem dL_law_428 : decode cL_law 428 = .ok (.invokevirtual 170, 3) := fdg (k := 384) (p := 44) hdk_384 dLb_5.2.2.2.2.2.2.2.2.2.2.2.2.2.2.2.2.2.2.2.2.2.2.2.2.2.2.2.2.2.2.2
theorem dLb_6 : fdq dk_384 47 (.iload 5) 2 = true := by decide +kernel
theorem dL_law_431 : decode cL_law 431 = .ok (.iload 5, 2) := fdg (k := 384) (p := 47) hdk_384 dLb_6
theorem dLb_7 : fdq dk_432 1 (.if_icmp .eq 5) 3 = true ∧ fdq dk_432 4 (.iconst 0) 1 = true ∧ fdq dk_432 5 (.ireturn) 1 = true ∧ fdq dk_432 6 (.iload 5) 2 = true ∧ fdq dk_432 8 (.ifCond .ne 16) 3 = true ∧ fdq dk_432 11 (.aload_n 3) 1 = true ∧ fdq dk_432 12 (.getfield 13) 3 = true ∧ fdq dk_432 15 (.iload 6) 2 = true ∧ fdq dk_432 17 (.i2l) 1 = true ∧ fdq dk_432 18 (.lcmp) 1 = true ∧ fdq dk_432 19 (.ifCond .eq 5) 3 = true ∧ fdq dk_432 22 (.iconst 0) 1 = true ∧ fdq dk_432 23 (.ireturn) 1 = true ∧ fdq dk_432 24 (.goto 2856) 3 = true ∧ fdq dk_432 27 (.aload_n 1) 1 = true ∧ fdq dk_432 28 (.aload_n 0) 1 = true ∧ fdq dk_432 29 (.iload 4) 2 = true ∧ fdq dk_432 31 (.iconst 1) 1 = true ∧ fdq dk_432 32 (.iadd) 1 = true ∧ fdq dk_432 33 (.iaload) 1 = true ∧ fdq dk_432 34 (.aload_n 0) 1 = true ∧ fdq dk_432 35 (.iload 4) 2 = true ∧ fdq dk_432 37 (.iconst 2) 1 = true ∧ fdq dk_432 38 (.iadd) 1 = true ∧ fdq dk_432 39 (.iaload) 1 = true ∧ fdq dk_432 40 (.aload_n 0) 1 = true ∧ fdq dk_432 41 (.iload 4) 2 = true ∧ fdq dk_432 43 (.iconst 3) 1 = true ∧ fdq dk_432 44 (.iadd) 1 = true ∧ fdq dk_432 45 (.iaload) 1 = true ∧ fdq dk_432 46 (.aload_n 0) 1 = true ∧ fdq dk_432 47 (.iload 4) 2 = true := by decide +kernel
theorem dL_law_433 : decode cL_law 433 = .ok (.if_icmp .eq 5, 3) := fdg (k := 432) (p := 1) hdk_432 dLb_7.1
theorem dL_law_436 : decode cL_law 436 = .ok (.iconst 0, 1) := fdg (k := 432) (p := 4) hdk_432 dLb_7.2.1
theorem dL_law_437 : decode cL_law 437 = .ok (.ireturn, 1) := fdg (k := 432) (p := 5) hdk_432 dLb_7.2.2.1
theorem dL_law_438 : decode cL_law 438 = .ok (.iload 5, 2) := fdg (k := 432) (p := 6) hdk_432 dLb_7.2.2.2.1
theorem dL_law_440 : decode cL_law 440 = .ok (.ifCond .ne 16, 3) := fdg (k := 432) (p := 8) hdk_432 dLb_7.2.2.2.2.1
theorem dL_law_443 : decode cL_law 443 = .ok (.aload_n 3, 1) := fdg (k := 432) (p := 11) hdk_432 dLb_7.2.2.2.2.2.1
theorem dL_law_444 : decode cL_law 444 = .ok (.getfield 13, 3) := fdg (k := 432) (p := 12) hdk_432 dLb_7.2.2.2.2.2.2.1
theorem dL_law_447 : decode cL_law 447 = .ok (.iload 6, 2) := fdg (k := 432) (p := 15) hdk_432 dLb_7.2.2.2.2.2.2.2.1
theorem dL_law_449 : decode cL_law 449 = .ok (.i2l, 1) := fdg (k := 432) (p := 17) hdk_432 dLb_7.2.2.2.2.2.2.2.2.1
theorem dL_law_450 : decode cL_law 450 = .ok (.lcmp, 1) := fdg (k := 432) (p := 18) hdk_432 dLb_7.2.2.2.2.2.2.2.2.2.1
theorem dL_law_451 : decode cL_law 451 = .ok (.ifCond .eq 5, 3) := fdg (k := 432) (p := 19) hdk_432 dLb_7.2.2.2.2.2.2.2.2.2.2.1
theorem dL_law_454 : decode cL_law 454 = .ok (.iconst 0, 1) := fdg (k := 432) (p := 22) hdk_432 dLb_7.2.2.2.2.2.2.2.2.2.2.2.1
theorem dL_law_455 : decode cL_law 455 = .ok (.ireturn, 1) := fdg (k := 432) (p := 23) hdk_432 dLb_7.2.2.2.2.2.2.2.2.2.2.2.2.1
theorem dL_law_456 : decode cL_law 456 = .ok (.goto 2856, 3) := fdg (k := 432) (p := 24) hdk_432 dLb_7.2.2.2.2.2.2.2.2.2.2.2.2.2.1
theorem dL_law_459 : decode cL_law 459 = .ok (.aload_n 1, 1) := fdg (k := 432) (p := 27) hdk_432 dLb_7.2.2.2.2.2.2.2.2.2.2.2.2.2.2.1
theorem dL_law_460 : decode cL_law 460 = .ok (.aload_n 0, 1) := fdg (k := 432) (p := 28) hdk_432 dLb_7.2.2.2.2.2.2.2.2.2.2.2.2.2.2.2.1
theorem dL_law_461 : decode cL_law 461 = .ok (.iload 4, 2) := fdg (k := 432) (p := 29) hdk_432 dLb_7.2.2.2.2.2.2.2.2.2.2.2.2.2.2.2.2.1
theorem dL_law_463 : decode cL_law 463 = .ok (.iconst 1, 1) := fdg (k := 432) (p := 31) hdk_432 dLb_7.2.2.2.2.2.2.2.2.2.2.2.2.2.2.2.2.2.1
theorem dL_law_464 : decode cL_law 464 = .ok (.iadd, 1) := fdg (k := 432) (p := 32) hdk_432 dLb_7.2.2.2.2.2.2.2.2.2.2.2.2.2.2.2.2.2.2.1
theorem dL_law_465 : decode cL_law 465 = .ok (.iaload, 1) := fdg (k := 432) (p := 33) hdk_432 dLb_7.2.2.2.2.2.2.2.2.2.2.2.2.2.2.2.2.2.2.2.1
theorem dL_law_466 : decode cL_law 466 = .ok (.aload_n 0, 1) := fdg (k := 432) (p := 34) hdk_432 dLb_7.2.2.2.2.2.2.2.2.2.2.2.2.2.2.2.2.2.2.2.2.1
theorem dL_law_467 : decode cL_law 467 = .ok (.iload 4, 2) := fdg (k := 432) (p := 35) hdk_432 dLb_7.2.2.2.2.2.2.2.2.2.2.2.2.2.2.2.2.2.2.2.2.2.1
theorem dL_law_469 : decode cL_law 469 = .ok (.iconst 2, 1) := fdg (k := 432) (p := 37) hdk_432 dLb_7.2.2.2.2.2.2.2.2.2.2.2.2.2.2.2.2.2.2.2.2.2.2.1
theorem dL_law_470 : decode cL_law 470 = .ok (.iadd, 1) := fdg (k := 432) (p := 38) hdk_432 dLb_7.2.2.2.2.2.2.2.2.2.2.2.2.2.2.2.2.2.2.2.2.2.2.2.1
theorem dL_law_471 : decode cL_law 471 = .ok (.iaload, 1) := fdg (k := 432) (p := 39) hdk_432 dLb_7.2.2.2.2.2.2.2.2.2.2.2.2.2.2.2.2.2.2.2.2.2.2.2.2.1
theorem dL_law_472 : decode cL_law 472 = .ok (.aload_n 0, 1) := fdg (k := 432) (p := 40) hdk_432 dLb_7.2.2.2.2.2.2.2.2.2.2.2.2.2.2.2.2.2.2.2.2.2.2.2.2.2.1
theorem dL_law_473 : decode cL_law 473 = .ok (.iload 4, 2) := fdg (k := 432) (p := 41) hdk_432 dLb_7.2.2.2.2.2.2.2.2.2.2.2.2.2.2.2.2.2.2.2.2.2.2.2.2.2.2.1
theorem dL_law_475 : decode cL_law 475 = .ok (.iconst 3, 1) := fdg (k := 432) (p := 43) hdk_432 dLb_7.2.2.2.2.2.2.2.2.2.2.2.2.2.2.2.2.2.2.2.2.2.2.2.2.2.2.2.1
theorem dL_law_476 : decode cL_law 476 = .ok (.iadd, 1) := fdg (k := 432) (p := 44) hdk_432 dLb_7.2.2.2.2.2.2.2.2.2.2.2.2.2.2.2.2.2.2.2.2.2.2.2.2.2.2.2.2.1
theorem dL_law_477 : decode cL_law 477 = .ok (.iaload, 1) := fdg (k := 432) (p := 45) hdk_432 dLb_7.2.2.2.2.2.2.2.2.2.2.2.2.2.2.2.2.2.2.2.2.2.2.2.2.2.2.2.2.2.1
theorem dL_law_478 : decode cL_law 478 = .ok (.aload_n 0, 1) := fdg (k := 432) (p := 46) hdk_432 dLb_7.2.2.2.2.2.2.2.2.2.2.2.2.2.2.2.2.2.2.2.2.2.2.2.2.2.2.2.2.2.2.1
theorem dL_law_479 : decode cL_law 479 = .ok (.iload 4, 2) := fdg (k := 432) (p := 47) hdk_432 dLb_7.2.2.2.2.2.2.2.2.2.2.2.2.2.2.2.2.2.2.2.2.2.2.2.2.2.2.2.2.2.2.2
theorem dLb_8 : fdq dk_480 1 (.iconst 4) 1 = true ∧ fdq dk_480 2 (.iadd) 1 = true ∧ fdq dk_480 3 (.iaload) 1 = true ∧ fdq dk_480 4 (.aload_n 3) 1 = true ∧ fdq dk_480 5 (.invokestatic 181) 3 = true ∧ fdq dk_480 8 (.istore 5) 2 = true ∧ fdq dk_480 10 (.aload_n 2) 1 = true ∧ fdq dk_480 11 (.aload_n 0) 1 = true ∧ fdq dk_480 12 (.iload 4) 2 = true ∧ fdq dk_480 14 (.iconst 1) 1 = true ∧ fdq dk_480 15 (.iadd) 1 = true ∧ fdq dk_480 16 (.iaload) 1 = true ∧ fdq dk_480 17 (.aload_n 0) 1 = true ∧ fdq dk_480 18 (.iload 4) 2 = true ∧ fdq dk_480 20 (.iconst 2) 1 = true ∧ fdq dk_480 21 (.iadd) 1 = true ∧ fdq dk_480 22 (.iaload) 1 = true ∧ fdq dk_480 23 (.aload_n 0) 1 = true ∧ fdq dk_480 24 (.iload 4) 2 = true ∧ fdq dk_480 26 (.iconst 3) 1 = true ∧ fdq dk_480 27 (.iadd) 1 = true ∧ fdq dk_480 28 (.iaload) 1 = true ∧ fdq dk_480 29 (.aload_n 0) 1 = true ∧ fdq dk_480 30 (.iload 4) 2 = true ∧ fdq dk_480 32 (.iconst 4) 1 = true ∧ fdq dk_480 33 (.iadd) 1 = true ∧ fdq dk_480 34 (.iaload) 1 = true ∧ fdq dk_480 35 (.invokevirtual 184) 3 = true ∧ fdq dk_480 38 (.istore 6) 2 = true ∧ fdq dk_480 40 (.aload_n 2) 1 = true ∧ fdq dk_480 41 (.invokevirtual 170) 3 = true ∧ fdq dk_480 44 (.iload 5) 2 = true := by decide +kernel
theorem dL_law_481 : decode cL_law 481 = .ok (.iconst 4, 1) := fdg (k := 480) (p := 1) hdk_480 dLb_8.1
theorem dL_law_482 : decode cL_law 482 = .ok (.iadd, 1) := fdg (k := 480) (p := 2) hdk_480 dLb_8.2.1
theorem dL_law_483 : decode cL_law 483 = .ok (.iaload, 1) := fdg (k := 480) (p := 3) hdk_480 dLb_8.2.2.1
theorem dL_law_484 : decode cL_law 484 = .ok (.aload_n 3, 1) := fdg (k := 480) (p := 4) hdk_480 dLb_8.2.2.2.1
theorem dL_law_485 : decode cL_law 485 = .ok (.invokestatic 181, 3) := fdg (k := 480) (p := 5) hdk_480 dLb_8.2.2.2.2.1
theorem dL_law_488 : decode cL_law 488 = .ok (.istore 5, 2) := fdg (k := 480) (p := 8) hdk_480 dLb_8.2.2.2.2.2.1
theorem dL_law_490 : decode cL_law 490 = .ok (.aload_n 2, 1) := fdg (k := 480) (p := 10) hdk_480 dLb_8.2.2.2.2.2.2.1
theorem dL_law_491 : decode cL_law 491 = .ok (.aload_n 0, 1) := fdg (k := 480) (p := 11) hdk_480 dLb_8.2.2.2.2.2.2.2.1
theorem dL_law_492 : decode cL_law 492 = .ok (.iload 4, 2) := fdg (k := 480) (p := 12) hdk_480 dLb_8.2.2.2.2.2.2.2.2.1
theorem dL_law_494 : decode cL_law 494 = .ok (.iconst 1, 1) := fdg (k := 480) (p := 14) hdk_480 dLb_8.2.2.2.2.2.2.2.2.2.1
theorem dL_law_495 : decode cL_law 495 = .ok (.iadd, 1) := fdg (k := 480) (p := 15) hdk_480 dLb_8.2.2.2.2.2.2.2.2.2.2.1
theorem dL_law_496 : decode cL_law 496 = .ok (.iaload, 1) := fdg (k := 480) (p := 16) hdk_480 dLb_8.2.2.2.2.2.2.2.2.2.2.2.1
theorem dL_law_497 : decode cL_law 497 = .ok (.aload_n 0, 1) := fdg (k := 480) (p := 17) hdk_480 dLb_8.2.2.2.2.2.2.2.2.2.2.2.2.1
theorem dL_law_498 : decode cL_law 498 = .ok (.iload 4, 2) := fdg (k := 480) (p := 18) hdk_480 dLb_8.2.2.2.2.2.2.2.2.2.2.2.2.2.1
theorem dL_law_500 : decode cL_law 500 = .ok (.iconst 2, 1) := fdg (k := 480) (p := 20) hdk_480 dLb_8.2.2.2.2.2.2.2.2.2.2.2.2.2.2.1
theorem dL_law_501 : decode cL_law 501 = .ok (.iadd, 1) := fdg (k := 480) (p := 21) hdk_480 dLb_8.2.2.2.2.2.2.2.2.2.2.2.2.2.2.2.1
theorem dL_law_502 : decode cL_law 502 = .ok (.iaload, 1) := fdg (k := 480) (p := 22) hdk_480 dLb_8.2.2.2.2.2.2.2.2.2.2.2.2.2.2.2.2.1
theorem dL_law_503 : decode cL_law 503 = .ok (.aload_n 0, 1) := fdg (k := 480) (p := 23) hdk_480 dLb_8.2.2.2.2.2.2.2.2.2.2.2.2.2.2.2.2.2.1
theorem dL_law_504 : decode cL_law 504 = .ok (.iload 4, 2) := fdg (k := 480) (p := 24) hdk_480 dLb_8.2.2.2.2.2.2.2.2.2.2.2.2.2.2.2.2.2.2.1
theorem dL_law_506 : decode cL_law 506 = .ok (.iconst 3, 1) := fdg (k := 480) (p := 26) hdk_480 dLb_8.2.2.2.2.2.2.2.2.2.2.2.2.2.2.2.2.2.2.2.1
theorem dL_law_507 : decode cL_law 507 = .ok (.iadd, 1) := fdg (k := 480) (p := 27) hdk_480 dLb_8.2.2.2.2.2.2.2.2.2.2.2.2.2.2.2.2.2.2.2.2.1
theorem dL_law_508 : decode cL_law 508 = .ok (.iaload, 1) := fdg (k := 480) (p := 28) hdk_480 dLb_8.2.2.2.2.2.2.2.2.2.2.2.2.2.2.2.2.2.2.2.2.2.1
theorem dL_law_509 : decode cL_law 509 = .ok (.aload_n 0, 1) := fdg (k := 480) (p := 29) hdk_480 dLb_8.2.2.2.2.2.2.2.2.2.2.2.2.2.2.2.2.2.2.2.2.2.2.1
theorem dL_law_510 : decode cL_law 510 = .ok (.iload 4, 2) := fdg (k := 480) (p := 30) hdk_480 dLb_8.2.2.2.2.2.2.2.2.2.2.2.2.2.2.2.2.2.2.2.2.2.2.2.1
theorem dL_law_512 : decode cL_law 512 = .ok (.iconst 4, 1) := fdg (k := 480) (p := 32) hdk_480 dLb_8.2.2.2.2.2.2.2.2.2.2.2.2.2.2.2.2.2.2.2.2.2.2.2.2.1
theorem dL_law_513 : decode cL_law 513 = .ok (.iadd, 1) := fdg (k := 480) (p := 33) hdk_480 dLb_8.2.2.2.2.2.2.2.2.2.2.2.2.2.2.2.2.2.2.2.2.2.2.2.2.2.1
theorem dL_law_514 : decode cL_law 514 = .ok (.iaload, 1) := fdg (k := 480) (p := 34) hdk_480 dLb_8.2.2.2.2.2.2.2.2.2.2.2.2.2.2.2.2.2.2.2.2.2.2.2.2.2.2.1
theorem dL_law_515 : decode cL_law 515 = .ok (.invokevirtual 184, 3) := fdg (k := 480) (p := 35) hdk_480 dLb_8.2.2.2.2.2.2.2.2.2.2.2.2.2.2.2.2.2.2.2.2.2.2.2.2.2.2.2.1
theorem dL_law_518 : decode cL_law 518 = .ok (.istore 6, 2) := fdg (k := 480) (p := 38) hdk_480 dLb_8.2.2.2.2.2.2.2.2.2.2.2.2.2.2.2.2.2.2.2.2.2.2.2.2.2.2.2.2.1
theorem dL_law_520 : decode cL_law 520 = .ok (.aload_n 2, 1) := fdg (k := 480) (p := 40) hdk_480 dLb_8.2.2.2.2.2.2.2.2.2.2.2.2.2.2.2.2.2.2.2.2.2.2.2.2.2.2.2.2.2.1
theorem dL_law_521 : decode cL_law 521 = .ok (.invokevirtual 170, 3) := fdg (k := 480) (p := 41) hdk_480 dLb_8.2.2.2.2.2.2.2.2.2.2.2.2.2.2.2.2.2.2.2.2.2.2.2.2.2.2.2.2.2.2.1
theorem dL_law_524 : decode cL_law 524 = .ok (.iload 5, 2) := fdg (k := 480) (p := 44) hdk_480 dLb_8.2.2.2.2.2.2.2.2.2.2.2.2.2.2.2.2.2.2.2.2.2.2.2.2.2.2.2.2.2.2.2
theorem dLb_9 : fdq dk_480 46 (.if_icmp .eq 5) 3 = true := by decide +kernel
theorem dL_law_526 : decode cL_law 526 = .ok (.if_icmp .eq 5, 3) := fdg (k := 480) (p := 46) hdk_480 dLb_9
theorem dLb_10 : fdq dk_528 1 (.iconst 0) 1 = true ∧ fdq dk_528 2 (.ireturn) 1 = true ∧ fdq dk_528 3 (.iload 5) 2 = true ∧ fdq dk_528 5 (.ifCond .ne 16) 3 = true ∧ fdq dk_528 8 (.aload_n 3) 1 = true ∧ fdq dk_528 9 (.getfield 13) 3 = true ∧ fdq dk_528 12 (.iload 6) 2 = true ∧ fdq dk_528 14 (.i2l) 1 = true ∧ fdq dk_528 15 (.lcmp) 1 = true ∧ fdq dk_528 16 (.ifCond .eq 5) 3 = true ∧ fdq dk_528 19 (.iconst 0) 1 = true ∧ fdq dk_528 20 (.ireturn) 1 = true ∧ fdq dk_528 21 (.goto 2763) 3 = true ∧ fdq dk_528 24 (.aload_n 1) 1 = true ∧ fdq dk_528 25 (.aload_n 0) 1 = true ∧ fdq dk_528 26 (.iload 4) 2 = true ∧ fdq dk_528 28 (.iconst 1) 1 = true ∧ fdq dk_528 29 (.iadd) 1 = true ∧ fdq dk_528 30 (.iaload) 1 = true ∧ fdq dk_528 31 (.aload_n 0) 1 = true ∧ fdq dk_528 32 (.iload 4) 2 = true ∧ fdq dk_528 34 (.iconst 2) 1 = true ∧ fdq dk_528 35 (.iadd) 1 = true ∧ fdq dk_528 36 (.iaload) 1 = true ∧ fdq dk_528 37 (.aload_n 0) 1 = true ∧ fdq dk_528 38 (.iload 4) 2 = true ∧ fdq dk_528 40 (.iconst 3) 1 = true ∧ fdq dk_528 41 (.iadd) 1 = true ∧ fdq dk_528 42 (.iaload) 1 = true ∧ fdq dk_528 43 (.aload_n 3) 1 = true ∧ fdq dk_528 44 (.invokestatic 185) 3 = true ∧ fdq dk_528 47 (.istore 5) 2 = true := by decide +kernel
theorem dL_law_529 : decode cL_law 529 = .ok (.iconst 0, 1) := fdg (k := 528) (p := 1) hdk_528 dLb_10.1
theorem dL_law_530 : decode cL_law 530 = .ok (.ireturn, 1) := fdg (k := 528) (p := 2) hdk_528 dLb_10.2.1
theorem dL_law_531 : decode cL_law 531 = .ok (.iload 5, 2) := fdg (k := 528) (p := 3) hdk_528 dLb_10.2.2.1
theorem dL_law_533 : decode cL_law 533 = .ok (.ifCond .ne 16, 3) := fdg (k := 528) (p := 5) hdk_528 dLb_10.2.2.2.1
theorem dL_law_536 : decode cL_law 536 = .ok (.aload_n 3, 1) := fdg (k := 528) (p := 8) hdk_528 dLb_10.2.2.2.2.1
theorem dL_law_537 : decode cL_law 537 = .ok (.getfield 13, 3) := fdg (k := 528) (p := 9) hdk_528 dLb_10.2.2.2.2.2.1
theorem dL_law_540 : decode cL_law 540 = .ok (.iload 6, 2) := fdg (k := 528) (p := 12) hdk_528 dLb_10.2.2.2.2.2.2.1
theorem dL_law_542 : decode cL_law 542 = .ok (.i2l, 1) := fdg (k := 528) (p := 14) hdk_528 dLb_10.2.2.2.2.2.2.2.1
theorem dL_law_543 : decode cL_law 543 = .ok (.lcmp, 1) := fdg (k := 528) (p := 15) hdk_528 dLb_10.2.2.2.2.2.2.2.2.1
theorem dL_law_544 : decode cL_law 544 = .ok (.ifCond .eq 5, 3) := fdg (k := 528) (p := 16) hdk_528 dLb_10.2.2.2.2.2.2.2.2.2.1
theorem dL_law_547 : decode cL_law 547 = .ok (.iconst 0, 1) := fdg (k := 528) (p := 19) hdk_528 dLb_10.2.2.2.2.2.2.2.2.2.2.1
theorem dL_law_548 : decode cL_law 548 = .ok (.ireturn, 1) := fdg (k := 528) (p := 20) hdk_528 dLb_10.2.2.2.2.2.2.2.2.2.2.2.1
theorem dL_law_549 : decode cL_law 549 = .ok (.goto 2763, 3) := fdg (k := 528) (p := 21) hdk_528 dLb_10.2.2.2.2.2.2.2.2.2.2.2.2.1
theorem dL_law_552 : decode cL_law 552 = .ok (.aload_n 1, 1) := fdg (k := 528) (p := 24) hdk_528 dLb_10.2.2.2.2.2.2.2.2.2.2.2.2.2.1
theorem dL_law_553 : decode cL_law 553 = .ok (.aload_n 0, 1) := fdg (k := 528) (p := 25) hdk_528 dLb_10.2.2.2.2.2.2.2.2.2.2.2.2.2.2.1
theorem dL_law_554 : decode cL_law 554 = .ok (.iload 4, 2) := fdg (k := 528) (p := 26) hdk_528 dLb_10.2.2.2.2.2.2.2.2.2.2.2.2.2.2.2.1
theorem dL_law_556 : decode cL_law 556 = .ok (.iconst 1, 1) := fdg (k := 528) (p := 28) hdk_528 dLb_10.2.2.2.2.2.2.2.2.2.2.2.2.2.2.2.2.1
theorem dL_law_557 : decode cL_law 557 = .ok (.iadd, 1) := fdg (k := 528) (p := 29) hdk_528 dLb_10.2.2.2.2.2.2.2.2.2.2.2.2.2.2.2.2.2.1
theorem dL_law_558 : decode cL_law 558 = .ok (.iaload, 1) := fdg (k := 528) (p := 30) hdk_528 dLb_10.2.2.2.2.2.2.2.2.2.2.2.2.2.2.2.2.2.2.1
theorem dL_law_559 : decode cL_law 559 = .ok (.aload_n 0, 1) := fdg (k := 528) (p := 31) hdk_528 dLb_10.2.2.2.2.2.2.2.2.2.2.2.2.2.2.2.2.2.2.2.1
theorem dL_law_560 : decode cL_law 560 = .ok (.iload 4, 2) := fdg (k := 528) (p := 32) hdk_528 dLb_10.2.2.2.2.2.2.2.2.2.2.2.2.2.2.2.2.2.2.2.2.1
theorem dL_law_562 : decode cL_law 562 = .ok (.iconst 2, 1) := fdg (k := 528) (p := 34) hdk_528 dLb_10.2.2.2.2.2.2.2.2.2.2.2.2.2.2.2.2.2.2.2.2.2.1
theorem dL_law_563 : decode cL_law 563 = .ok (.iadd, 1) := fdg (k := 528) (p := 35) hdk_528 dLb_10.2.2.2.2.2.2.2.2.2.2.2.2.2.2.2.2.2.2.2.2.2.2.1
theorem dL_law_564 : decode cL_law 564 = .ok (.iaload, 1) := fdg (k := 528) (p := 36) hdk_528 dLb_10.2.2.2.2.2.2.2.2.2.2.2.2.2.2.2.2.2.2.2.2.2.2.2.1
theorem dL_law_565 : decode cL_law 565 = .ok (.aload_n 0, 1) := fdg (k := 528) (p := 37) hdk_528 dLb_10.2.2.2.2.2.2.2.2.2.2.2.2.2.2.2.2.2.2.2.2.2.2.2.2.1
theorem dL_law_566 : decode cL_law 566 = .ok (.iload 4, 2) := fdg (k := 528) (p := 38) hdk_528 dLb_10.2.2.2.2.2.2.2.2.2.2.2.2.2.2.2.2.2.2.2.2.2.2.2.2.2.1
theorem dL_law_568 : decode cL_law 568 = .ok (.iconst 3, 1) := fdg (k := 528) (p := 40) hdk_528 dLb_10.2.2.2.2.2.2.2.2.2.2.2.2.2.2.2.2.2.2.2.2.2.2.2.2.2.2.1
theorem dL_law_569 : decode cL_law 569 = .ok (.iadd, 1) := fdg (k := 528) (p := 41) hdk_528 dLb_10.2.2.2.2.2.2.2.2.2.2.2.2.2.2.2.2.2.2.2.2.2.2.2.2.2.2.2.1
theorem dL_law_570 : decode cL_law 570 = .ok (.iaload, 1) := fdg (k := 528) (p := 42) hdk_528 dLb_10.2.2.2.2.2.2.2.2.2.2.2.2.2.2.2.2.2.2.2.2.2.2.2.2.2.2.2.2.1
theorem dL_law_571 : decode cL_law 571 = .ok (.aload_n 3, 1) := fdg (k := 528) (p := 43) hdk_528 dLb_10.2.2.2.2.2.2.2.2.2.2.2.2.2.2.2.2.2.2.2.2.2.2.2.2.2.2.2.2.2.1
theorem dL_law_572 : decode cL_law 572 = .ok (.invokestatic 185, 3) := fdg (k := 528) (p := 44) hdk_528 dLb_10.2.2.2.2.2.2.2.2.2.2.2.2.2.2.2.2.2.2.2.2.2.2.2.2.2.2.2.2.2.2.1
theorem dL_law_575 : decode cL_law 575 = .ok (.istore 5, 2) := fdg (k := 528) (p := 47) hdk_528 dLb_10.2.2.2.2.2.2.2.2.2.2.2.2.2.2.2.2.2.2.2.2.2.2.2.2.2.2.2.2.2.2.2
theorem dLb_11 : fdq dk_576 1 (.aload_n 2) 1 = true ∧ fdq dk_576 2 (.aload_n 0) 1 = true ∧ fdq dk_576 3 (.iload 4) 2 = true ∧ fdq dk_576 5 (.iconst 1) 1 = true ∧ fdq dk_576 6 (.iadd) 1 = true ∧ fdq dk_576 7 (.iaload) 1 = true ∧ fdq dk_576 8 (.aload_n 0) 1 = true ∧ fdq dk_576 9 (.iload 4) 2 = true ∧ fdq dk_576 11 (.iconst 2) 1 = true ∧ fdq dk_576 12 (.iadd) 1 = true ∧ fdq dk_576 13 (.iaload) 1 = true ∧ fdq dk_576 14 (.aload_n 0) 1 = true ∧ fdq dk_576 15 (.iload 4) 2 = true ∧ fdq dk_576 17 (.iconst 3) 1 = true ∧ fdq dk_576 18 (.iadd) 1 = true ∧ fdq dk_576 19 (.iaload) 1 = true ∧ fdq dk_576 20 (.invokevirtual 187) 3 = true ∧ fdq dk_576 23 (.istore 6) 2 = true ∧ fdq dk_576 25 (.aload_n 2) 1 = true ∧ fdq dk_576 26 (.invokevirtual 170) 3 = true ∧ fdq dk_576 29 (.iload 5) 2 = true ∧ fdq dk_576 31 (.if_icmp .eq 5) 3 = true ∧ fdq dk_576 34 (.iconst 0) 1 = true ∧ fdq dk_576 35 (.ireturn) 1 = true ∧ fdq dk_576 36 (.iload 5) 2 = true ∧ fdq dk_576 38 (.ifCond .ne 16) 3 = true ∧ fdq dk_576 41 (.aload_n 3) 1 = true ∧ fdq dk_576 42 (.getfield 13) 3 = true ∧ fdq dk_576 45 (.iload 6) 2 = true ∧ fdq dk_576 47 (.i2l) 1 = true := by decide +kernel
theorem dL_law_577 : decode cL_law 577 = .ok (.aload_n 2, 1) := fdg (k := 576) (p := 1) hdk_576 dLb_11.1
theorem dL_law_578 : decode cL_law 578 = .ok (.aload_n 0, 1) := fdg (k := 576) (p := 2) hdk_576 dLb_11.2.1
theorem dL_law_579 : decode cL_law 579 = .ok (.iload 4, 2) := fdg (k := 576) (p := 3) hdk_576 dLb_11.2.2.1
theorem dL_law_581 : decode cL_law 581 = .ok (.iconst 1, 1) := fdg (k := 576) (p := 5) hdk_576 dLb_11.2.2.2.1
theorem dL_law_582 : decode cL_law 582 = .ok (.iadd, 1) := fdg (k := 576) (p := 6) hdk_576 dLb_11.2.2.2.2.1
theorem dL_law_583 : decode cL_law 583 = .ok (.iaload, 1) := fdg (k := 576) (p := 7) hdk_576 dLb_11.2.2.2.2.2.1
theorem dL_law_584 : decode cL_law 584 = .ok (.aload_n 0, 1) := fdg (k := 576) (p := 8) hdk_576 dLb_11.2.2.2.2.2.2.1
theorem dL_law_585 : decode cL_law 585 = .ok (.iload 4, 2) := fdg (k := 576) (p := 9) hdk_576 dLb_11.2.2.2.2.2.2.2.1
theorem dL_law_587 : decode cL_law 587 = .ok (.iconst 2, 1) := fdg (k := 576) (p := 11) hdk_576 dLb_11.2.2.2.2.2.2.2.2.1
theorem dL_law_588 : decode cL_law 588 = .ok (.iadd, 1) := fdg (k := 576) (p := 12) hdk_576 dLb_11.2.2.2.2.2.2.2.2.2.1
theorem dL_law_589 : decode cL_law 589 = .ok (.iaload, 1) := fdg (k := 576) (p := 13) hdk_576 dLb_11.2.2.2.2.2.2.2.2.2.2.1
theorem dL_law_590 : decode cL_law 590 = .ok (.aload_n 0, 1) := fdg (k := 576) (p := 14) hdk_576 dLb_11.2.2.2.2.2.2.2.2.2.2.2.1
theorem dL_law_591 : decode cL_law 591 = .ok (.iload 4, 2) := fdg (k := 576) (p := 15) hdk_576 dLb_11.2.2.2.2.2.2.2.2.2.2.2.2.1
theorem dL_law_593 : decode cL_law 593 = .ok (.iconst 3, 1) := fdg (k := 576) (p := 17) hdk_576 dLb_11.2.2.2.2.2.2.2.2.2.2.2.2.2.1
theorem dL_law_594 : decode cL_law 594 = .ok (.iadd, 1) := fdg (k := 576) (p := 18) hdk_576 dLb_11.2.2.2.2.2.2.2.2.2.2.2.2.2.2.1
theorem dL_law_595 : decode cL_law 595 = .ok (.iaload, 1) := fdg (k := 576) (p := 19) hdk_576 dLb_11.2.2.2.2.2.2.2.2.2.2.2.2.2.2.2.1
theorem dL_law_596 : decode cL_law 596 = .ok (.invokevirtual 187, 3) := fdg (k := 576) (p := 20) hdk_576 dLb_11.2.2.2.2.2.2.2.2.2.2.2.2.2.2.2.2.1
theorem dL_law_599 : decode cL_law 599 = .ok (.istore 6, 2) := fdg (k := 576) (p := 23) hdk_576 dLb_11.2.2.2.2.2.2.2.2.2.2.2.2.2.2.2.2.2.1
theorem dL_law_601 : decode cL_law 601 = .ok (.aload_n 2, 1) := fdg (k := 576) (p := 25) hdk_576 dLb_11.2.2.2.2.2.2.2.2.2.2.2.2.2.2.2.2.2.2.1
theorem dL_law_602 : decode cL_law 602 = .ok (.invokevirtual 170, 3) := fdg (k := 576) (p := 26) hdk_576 dLb_11.2.2.2.2.2.2.2.2.2.2.2.2.2.2.2.2.2.2.2.1
theorem dL_law_605 : decode cL_law 605 = .ok (.iload 5, 2) := fdg (k := 576) (p := 29) hdk_576 dLb_11.2.2.2.2.2.2.2.2.2.2.2.2.2.2.2.2.2.2.2.2.1
theorem dL_law_607 : decode cL_law 607 = .ok (.if_icmp .eq 5, 3) := fdg (k := 576) (p := 31) hdk_576 dLb_11.2.2.2.2.2.2.2.2.2.2.2.2.2.2.2.2.2.2.2.2.2.1
theorem dL_law_610 : decode cL_law 610 = .ok (.iconst 0, 1) := fdg (k := 576) (p := 34) hdk_576 dLb_11.2.2.2.2.2.2.2.2.2.2.2.2.2.2.2.2.2.2.2.2.2.2.1
theorem dL_law_611 : decode cL_law 611 = .ok (.ireturn, 1) := fdg (k := 576) (p := 35) hdk_576 dLb_11.2.2.2.2.2.2.2.2.2.2.2.2.2.2.2.2.2.2.2.2.2.2.2.1
theorem dL_law_612 : decode cL_law 612 = .ok (.iload 5, 2) := fdg (k := 576) (p := 36) hdk_576 dLb_11.2.2.2.2.2.2.2.2.2.2.2.2.2.2.2.2.2.2.2.2.2.2.2.2.1
theorem dL_law_614 : decode cL_law 614 = .ok (.ifCond .ne 16, 3) := fdg (k := 576) (p := 38) hdk_576 dLb_11.2.2.2.2.2.2.2.2.2.2.2.2.2.2.2.2.2.2.2.2.2.2.2.2.2.1
theorem dL_law_617 : decode cL_law 617 = .ok (.aload_n 3, 1) := fdg (k := 576) (p := 41) hdk_576 dLb_11.2.2.2.2.2.2.2.2.2.2.2.2.2.2.2.2.2.2.2.2.2.2.2.2.2.2.1
theorem dL_law_618 : decode cL_law 618 = .ok (.getfield 13, 3) := fdg (k := 576) (p := 42) hdk_576 dLb_11.2.2.2.2.2.2.2.2.2.2.2.2.2.2.2.2.2.2.2.2.2.2.2.2.2.2.2.1
theorem dL_law_621 : decode cL_law 621 = .ok (.iload 6, 2) := fdg (k := 576) (p := 45) hdk_576 dLb_11.2.2.2.2.2.2.2.2.2.2.2.2.2.2.2.2.2.2.2.2.2.2.2.2.2.2.2.2.1
theorem dL_law_623 : decode cL_law 623 = .ok (.i2l, 1) := fdg (k := 576) (p := 47) hdk_576 dLb_11.2.2.2.2.2.2.2.2.2.2.2.2.2.2.2.2.2.2.2.2.2.2.2.2.2.2.2.2.2
theorem dLb_12 : fdq dk_624 0 (.lcmp) 1 = true ∧ fdq dk_624 1 (.ifCond .eq 5) 3 = true ∧ fdq dk_624 4 (.iconst 0) 1 = true ∧ fdq dk_624 5 (.ireturn) 1 = true ∧ fdq dk_624 6 (.goto 2682) 3 = true ∧ fdq dk_624 9 (.aload_n 1) 1 = true ∧ fdq dk_624 10 (.aload_n 0) 1 = true ∧ fdq dk_624 11 (.iload 4) 2 = true ∧ fdq dk_624 13 (.iconst 1) 1 = true ∧ fdq dk_624 14 (.iadd) 1 = true ∧ fdq dk_624 15 (.iaload) 1 = true ∧ fdq dk_624 16 (.aload_n 0) 1 = true ∧ fdq dk_624 17 (.iload 4) 2 = true ∧ fdq dk_624 19 (.iconst 2) 1 = true ∧ fdq dk_624 20 (.iadd) 1 = true ∧ fdq dk_624 21 (.iaload) 1 = true ∧ fdq dk_624 22 (.aload_n 3) 1 = true ∧ fdq dk_624 23 (.invokestatic 188) 3 = true ∧ fdq dk_624 26 (.istore 5) 2 = true ∧ fdq dk_624 28 (.aload_n 2) 1 = true ∧ fdq dk_624 29 (.aload_n 0) 1 = true ∧ fdq dk_624 30 (.iload 4) 2 = true ∧ fdq dk_624 32 (.iconst 1) 1 = true ∧ fdq dk_624 33 (.iadd) 1 = true ∧ fdq dk_624 34 (.iaload) 1 = true ∧ fdq dk_624 35 (.aload_n 0) 1 = true ∧ fdq dk_624 36 (.iload 4) 2 = true ∧ fdq dk_624 38 (.iconst 2) 1 = true ∧ fdq dk_624 39 (.iadd) 1 = true ∧ fdq dk_624 40 (.iaload) 1 = true ∧ fdq dk_624 41 (.invokevirtual 190) 3 = true ∧ fdq dk_624 44 (.istore 6) 2 = true := by decide +kernel
theorem dL_law_624 : decode cL_law 624 = .ok (.lcmp, 1) := fdg (k := 624) (p := 0) hdk_624 dLb_12.1
theorem dL_law_625 : decode cL_law 625 = .ok (.ifCond .eq 5, 3) := fdg (k := 624) (p := 1) hdk_624 dLb_12.2.1
theorem dL_law_628 : decode cL_law 628 = .ok (.iconst 0, 1) := fdg (k := 624) (p := 4) hdk_624 dLb_12.2.2.1
theorem dL_law_629 : decode cL_law 629 = .ok (.ireturn, 1) := fdg (k := 624) (p := 5) hdk_624 dLb_12.2.2.2.1
theorem dL_law_630 : decode cL_law 630 = .ok (.goto 2682, 3) := fdg (k := 624) (p := 6) hdk_624 dLb_12.2.2.2.2.1
theorem dL_law_633 : decode cL_law 633 = .ok (.aload_n 1, 1) := fdg (k := 624) (p := 9) hdk_624 dLb_12.2.2.2.2.2.1
theorem dL_law_634 : decode cL_law 634 = .ok (.aload_n 0, 1) := fdg (k := 624) (p := 10) hdk_624 dLb_12.2.2.2.2.2.2.1
theorem dL_law_635 : decode cL_law 635 = .ok (.iload 4, 2) := fdg (k := 624) (p := 11) hdk_624 dLb_12.2.2.2.2.2.2.2.1
theorem dL_law_637 : decode cL_law 637 = .ok (.iconst 1, 1) := fdg (k := 624) (p := 13) hdk_624 dLb_12.2.2.2.2.2.2.2.2.1
theorem dL_law_638 : decode cL_law 638 = .ok (.iadd, 1) := fdg (k := 624) (p := 14) hdk_624 dLb_12.2.2.2.2.2.2.2.2.2.1
theorem dL_law_639 : decode cL_law 639 = .ok (.iaload, 1) := fdg (k := 624) (p := 15) hdk_624 dLb_12.2.2.2.2.2.2.2.2.2.2.1
theorem dL_law_640 : decode cL_law 640 = .ok (.aload_n 0, 1) := fdg (k := 624) (p := 16) hdk_624 dLb_12.2.2.2.2.2.2.2.2.2.2.2.1
theorem dL_law_641 : decode cL_law 641 = .ok (.iload 4, 2) := fdg (k := 624) (p := 17) hdk_624 dLb_12.2.2.2.2.2.2.2.2.2.2.2.2.1
theorem dL_law_643 : decode cL_law 643 = .ok (.iconst 2, 1) := fdg (k := 624) (p := 19) hdk_624 dLb_12.2.2.2.2.2.2.2.2.2.2.2.2.2.1
theorem dL_law_644 : decode cL_law 644 = .ok (.iadd, 1) := fdg (k := 624) (p := 20) hdk_624 dLb_12.2.2.2.2.2.2.2.2.2.2.2.2.2.2.1
theorem dL_law_645 : decode cL_law 645 = .ok (.iaload, 1) := fdg (k := 624) (p := 21) hdk_624 dLb_12.2.2.2.2.2.2.2.2.2.2.2.2.2.2.2.1
theorem dL_law_646 : decode cL_law 646 = .ok (.aload_n 3, 1) := fdg (k := 624) (p := 22) hdk_624 dLb_12.2.2.2.2.2.2.2.2.2.2.2.2.2.2.2.2.1
theorem dL_law_647 : decode cL_law 647 = .ok (.invokestatic 188, 3) := fdg (k := 624) (p := 23) hdk_624 dLb_12.2.2.2.2.2.2.2.2.2.2.2.2.2.2.2.2.2.1
theorem dL_law_650 : decode cL_law 650 = .ok (.istore 5, 2) := fdg (k := 624) (p := 26) hdk_624 dLb_12.2.2.2.2.2.2.2.2.2.2.2.2.2.2.2.2.2.2.1
theorem dL_law_652 : decode cL_law 652 = .ok (.aload_n 2, 1) := fdg (k := 624) (p := 28) hdk_624 dLb_12.2.2.2.2.2.2.2.2.2.2.2.2.2.2.2.2.2.2.2.1
theorem dL_law_653 : decode cL_law 653 = .ok (.aload_n 0, 1) := fdg (k := 624) (p := 29) hdk_624 dLb_12.2.2.2.2.2.2.2.2.2.2.2.2.2.2.2.2.2.2.2.2.1
theorem dL_law_654 : decode cL_law 654 = .ok (.iload 4, 2) := fdg (k := 624) (p := 30) hdk_624 dLb_12.2.2.2.2.2.2.2.2.2.2.2.2.2.2.2.2.2.2.2.2.2.1
theorem dL_law_656 : decode cL_law 656 = .ok (.iconst 1, 1) := fdg (k := 624) (p := 32) hdk_624 dLb_12.2.2.2.2.2.2.2.2.2.2.2.2.2.2.2.2.2.2.2.2.2.2.1
theorem dL_law_657 : decode cL_law 657 = .ok (.iadd, 1) := fdg (k := 624) (p := 33) hdk_624 dLb_12.2.2.2.2.2.2.2.2.2.2.2.2.2.2.2.2.2.2.2.2.2.2.2.1
theorem dL_law_658 : decode cL_law 658 = .ok (.iaload, 1) := fdg (k := 624) (p := 34) hdk_624 dLb_12.2.2.2.2.2.2.2.2.2.2.2.2.2.2.2.2.2.2.2.2.2.2.2.2.1
theorem dL_law_659 : decode cL_law 659 = .ok (.aload_n 0, 1) := fdg (k := 624) (p := 35) hdk_624 dLb_12.2.2.2.2.2.2.2.2.2.2.2.2.2.2.2.2.2.2.2.2.2.2.2.2.2.1
theorem dL_law_660 : decode cL_law 660 = .ok (.iload 4, 2) := fdg (k := 624) (p := 36) hdk_624 dLb_12.2.2.2.2.2.2.2.2.2.2.2.2.2.2.2.2.2.2.2.2.2.2.2.2.2.2.1
theorem dL_law_662 : decode cL_law 662 = .ok (.iconst 2, 1) := fdg (k := 624) (p := 38) hdk_624 dLb_12.2.2.2.2.2.2.2.2.2.2.2.2.2.2.2.2.2.2.2.2.2.2.2.2.2.2.2.1
theorem dL_law_663 : decode cL_law 663 = .ok (.iadd, 1) := fdg (k := 624) (p := 39) hdk_624 dLb_12.2.2.2.2.2.2.2.2.2.2.2.2.2.2.2.2.2.2.2.2.2.2.2.2.2.2.2.2.1
theorem dL_law_664 : decode cL_law 664 = .ok (.iaload, 1) := fdg (k := 624) (p := 40) hdk_624 dLb_12.2.2.2.2.2.2.2.2.2.2.2.2.2.2.2.2.2.2.2.2.2.2.2.2.2.2.2.2.2.1
theorem dL_law_665 : decode cL_law 665 = .ok (.invokevirtual 190, 3) := fdg (k := 624) (p := 41) hdk_624 dLb_12.2.2.2.2.2.2.2.2.2.2.2.2.2.2.2.2.2.2.2.2.2.2.2.2.2.2.2.2.2.2.1
theorem dL_law_668 : decode cL_law 668 = .ok (.istore 6, 2) := fdg (k := 624) (p := 44) hdk_624 dLb_12.2.2.2.2.2.2.2.2.2.2.2.2.2.2.2.2.2.2.2.2.2.2.2.2.2.2.2.2.2.2.2
theorem dLb_13 : fdq dk_624 46 (.aload_n 2) 1 = true ∧ fdq dk_624 47 (.invokevirtual 170) 3 = true := by decide +kernel
theorem dL_law_670 : decode cL_law 670 = .ok (.aload_n 2, 1) := fdg (k := 624) (p := 46) hdk_624 dLb_13.1
theorem dL_law_671 : decode cL_law 671 = .ok (.invokevirtual 170, 3) := fdg (k := 624) (p := 47) hdk_624 dLb_13.2
theorem dLb_14 : fdq dk_672 2 (.iload 5) 2 = true ∧ fdq dk_672 4 (.if_icmp .eq 5) 3 = true ∧ fdq dk_672 7 (.iconst 0) 1 = true ∧ fdq dk_672 8 (.ireturn) 1 = true ∧ fdq dk_672 9 (.iload 5) 2 = true ∧ fdq dk_672 11 (.ifCond .ne 16) 3 = true ∧ fdq dk_672 14 (.aload_n 3) 1 = true ∧ fdq dk_672 15 (.getfield 13) 3 = true ∧ fdq dk_672 18 (.iload 6) 2 = true ∧ fdq dk_672 20 (.i2l) 1 = true ∧ fdq dk_672 21 (.lcmp) 1 = true ∧ fdq dk_672 22 (.ifCond .eq 5) 3 = true ∧ fdq dk_672 25 (.iconst 0) 1 = true ∧ fdq dk_672 26 (.ireturn) 1 = true ∧ fdq dk_672 27 (.goto 2613) 3 = true ∧ fdq dk_672 30 (.aload_n 1) 1 = true ∧ fdq dk_672 31 (.aload_n 0) 1 = true ∧ fdq dk_672 32 (.iload 4) 2 = true ∧ fdq dk_672 34 (.iconst 1) 1 = true ∧ fdq dk_672 35 (.iadd) 1 = true ∧ fdq dk_672 36 (.iaload) 1 = true ∧ fdq dk_672 37 (.aload_n 3) 1 = true ∧ fdq dk_672 38 (.invokestatic 191) 3 = true ∧ fdq dk_672 41 (.istore 5) 2 = true ∧ fdq dk_672 43 (.aload_n 2) 1 = true ∧ fdq dk_672 44 (.aload_n 0) 1 = true ∧ fdq dk_672 45 (.iload 4) 2 = true ∧ fdq dk_672 47 (.iconst 1) 1 = true := by decide +kernel
theorem dL_law_674 : decode cL_law 674 = .ok (.iload 5, 2) := fdg (k := 672) (p := 2) hdk_672 dLb_14.1
theorem dL_law_676 : decode cL_law 676 = .ok (.if_icmp .eq 5, 3) := fdg (k := 672) (p := 4) hdk_672 dLb_14.2.1
theorem dL_law_679 : decode cL_law 679 = .ok (.iconst 0, 1) := fdg (k := 672) (p := 7) hdk_672 dLb_14.2.2.1
theorem dL_law_680 : decode cL_law 680 = .ok (.ireturn, 1) := fdg (k := 672) (p := 8) hdk_672 dLb_14.2.2.2.1
theorem dL_law_681 : decode cL_law 681 = .ok (.iload 5, 2) := fdg (k := 672) (p := 9) hdk_672 dLb_14.2.2.2.2.1
theorem dL_law_683 : decode cL_law 683 = .ok (.ifCond .ne 16, 3) := fdg (k := 672) (p := 11) hdk_672 dLb_14.2.2.2.2.2.1
theorem dL_law_686 : decode cL_law 686 = .ok (.aload_n 3, 1) := fdg (k := 672) (p := 14) hdk_672 dLb_14.2.2.2.2.2.2.1
theorem dL_law_687 : decode cL_law 687 = .ok (.getfield 13, 3) := fdg (k := 672) (p := 15) hdk_672 dLb_14.2.2.2.2.2.2.2.1
theorem dL_law_690 : decode cL_law 690 = .ok (.iload 6, 2) := fdg (k := 672) (p := 18) hdk_672 dLb_14.2.2.2.2.2.2.2.2.1
theorem dL_law_692 : decode cL_law 692 = .ok (.i2l, 1) := fdg (k := 672) (p := 20) hdk_672 dLb_14.2.2.2.2.2.2.2.2.2.1
theorem dL_law_693 : decode cL_law 693 = .ok (.lcmp, 1) := fdg (k := 672) (p := 21) hdk_672 dLb_14.2.2.2.2.2.2.2.2.2.2.1
theorem dL_law_694 : decode cL_law 694 = .ok (.ifCond .eq 5, 3) := fdg (k := 672) (p := 22) hdk_672 dLb_14.2.2.2.2.2.2.2.2.2.2.2.1
theorem dL_law_697 : decode cL_law 697 = .ok (.iconst 0, 1) := fdg (k := 672) (p := 25) hdk_672 dLb_14.2.2.2.2.2.2.2.2.2.2.2.2.1
theorem dL_law_698 : decode cL_law 698 = .ok (.ireturn, 1) := fdg (k := 672) (p := 26) hdk_672 dLb_14.2.2.2.2.2.2.2.2.2.2.2.2.2.1
theorem dL_law_699 : decode cL_law 699 = .ok (.goto 2613, 3) := fdg (k := 672) (p := 27) hdk_672 dLb_14.2.2.2.2.2.2.2.2.2.2.2.2.2.2.1
theorem dL_law_702 : decode cL_law 702 = .ok (.aload_n 1, 1) := fdg (k := 672) (p := 30) hdk_672 dLb_14.2.2.2.2.2.2.2.2.2.2.2.2.2.2.2.1
theorem dL_law_703 : decode cL_law 703 = .ok (.aload_n 0, 1) := fdg (k := 672) (p := 31) hdk_672 dLb_14.2.2.2.2.2.2.2.2.2.2.2.2.2.2.2.2.1
theorem dL_law_704 : decode cL_law 704 = .ok (.iload 4, 2) := fdg (k := 672) (p := 32) hdk_672 dLb_14.2.2.2.2.2.2.2.2.2.2.2.2.2.2.2.2.2.1
theorem dL_law_706 : decode cL_law 706 = .ok (.iconst 1, 1) := fdg (k := 672) (p := 34) hdk_672 dLb_14.2.2.2.2.2.2.2.2.2.2.2.2.2.2.2.2.2.2.1
theorem dL_law_707 : decode cL_law 707 = .ok (.iadd, 1) := fdg (k := 672) (p := 35) hdk_672 dLb_14.2.2.2.2.2.2.2.2.2.2.2.2.2.2.2.2.2.2.2.1
theorem dL_law_708 : decode cL_law 708 = .ok (.iaload, 1) := fdg (k := 672) (p := 36) hdk_672 dLb_14.2.2.2.2.2.2.2.2.2.2.2.2.2.2.2.2.2.2.2.2.1
theorem dL_law_709 : decode cL_law 709 = .ok (.aload_n 3, 1) := fdg (k := 672) (p := 37) hdk_672 dLb_14.2.2.2.2.2.2.2.2.2.2.2.2.2.2.2.2.2.2.2.2.2.1
theorem dL_law_710 : decode cL_law 710 = .ok (.invokestatic 191, 3) := fdg (k := 672) (p := 38) hdk_672 dLb_14.2.2.2.2.2.2.2.2.2.2.2.2.2.2.2.2.2.2.2.2.2.2.1
theorem dL_law_713 : decode cL_law 713 = .ok (.istore 5, 2) := fdg (k := 672) (p := 41) hdk_672 dLb_14.2.2.2.2.2.2.2.2.2.2.2.2.2.2.2.2.2.2.2.2.2.2.2.1
theorem dL_law_715 : decode cL_law 715 = .ok (.aload_n 2, 1) := fdg (k := 672) (p := 43) hdk_672 dLb_14.2.2.2.2.2.2.2.2.2.2.2.2.2.2.2.2.2.2.2.2.2.2.2.2.1
theorem dL_law_716 : decode cL_law 716 = .ok (.aload_n 0, 1) := fdg (k := 672) (p := 44) hdk_672 dLb_14.2.2.2.2.2.2.2.2.2.2.2.2.2.2.2.2.2.2.2.2.2.2.2.2.2.1
theorem dL_law_717 : decode cL_law 717 = .ok (.iload 4, 2) := fdg (k := 672) (p := 45) hdk_672 dLb_14.2.2.2.2.2.2.2.2.2.2.2.2.2.2.2.2.2.2.2.2.2.2.2.2.2.2.1
theorem dL_law_719 : decode cL_law 719 = .ok (.iconst 1, 1) := fdg (k := 672) (p := 47) hdk_672 dLb_14.2.2.2.2.2.2.2.2.2.2.2.2.2.2.2.2.2.2.2.2.2.2.2.2.2.2.2
theorem dLb_15 : fdq dk_720 0 (.iadd) 1 = true ∧ fdq dk_720 1 (.iaload) 1 = true ∧ fdq dk_720 2 (.invokevirtual 194) 3 = true ∧ fdq dk_720 5 (.istore 6) 2 = true ∧ fdq dk_720 7 (.aload_n 2) 1 = true ∧ fdq dk_720 8 (.invokevirtual 170) 3 = true ∧ fdq dk_720 11 (.iload 5) 2 = true ∧ fdq dk_720 13 (.if_icmp .eq 5) 3 = true ∧ fdq dk_720 16 (.iconst 0) 1 = true ∧ fdq dk_720 17 (.ireturn) 1 = true ∧ fdq dk_720 18 (.iload 5) 2 = true ∧ fdq dk_720 20 (.ifCond .ne 16) 3 = true ∧ fdq dk_720 23 (.aload_n 3) 1 = true ∧ fdq dk_720 24 (.getfield 13) 3 = true ∧ fdq dk_720 27 (.iload 6) 2 = true ∧ fdq dk_720 29 (.i2l) 1 = true ∧ fdq dk_720 30 (.lcmp) 1 = true ∧ fdq dk_720 31 (.ifCond .eq 5) 3 = true ∧ fdq dk_720 34 (.iconst 0) 1 = true ∧ fdq dk_720 35 (.ireturn) 1 = true ∧ fdq dk_720 36 (.goto 2556) 3 = true ∧ fdq dk_720 39 (.aload_n 1) 1 = true ∧ fdq dk_720 40 (.aload_n 0) 1 = true ∧ fdq dk_720 41 (.iload 4) 2 = true ∧ fdq dk_720 43 (.iconst 1) 1 = true ∧ fdq dk_720 44 (.iadd) 1 = true ∧ fdq dk_720 45 (.iaload) 1 = true ∧ fdq dk_720 46 (.aload_n 3) 1 = true ∧ fdq dk_720 47 (.invokestatic 195) 3 = true := by decide +kernel
theorem dL_law_720 : decode cL_law 720 = .ok (.iadd, 1) := fdg (k := 720) (p := 0) hdk_720 dLb_15.1
theorem dL_law_721 : decode cL_law 721 = .ok (.iaload, 1) := fdg (k := 720) (p := 1) hdk_720 dLb_15.2.1
theorem dL_law_722 : decode cL_law 722 = .ok (.invokevirtual 194, 3) := fdg (k := 720) (p := 2) hdk_720 dLb_15.2.2.1
theorem dL_law_725 : decode cL_law 725 = .ok (.istore 6, 2) := fdg (k := 720) (p := 5) hdk_720 dLb_15.2.2.2.1
theorem dL_law_727 : decode cL_law 727 = .ok (.aload_n 2, 1) := fdg (k := 720) (p := 7) hdk_720 dLb_15.2.2.2.2.1
theorem dL_law_728 : decode cL_law 728 = .ok (.invokevirtual 170, 3) := fdg (k := 720) (p := 8) hdk_720 dLb_15.2.2.2.2.2.1
theorem dL_law_731 : decode cL_law 731 = .ok (.iload 5, 2) := fdg (k := 720) (p := 11) hdk_720 dLb_15.2.2.2.2.2.2.1
theorem dL_law_733 : decode cL_law 733 = .ok (.if_icmp .eq 5, 3) := fdg (k := 720) (p := 13) hdk_720 dLb_15.2.2.2.2.2.2.2.1
theorem dL_law_736 : decode cL_law 736 = .ok (.iconst 0, 1) := fdg (k := 720) (p := 16) hdk_720 dLb_15.2.2.2.2.2.2.2.2.1
theorem dL_law_737 : decode cL_law 737 = .ok (.ireturn, 1) := fdg (k := 720) (p := 17) hdk_720 dLb_15.2.2.2.2.2.2.2.2.2.1
theorem dL_law_738 : decode cL_law 738 = .ok (.iload 5, 2) := fdg (k := 720) (p := 18) hdk_720 dLb_15.2.2.2.2.2.2.2.2.2.2.1
theorem dL_law_740 : decode cL_law 740 = .ok (.ifCond .ne 16, 3) := fdg (k := 720) (p := 20) hdk_720 dLb_15.2.2.2.2.2.2.2.2.2.2.2.1
theorem dL_law_743 : decode cL_law 743 = .ok (.aload_n 3, 1) := fdg (k := 720) (p := 23) hdk_720 dLb_15.2.2.2.2.2.2.2.2.2.2.2.2.1
theorem dL_law_744 : decode cL_law 744 = .ok (.getfield 13, 3) := fdg (k := 720) (p := 24) hdk_720 dLb_15.2.2.2.2.2.2.2.2.2.2.2.2.2.1
theorem dL_law_747 : decode cL_law 747 = .ok (.iload 6, 2) := fdg (k := 720) (p := 27) hdk_720 dLb_15.2.2.2.2.2.2.2.2.2.2.2.2.2.2.1
theorem dL_law_749 : decode cL_law 749 = .ok (.i2l, 1) := fdg (k := 720) (p := 29) hdk_720 dLb_15.2.2.2.2.2.2.2.2.2.2.2.2.2.2.2.1
theorem dL_law_750 : decode cL_law 750 = .ok (.lcmp, 1) := fdg (k := 720) (p := 30) hdk_720 dLb_15.2.2.2.2.2.2.2.2.2.2.2.2.2.2.2.2.1
theorem dL_law_751 : decode cL_law 751 = .ok (.ifCond .eq 5, 3) := fdg (k := 720) (p := 31) hdk_720 dLb_15.2.2.2.2.2.2.2.2.2.2.2.2.2.2.2.2.2.1
theorem dL_law_754 : decode cL_law 754 = .ok (.iconst 0, 1) := fdg (k := 720) (p := 34) hdk_720 dLb_15.2.2.2.2.2.2.2.2.2.2.2.2.2.2.2.2.2.2.1
theorem dL_law_755 : decode cL_law 755 = .ok (.ireturn, 1) := fdg (k := 720) (p := 35) hdk_720 dLb_15.2.2.2.2.2.2.2.2.2.2.2.2.2.2.2.2.2.2.2.1
theorem dL_law_756 : decode cL_law 756 = .ok (.goto 2556, 3) := fdg (k := 720) (p := 36) hdk_720 dLb_15.2.2.2.2.2.2.2.2.2.2.2.2.2.2.2.2.2.2.2.2.1
theorem dL_law_759 : decode cL_law 759 = .ok (.aload_n 1, 1) := fdg (k := 720) (p := 39) hdk_720 dLb_15.2.2.2.2.2.2.2.2.2.2.2.2.2.2.2.2.2.2.2.2.2.1
theorem dL_law_760 : decode cL_law 760 = .ok (.aload_n 0, 1) := fdg (k := 720) (p := 40) hdk_720 dLb_15.2.2.2.2.2.2.2.2.2.2.2.2.2.2.2.2.2.2.2.2.2.2.1
theorem dL_law_761 : decode cL_law 761 = .ok (.iload 4, 2) := fdg (k := 720) (p := 41) hdk_720 dLb_15.2.2.2.2.2.2.2.2.2.2.2.2.2.2.2.2.2.2.2.2.2.2.2.1
theorem dL_law_763 : decode cL_law 763 = .ok (.iconst 1, 1) := fdg (k := 720) (p := 43) hdk_720 dLb_15.2.2.2.2.2.2.2.2.2.2.2.2.2.2.2.2.2.2.2.2.2.2.2.2.1
theorem dL_law_764 : decode cL_law 764 = .ok (.iadd, 1) := fdg (k := 720) (p := 44) hdk_720 dLb_15.2.2.2.2.2.2.2.2.2.2.2.2.2.2.2.2.2.2.2.2.2.2.2.2.2.1
theorem dL_law_765 : decode cL_law 765 = .ok (.iaload, 1) := fdg (k := 720) (p := 45) hdk_720 dLb_15.2.2.2.2.2.2.2.2.2.2.2.2.2.2.2.2.2.2.2.2.2.2.2.2.2.2.1
theorem dL_law_766 : decode cL_law 766 = .ok (.aload_n 3, 1) := fdg (k := 720) (p := 46) hdk_720 dLb_15.2.2.2.2.2.2.2.2.2.2.2.2.2.2.2.2.2.2.2.2.2.2.2.2.2.2.2.1
theorem dL_law_767 : decode cL_law 767 = .ok (.invokestatic 195, 3) := fdg (k := 720) (p := 47) hdk_720 dLb_15.2.2.2.2.2.2.2.2.2.2.2.2.2.2.2.2.2.2.2.2.2.2.2.2.2.2.2.2
theorem dLb_16 : fdq dk_768 2 (.istore 5) 2 = true ∧ fdq dk_768 4 (.aload_n 2) 1 = true ∧ fdq dk_768 5 (.aload_n 0) 1 = true ∧ fdq dk_768 6 (.iload 4) 2 = true ∧ fdq dk_768 8 (.iconst 1) 1 = true ∧ fdq dk_768 9 (.iadd) 1 = true ∧ fdq dk_768 10 (.iaload) 1 = true ∧ fdq dk_768 11 (.invokevirtual 197) 3 = true ∧ fdq dk_768 14 (.istore 6) 2 = true ∧ fdq dk_768 16 (.aload_n 2) 1 = true ∧ fdq dk_768 17 (.invokevirtual 170) 3 = true ∧ fdq dk_768 20 (.iload 5) 2 = true ∧ fdq dk_768 22 (.if_icmp .eq 5) 3 = true ∧ fdq dk_768 25 (.iconst 0) 1 = true ∧ fdq dk_768 26 (.ireturn) 1 = true ∧ fdq dk_768 27 (.iload 5) 2 = true ∧ fdq dk_768 29 (.ifCond .ne 23) 3 = true ∧ fdq dk_768 32 (.aload_n 3) 1 = true ∧ fdq dk_768 33 (.getfield 13) 3 = true ∧ fdq dk_768 36 (.iload 6) 2 = true ∧ fdq dk_768 38 (.ifCond .eq 7) 3 = true ∧ fdq dk_768 41 (.lconst 1) 1 = true ∧ fdq dk_768 42 (.goto 4) 3 = true ∧ fdq dk_768 45 (.lconst 0) 1 = true ∧ fdq dk_768 46 (.lcmp) 1 = true ∧ fdq dk_768 47 (.ifCond .eq 5) 3 = true := by decide +kernel
theorem dL_law_770 : decode cL_law 770 = .ok (.istore 5, 2) := fdg (k := 768) (p := 2) hdk_768 dLb_16.1
theorem dL_law_772 : decode cL_law 772 = .ok (.aload_n 2, 1) := fdg (k := 768) (p := 4) hdk_768 dLb_16.2.1
theorem dL_law_773 : decode cL_law 773 = .ok (.aload_n 0, 1) := fdg (k := 768) (p := 5) hdk_768 dLb_16.2.2.1
theorem dL_law_774 : decode cL_law 774 = .ok (.iload 4, 2) := fdg (k := 768) (p := 6) hdk_768 dLb_16.2.2.2.1
theorem dL_law_776 : decode cL_law 776 = .ok (.iconst 1, 1) := fdg (k := 768) (p := 8) hdk_768 dLb_16.2.2.2.2.1
theorem dL_law_777 : decode cL_law 777 = .ok (.iadd, 1) := fdg (k := 768) (p := 9) hdk_768 dLb_16.2.2.2.2.2.1
theorem dL_law_778 : decode cL_law 778 = .ok (.iaload, 1) := fdg (k := 768) (p := 10) hdk_768 dLb_16.2.2.2.2.2.2.1
theorem dL_law_779 : decode cL_law 779 = .ok (.invokevirtual 197, 3) := fdg (k := 768) (p := 11) hdk_768 dLb_16.2.2.2.2.2.2.2.1
theorem dL_law_782 : decode cL_law 782 = .ok (.istore 6, 2) := fdg (k := 768) (p := 14) hdk_768 dLb_16.2.2.2.2.2.2.2.2.1
theorem dL_law_784 : decode cL_law 784 = .ok (.aload_n 2, 1) := fdg (k := 768) (p := 16) hdk_768 dLb_16.2.2.2.2.2.2.2.2.2.1
theorem dL_law_785 : decode cL_law 785 = .ok (.invokevirtual 170, 3) := fdg (k := 768) (p := 17) hdk_768 dLb_16.2.2.2.2.2.2.2.2.2.2.1
theorem dL_law_788 : decode cL_law 788 = .ok (.iload 5, 2) := fdg (k := 768) (p := 20) hdk_768 dLb_16.2.2.2.2.2.2.2.2.2.2.2.1
theorem dL_law_790 : decode cL_law 790 = .ok (.if_icmp .eq 5, 3) := fdg (k := 768) (p := 22) hdk_768 dLb_16.2.2.2.2.2.2.2.2.2.2.2.2.1
theorem dL_law_793 : decode cL_law 793 = .ok (.iconst 0, 1) := fdg (k := 768) (p := 25) hdk_768 dLb_16.2.2.2.2.2.2.2.2.2.2.2.2.2.1
theorem dL_law_794 : decode cL_law 794 = .ok (.ireturn, 1) := fdg (k := 768) (p := 26) hdk_768 dLb_16.2.2.2.2.2.2.2.2.2.2.2.2.2.2.1
theorem dL_law_795 : decode cL_law 795 = .ok (.iload 5, 2) := fdg (k := 768) (p := 27) hdk_768 dLb_16.2.2.2.2.2.2.2.2.2.2.2.2.2.2.2.1
theorem dL_law_797 : decode cL_law 797 = .ok (.ifCond .ne 23, 3) := fdg (k := 768) (p := 29) hdk_768 dLb_16.2.2.2.2.2.2.2.2.2.2.2.2.2.2.2.2.1
theorem dL_law_800 : decode cL_law 800 = .ok (.aload_n 3, 1) := fdg (k := 768) (p := 32) hdk_768 dLb_16.2.2.2.2.2.2.2.2.2.2.2.2.2.2.2.2.2.1
theorem dL_law_801 : decode cL_law 801 = .ok (.getfield 13, 3) := fdg (k := 768) (p := 33) hdk_768 dLb_16.2.2.2.2.2.2.2.2.2.2.2.2.2.2.2.2.2.2.1
theorem dL_law_804 : decode cL_law 804 = .ok (.iload 6, 2) := fdg (k := 768) (p := 36) hdk_768 dLb_16.2.2.2.2.2.2.2.2.2.2.2.2.2.2.2.2.2.2.2.1
theorem dL_law_806 : decode cL_law 806 = .ok (.ifCond .eq 7, 3) := fdg (k := 768) (p := 38) hdk_768 dLb_16.2.2.2.2.2.2.2.2.2.2.2.2.2.2.2.2.2.2.2.2.1
theorem dL_law_809 : decode cL_law 809 = .ok (.lconst 1, 1) := fdg (k := 768) (p := 41) hdk_768 dLb_16.2.2.2.2.2.2.2.2.2.2.2.2.2.2.2.2.2.2.2.2.2.1
theorem dL_law_810 : decode cL_law 810 = .ok (.goto 4, 3) := fdg (k := 768) (p := 42) hdk_768 dLb_16.2.2.2.2.2.2.2.2.2.2.2.2.2.2.2.2.2.2.2.2.2.2.1
theorem dL_law_813 : decode cL_law 813 = .ok (.lconst 0, 1) := fdg (k := 768) (p := 45) hdk_768 dLb_16.2.2.2.2.2.2.2.2.2.2.2.2.2.2.2.2.2.2.2.2.2.2.2.1
theorem dL_law_814 : decode cL_law 814 = .ok (.lcmp, 1) := fdg (k := 768) (p := 46) hdk_768 dLb_16.2.2.2.2.2.2.2.2.2.2.2.2.2.2.2.2.2.2.2.2.2.2.2.2.1
theorem dL_law_815 : decode cL_law 815 = .ok (.ifCond .eq 5, 3) := fdg (k := 768) (p := 47) hdk_768 dLb_16.2.2.2.2.2.2.2.2.2.2.2.2.2.2.2.2.2.2.2.2.2.2.2.2.2
theorem dLb_17 : fdq dk_816 2 (.iconst 0) 1 = true ∧ fdq dk_816 3 (.ireturn) 1 = true ∧ fdq dk_816 4 (.goto 2492) 3 = true ∧ fdq dk_816 7 (.aload_n 1) 1 = true ∧ fdq dk_816 8 (.aload_n 0) 1 = true ∧ fdq dk_816 9 (.iload 4) 2 = true ∧ fdq dk_816 11 (.iconst 1) 1 = true ∧ fdq dk_816 12 (.iadd) 1 = true ∧ fdq dk_816 13 (.iaload) 1 = true ∧ fdq dk_816 14 (.aload_n 3) 1 = true ∧ fdq dk_816 15 (.invokestatic 198) 3 = true ∧ fdq dk_816 18 (.istore 5) 2 = true ∧ fdq dk_816 20 (.aload_n 2) 1 = true ∧ fdq dk_816 21 (.aload_n 0) 1 = true ∧ fdq dk_816 22 (.iload 4) 2 = true ∧ fdq dk_816 24 (.iconst 1) 1 = true ∧ fdq dk_816 25 (.iadd) 1 = true ∧ fdq dk_816 26 (.iaload) 1 = true ∧ fdq dk_816 27 (.invokevirtual 200) 3 = true ∧ fdq dk_816 30 (.astore 6) 2 = true ∧ fdq dk_816 32 (.aload_n 2) 1 = true ∧ fdq dk_816 33 (.invokevirtual 170) 3 = true ∧ fdq dk_816 36 (.iload 5) 2 = true ∧ fdq dk_816 38 (.if_icmp .eq 5) 3 = true ∧ fdq dk_816 41 (.iconst 0) 1 = true ∧ fdq dk_816 42 (.ireturn) 1 = true ∧ fdq dk_816 43 (.iload 5) 2 = true ∧ fdq dk_816 45 (.ifCond .ne 17) 3 = true := by decide +kernel
theorem dL_law_818 : decode cL_law 818 = .ok (.iconst 0, 1) := fdg (k := 816) (p := 2) hdk_816 dLb_17.1
theorem dL_law_819 : decode cL_law 819 = .ok (.ireturn, 1) := fdg (k := 816) (p := 3) hdk_816 dLb_17.2.1
theorem dL_law_820 : decode cL_law 820 = .ok (.goto 2492, 3) := fdg (k := 816) (p := 4) hdk_816 dLb_17.2.2.1
theorem dL_law_823 : decode cL_law 823 = .ok (.aload_n 1, 1) := fdg (k := 816) (p := 7) hdk_816 dLb_17.2.2.2.1
theorem dL_law_824 : decode cL_law 824 = .ok (.aload_n 0, 1) := fdg (k := 816) (p := 8) hdk_816 dLb_17.2.2.2.2.1
theorem dL_law_825 : decode cL_law 825 = .ok (.iload 4, 2) := fdg (k := 816) (p := 9) hdk_816 dLb_17.2.2.2.2.2.1
theorem dL_law_827 : decode cL_law 827 = .ok (.iconst 1, 1) := fdg (k := 816) (p := 11) hdk_816 dLb_17.2.2.2.2.2.2.1
theorem dL_law_828 : decode cL_law 828 = .ok (.iadd, 1) := fdg (k := 816) (p := 12) hdk_816 dLb_17.2.2.2.2.2.2.2.1
theorem dL_law_829 : decode cL_law 829 = .ok (.iaload, 1) := fdg (k := 816) (p := 13) hdk_816 dLb_17.2.2.2.2.2.2.2.2.1
theorem dL_law_830 : decode cL_law 830 = .ok (.aload_n 3, 1) := fdg (k := 816) (p := 14) hdk_816 dLb_17.2.2.2.2.2.2.2.2.2.1
theorem dL_law_831 : decode cL_law 831 = .ok (.invokestatic 198, 3) := fdg (k := 816) (p := 15) hdk_816 dLb_17.2.2.2.2.2.2.2.2.2.2.1
theorem dL_law_834 : decode cL_law 834 = .ok (.istore 5, 2) := fdg (k := 816) (p := 18) hdk_816 dLb_17.2.2.2.2.2.2.2.2.2.2.2.1
theorem dL_law_836 : decode cL_law 836 = .ok (.aload_n 2, 1) := fdg (k := 816) (p := 20) hdk_816 dLb_17.2.2.2.2.2.2.2.2.2.2.2.2.1
theorem dL_law_837 : decode cL_law 837 = .ok (.aload_n 0, 1) := fdg (k := 816) (p := 21) hdk_816 dLb_17.2.2.2.2.2.2.2.2.2.2.2.2.2.1
theorem dL_law_838 : decode cL_law 838 = .ok (.iload 4, 2) := fdg (k := 816) (p := 22) hdk_816 dLb_17.2.2.2.2.2.2.2.2.2.2.2.2.2.2.1
theorem dL_law_840 : decode cL_law 840 = .ok (.iconst 1, 1) := fdg (k := 816) (p := 24) hdk_816 dLb_17.2.2.2.2.2.2.2.2.2.2.2.2.2.2.2.1
theorem dL_law_841 : decode cL_law 841 = .ok (.iadd, 1) := fdg (k := 816) (p := 25) hdk_816 dLb_17.2.2.2.2.2.2.2.2.2.2.2.2.2.2.2.2.1
theorem dL_law_842 : decode cL_law 842 = .ok (.iaload, 1) := fdg (k := 816) (p := 26) hdk_816 dLb_17.2.2.2.2.2.2.2.2.2.2.2.2.2.2.2.2.2.1
theorem dL_law_843 : decode cL_law 843 = .ok (.invokevirtual 200, 3) := fdg (k := 816) (p := 27) hdk_816 dLb_17.2.2.2.2.2.2.2.2.2.2.2.2.2.2.2.2.2.2.1
theorem dL_law_846 : decode cL_law 846 = .ok (.astore 6, 2) := fdg (k := 816) (p := 30) hdk_816 dLb_17.2.2.2.2.2.2.2.2.2.2.2.2.2.2.2.2.2.2.2.1
theorem dL_law_848 : decode cL_law 848 = .ok (.aload_n 2, 1) := fdg (k := 816) (p := 32) hdk_816 dLb_17.2.2.2.2.2.2.2.2.2.2.2.2.2.2.2.2.2.2.2.2.1
theorem dL_law_849 : decode cL_law 849 = .ok (.invokevirtual 170, 3) := fdg (k := 816) (p := 33) hdk_816 dLb_17.2.2.2.2.2.2.2.2.2.2.2.2.2.2.2.2.2.2.2.2.2.1
theorem dL_law_852 : decode cL_law 852 = .ok (.iload 5, 2) := fdg (k := 816) (p := 36) hdk_816 dLb_17.2.2.2.2.2.2.2.2.2.2.2.2.2.2.2.2.2.2.2.2.2.2.1
theorem dL_law_854 : decode cL_law 854 = .ok (.if_icmp .eq 5, 3) := fdg (k := 816) (p := 38) hdk_816 dLb_17.2.2.2.2.2.2.2.2.2.2.2.2.2.2.2.2.2.2.2.2.2.2.2.1
theorem dL_law_857 : decode cL_law 857 = .ok (.iconst 0, 1) := fdg (k := 816) (p := 41) hdk_816 dLb_17.2.2.2.2.2.2.2.2.2.2.2.2.2.2.2.2.2.2.2.2.2.2.2.2.1
theorem dL_law_858 : decode cL_law 858 = .ok (.ireturn, 1) := fdg (k := 816) (p := 42) hdk_816 dLb_17.2.2.2.2.2.2.2.2.2.2.2.2.2.2.2.2.2.2.2.2.2.2.2.2.2.1
theorem dL_law_859 : decode cL_law 859 = .ok (.iload 5, 2) := fdg (k := 816) (p := 43) hdk_816 dLb_17.2.2.2.2.2.2.2.2.2.2.2.2.2.2.2.2.2.2.2.2.2.2.2.2.2.2.1
theorem dL_law_861 : decode cL_law 861 = .ok (.ifCond .ne 17, 3) := fdg (k := 816) (p := 45) hdk_816 dLb_17.2.2.2.2.2.2.2.2.2.2.2.2.2.2.2.2.2.2.2.2.2.2.2.2.2.2.2
theorem dLb_18 : fdq dk_864 0 (.aload_n 3) 1 = true ∧ fdq dk_864 1 (.getfield 52) 3 = true ∧ fdq dk_864 4 (.aload 6) 2 = true ∧ fdq dk_864 6 (.invokevirtual 201) 3 = true ∧ fdq dk_864 9 (.ifCond .ne 5) 3 = true ∧ fdq dk_864 12 (.iconst 0) 1 = true ∧ fdq dk_864 13 (.ireturn) 1 = true ∧ fdq dk_864 14 (.goto 2434) 3 = true ∧ fdq dk_864 17 (.aload_n 1) 1 = true ∧ fdq dk_864 18 (.aload_n 0) 1 = true ∧ fdq dk_864 19 (.iload 4) 2 = true ∧ fdq dk_864 21 (.iconst 1) 1 = true ∧ fdq dk_864 22 (.iadd) 1 = true ∧ fdq dk_864 23 (.iaload) 1 = true ∧ fdq dk_864 24 (.aload_n 3) 1 = true ∧ fdq dk_864 25 (.invokestatic 207) 3 = true ∧ fdq dk_864 28 (.istore 5) 2 = true ∧ fdq dk_864 30 (.aload_n 2) 1 = true ∧ fdq dk_864 31 (.aload_n 0) 1 = true ∧ fdq dk_864 32 (.iload 4) 2 = true ∧ fdq dk_864 34 (.iconst 1) 1 = true ∧ fdq dk_864 35 (.iadd) 1 = true ∧ fdq dk_864 36 (.iaload) 1 = true ∧ fdq dk_864 37 (.invokevirtual 209) 3 = true ∧ fdq dk_864 40 (.astore 6) 2 = true ∧ fdq dk_864 42 (.aload_n 2) 1 = true ∧ fdq dk_864 43 (.invokevirtual 170) 3 = true ∧ fdq dk_864 46 (.iload 5) 2 = true := by decide +kernel
theorem dL_law_864 : decode cL_law 864 = .ok (.aload_n 3, 1) := fdg (k := 864) (p := 0) hdk_864 dLb_18.1
theorem dL_law_865 : decode cL_law 865 = .ok (.getfield 52, 3) := fdg (k := 864) (p := 1) hdk_864 dLb_18.2.1
theorem dL_law_868 : decode cL_law 868 = .ok (.aload 6, 2) := fdg (k := 864) (p := 4) hdk_864 dLb_18.2.2.1
theorem dL_law_870 : decode cL_law 870 = .ok (.invokevirtual 201, 3) := fdg (k := 864) (p := 6) hdk_864 dLb_18.2.2.2.1
theorem dL_law_873 : decode cL_law 873 = .ok (.ifCond .ne 5, 3) := fdg (k := 864) (p := 9) hdk_864 dLb_18.2.2.2.2.1
theorem dL_law_876 : decode cL_law 876 = .ok (.iconst 0, 1) := fdg (k := 864) (p := 12) hdk_864 dLb_18.2.2.2.2.2.1
theorem dL_law_877 : decode cL_law 877 = .ok (.ireturn, 1) := fdg (k := 864) (p := 13) hdk_864 dLb_18.2.2.2.2.2.2.1
theorem dL_law_878 : decode cL_law 878 = .ok (.goto 2434, 3) := fdg (k := 864) (p := 14) hdk_864 dLb_18.2.2.2.2.2.2.2.1
theorem dL_law_881 : decode cL_law 881 = .ok (.aload_n 1, 1) := fdg (k := 864) (p := 17) hdk_864 dLb_18.2.2.2.2.2.2.2.2.1
theorem dL_law_882 : decode cL_law 882 = .ok (.aload_n 0, 1) := fdg (k := 864) (p := 18) hdk_864 dLb_18.2.2.2.2.2.2.2.2.2.1
theorem dL_law_883 : decode cL_law 883 = .ok (.iload 4, 2) := fdg (k := 864) (p := 19) hdk_864 dLb_18.2.2.2.2.2.2.2.2.2.2.1
theorem dL_law_885 : decode cL_law 885 = .ok (.iconst 1, 1) := fdg (k := 864) (p := 21) hdk_864 dLb_18.2.2.2.2.2.2.2.2.2.2.2.1
theorem dL_law_886 : decode cL_law 886 = .ok (.iadd, 1) := fdg (k := 864) (p := 22) hdk_864 dLb_18.2.2.2.2.2.2.2.2.2.2.2.2.1
theorem dL_law_887 : decode cL_law 887 = .ok (.iaload, 1) := fdg (k := 864) (p := 23) hdk_864 dLb_18.2.2.2.2.2.2.2.2.2.2.2.2.2.1
theorem dL_law_888 : decode cL_law 888 = .ok (.aload_n 3, 1) := fdg (k := 864) (p := 24) hdk_864 dLb_18.2.2.2.2.2.2.2.2.2.2.2.2.2.2.1
theorem dL_law_889 : decode cL_law 889 = .ok (.invokestatic 207, 3) := fdg (k := 864) (p := 25) hdk_864 dLb_18.2.2.2.2.2.2.2.2.2.2.2.2.2.2.2.1
theorem dL_law_892 : decode cL_law 892 = .ok (.istore 5, 2) := fdg (k := 864) (p := 28) hdk_864 dLb_18.2.2.2.2.2.2.2.2.2.2.2.2.2.2.2.2.1
theorem dL_law_894 : decode cL_law 894 = .ok (.aload_n 2, 1) := fdg (k := 864) (p := 30) hdk_864 dLb_18.2.2.2.2.2.2.2.2.2.2.2.2.2.2.2.2.2.1
theorem dL_law_895 : decode cL_law 895 = .ok (.aload_n 0, 1) := fdg (k := 864) (p := 31) hdk_864 dLb_18.2.2.2.2.2.2.2.2.2.2.2.2.2.2.2.2.2.2.1
theorem dL_law_896 : decode cL_law 896 = .ok (.iload 4, 2) := fdg (k := 864) (p := 32) hdk_864 dLb_18.2.2.2.2.2.2.2.2.2.2.2.2.2.2.2.2.2.2.2.1
theorem dL_law_898 : decode cL_law 898 = .ok (.iconst 1, 1) := fdg (k := 864) (p := 34) hdk_864 dLb_18.2.2.2.2.2.2.2.2.2.2.2.2.2.2.2.2.2.2.2.2.1
theorem dL_law_899 : decode cL_law 899 = .ok (.iadd, 1) := fdg (k := 864) (p := 35) hdk_864 dLb_18.2.2.2.2.2.2.2.2.2.2.2.2.2.2.2.2.2.2.2.2.2.1
theorem dL_law_900 : decode cL_law 900 = .ok (.iaload, 1) := fdg (k := 864) (p := 36) hdk_864 dLb_18.2.2.2.2.2.2.2.2.2.2.2.2.2.2.2.2.2.2.2.2.2.2.1
theorem dL_law_901 : decode cL_law 901 = .ok (.invokevirtual 209, 3) := fdg (k := 864) (p := 37) hdk_864 dLb_18.2.2.2.2.2.2.2.2.2.2.2.2.2.2.2.2.2.2.2.2.2.2.2.1
theorem dL_law_904 : decode cL_law 904 = .ok (.astore 6, 2) := fdg (k := 864) (p := 40) hdk_864 dLb_18.2.2.2.2.2.2.2.2.2.2.2.2.2.2.2.2.2.2.2.2.2.2.2.2.1
theorem dL_law_906 : decode cL_law 906 = .ok (.aload_n 2, 1) := fdg (k := 864) (p := 42) hdk_864 dLb_18.2.2.2.2.2.2.2.2.2.2.2.2.2.2.2.2.2.2.2.2.2.2.2.2.2.1
theorem dL_law_907 : decode cL_law 907 = .ok (.invokevirtual 170, 3) := fdg (k := 864) (p := 43) hdk_864 dLb_18.2.2.2.2.2.2.2.2.2.2.2.2.2.2.2.2.2.2.2.2.2.2.2.2.2.2.1
theorem dL_law_910 : decode cL_law 910 = .ok (.iload 5, 2) := fdg (k := 864) (p := 46) hdk_864 dLb_18.2.2.2.2.2.2.2.2.2.2.2.2.2.2.2.2.2.2.2.2.2.2.2.2.2.2.2
theorem dLb_19 : fdq dk_912 0 (.if_icmp .eq 5) 3 = true ∧ fdq dk_912 3 (.iconst 0) 1 = true ∧ fdq dk_912 4 (.ireturn) 1 = true ∧ fdq dk_912 5 (.iload 5) 2 = true ∧ fdq dk_912 7 (.ifCond .ne 17) 3 = true ∧ fdq dk_912 10 (.aload_n 3) 1 = true ∧ fdq dk_912 11 (.getfield 52) 3 = true ∧ fdq dk_912 14 (.aload 6) 2 = true ∧ fdq dk_912 16 (.invokevirtual 201) 3 = true ∧ fdq dk_912 19 (.ifCond .ne 5) 3 = true ∧ fdq dk_912 22 (.iconst 0) 1 = true ∧ fdq dk_912 23 (.ireturn) 1 = true ∧ fdq dk_912 24 (.goto 2376) 3 = true ∧ fdq dk_912 27 (.aload_n 1) 1 = true ∧ fdq dk_912 28 (.aload_n 0) 1 = true ∧ fdq dk_912 29 (.iload 4) 2 = true ∧ fdq dk_912 31 (.iconst 1) 1 = true ∧ fdq dk_912 32 (.iadd) 1 = true ∧ fdq dk_912 33 (.iaload) 1 = true ∧ fdq dk_912 34 (.aload_n 0) 1 = true ∧ fdq dk_912 35 (.iload 4) 2 = true ∧ fdq dk_912 37 (.iconst 2) 1 = true ∧ fdq dk_912 38 (.iadd) 1 = true ∧ fdq dk_912 39 (.iaload) 1 = true ∧ fdq dk_912 40 (.aload_n 3) 1 = true ∧ fdq dk_912 41 (.invokestatic 210) 3 = true ∧ fdq dk_912 44 (.istore 5) 2 = true ∧ fdq dk_912 46 (.aload_n 2) 1 = true ∧ fdq dk_912 47 (.aload_n 0) 1 = true := by decide +kernel
theorem dL_law_912 : decode cL_law 912 = .ok (.if_icmp .eq 5, 3) := fdg (k := 912) (p := 0) hdk_912 dLb_19.1
theorem dL_law_915 : decode cL_law 915 = .ok (.iconst 0, 1) := fdg (k := 912) (p := 3) hdk_912 dLb_19.2.1
theorem dL_law_916 : decode cL_law 916 = .ok (.ireturn, 1) := fdg (k := 912) (p := 4) hdk_912 dLb_19.2.2.1
theorem dL_law_917 : decode cL_law 917 = .ok (.iload 5, 2) := fdg (k := 912) (p := 5) hdk_912 dLb_19.2.2.2.1
theorem dL_law_919 : decode cL_law 919 = .ok (.ifCond .ne 17, 3) := fdg (k := 912) (p := 7) hdk_912 dLb_19.2.2.2.2.1
theorem dL_law_922 : decode cL_law 922 = .ok (.aload_n 3, 1) := fdg (k := 912) (p := 10) hdk_912 dLb_19.2.2.2.2.2.1
theorem dL_law_923 : decode cL_law 923 = .ok (.getfield 52, 3) := fdg (k := 912) (p := 11) hdk_912 dLb_19.2.2.2.2.2.2.1
theorem dL_law_926 : decode cL_law 926 = .ok (.aload 6, 2) := fdg (k := 912) (p := 14) hdk_912 dLb_19.2.2.2.2.2.2.2.1
theorem dL_law_928 : decode cL_law 928 = .ok (.invokevirtual 201, 3) := fdg (k := 912) (p := 16) hdk_912 dLb_19.2.2.2.2.2.2.2.2.1
theorem dL_law_931 : decode cL_law 931 = .ok (.ifCond .ne 5, 3) := fdg (k := 912) (p := 19) hdk_912 dLb_19.2.2.2.2.2.2.2.2.2.1
theorem dL_law_934 : decode cL_law 934 = .ok (.iconst 0, 1) := fdg (k := 912) (p := 22) hdk_912 dLb_19.2.2.2.2.2.2.2.2.2.2.1
theorem dL_law_935 : decode cL_law 935 = .ok (.ireturn, 1) := fdg (k := 912) (p := 23) hdk_912 dLb_19.2.2.2.2.2.2.2.2.2.2.2.1
theorem dL_law_936 : decode cL_law 936 = .ok (.goto 2376, 3) := fdg (k := 912) (p := 24) hdk_912 dLb_19.2.2.2.2.2.2.2.2.2.2.2.2.1
theorem dL_law_939 : decode cL_law 939 = .ok (.aload_n 1, 1) := fdg (k := 912) (p := 27) hdk_912 dLb_19.2.2.2.2.2.2.2.2.2.2.2.2.2.1
theorem dL_law_940 : decode cL_law 940 = .ok (.aload_n 0, 1) := fdg (k := 912) (p := 28) hdk_912 dLb_19.2.2.2.2.2.2.2.2.2.2.2.2.2.2.1
theorem dL_law_941 : decode cL_law 941 = .ok (.iload 4, 2) := fdg (k := 912) (p := 29) hdk_912 dLb_19.2.2.2.2.2.2.2.2.2.2.2.2.2.2.2.1
theorem dL_law_943 : decode cL_law 943 = .ok (.iconst 1, 1) := fdg (k := 912) (p := 31) hdk_912 dLb_19.2.2.2.2.2.2.2.2.2.2.2.2.2.2.2.2.1
theorem dL_law_944 : decode cL_law 944 = .ok (.iadd, 1) := fdg (k := 912) (p := 32) hdk_912 dLb_19.2.2.2.2.2.2.2.2.2.2.2.2.2.2.2.2.2.1
theorem dL_law_945 : decode cL_law 945 = .ok (.iaload, 1) := fdg (k := 912) (p := 33) hdk_912 dLb_19.2.2.2.2.2.2.2.2.2.2.2.2.2.2.2.2.2.2.1
theorem dL_law_946 : decode cL_law 946 = .ok (.aload_n 0, 1) := fdg (k := 912) (p := 34) hdk_912 dLb_19.2.2.2.2.2.2.2.2.2.2.2.2.2.2.2.2.2.2.2.1
theorem dL_law_947 : decode cL_law 947 = .ok (.iload 4, 2) := fdg (k := 912) (p := 35) hdk_912 dLb_19.2.2.2.2.2.2.2.2.2.2.2.2.2.2.2.2.2.2.2.2.1
theorem dL_law_949 : decode cL_law 949 = .ok (.iconst 2, 1) := fdg (k := 912) (p := 37) hdk_912 dLb_19.2.2.2.2.2.2.2.2.2.2.2.2.2.2.2.2.2.2.2.2.2.1
theorem dL_law_950 : decode cL_law 950 = .ok (.iadd, 1) := fdg (k := 912) (p := 38) hdk_912 dLb_19.2.2.2.2.2.2.2.2.2.2.2.2.2.2.2.2.2.2.2.2.2.2.1
theorem dL_law_951 : decode cL_law 951 = .ok (.iaload, 1) := fdg (k := 912) (p := 39) hdk_912 dLb_19.2.2.2.2.2.2.2.2.2.2.2.2.2.2.2.2.2.2.2.2.2.2.2.1
theorem dL_law_952 : decode cL_law 952 = .ok (.aload_n 3, 1) := fdg (k := 912) (p := 40) hdk_912 dLb_19.2.2.2.2.2.2.2.2.2.2.2.2.2.2.2.2.2.2.2.2.2.2.2.2.1
theorem dL_law_953 : decode cL_law 953 = .ok (.invokestatic 210, 3) := fdg (k := 912) (p := 41) hdk_912 dLb_19.2.2.2.2.2.2.2.2.2.2.2.2.2.2.2.2.2.2.2.2.2.2.2.2.2.1
theorem dL_law_956 : decode cL_law 956 = .ok (.istore 5, 2) := fdg (k := 912) (p := 44) hdk_912 dLb_19.2.2.2.2.2.2.2.2.2.2.2.2.2.2.2.2.2.2.2.2.2.2.2.2.2.2.1
theorem dL_law_958 : decode cL_law 958 = .ok (.aload_n 2, 1) := fdg (k := 912) (p := 46) hdk_912 dLb_19.2.2.2.2.2.2.2.2.2.2.2.2.2.2.2.2.2.2.2.2.2.2.2.2.2.2.2.1
theorem dL_law_959 : decode cL_law 959 = .ok (.aload_n 0, 1) := fdg (k := 912) (p := 47) hdk_912 dLb_19.2.2.2.2.2.2.2.2.2.2.2.2.2.2.2.2.2.2.2.2.2.2.2.2.2.2.2.2
theorem dLb_20 : fdq dk_960 0 (.iload 4) 2 = true ∧ fdq dk_960 2 (.iconst 1) 1 = true ∧ fdq dk_960 3 (.iadd) 1 = true ∧ fdq dk_960 4 (.iaload) 1 = true ∧ fdq dk_960 5 (.aload_n 0) 1 = true ∧ fdq dk_960 6 (.iload 4) 2 = true ∧ fdq dk_960 8 (.iconst 2) 1 = true ∧ fdq dk_960 9 (.iadd) 1 = true ∧ fdq dk_960 10 (.iaload) 1 = true ∧ fdq dk_960 11 (.invokevirtual 212) 3 = true ∧ fdq dk_960 14 (.istore 6) 2 = true ∧ fdq dk_960 16 (.aload_n 2) 1 = true ∧ fdq dk_960 17 (.invokevirtual 170) 3 = true ∧ fdq dk_960 20 (.iload 5) 2 = true ∧ fdq dk_960 22 (.if_icmp .eq 5) 3 = true ∧ fdq dk_960 25 (.iconst 0) 1 = true ∧ fdq dk_960 26 (.ireturn) 1 = true ∧ fdq dk_960 27 (.iload 5) 2 = true ∧ fdq dk_960 29 (.ifCond .ne 16) 3 = true ∧ fdq dk_960 32 (.aload_n 3) 1 = true ∧ fdq dk_960 33 (.getfield 13) 3 = true ∧ fdq dk_960 36 (.iload 6) 2 = true ∧ fdq dk_960 38 (.i2l) 1 = true ∧ fdq dk_960 39 (.lcmp) 1 = true ∧ fdq dk_960 40 (.ifCond .eq 5) 3 = true ∧ fdq dk_960 43 (.iconst 0) 1 = true ∧ fdq dk_960 44 (.ireturn) 1 = true ∧ fdq dk_960 45 (.goto 2307) 3 = true := by decide +kernel
theorem dL_law_960 : decode cL_law 960 = .ok (.iload 4, 2) := fdg (k := 960) (p := 0) hdk_960 dLb_20.1
theorem dL_law_962 : decode cL_law 962 = .ok (.iconst 1, 1) := fdg (k := 960) (p := 2) hdk_960 dLb_20.2.1
theorem dL_law_963 : decode cL_law 963 = .ok (.iadd, 1) := fdg (k := 960) (p := 3) hdk_960 dLb_20.2.2.1
theorem dL_law_964 : decode cL_law 964 = .ok (.iaload, 1) := fdg (k := 960) (p := 4) hdk_960 dLb_20.2.2.2.1
theorem dL_law_965 : decode cL_law 965 = .ok (.aload_n 0, 1) := fdg (k := 960) (p := 5) hdk_960 dLb_20.2.2.2.2.1
theorem dL_law_966 : decode cL_law 966 = .ok (.iload 4, 2) := fdg (k := 960) (p := 6) hdk_960 dLb_20.2.2.2.2.2.1
theorem dL_law_968 : decode cL_law 968 = .ok (.iconst 2, 1) := fdg (k := 960) (p := 8) hdk_960 dLb_20.2.2.2.2.2.2.1
theorem dL_law_969 : decode cL_law 969 = .ok (.iadd, 1) := fdg (k := 960) (p := 9) hdk_960 dLb_20.2.2.2.2.2.2.2.1
theorem dL_law_970 : decode cL_law 970 = .ok (.iaload, 1) := fdg (k := 960) (p := 10) hdk_960 dLb_20.2.2.2.2.2.2.2.2.1
theorem dL_law_971 : decode cL_law 971 = .ok (.invokevirtual 212, 3) := fdg (k := 960) (p := 11) hdk_960 dLb_20.2.2.2.2.2.2.2.2.2.1
theorem dL_law_974 : decode cL_law 974 = .ok (.istore 6, 2) := fdg (k := 960) (p := 14) hdk_960 dLb_20.2.2.2.2.2.2.2.2.2.2.1
theorem dL_law_976 : decode cL_law 976 = .ok (.aload_n 2, 1) := fdg (k := 960) (p := 16) hdk_960 dLb_20.2.2.2.2.2.2.2.2.2.2.2.1
theorem dL_law_977 : decode cL_law 977 = .ok (.invokevirtual 170, 3) := fdg (k := 960) (p := 17) hdk_960 dLb_20.2.2.2.2.2.2.2.2.2.2.2.2.1
theorem dL_law_980 : decode cL_law 980 = .ok (.iload 5, 2) := fdg (k := 960) (p := 20) hdk_960 dLb_20.2.2.2.2.2.2.2.2.2.2.2.2.2.1
theorem dL_law_982 : decode cL_law 982 = .ok (.if_icmp .eq 5, 3) := fdg (k := 960) (p := 22) hdk_960 dLb_20.2.2.2.2.2.2.2.2.2.2.2.2.2.2.1
theorem dL_law_985 : decode cL_law 985 = .ok (.iconst 0, 1) := fdg (k := 960) (p := 25) hdk_960 dLb_20.2.2.2.2.2.2.2.2.2.2.2.2.2.2.2.1
theorem dL_law_986 : decode cL_law 986 = .ok (.ireturn, 1) := fdg (k := 960) (p := 26) hdk_960 dLb_20.2.2.2.2.2.2.2.2.2.2.2.2.2.2.2.2.1
theorem dL_law_987 : decode cL_law 987 = .ok (.iload 5, 2) := fdg (k := 960) (p := 27) hdk_960 dLb_20.2.2.2.2.2.2.2.2.2.2.2.2.2.2.2.2.2.1
theorem dL_law_989 : decode cL_law 989 = .ok (.ifCond .ne 16, 3) := fdg (k := 960) (p := 29) hdk_960 dLb_20.2.2.2.2.2.2.2.2.2.2.2.2.2.2.2.2.2.2.1
theorem dL_law_992 : decode cL_law 992 = .ok (.aload_n 3, 1) := fdg (k := 960) (p := 32) hdk_960 dLb_20.2.2.2.2.2.2.2.2.2.2.2.2.2.2.2.2.2.2.2.1
theorem dL_law_993 : decode cL_law 993 = .ok (.getfield 13, 3) := fdg (k := 960) (p := 33) hdk_960 dLb_20.2.2.2.2.2.2.2.2.2.2.2.2.2.2.2.2.2.2.2.2.1
theorem dL_law_996 : decode cL_law 996 = .ok (.iload 6, 2) := fdg (k := 960) (p := 36) hdk_960 dLb_20.2.2.2.2.2.2.2.2.2.2.2.2.2.2.2.2.2.2.2.2.2.1
theorem dL_law_998 : decode cL_law 998 = .ok (.i2l, 1) := fdg (k := 960) (p := 38) hdk_960 dLb_20.2.2.2.2.2.2.2.2.2.2.2.2.2.2.2.2.2.2.2.2.2.2.1
theorem dL_law_999 : decode cL_law 999 = .ok (.lcmp, 1) := fdg (k := 960) (p := 39) hdk_960 dLb_20.2.2.2.2.2.2.2.2.2.2.2.2.2.2.2.2.2.2.2.2.2.2.2.1
theorem dL_law_1000 : decode cL_law 1000 = .ok (.ifCond .eq 5, 3) := fdg (k := 960) (p := 40) hdk_960 dLb_20.2.2.2.2.2.2.2.2.2.2.2.2.2.2.2.2.2.2.2.2.2.2.2.2.1
theorem dL_law_1003 : decode cL_law 1003 = .ok (.iconst 0, 1) := fdg (k := 960) (p := 43) hdk_960 dLb_20.2.2.2.2.2.2.2.2.2.2.2.2.2.2.2.2.2.2.2.2.2.2.2.2.2.1
theorem dL_law_1004 : decode cL_law 1004 = .ok (.ireturn, 1) := fdg (k := 960) (p := 44) hdk_960 dLb_20.2.2.2.2.2.2.2.2.2.2.2.2.2.2.2.2.2.2.2.2.2.2.2.2.2.2.1
theorem dL_law_1005 : decode cL_law 1005 = .ok (.goto 2307, 3) := fdg (k := 960) (p := 45) hdk_960 dLb_20.2.2.2.2.2.2.2.2.2.2.2.2.2.2.2.2.2.2.2.2.2.2.2.2.2.2.2
theorem dLb_21 : fdq dk_1008 0 (.aload_n 1) 1 = true ∧ fdq dk_1008 1 (.aload_n 0) 1 = true ∧ fdq dk_1008 2 (.iload 4) 2 = true ∧ fdq dk_1008 4 (.iconst 1) 1 = true ∧ fdq dk_1008 5 (.iadd) 1 = true ∧ fdq dk_1008 6 (.iaload) 1 = true ∧ fdq dk_1008 7 (.aload_n 0) 1 = true ∧ fdq dk_1008 8 (.iload 4) 2 = true ∧ fdq dk_1008 10 (.iconst 2) 1 = true ∧ fdq dk_1008 11 (.iadd) 1 = true ∧ fdq dk_1008 12 (.iaload) 1 = true ∧ fdq dk_1008 13 (.aload_n 3) 1 = true ∧ fdq dk_1008 14 (.invokestatic 213) 3 = true ∧ fdq dk_1008 17 (.istore 5) 2 = true ∧ fdq dk_1008 19 (.aload_n 2) 1 = true ∧ fdq dk_1008 20 (.aload_n 0) 1 = true ∧ fdq dk_1008 21 (.iload 4) 2 = true ∧ fdq dk_1008 23 (.iconst 1) 1 = true ∧ fdq dk_1008 24 (.iadd) 1 = true ∧ fdq dk_1008 25 (.iaload) 1 = true ∧ fdq dk_1008 26 (.aload_n 0) 1 = true ∧ fdq dk_1008 27 (.iload 4) 2 = true ∧ fdq dk_1008 29 (.iconst 2) 1 = true ∧ fdq dk_1008 30 (.iadd) 1 = true ∧ fdq dk_1008 31 (.iaload) 1 = true ∧ fdq dk_1008 32 (.invokevirtual 215) 3 = true ∧ fdq dk_1008 35 (.istore 6) 2 = true ∧ fdq dk_1008 37 (.aload_n 2) 1 = true ∧ fdq dk_1008 38 (.invokevirtual 170) 3 = true ∧ fdq dk_1008 41 (.iload 5) 2 = true ∧ fdq dk_1008 43 (.if_icmp .eq 5) 3 = true ∧ fdq dk_1008 46 (.iconst 0) 1 = true := by decide +kernel
theorem dL_law_1008 : decode cL_law 1008 = .ok (.aload_n 1, 1) := fdg (k := 1008) (p := 0) hdk_1008 dLb_21.1
theorem dL_law_1009 : decode cL_law 1009 = .ok (.aload_n 0, 1) := fdg (k := 1008) (p := 1) hdk_1008 dLb_21.2.1
theorem dL_law_1010 : decode cL_law 1010 = .ok (.iload 4, 2) := fdg (k := 1008) (p := 2) hdk_1008 dLb_21.2.2.1
theorem dL_law_1012 : decode cL_law 1012 = .ok (.iconst 1, 1) := fdg (k := 1008) (p := 4) hdk_1008 dLb_21.2.2.2.1
theorem dL_law_1013 : decode cL_law 1013 = .ok (.iadd, 1) := fdg (k := 1008) (p := 5) hdk_1008 dLb_21.2.2.2.2.1
theorem dL_law_1014 : decode cL_law 1014 = .ok (.iaload, 1) := fdg (k := 1008) (p := 6) hdk_1008 dLb_21.2.2.2.2.2.1
theorem dL_law_1015 : decode cL_law 1015 = .ok (.aload_n 0, 1) := fdg (k := 1008) (p := 7) hdk_1008 dLb_21.2.2.2.2.2.2.1
theorem dL_law_1016 : decode cL_law 1016 = .ok (.iload 4, 2) := fdg (k := 1008) (p := 8) hdk_1008 dLb_21.2.2.2.2.2.2.2.1
theorem dL_law_1018 : decode cL_law 1018 = .ok (.iconst 2, 1) := fdg (k := 1008) (p := 10) hdk_1008 dLb_21.2.2.2.2.2.2.2.2.1
theorem dL_law_1019 : decode cL_law 1019 = .ok (.iadd, 1) := fdg (k := 1008) (p := 11) hdk_1008 dLb_21.2.2.2.2.2.2.2.2.2.1
theorem dL_law_1020 : decode cL_law 1020 = .ok (.iaload, 1) := fdg (k := 1008) (p := 12) hdk_1008 dLb_21.2.2.2.2.2.2.2.2.2.2.1
theorem dL_law_1021 : decode cL_law 1021 = .ok (.aload_n 3, 1) := fdg (k := 1008) (p := 13) hdk_1008 dLb_21.2.2.2.2.2.2.2.2.2.2.2.1
theorem dL_law_1022 : decode cL_law 1022 = .ok (.invokestatic 213, 3) := fdg (k := 1008) (p := 14) hdk_1008 dLb_21.2.2.2.2.2.2.2.2.2.2.2.2.1
theorem dL_law_1025 : decode cL_law 1025 = .ok (.istore 5, 2) := fdg (k := 1008) (p := 17) hdk_1008 dLb_21.2.2.2.2.2.2.2.2.2.2.2.2.2.1
theorem dL_law_1027 : decode cL_law 1027 = .ok (.aload_n 2, 1) := fdg (k := 1008) (p := 19) hdk_1008 dLb_21.2.2.2.2.2.2.2.2.2.2.2.2.2.2.1
theorem dL_law_1028 : decode cL_law 1028 = .ok (.aload_n 0, 1) := fdg (k := 1008) (p := 20) hdk_1008 dLb_21.2.2.2.2.2.2.2.2.2.2.2.2.2.2.2.1
theorem dL_law_1029 : decode cL_law 1029 = .ok (.iload 4, 2) := fdg (k := 1008) (p := 21) hdk_1008 dLb_21.2.2.2.2.2.2.2.2.2.2.2.2.2.2.2.2.1
theorem dL_law_1031 : decode cL_law 1031 = .ok (.iconst 1, 1) := fdg (k := 1008) (p := 23) hdk_1008 dLb_21.2.2.2.2.2.2.2.2.2.2.2.2.2.2.2.2.2.1
theorem dL_law_1032 : decode cL_law 1032 = .ok (.iadd, 1) := fdg (k := 1008) (p := 24) hdk_1008 dLb_21.2.2.2.2.2.2.2.2.2.2.2.2.2.2.2.2.2.2.1
theorem dL_law_1033 : decode cL_law 1033 = .ok (.iaload, 1) := fdg (k := 1008) (p := 25) hdk_1008 dLb_21.2.2.2.2.2.2.2.2.2.2.2.2.2.2.2.2.2.2.2.1
theorem dL_law_1034 : decode cL_law 1034 = .ok (.aload_n 0, 1) := fdg (k := 1008) (p := 26) hdk_1008 dLb_21.2.2.2.2.2.2.2.2.2.2.2.2.2.2.2.2.2.2.2.2.1
theorem dL_law_1035 : decode cL_law 1035 = .ok (.iload 4, 2) := fdg (k := 1008) (p := 27) hdk_1008 dLb_21.2.2.2.2.2.2.2.2.2.2.2.2.2.2.2.2.2.2.2.2.2.1
theorem dL_law_1037 : decode cL_law 1037 = .ok (.iconst 2, 1) := fdg (k := 1008) (p := 29) hdk_1008 dLb_21.2.2.2.2.2.2.2.2.2.2.2.2.2.2.2.2.2.2.2.2.2.2.1
theorem dL_law_1038 : decode cL_law 1038 = .ok (.iadd, 1) := fdg (k := 1008) (p := 30) hdk_1008 dLb_21.2.2.2.2.2.2.2.2.2.2.2.2.2.2.2.2.2.2.2.2.2.2.2.1
theorem dL_law_1039 : decode cL_law 1039 = .ok (.iaload, 1) := fdg (k := 1008) (p := 31) hdk_1008 dLb_21.2.2.2.2.2.2.2.2.2.2.2.2.2.2.2.2.2.2.2.2.2.2.2.2.1
theorem dL_law_1040 : decode cL_law 1040 = .ok (.invokevirtual 215, 3) := fdg (k := 1008) (p := 32) hdk_1008 dLb_21.2.2.2.2.2.2.2.2.2.2.2.2.2.2.2.2.2.2.2.2.2.2.2.2.2.1
theorem dL_law_1043 : decode cL_law 1043 = .ok (.istore 6, 2) := fdg (k := 1008) (p := 35) hdk_1008 dLb_21.2.2.2.2.2.2.2.2.2.2.2.2.2.2.2.2.2.2.2.2.2.2.2.2.2.2.1
theorem dL_law_1045 : decode cL_law 1045 = .ok (.aload_n 2, 1) := fdg (k := 1008) (p := 37) hdk_1008 dLb_21.2.2.2.2.2.2.2.2.2.2.2.2.2.2.2.2.2.2.2.2.2.2.2.2.2.2.2.1
theorem dL_law_1046 : decode cL_law 1046 = .ok (.invokevirtual 170, 3) := fdg (k := 1008) (p := 38) hdk_1008 dLb_21.2.2.2.2.2.2.2.2.2.2.2.2.2.2.2.2.2.2.2.2.2.2.2.2.2.2.2.2.1
theorem dL_law_1049 : decode cL_law 1049 = .ok (.iload 5, 2) := fdg (k := 1008) (p := 41) hdk_1008 dLb_21.2.2.2.2.2.2.2.2.2.2.2.2.2.2.2.2.2.2.2.2.2.2.2.2.2.2.2.2.2.1
theorem dL_law_1051 : decode cL_law 1051 = .ok (.if_icmp .eq 5, 3) := fdg (k := 1008) (p := 43) hdk_1008 dLb_21.2.2.2.2.2.2.2.2.2.2.2.2.2.2.2.2.2.2.2.2.2.2.2.2.2.2.2.2.2.2.1
theorem dL_law_1054 : decode cL_law 1054 = .ok (.iconst 0, 1) := fdg (k := 1008) (p := 46) hdk_1008 dLb_21.2.2.2.2.2.2.2.2.2.2.2.2.2.2.2.2.2.2.2.2.2.2.2.2.2.2.2.2.2.2.2
theorem dLb_22 : fdq dk_1008 47 (.ireturn) 1 = true := by decide +kernel
theorem dL_law_1055 : decode cL_law 1055 = .ok (.ireturn, 1) := fdg (k := 1008) (p := 47) hdk_1008 dLb_22
theorem dLb_23 : fdq dk_1056 0 (.iload 5) 2 = true ∧ fdq dk_1056 2 (.ifCond .ne 16) 3 = true ∧ fdq dk_1056 5 (.aload_n 3) 1 = true ∧ fdq dk_1056 6 (.getfield 13) 3 = true ∧ fdq dk_1056 9 (.iload 6) 2 = true ∧ fdq dk_1056 11 (.i2l) 1 = true ∧ fdq dk_1056 12 (.lcmp) 1 = true ∧ fdq dk_1056 13 (.ifCond .eq 5) 3 = true ∧ fdq dk_1056 16 (.iconst 0) 1 = true ∧ fdq dk_1056 17 (.ireturn) 1 = true ∧ fdq dk_1056 18 (.goto 2238) 3 = true ∧ fdq dk_1056 21 (.aload_n 1) 1 = true ∧ fdq dk_1056 22 (.aload_n 0) 1 = true ∧ fdq dk_1056 23 (.iload 4) 2 = true ∧ fdq dk_1056 25 (.iconst 1) 1 = true ∧ fdq dk_1056 26 (.iadd) 1 = true ∧ fdq dk_1056 27 (.iaload) 1 = true ∧ fdq dk_1056 28 (.aload_n 0) 1 = true ∧ fdq dk_1056 29 (.iload 4) 2 = true ∧ fdq dk_1056 31 (.iconst 2) 1 = true ∧ fdq dk_1056 32 (.iadd) 1 = true ∧ fdq dk_1056 33 (.iaload) 1 = true ∧ fdq dk_1056 34 (.aload_n 3) 1 = true ∧ fdq dk_1056 35 (.invokestatic 216) 3 = true ∧ fdq dk_1056 38 (.istore 5) 2 = true ∧ fdq dk_1056 40 (.aload_n 2) 1 = true ∧ fdq dk_1056 41 (.aload_n 0) 1 = true ∧ fdq dk_1056 42 (.iload 4) 2 = true ∧ fdq dk_1056 44 (.iconst 1) 1 = true ∧ fdq dk_1056 45 (.iadd) 1 = true ∧ fdq dk_1056 46 (.iaload) 1 = true ∧ fdq dk_1056 47 (.aload_n 0) 1 = true := by decide +kernel
theorem dL_law_1056 : decode cL_law 1056 = .ok (.iload 5, 2) := fdg (k := 1056) (p := 0) hdk_1056 dLb_23.1
theorem dL_law_1058 : decode cL_law 1058 = .ok (.ifCond .ne 16, 3) := fdg (k := 1056) (p := 2) hdk_1056 dLb_23.2.1
theorem dL_law_1061 : decode cL_law 1061 = .ok (.aload_n 3, 1) := fdg (k := 1056) (p := 5) hdk_1056 dLb_23.2.2.1
theorem dL_law_1062 : decode cL_law 1062 = .ok (.getfield 13, 3) := fdg (k := 1056) (p := 6) hdk_1056 dLb_23.2.2.2.1
theorem dL_law_1065 : decode cL_law 1065 = .ok (.iload 6, 2) := fdg (k := 1056) (p := 9) hdk_1056 dLb_23.2.2.2.2.1
theorem dL_law_1067 : decode cL_law 1067 = .ok (.i2l, 1) := fdg (k := 1056) (p := 11) hdk_1056 dLb_23.2.2.2.2.2.1
theorem dL_law_1068 : decode cL_law 1068 = .ok (.lcmp, 1) := fdg (k := 1056) (p := 12) hdk_1056 dLb_23.2.2.2.2.2.2.1
theorem dL_law_1069 : decode cL_law 1069 = .ok (.ifCond .eq 5, 3) := fdg (k := 1056) (p := 13) hdk_1056 dLb_23.2.2.2.2.2.2.2.1
theorem dL_law_1072 : decode cL_law 1072 = .ok (.iconst 0, 1) := fdg (k := 1056) (p := 16) hdk_1056 dLb_23.2.2.2.2.2.2.2.2.1
theorem dL_law_1073 : decode cL_law 1073 = .ok (.ireturn, 1) := fdg (k := 1056) (p := 17) hdk_1056 dLb_23.2.2.2.2.2.2.2.2.2.1
theorem dL_law_1074 : decode cL_law 1074 = .ok (.goto 2238, 3) := fdg (k := 1056) (p := 18) hdk_1056 dLb_23.2.2.2.2.2.2.2.2.2.2.1
theorem dL_law_1077 : decode cL_law 1077 = .ok (.aload_n 1, 1) := fdg (k := 1056) (p := 21) hdk_1056 dLb_23.2.2.2.2.2.2.2.2.2.2.2.1
theorem dL_law_1078 : decode cL_law 1078 = .ok (.aload_n 0, 1) := fdg (k := 1056) (p := 22) hdk_1056 dLb_23.2.2.2.2.2.2.2.2.2.2.2.2.1
theorem dL_law_1079 : decode cL_law 1079 = .ok (.iload 4, 2) := fdg (k := 1056) (p := 23) hdk_1056 dLb_23.2.2.2.2.2.2.2.2.2.2.2.2.2.1
theorem dL_law_1081 : decode cL_law 1081 = .ok (.iconst 1, 1) := fdg (k := 1056) (p := 25) hdk_1056 dLb_23.2.2.2.2.2.2.2.2.2.2.2.2.2.2.1
theorem dL_law_1082 : decode cL_law 1082 = .ok (.iadd, 1) := fdg (k := 1056) (p := 26) hdk_1056 dLb_23.2.2.2.2.2.2.2.2.2.2.2.2.2.2.2.1
theorem dL_law_1083 : decode cL_law 1083 = .ok (.iaload, 1) := fdg (k := 1056) (p := 27) hdk_1056 dLb_23.2.2.2.2.2.2.2.2.2.2.2.2.2.2.2.2.1
theorem dL_law_1084 : decode cL_law 1084 = .ok (.aload_n 0, 1) := fdg (k := 1056) (p := 28) hdk_1056 dLb_23.2.2.2.2.2.2.2.2.2.2.2.2.2.2.2.2.2.1
theorem dL_law_1085 : decode cL_law 1085 = .ok (.iload 4, 2) := fdg (k := 1056) (p := 29) hdk_1056 dLb_23.2.2.2.2.2.2.2.2.2.2.2.2.2.2.2.2.2.2.1
theorem dL_law_1087 : decode cL_law 1087 = .ok (.iconst 2, 1) := fdg (k := 1056) (p := 31) hdk_1056 dLb_23.2.2.2.2.2.2.2.2.2.2.2.2.2.2.2.2.2.2.2.1
theorem dL_law_1088 : decode cL_law 1088 = .ok (.iadd, 1) := fdg (k := 1056) (p := 32) hdk_1056 dLb_23.2.2.2.2.2.2.2.2.2.2.2.2.2.2.2.2.2.2.2.2.1
theorem dL_law_1089 : decode cL_law 1089 = .ok (.iaload, 1) := fdg (k := 1056) (p := 33) hdk_1056 dLb_23.2.2.2.2.2.2.2.2.2.2.2.2.2.2.2.2.2.2.2.2.2.1
theorem dL_law_1090 : decode cL_law 1090 = .ok (.aload_n 3, 1) := fdg (k := 1056) (p := 34) hdk_1056 dLb_23.2.2.2.2.2.2.2.2.2.2.2.2.2.2.2.2.2.2.2.2.2.2.1
theorem dL_law_1091 : decode cL_law 1091 = .ok (.invokestatic 216, 3) := fdg (k := 1056) (p := 35) hdk_1056 dLb_23.2.2.2.2.2.2.2.2.2.2.2.2.2.2.2.2.2.2.2.2.2.2.2.1
theorem dL_law_1094 : decode cL_law 1094 = .ok (.istore 5, 2) := fdg (k := 1056) (p := 38) hdk_1056 dLb_23.2.2.2.2.2.2.2.2.2.2.2.2.2.2.2.2.2.2.2.2.2.2.2.2.1
theorem dL_law_1096 : decode cL_law 1096 = .ok (.aload_n 2, 1) := fdg (k := 1056) (p := 40) hdk_1056 dLb_23.2.2.2.2.2.2.2.2.2.2.2.2.2.2.2.2.2.2.2.2.2.2.2.2.2.1
theorem dL_law_1097 : decode cL_law 1097 = .ok (.aload_n 0, 1) := fdg (k := 1056) (p := 41) hdk_1056 dLb_23.2.2.2.2.2.2.2.2.2.2.2.2.2.2.2.2.2.2.2.2.2.2.2.2.2.2.1
theorem dL_law_1098 : decode cL_law 1098 = .ok (.iload 4, 2) := fdg (k := 1056) (p := 42) hdk_1056 dLb_23.2.2.2.2.2.2.2.2.2.2.2.2.2.2.2.2.2.2.2.2.2.2.2.2.2.2.2.1
theorem dL_law_1100 : decode cL_law 1100 = .ok (.iconst 1, 1) := fdg (k := 1056) (p := 44) hdk_1056 dLb_23.2.2.2.2.2.2.2.2.2.2.2.2.2.2.2.2.2.2.2.2.2.2.2.2.2.2.2.2.1
theorem dL_law_1101 : decode cL_law 1101 = .ok (.iadd, 1) := fdg (k := 1056) (p := 45) hdk_1056 dLb_23.2.2.2.2.2.2.2.2.2.2.2.2.2.2.2.2.2.2.2.2.2.2.2.2.2.2.2.2.2.1
theorem dL_law_1102 : decode cL_law 1102 = .ok (.iaload, 1) := fdg (k := 1056) (p := 46) hdk_1056 dLb_23.2.2.2.2.2.2.2.2.2.2.2.2.2.2.2.2.2.2.2.2.2.2.2.2.2.2.2.2.2.2.1
theorem dL_law_1103 : decode cL_law 1103 = .ok (.aload_n 0, 1) := fdg (k := 1056) (p := 47) hdk_1056 dLb_23.2.2.2.2.2.2.2.2.2.2.2.2.2.2.2.2.2.2.2.2.2.2.2.2.2.2.2.2.2.2.2
theorem dLb_24 : fdq dk_1104 0 (.iload 4) 2 = true ∧ fdq dk_1104 2 (.iconst 2) 1 = true ∧ fdq dk_1104 3 (.iadd) 1 = true ∧ fdq dk_1104 4 (.iaload) 1 = true ∧ fdq dk_1104 5 (.invokevirtual 218) 3 = true ∧ fdq dk_1104 8 (.istore 6) 2 = true ∧ fdq dk_1104 10 (.aload_n 2) 1 = true ∧ fdq dk_1104 11 (.invokevirtual 170) 3 = true ∧ fdq dk_1104 14 (.iload 5) 2 = true ∧ fdq dk_1104 16 (.if_icmp .eq 5) 3 = true ∧ fdq dk_1104 19 (.iconst 0) 1 = true ∧ fdq dk_1104 20 (.ireturn) 1 = true ∧ fdq dk_1104 21 (.iload 5) 2 = true ∧ fdq dk_1104 23 (.ifCond .ne 23) 3 = true ∧ fdq dk_1104 26 (.aload_n 3) 1 = true ∧ fdq dk_1104 27 (.getfield 13) 3 = true ∧ fdq dk_1104 30 (.iload 6) 2 = true ∧ fdq dk_1104 32 (.ifCond .eq 7) 3 = true ∧ fdq dk_1104 35 (.lconst 1) 1 = true ∧ fdq dk_1104 36 (.goto 4) 3 = true ∧ fdq dk_1104 39 (.lconst 0) 1 = true ∧ fdq dk_1104 40 (.lcmp) 1 = true ∧ fdq dk_1104 41 (.ifCond .eq 5) 3 = true ∧ fdq dk_1104 44 (.iconst 0) 1 = true ∧ fdq dk_1104 45 (.ireturn) 1 = true ∧ fdq dk_1104 46 (.goto 2162) 3 = true := by decide +kernel
theorem dL_law_1104 : decode cL_law 1104 = .ok (.iload 4, 2) := fdg (k := 1104) (p := 0) hdk_1104 dLb_24.1
theorem dL_law_1106 : decode cL_law 1106 = .ok (.iconst 2, 1) := fdg (k := 1104) (p := 2) hdk_1104 dLb_24.2.1
theorem dL_law_1107 : decode cL_law 1107 = .ok (.iadd, 1) := fdg (k := 1104) (p := 3) hdk_1104 dLb_24.2.2.1
theorem dL_law_1108 : decode cL_law 1108 = .ok (.iaload, 1) := fdg (k := 1104) (p := 4) hdk_1104 dLb_24.2.2.2.1
theorem dL_law_1109 : decode cL_law 1109 = .ok (.invokevirtual 218, 3) := fdg (k := 1104) (p := 5) hdk_1104 dLb_24.2.2.2.2.1
theorem dL_law_1112 : decode cL_law 1112 = .ok (.istore 6, 2) := fdg (k := 1104) (p := 8) hdk_1104 dLb_24.2.2.2.2.2.1
theorem dL_law_1114 : decode cL_law 1114 = .ok (.aload_n 2, 1) := fdg (k := 1104) (p := 10) hdk_1104 dLb_24.2.2.2.2.2.2.1
theorem dL_law_1115 : decode cL_law 1115 = .ok (.invokevirtual 170, 3) := fdg (k := 1104) (p := 11) hdk_1104 dLb_24.2.2.2.2.2.2.2.1
theorem dL_law_1118 : decode cL_law 1118 = .ok (.iload 5, 2) := fdg (k := 1104) (p := 14) hdk_1104 dLb_24.2.2.2.2.2.2.2.2.1
theorem dL_law_1120 : decode cL_law 1120 = .ok (.if_icmp .eq 5, 3) := fdg (k := 1104) (p := 16) hdk_1104 dLb_24.2.2.2.2.2.2.2.2.2.1
theorem dL_law_1123 : decode cL_law 1123 = .ok (.iconst 0, 1) := fdg (k := 1104) (p := 19) hdk_1104 dLb_24.2.2.2.2.2.2.2.2.2.2.1
theorem dL_law_1124 : decode cL_law 1124 = .ok (.ireturn, 1) := fdg (k := 1104) (p := 20) hdk_1104 dLb_24.2.2.2.2.2.2.2.2.2.2.2.1
theorem dL_law_1125 : decode cL_law 1125 = .ok (.iload 5, 2) := fdg (k := 1104) (p := 21) hdk_1104 dLb_24.2.2.2.2.2.2.2.2.2.2.2.2.1
theorem dL_law_1127 : decode cL_law 1127 = .ok (.ifCond .ne 23, 3) := fdg (k := 1104) (p := 23) hdk_1104 dLb_24.2.2.2.2.2.2.2.2.2.2.2.2.2.1
theorem dL_law_1130 : decode cL_law 1130 = .ok (.aload_n 3, 1) := fdg (k := 1104) (p := 26) hdk_1104 dLb_24.2.2.2.2.2.2.2.2.2.2.2.2.2.2.1
theorem dL_law_1131 : decode cL_law 1131 = .ok (.getfield 13, 3) := fdg (k := 1104) (p := 27) hdk_1104 dLb_24.2.2.2.2.2.2.2.2.2.2.2.2.2.2.2.1
theorem dL_law_1134 : decode cL_law 1134 = .ok (.iload 6, 2) := fdg (k := 1104) (p := 30) hdk_1104 dLb_24.2.2.2.2.2.2.2.2.2.2.2.2.2.2.2.2.1
theorem dL_law_1136 : decode cL_law 1136 = .ok (.ifCond .eq 7, 3) := fdg (k := 1104) (p := 32) hdk_1104 dLb_24.2.2.2.2.2.2.2.2.2.2.2.2.2.2.2.2.2.1
theorem dL_law_1139 : decode cL_law 1139 = .ok (.lconst 1, 1) := fdg (k := 1104) (p := 35) hdk_1104 dLb_24.2.2.2.2.2.2.2.2.2.2.2.2.2.2.2.2.2.2.1
theorem dL_law_1140 : decode cL_law 1140 = .ok (.goto 4, 3) := fdg (k := 1104) (p := 36) hdk_1104 dLb_24.2.2.2.2.2.2.2.2.2.2.2.2.2.2.2.2.2.2.2.1
theorem dL_law_1143 : decode cL_law 1143 = .ok (.lconst 0, 1) := fdg (k := 1104) (p := 39) hdk_1104 dLb_24.2.2.2.2.2.2.2.2.2.2.2.2.2.2.2.2.2.2.2.2.1
theorem dL_law_1144 : decode cL_law 1144 = .ok (.lcmp, 1) := fdg (k := 1104) (p := 40) hdk_1104 dLb_24.2.2.2.2.2.2.2.2.2.2.2.2.2.2.2.2.2.2.2.2.2.1
theorem dL_law_1145 : decode cL_law 1145 = .ok (.ifCond .eq 5, 3) := fdg (k := 1104) (p := 41) hdk_1104 dLb_24.2.2.2.2.2.2.2.2.2.2.2.2.2.2.2.2.2.2.2.2.2.2.1
theorem dL_law_1148 : decode cL_law 1148 = .ok (.iconst 0, 1) := fdg (k := 1104) (p := 44) hdk_1104 dLb_24.2.2.2.2.2.2.2.2.2.2.2.2.2.2.2.2.2.2.2.2.2.2.2.1
theorem dL_law_1149 : decode cL_law 1149 = .ok (.ireturn, 1) := fdg (k := 1104) (p := 45) hdk_1104 dLb_24.2.2.2.2.2.2.2.2.2.2.2.2.2.2.2.2.2.2.2.2.2.2.2.2.1
theorem dL_law_1150 : decode cL_law 1150 = .ok (.goto 2162, 3) := fdg (k := 1104) (p := 46) hdk_1104 dLb_24.2.2.2.2.2.2.2.2.2.2.2.2.2.2.2.2.2.2.2.2.2.2.2.2.2
theorem dLb_25 : fdq dk_1152 1 (.aload_n 1) 1 = true ∧ fdq dk_1152 2 (.aload_n 0) 1 = true ∧ fdq dk_1152 3 (.iload 4) 2 = true ∧ fdq dk_1152 5 (.iconst 1) 1 = true ∧ fdq dk_1152 6 (.iadd) 1 = true ∧ fdq dk_1152 7 (.iaload) 1 = true ∧ fdq dk_1152 8 (.aload_n 0) 1 = true ∧ fdq dk_1152 9 (.iload 4) 2 = true ∧ fdq dk_1152 11 (.iconst 2) 1 = true ∧ fdq dk_1152 12 (.iadd) 1 = true ∧ fdq dk_1152 13 (.iaload) 1 = true ∧ fdq dk_1152 14 (.aload_n 3) 1 = true ∧ fdq dk_1152 15 (.invokestatic 219) 3 = true ∧ fdq dk_1152 18 (.istore 5) 2 = true ∧ fdq dk_1152 20 (.aload_n 2) 1 = true ∧ fdq dk_1152 21 (.aload_n 0) 1 = true ∧ fdq dk_1152 22 (.iload 4) 2 = true ∧ fdq dk_1152 24 (.iconst 1) 1 = true ∧ fdq dk_1152 25 (.iadd) 1 = true ∧ fdq dk_1152 26 (.iaload) 1 = true ∧ fdq dk_1152 27 (.aload_n 0) 1 = true ∧ fdq dk_1152 28 (.iload 4) 2 = true ∧ fdq dk_1152 30 (.iconst 2) 1 = true ∧ fdq dk_1152 31 (.iadd) 1 = true ∧ fdq dk_1152 32 (.iaload) 1 = true ∧ fdq dk_1152 33 (.invokevirtual 221) 3 = true ∧ fdq dk_1152 36 (.istore 6) 2 = true ∧ fdq dk_1152 38 (.aload_n 2) 1 = true ∧ fdq dk_1152 39 (.invokevirtual 170) 3 = true ∧ fdq dk_1152 42 (.iload 5) 2 = true ∧ fdq dk_1152 44 (.if_icmp .eq 5) 3 = true ∧ fdq dk_1152 47 (.iconst 0) 1 = true := by decide +kernel
theorem dL_law_1153 : decode cL_law 1153 = .ok (.aload_n 1, 1) := fdg (k := 1152) (p := 1) hdk_1152 dLb_25.1
theorem dL_law_1154 : decode cL_law 1154 = .ok (.aload_n 0, 1) := fdg (k := 1152) (p := 2) hdk_1152 dLb_25.2.1
theorem dL_law_1155 : decode cL_law 1155 = .ok (.iload 4, 2) := fdg (k := 1152) (p := 3) hdk_1152 dLb_25.2.2.1
theorem dL_law_1157 : decode cL_law 1157 = .ok (.iconst 1, 1) := fdg (k := 1152) (p := 5) hdk_1152 dLb_25.2.2.2.1
theorem dL_law_1158 : decode cL_law 1158 = .ok (.iadd, 1) := fdg (k := 1152) (p := 6) hdk_1152 dLb_25.2.2.2.2.1
theorem dL_law_1159 : decode cL_law 1159 = .ok (.iaload, 1) := fdg (k := 1152) (p := 7) hdk_1152 dLb_25.2.2.2.2.2.1
theorem dL_law_1160 : decode cL_law 1160 = .ok (.aload_n 0, 1) := fdg (k := 1152) (p := 8) hdk_1152 dLb_25.2.2.2.2.2.2.1
theorem dL_law_1161 : decode cL_law 1161 = .ok (.iload 4, 2) := fdg (k := 1152) (p := 9) hdk_1152 dLb_25.2.2.2.2.2.2.2.1
theorem dL_law_1163 : decode cL_law 1163 = .ok (.iconst 2, 1) := fdg (k := 1152) (p := 11) hdk_1152 dLb_25.2.2.2.2.2.2.2.2.1
theorem dL_law_1164 : decode cL_law 1164 = .ok (.iadd, 1) := fdg (k := 1152) (p := 12) hdk_1152 dLb_25.2.2.2.2.2.2.2.2.2.1
theorem dL_law_1165 : decode cL_law 1165 = .ok (.iaload, 1) := fdg (k := 1152) (p := 13) hdk_1152 dLb_25.2.2.2.2.2.2.2.2.2.2.1
theorem dL_law_1166 : decode cL_law 1166 = .ok (.aload_n 3, 1) := fdg (k := 1152) (p := 14) hdk_1152 dLb_25.2.2.2.2.2.2.2.2.2.2.2.1
theorem dL_law_1167 : decode cL_law 1167 = .ok (.invokestatic 219, 3) := fdg (k := 1152) (p := 15) hdk_1152 dLb_25.2.2.2.2.2.2.2.2.2.2.2.2.1
theorem dL_law_1170 : decode cL_law 1170 = .ok (.istore 5, 2) := fdg (k := 1152) (p := 18) hdk_1152 dLb_25.2.2.2.2.2.2.2.2.2.2.2.2.2.1
theorem dL_law_1172 : decode cL_law 1172 = .ok (.aload_n 2, 1) := fdg (k := 1152) (p := 20) hdk_1152 dLb_25.2.2.2.2.2.2.2.2.2.2.2.2.2.2.1
theorem dL_law_1173 : decode cL_law 1173 = .ok (.aload_n 0, 1) := fdg (k := 1152) (p := 21) hdk_1152 dLb_25.2.2.2.2.2.2.2.2.2.2.2.2.2.2.2.1
theorem dL_law_1174 : decode cL_law 1174 = .ok (.iload 4, 2) := fdg (k := 1152) (p := 22) hdk_1152 dLb_25.2.2.2.2.2.2.2.2.2.2.2.2.2.2.2.2.1
theorem dL_law_1176 : decode cL_law 1176 = .ok (.iconst 1, 1) := fdg (k := 1152) (p := 24) hdk_1152 dLb_25.2.2.2.2.2.2.2.2.2.2.2.2.2.2.2.2.2.1
theorem dL_law_1177 : decode cL_law 1177 = .ok (.iadd, 1) := fdg (k := 1152) (p := 25) hdk_1152 dLb_25.2.2.2.2.2.2.2.2.2.2.2.2.2.2.2.2.2.2.1
theorem dL_law_1178 : decode cL_law 1178 = .ok (.iaload, 1) := fdg (k := 1152) (p := 26) hdk_1152 dLb_25.2.2.2.2.2.2.2.2.2.2.2.2.2.2.2.2.2.2.2.1
theorem dL_law_1179 : decode cL_law 1179 = .ok (.aload_n 0, 1) := fdg (k := 1152) (p := 27) hdk_1152 dLb_25.2.2.2.2.2.2.2.2.2.2.2.2.2.2.2.2.2.2.2.2.1
theorem dL_law_1180 : decode cL_law 1180 = .ok (.iload 4, 2) := fdg (k := 1152) (p := 28) hdk_1152 dLb_25.2.2.2.2.2.2.2.2.2.2.2.2.2.2.2.2.2.2.2.2.2.1
theorem dL_law_1182 : decode cL_law 1182 = .ok (.iconst 2, 1) := fdg (k := 1152) (p := 30) hdk_1152 dLb_25.2.2.2.2.2.2.2.2.2.2.2.2.2.2.2.2.2.2.2.2.2.2.1
theorem dL_law_1183 : decode cL_law 1183 = .ok (.iadd, 1) := fdg (k := 1152) (p := 31) hdk_1152 dLb_25.2.2.2.2.2.2.2.2.2.2.2.2.2.2.2.2.2.2.2.2.2.2.2.1
theorem dL_law_1184 : decode cL_law 1184 = .ok (.iaload, 1) := fdg (k := 1152) (p := 32) hdk_1152 dLb_25.2.2.2.2.2.2.2.2.2.2.2.2.2.2.2.2.2.2.2.2.2.2.2.2.1
theorem dL_law_1185 : decode cL_law 1185 = .ok (.invokevirtual 221, 3) := fdg (k := 1152) (p := 33) hdk_1152 dLb_25.2.2.2.2.2.2.2.2.2.2.2.2.2.2.2.2.2.2.2.2.2.2.2.2.2.1
theorem dL_law_1188 : decode cL_law 1188 = .ok (.istore 6, 2) := fdg (k := 1152) (p := 36) hdk_1152 dLb_25.2.2.2.2.2.2.2.2.2.2.2.2.2.2.2.2.2.2.2.2.2.2.2.2.2.2.1
theorem dL_law_1190 : decode cL_law 1190 = .ok (.aload_n 2, 1) := fdg (k := 1152) (p := 38) hdk_1152 dLb_25.2.2.2.2.2.2.2.2.2.2.2.2.2.2.2.2.2.2.2.2.2.2.2.2.2.2.2.1
theorem dL_law_1191 : decode cL_law 1191 = .ok (.invokevirtual 170, 3) := fdg (k := 1152) (p := 39) hdk_1152 dLb_25.2.2.2.2.2.2.2.2.2.2.2.2.2.2.2.2.2.2.2.2.2.2.2.2.2.2.2.2.1
theorem dL_law_1194 : decode cL_law 1194 = .ok (.iload 5, 2) := fdg (k := 1152) (p := 42) hdk_1152 dLb_25.2.2.2.2.2.2.2.2.2.2.2.2.2.2.2.2.2.2.2.2.2.2.2.2.2.2.2.2.2.1
theorem dL_law_1196 : decode cL_law 1196 = .ok (.if_icmp .eq 5, 3) := fdg (k := 1152) (p := 44) hdk_1152 dLb_25.2.2.2.2.2.2.2.2.2.2.2.2.2.2.2.2.2.2.2.2.2.2.2.2.2.2.2.2.2.2.1
theorem dL_law_1199 : decode cL_law 1199 = .ok (.iconst 0, 1) := fdg (k := 1152) (p := 47) hdk_1152 dLb_25.2.2.2.2.2.2.2.2.2.2.2.2.2.2.2.2.2.2.2.2.2.2.2.2.2.2.2.2.2.2.2
theorem dLb_26 : fdq dk_1200 0 (.ireturn) 1 = true ∧ fdq dk_1200 1 (.iload 5) 2 = true ∧ fdq dk_1200 3 (.ifCond .ne 16) 3 = true ∧ fdq dk_1200 6 (.aload_n 3) 1 = true ∧ fdq dk_1200 7 (.getfield 13) 3 = true ∧ fdq dk_1200 10 (.iload 6) 2 = true ∧ fdq dk_1200 12 (.i2l) 1 = true ∧ fdq dk_1200 13 (.lcmp) 1 = true ∧ fdq dk_1200 14 (.ifCond .eq 5) 3 = true ∧ fdq dk_1200 17 (.iconst 0) 1 = true ∧ fdq dk_1200 18 (.ireturn) 1 = true ∧ fdq dk_1200 19 (.goto 2093) 3 = true ∧ fdq dk_1200 22 (.aload_n 1) 1 = true ∧ fdq dk_1200 23 (.aload_n 0) 1 = true ∧ fdq dk_1200 24 (.iload 4) 2 = true ∧ fdq dk_1200 26 (.iconst 1) 1 = true ∧ fdq dk_1200 27 (.iadd) 1 = true ∧ fdq dk_1200 28 (.iaload) 1 = true ∧ fdq dk_1200 29 (.aload_n 0) 1 = true ∧ fdq dk_1200 30 (.iload 4) 2 = true ∧ fdq dk_1200 32 (.iconst 2) 1 = true ∧ fdq dk_1200 33 (.iadd) 1 = true ∧ fdq dk_1200 34 (.iaload) 1 = true ∧ fdq dk_1200 35 (.aload_n 3) 1 = true ∧ fdq dk_1200 36 (.invokestatic 222) 3 = true ∧ fdq dk_1200 39 (.istore 5) 2 = true ∧ fdq dk_1200 41 (.aload_n 2) 1 = true ∧ fdq dk_1200 42 (.aload_n 0) 1 = true ∧ fdq dk_1200 43 (.iload 4) 2 = true ∧ fdq dk_1200 45 (.iconst 1) 1 = true ∧ fdq dk_1200 46 (.iadd) 1 = true ∧ fdq dk_1200 47 (.iaload) 1 = true := by decide +kernel
theorem dL_law_1200 : decode cL_law 1200 = .ok (.ireturn, 1) := fdg (k := 1200) (p := 0) hdk_1200 dLb_26.1
theorem dL_law_1201 : decode cL_law 1201 = .ok (.iload 5, 2) := fdg (k := 1200) (p := 1) hdk_1200 dLb_26.2.1
theorem dL_law_1203 : decode cL_law 1203 = .ok (.ifCond .ne 16, 3) := fdg (k := 1200) (p := 3) hdk_1200 dLb_26.2.2.1
theorem dL_law_1206 : decode cL_law 1206 = .ok (.aload_n 3, 1) := fdg (k := 1200) (p := 6) hdk_1200 dLb_26.2.2.2.1
theorem dL_law_1207 : decode cL_law 1207 = .ok (.getfield 13, 3) := fdg (k := 1200) (p := 7) hdk_1200 dLb_26.2.2.2.2.1
theorem dL_law_1210 : decode cL_law 1210 = .ok (.iload 6, 2) := fdg (k := 1200) (p := 10) hdk_1200 dLb_26.2.2.2.2.2.1
theorem dL_law_1212 : decode cL_law 1212 = .ok (.i2l, 1) := fdg (k := 1200) (p := 12) hdk_1200 dLb_26.2.2.2.2.2.2.1
theorem dL_law_1213 : decode cL_law 1213 = .ok (.lcmp, 1) := fdg (k := 1200) (p := 13) hdk_1200 dLb_26.2.2.2.2.2.2.2.1
theorem dL_law_1214 : decode cL_law 1214 = .ok (.ifCond .eq 5, 3) := fdg (k := 1200) (p := 14) hdk_1200 dLb_26.2.2.2.2.2.2.2.2.1
theorem dL_law_1217 : decode cL_law 1217 = .ok (.iconst 0, 1) := fdg (k := 1200) (p := 17) hdk_1200 dLb_26.2.2.2.2.2.2.2.2.2.1
theorem dL_law_1218 : decode cL_law 1218 = .ok (.ireturn, 1) := fdg (k := 1200) (p := 18) hdk_1200 dLb_26.2.2.2.2.2.2.2.2.2.2.1
theorem dL_law_1219 : decode cL_law 1219 = .ok (.goto 2093, 3) := fdg (k := 1200) (p := 19) hdk_1200 dLb_26.2.2.2.2.2.2.2.2.2.2.2.1
theorem dL_law_1222 : decode cL_law 1222 = .ok (.aload_n 1, 1) := fdg (k := 1200) (p := 22) hdk_1200 dLb_26.2.2.2.2.2.2.2.2.2.2.2.2.1
theorem dL_law_1223 : decode cL_law 1223 = .ok (.aload_n 0, 1) := fdg (k := 1200) (p := 23) hdk_1200 dLb_26.2.2.2.2.2.2.2.2.2.2.2.2.2.1
theorem dL_law_1224 : decode cL_law 1224 = .ok (.iload 4, 2) := fdg (k := 1200) (p := 24) hdk_1200 dLb_26.2.2.2.2.2.2.2.2.2.2.2.2.2.2.1
theorem dL_law_1226 : decode cL_law 1226 = .ok (.iconst 1, 1) := fdg (k := 1200) (p := 26) hdk_1200 dLb_26.2.2.2.2.2.2.2.2.2.2.2.2.2.2.2.1
theorem dL_law_1227 : decode cL_law 1227 = .ok (.iadd, 1) := fdg (k := 1200) (p := 27) hdk_1200 dLb_26.2.2.2.2.2.2.2.2.2.2.2.2.2.2.2.2.1
theorem dL_law_1228 : decode cL_law 1228 = .ok (.iaload, 1) := fdg (k := 1200) (p := 28) hdk_1200 dLb_26.2.2.2.2.2.2.2.2.2.2.2.2.2.2.2.2.2.1
theorem dL_law_1229 : decode cL_law 1229 = .ok (.aload_n 0, 1) := fdg (k := 1200) (p := 29) hdk_1200 dLb_26.2.2.2.2.2.2.2.2.2.2.2.2.2.2.2.2.2.2.1
theorem dL_law_1230 : decode cL_law 1230 = .ok (.iload 4, 2) := fdg (k := 1200) (p := 30) hdk_1200 dLb_26.2.2.2.2.2.2.2.2.2.2.2.2.2.2.2.2.2.2.2.1
theorem dL_law_1232 : decode cL_law 1232 = .ok (.iconst 2, 1) := fdg (k := 1200) (p := 32) hdk_1200 dLb_26.2.2.2.2.2.2.2.2.2.2.2.2.2.2.2.2.2.2.2.2.1
theorem dL_law_1233 : decode cL_law 1233 = .ok (.iadd, 1) := fdg (k := 1200) (p := 33) hdk_1200 dLb_26.2.2.2.2.2.2.2.2.2.2.2.2.2.2.2.2.2.2.2.2.2.1
theorem dL_law_1234 : decode cL_law 1234 = .ok (.iaload, 1) := fdg (k := 1200) (p := 34) hdk_1200 dLb_26.2.2.2.2.2.2.2.2.2.2.2.2.2.2.2.2.2.2.2.2.2.2.1
theorem dL_law_1235 : decode cL_law 1235 = .ok (.aload_n 3, 1) := fdg (k := 1200) (p := 35) hdk_1200 dLb_26.2.2.2.2.2.2.2.2.2.2.2.2.2.2.2.2.2.2.2.2.2.2.2.1
theorem dL_law_1236 : decode cL_law 1236 = .ok (.invokestatic 222, 3) := fdg (k := 1200) (p := 36) hdk_1200 dLb_26.2.2.2.2.2.2.2.2.2.2.2.2.2.2.2.2.2.2.2.2.2.2.2.2.1
theorem dL_law_1239 : decode cL_law 1239 = .ok (.istore 5, 2) := fdg (k := 1200) (p := 39) hdk_1200 dLb_26.2.2.2.2.2.2.2.2.2.2.2.2.2.2.2.2.2.2.2.2.2.2.2.2.2.1
theorem dL_law_1241 : decode cL_law 1241 = .ok (.aload_n 2, 1) := fdg (k := 1200) (p := 41) hdk_1200 dLb_26.2.2.2.2.2.2.2.2.2.2.2.2.2.2.2.2.2.2.2.2.2.2.2.2.2.2.1
theorem dL_law_1242 : decode cL_law 1242 = .ok (.aload_n 0, 1) := fdg (k := 1200) (p := 42) hdk_1200 dLb_26.2.2.2.2.2.2.2.2.2.2.2.2.2.2.2.2.2.2.2.2.2.2.2.2.2.2.2.1
theorem dL_law_1243 : decode cL_law 1243 = .ok (.iload 4, 2) := fdg (k := 1200) (p := 43) hdk_1200 dLb_26.2.2.2.2.2.2.2.2.2.2.2.2.2.2.2.2.2.2.2.2.2.2.2.2.2.2.2.2.1
theorem dL_law_1245 : decode cL_law 1245 = .ok (.iconst 1, 1) := fdg (k := 1200) (p := 45) hdk_1200 dLb_26.2.2.2.2.2.2.2.2.2.2.2.2.2.2.2.2.2.2.2.2.2.2.2.2.2.2.2.2.2.1
theorem dL_law_1246 : decode cL_law 1246 = .ok (.iadd, 1) := fdg (k := 1200) (p := 46) hdk_1200 dLb_26.2.2.2.2.2.2.2.2.2.2.2.2.2.2.2.2.2.2.2.2.2.2.2.2.2.2.2.2.2.2.1
theorem dL_law_1247 : decode cL_law 1247 = .ok (.iaload, 1) := fdg (k := 1200) (p := 47) hdk_1200 dLb_26.2.2.2.2.2.2.2.2.2.2.2.2.2.2.2.2.2.2.2.2.2.2.2.2.2.2.2.2.2.2.2
theorem dLb_27 : fdq dk_1248 0 (.aload_n 0) 1 = true ∧ fdq dk_1248 1 (.iload 4) 2 = true ∧ fdq dk_1248 3 (.iconst 2) 1 = true ∧ fdq dk_1248 4 (.iadd) 1 = true ∧ fdq dk_1248 5 (.iaload) 1 = true ∧ fdq dk_1248 6 (.invokevirtual 224) 3 = true ∧ fdq dk_1248 9 (.istore 6) 2 = true ∧ fdq dk_1248 11 (.aload_n 2) 1 = true ∧ fdq dk_1248 12 (.invokevirtual 170) 3 = true ∧ fdq dk_1248 15 (.iload 5) 2 = true ∧ fdq dk_1248 17 (.if_icmp .eq 5) 3 = true ∧ fdq dk_1248 20 (.iconst 0) 1 = true ∧ fdq dk_1248 21 (.ireturn) 1 = true ∧ fdq dk_1248 22 (.iload 5) 2 = true ∧ fdq dk_1248 24 (.ifCond .ne 23) 3 = true ∧ fdq dk_1248 27 (.aload_n 3) 1 = true ∧ fdq dk_1248 28 (.getfield 13) 3 = true ∧ fdq dk_1248 31 (.iload 6) 2 = true ∧ fdq dk_1248 33 (.ifCond .eq 7) 3 = true ∧ fdq dk_1248 36 (.lconst 1) 1 = true ∧ fdq dk_1248 37 (.goto 4) 3 = true ∧ fdq dk_1248 40 (.lconst 0) 1 = true ∧ fdq dk_1248 41 (.lcmp) 1 = true ∧ fdq dk_1248 42 (.ifCond .eq 5) 3 = true ∧ fdq dk_1248 45 (.iconst 0) 1 = true ∧ fdq dk_1248 46 (.ireturn) 1 = true ∧ fdq dk_1248 47 (.goto 2017) 3 = true := by decide +kernel
theorem dL_law_1248 : decode cL_law 1248 = .ok (.aload_n 0, 1) := fdg (k := 1248) (p := 0) hdk_1248 dLb_27.1
theorem dL_law_1249 : decode cL_law 1249 = .ok (.iload 4, 2) := fdg (k := 1248) (p := 1) hdk_1248 dLb_27.2.1
theorem dL_law_1251 : decode cL_law 1251 = .ok (.iconst 2, 1) := fdg (k := 1248) (p := 3) hdk_1248 dLb_27.2.2.1
theorem dL_law_1252 : decode cL_law 1252 = .ok (.iadd, 1) := fdg (k := 1248) (p := 4) hdk_1248 dLb_27.2.2.2.1
theorem dL_law_1253 : decode cL_law 1253 = .ok (.iaload, 1) := fdg (k := 1248) (p := 5) hdk_1248 dLb_27.2.2.2.2.1
theorem dL_law_1254 : decode cL_law 1254 = .ok (.invokevirtual 224, 3) := fdg (k := 1248) (p := 6) hdk_1248 dLb_27.2.2.2.2.2.1
theorem dL_law_1257 : decode cL_law 1257 = .ok (.istore 6, 2) := fdg (k := 1248) (p := 9) hdk_1248 dLb_27.2.2.2.2.2.2.1
theorem dL_law_1259 : decode cL_law 1259 = .ok (.aload_n 2, 1) := fdg (k := 1248) (p := 11) hdk_1248 dLb_27.2.2.2.2.2.2.2.1
theorem dL_law_1260 : decode cL_law 1260 = .ok (.invokevirtual 170, 3) := fdg (k := 1248) (p := 12) hdk_1248 dLb_27.2.2.2.2.2.2.2.2.1
theorem dL_law_1263 : decode cL_law 1263 = .ok (.iload 5, 2) := fdg (k := 1248) (p := 15) hdk_1248 dLb_27.2.2.2.2.2.2.2.2.2.1
theorem dL_law_1265 : decode cL_law 1265 = .ok (.if_icmp .eq 5, 3) := fdg (k := 1248) (p := 17) hdk_1248 dLb_27.2.2.2.2.2.2.2.2.2.2.1
theorem dL_law_1268 : decode cL_law 1268 = .ok (.iconst 0, 1) := fdg (k := 1248) (p := 20) hdk_1248 dLb_27.2.2.2.2.2.2.2.2.2.2.2.1
theorem dL_law_1269 : decode cL_law 1269 = .ok (.ireturn, 1) := fdg (k := 1248) (p := 21) hdk_1248 dLb_27.2.2.2.2.2.2.2.2.2.2.2.2.1
theorem dL_law_1270 : decode cL_law 1270 = .ok (.iload 5, 2) := fdg (k := 1248) (p := 22) hdk_1248 dLb_27.2.2.2.2.2.2.2.2.2.2.2.2.2.1
theorem dL_law_1272 : decode cL_law 1272 = .ok (.ifCond .ne 23, 3) := fdg (k := 1248) (p := 24) hdk_1248 dLb_27.2.2.2.2.2.2.2.2.2.2.2.2.2.2.1
theorem dL_law_1275 : decode cL_law 1275 = .ok (.aload_n 3, 1) := fdg (k := 1248) (p := 27) hdk_1248 dLb_27.2.2.2.2.2.2.2.2.2.2.2.2.2.2.2.1
theorem dL_law_1276 : decode cL_law 1276 = .ok (.getfield 13, 3) := fdg (k := 1248) (p := 28) hdk_1248 dLb_27.2.2.2.2.2.2.2.2.2.2.2.2.2.2.2.2.1
theorem dL_law_1279 : decode cL_law 1279 = .ok (.iload 6, 2) := fdg (k := 1248) (p := 31) hdk_1248 dLb_27.2.2.2.2.2.2.2.2.2.2.2.2.2.2.2.2.2.1
theorem dL_law_1281 : decode cL_law 1281 = .ok (.ifCond .eq 7, 3) := fdg (k := 1248) (p := 33) hdk_1248 dLb_27.2.2.2.2.2.2.2.2.2.2.2.2.2.2.2.2.2.2.1
theorem dL_law_1284 : decode cL_law 1284 = .ok (.lconst 1, 1) := fdg (k := 1248) (p := 36) hdk_1248 dLb_27.2.2.2.2.2.2.2.2.2.2.2.2.2.2.2.2.2.2.2.1
theorem dL_law_1285 : decode cL_law 1285 = .ok (.goto 4, 3) := fdg (k := 1248) (p := 37) hdk_1248 dLb_27.2.2.2.2.2.2.2.2.2.2.2.2.2.2.2.2.2.2.2.2.1
theorem dL_law_1288 : decode cL_law 1288 = .ok (.lconst 0, 1) := fdg (k := 1248) (p := 40) hdk_1248 dLb_27.2.2.2.2.2.2.2.2.2.2.2.2.2.2.2.2.2.2.2.2.2.1
theorem dL_law_1289 : decode cL_law 1289 = .ok (.lcmp, 1) := fdg (k := 1248) (p := 41) hdk_1248 dLb_27.2.2.2.2.2.2.2.2.2.2.2.2.2.2.2.2.2.2.2.2.2.2.1
theorem dL_law_1290 : decode cL_law 1290 = .ok (.ifCond .eq 5, 3) := fdg (k := 1248) (p := 42) hdk_1248 dLb_27.2.2.2.2.2.2.2.2.2.2.2.2.2.2.2.2.2.2.2.2.2.2.2.1
theorem dL_law_1293 : decode cL_law 1293 = .ok (.iconst 0, 1) := fdg (k := 1248) (p := 45) hdk_1248 dLb_27.2.2.2.2.2.2.2.2.2.2.2.2.2.2.2.2.2.2.2.2.2.2.2.2.1
theorem dL_law_1294 : decode cL_law 1294 = .ok (.ireturn, 1) := fdg (k := 1248) (p := 46) hdk_1248 dLb_27.2.2.2.2.2.2.2.2.2.2.2.2.2.2.2.2.2.2.2.2.2.2.2.2.2.1
theorem dL_law_1295 : decode cL_law 1295 = .ok (.goto 2017, 3) := fdg (k := 1248) (p := 47) hdk_1248 dLb_27.2.2.2.2.2.2.2.2.2.2.2.2.2.2.2.2.2.2.2.2.2.2.2.2.2.2
theorem dLb_28 : fdq dk_1296 2 (.aload_n 1) 1 = true ∧ fdq dk_1296 3 (.aload_n 0) 1 = true ∧ fdq dk_1296 4 (.iload 4) 2 = true ∧ fdq dk_1296 6 (.iconst 1) 1 = true ∧ fdq dk_1296 7 (.iadd) 1 = true ∧ fdq dk_1296 8 (.iaload) 1 = true ∧ fdq dk_1296 9 (.aload_n 0) 1 = true ∧ fdq dk_1296 10 (.iload 4) 2 = true ∧ fdq dk_1296 12 (.iconst 2) 1 = true ∧ fdq dk_1296 13 (.iadd) 1 = true ∧ fdq dk_1296 14 (.iaload) 1 = true ∧ fdq dk_1296 15 (.aload_n 3) 1 = true ∧ fdq dk_1296 16 (.invokestatic 225) 3 = true ∧ fdq dk_1296 19 (.istore 5) 2 = true ∧ fdq dk_1296 21 (.aload_n 2) 1 = true ∧ fdq dk_1296 22 (.aload_n 0) 1 = true ∧ fdq dk_1296 23 (.iload 4) 2 = true ∧ fdq dk_1296 25 (.iconst 1) 1 = true ∧ fdq dk_1296 26 (.iadd) 1 = true ∧ fdq dk_1296 27 (.iaload) 1 = true ∧ fdq dk_1296 28 (.aload_n 0) 1 = true ∧ fdq dk_1296 29 (.iload 4) 2 = true ∧ fdq dk_1296 31 (.iconst 2) 1 = true ∧ fdq dk_1296 32 (.iadd) 1 = true ∧ fdq dk_1296 33 (.iaload) 1 = true ∧ fdq dk_1296 34 (.invokevirtual 227) 3 = true ∧ fdq dk_1296 37 (.istore 6) 2 = true ∧ fdq dk_1296 39 (.aload_n 2) 1 = true ∧ fdq dk_1296 40 (.invokevirtual 170) 3 = true ∧ fdq dk_1296 43 (.iload 5) 2 = true ∧ fdq dk_1296 45 (.if_icmp .eq 5) 3 = true := by decide +kernel
theorem dL_law_1298 : decode cL_law 1298 = .ok (.aload_n 1, 1) := fdg (k := 1296) (p := 2) hdk_1296 dLb_28.1
theorem dL_law_1299 : decode cL_law 1299 = .ok (.aload_n 0, 1) := fdg (k := 1296) (p := 3) hdk_1296 dLb_28.2.1
theorem dL_law_1300 : decode cL_law 1300 = .ok (.iload 4, 2) := fdg (k := 1296) (p := 4) hdk_1296 dLb_28.2.2.1
theorem dL_law_1302 : decode cL_law 1302 = .ok (.iconst 1, 1) := fdg (k := 1296) (p := 6) hdk_1296 dLb_28.2.2.2.1
theorem dL_law_1303 : decode cL_law 1303 = .ok (.iadd, 1) := fdg (k := 1296) (p := 7) hdk_1296 dLb_28.2.2.2.2.1
theorem dL_law_1304 : decode cL_law 1304 = .ok (.iaload, 1) := fdg (k := 1296) (p := 8) hdk_1296 dLb_28.2.2.2.2.2.1
theorem dL_law_1305 : decode cL_law 1305 = .ok (.aload_n 0, 1) := fdg (k := 1296) (p := 9) hdk_1296 dLb_28.2.2.2.2.2.2.1
theorem dL_law_1306 : decode cL_law 1306 = .ok (.iload 4, 2) := fdg (k := 1296) (p := 10) hdk_1296 dLb_28.2.2.2.2.2.2.2.1
theorem dL_law_1308 : decode cL_law 1308 = .ok (.iconst 2, 1) := fdg (k := 1296) (p := 12) hdk_1296 dLb_28.2.2.2.2.2.2.2.2.1
theorem dL_law_1309 : decode cL_law 1309 = .ok (.iadd, 1) := fdg (k := 1296) (p := 13) hdk_1296 dLb_28.2.2.2.2.2.2.2.2.2.1
theorem dL_law_1310 : decode cL_law 1310 = .ok (.iaload, 1) := fdg (k := 1296) (p := 14) hdk_1296 dLb_28.2.2.2.2.2.2.2.2.2.2.1
theorem dL_law_1311 : decode cL_law 1311 = .ok (.aload_n 3, 1) := fdg (k := 1296) (p := 15) hdk_1296 dLb_28.2.2.2.2.2.2.2.2.2.2.2.1
theorem dL_law_1312 : decode cL_law 1312 = .ok (.invokestatic 225, 3) := fdg (k := 1296) (p := 16) hdk_1296 dLb_28.2.2.2.2.2.2.2.2.2.2.2.2.1
theorem dL_law_1315 : decode cL_law 1315 = .ok (.istore 5, 2) := fdg (k := 1296) (p := 19) hdk_1296 dLb_28.2.2.2.2.2.2.2.2.2.2.2.2.2.1
theorem dL_law_1317 : decode cL_law 1317 = .ok (.aload_n 2, 1) := fdg (k := 1296) (p := 21) hdk_1296 dLb_28.2.2.2.2.2.2.2.2.2.2.2.2.2.2.1
theorem dL_law_1318 : decode cL_law 1318 = .ok (.aload_n 0, 1) := fdg (k := 1296) (p := 22) hdk_1296 dLb_28.2.2.2.2.2.2.2.2.2.2.2.2.2.2.2.1
theorem dL_law_1319 : decode cL_law 1319 = .ok (.iload 4, 2) := fdg (k := 1296) (p := 23) hdk_1296 dLb_28.2.2.2.2.2.2.2.2.2.2.2.2.2.2.2.2.1
theorem dL_law_1321 : decode cL_law 1321 = .ok (.iconst 1, 1) := fdg (k := 1296) (p := 25) hdk_1296 dLb_28.2.2.2.2.2.2.2.2.2.2.2.2.2.2.2.2.2.1
theorem dL_law_1322 : decode cL_law 1322 = .ok (.iadd, 1) := fdg (k := 1296) (p := 26) hdk_1296 dLb_28.2.2.2.2.2.2.2.2.2.2.2.2.2.2.2.2.2.2.1
theorem dL_law_1323 : decode cL_law 1323 = .ok (.iaload, 1) := fdg (k := 1296) (p := 27) hdk_1296 dLb_28.2.2.2.2.2.2.2.2.2.2.2.2.2.2.2.2.2.2.2.1
theorem dL_law_1324 : decode cL_law 1324 = .ok (.aload_n 0, 1) := fdg (k := 1296) (p := 28) hdk_1296 dLb_28.2.2.2.2.2.2.2.2.2.2.2.2.2.2.2.2.2.2.2.2.1
theorem dL_law_1325 : decode cL_law 1325 = .ok (.iload 4, 2) := fdg (k := 1296) (p := 29) hdk_1296 dLb_28.2.2.2.2.2.2.2.2.2.2.2.2.2.2.2.2.2.2.2.2.2.1
theorem dL_law_1327 : decode cL_law 1327 = .ok (.iconst 2, 1) := fdg (k := 1296) (p := 31) hdk_1296 dLb_28.2.2.2.2.2.2.2.2.2.2.2.2.2.2.2.2.2.2.2.2.2.2.1
theorem dL_law_1328 : decode cL_law 1328 = .ok (.iadd, 1) := fdg (k := 1296) (p := 32) hdk_1296 dLb_28.2.2.2.2.2.2.2.2.2.2.2.2.2.2.2.2.2.2.2.2.2.2.2.1
theorem dL_law_1329 : decode cL_law 1329 = .ok (.iaload, 1) := fdg (k := 1296) (p := 33) hdk_1296 dLb_28.2.2.2.2.2.2.2.2.2.2.2.2.2.2.2.2.2.2.2.2.2.2.2.2.1
theorem dL_law_1330 : decode cL_law 1330 = .ok (.invokevirtual 227, 3) := fdg (k := 1296) (p := 34) hdk_1296 dLb_28.2.2.2.2.2.2.2.2.2.2.2.2.2.2.2.2.2.2.2.2.2.2.2.2.2.1
theorem dL_law_1333 : decode cL_law 1333 = .ok (.istore 6, 2) := fdg (k := 1296) (p := 37) hdk_1296 dLb_28.2.2.2.2.2.2.2.2.2.2.2.2.2.2.2.2.2.2.2.2.2.2.2.2.2.2.1
theorem dL_law_1335 : decode cL_law 1335 = .ok (.aload_n 2, 1) := fdg (k := 1296) (p := 39) hdk_1296 dLb_28.2.2.2.2.2.2.2.2.2.2.2.2.2.2.2.2.2.2.2.2.2.2.2.2.2.2.2.1
theorem dL_law_1336 : decode cL_law 1336 = .ok (.invokevirtual 170, 3) := fdg (k := 1296) (p := 40) hdk_1296 dLb_28.2.2.2.2.2.2.2.2.2.2.2.2.2.2.2.2.2.2.2.2.2.2.2.2.2.2.2.2.1
theorem dL_law_1339 : decode cL_law 1339 = .ok (.iload 5, 2) := fdg (k := 1296) (p := 43) hdk_1296 dLb_28.2.2.2.2.2.2.2.2.2.2.2.2.2.2.2.2.2.2.2.2.2.2.2.2.2.2.2.2.2.1
theorem dL_law_1341 : decode cL_law 1341 = .ok (.if_icmp .eq 5, 3) := fdg (k := 1296) (p := 45) hdk_1296 dLb_28.2.2.2.2.2.2.2.2.2.2.2.2.2.2.2.2.2.2.2.2.2.2.2.2.2.2.2.2.2.2
theorem dLb_29 : fdq dk_1344 0 (.iconst 0) 1 = true ∧ fdq dk_1344 1 (.ireturn) 1 = true ∧ fdq dk_1344 2 (.iload 5) 2 = true ∧ fdq dk_1344 4 (.ifCond .ne 23) 3 = true ∧ fdq dk_1344 7 (.aload_n 3) 1 = true ∧ fdq dk_1344 8 (.getfield 13) 3 = true ∧ fdq dk_1344 11 (.iload 6) 2 = true ∧ fdq dk_1344 13 (.ifCond .eq 7) 3 = true ∧ fdq dk_1344 16 (.lconst 1) 1 = true ∧ fdq dk_1344 17 (.goto 4) 3 = true ∧ fdq dk_1344 20 (.lconst 0) 1 = true ∧ fdq dk_1344 21 (.lcmp) 1 = true ∧ fdq dk_1344 22 (.ifCond .eq 5) 3 = true ∧ fdq dk_1344 25 (.iconst 0) 1 = true ∧ fdq dk_1344 26 (.ireturn) 1 = true ∧ fdq dk_1344 27 (.goto 1941) 3 = true ∧ fdq dk_1344 30 (.aload_n 1) 1 = true ∧ fdq dk_1344 31 (.aload_n 0) 1 = true ∧ fdq dk_1344 32 (.iload 4) 2 = true ∧ fdq dk_1344 34 (.iconst 1) 1 = true ∧ fdq dk_1344 35 (.iadd) 1 = true ∧ fdq dk_1344 36 (.iaload) 1 = true ∧ fdq dk_1344 37 (.aload_n 0) 1 = true ∧ fdq dk_1344 38 (.iload 4) 2 = true ∧ fdq dk_1344 40 (.iconst 2) 1 = true ∧ fdq dk_1344 41 (.iadd) 1 = true ∧ fdq dk_1344 42 (.iaload) 1 = true ∧ fdq dk_1344 43 (.aload_n 3) 1 = true ∧ fdq dk_1344 44 (.invokestatic 228) 3 = true ∧ fdq dk_1344 47 (.istore 5) 2 = true := by decide +kernel
theorem dL_law_1344 : decode cL_law 1344 = .ok (.iconst 0, 1) := fdg (k := 1344) (p := 0) hdk_1344 dLb_29.1
theorem dL_law_1345 : decode cL_law 1345 = .ok (.ireturn, 1) := fdg (k := 1344) (p := 1) hdk_1344 dLb_29.2.1
theorem dL_law_1346 : decode cL_law 1346 = .ok (.iload 5, 2) := fdg (k := 1344) (p := 2) hdk_1344 dLb_29.2.2.1
theorem dL_law_1348 : decode cL_law 1348 = .ok (.ifCond .ne 23, 3) := fdg (k := 1344) (p := 4) hdk_1344 dLb_29.2.2.2.1
theorem dL_law_1351 : decode cL_law 1351 = .ok (.aload_n 3, 1) := fdg (k := 1344) (p := 7) hdk_1344 dLb_29.2.2.2.2.1
theorem dL_law_1352 : decode cL_law 1352 = .ok (.getfield 13, 3) := fdg (k := 1344) (p := 8) hdk_1344 dLb_29.2.2.2.2.2.1
theorem dL_law_1355 : decode cL_law 1355 = .ok (.iload 6, 2) := fdg (k := 1344) (p := 11) hdk_1344 dLb_29.2.2.2.2.2.2.1
theorem dL_law_1357 : decode cL_law 1357 = .ok (.ifCond .eq 7, 3) := fdg (k := 1344) (p := 13) hdk_1344 dLb_29.2.2.2.2.2.2.2.1
theorem dL_law_1360 : decode cL_law 1360 = .ok (.lconst 1, 1) := fdg (k := 1344) (p := 16) hdk_1344 dLb_29.2.2.2.2.2.2.2.2.1
theorem dL_law_1361 : decode cL_law 1361 = .ok (.goto 4, 3) := fdg (k := 1344) (p := 17) hdk_1344 dLb_29.2.2.2.2.2.2.2.2.2.1
theorem dL_law_1364 : decode cL_law 1364 = .ok (.lconst 0, 1) := fdg (k := 1344) (p := 20) hdk_1344 dLb_29.2.2.2.2.2.2.2.2.2.2.1
theorem dL_law_1365 : decode cL_law 1365 = .ok (.lcmp, 1) := fdg (k := 1344) (p := 21) hdk_1344 dLb_29.2.2.2.2.2.2.2.2.2.2.2.1
theorem dL_law_1366 : decode cL_law 1366 = .ok (.ifCond .eq 5, 3) := fdg (k := 1344) (p := 22) hdk_1344 dLb_29.2.2.2.2.2.2.2.2.2.2.2.2.1
theorem dL_law_1369 : decode cL_law 1369 = .ok (.iconst 0, 1) := fdg (k := 1344) (p := 25) hdk_1344 dLb_29.2.2.2.2.2.2.2.2.2.2.2.2.2.1
theorem dL_law_1370 : decode cL_law 1370 = .ok (.ireturn, 1) := fdg (k := 1344) (p := 26) hdk_1344 dLb_29.2.2.2.2.2.2.2.2.2.2.2.2.2.2.1
theorem dL_law_1371 : decode cL_law 1371 = .ok (.goto 1941, 3) := fdg (k := 1344) (p := 27) hdk_1344 dLb_29.2.2.2.2.2.2.2.2.2.2.2.2.2.2.2.1
theorem dL_law_1374 : decode cL_law 1374 = .ok (.aload_n 1, 1) := fdg (k := 1344) (p := 30) hdk_1344 dLb_29.2.2.2.2.2.2.2.2.2.2.2.2.2.2.2.2.1
theorem dL_law_1375 : decode cL_law 1375 = .ok (.aload_n 0, 1) := fdg (k := 1344) (p := 31) hdk_1344 dLb_29.2.2.2.2.2.2.2.2.2.2.2.2.2.2.2.2.2.1
theorem dL_law_1376 : decode cL_law 1376 = .ok (.iload 4, 2) := fdg (k := 1344) (p := 32) hdk_1344 dLb_29.2.2.2.2.2.2.2.2.2.2.2.2.2.2.2.2.2.2.1
theorem dL_law_1378 : decode cL_law 1378 = .ok (.iconst 1, 1) := fdg (k := 1344) (p := 34) hdk_1344 dLb_29.2.2.2.2.2.2.2.2.2.2.2.2.2.2.2.2.2.2.2.1
theorem dL_law_1379 : decode cL_law 1379 = .ok (.iadd, 1) := fdg (k := 1344) (p := 35) hdk_1344 dLb_29.2.2.2.2.2.2.2.2.2.2.2.2.2.2.2.2.2.2.2.2.1
theorem dL_law_1380 : decode cL_law 1380 = .ok (.iaload, 1) := fdg (k := 1344) (p := 36) hdk_1344 dLb_29.2.2.2.2.2.2.2.2.2.2.2.2.2.2.2.2.2.2.2.2.2.1
theorem dL_law_1381 : decode cL_law 1381 = .ok (.aload_n 0, 1) := fdg (k := 1344) (p := 37) hdk_1344 dLb_29.2.2.2.2.2.2.2.2.2.2.2.2.2.2.2.2.2.2.2.2.2.2.1
theorem dL_law_1382 : decode cL_law 1382 = .ok (.iload 4, 2) := fdg (k := 1344) (p := 38) hdk_1344 dLb_29.2.2.2.2.2.2.2.2.2.2.2.2.2.2.2.2.2.2.2.2.2.2.2.1
theorem dL_law_1384 : decode cL_law 1384 = .ok (.iconst 2, 1) := fdg (k := 1344) (p := 40) hdk_1344 dLb_29.2.2.2.2.2.2.2.2.2.2.2.2.2.2.2.2.2.2.2.2.2.2.2.2.1
theorem dL_law_1385 : decode cL_law 1385 = .ok (.iadd, 1) := fdg (k := 1344) (p := 41) hdk_1344 dLb_29.2.2.2.2.2.2.2.2.2.2.2.2.2.2.2.2.2.2.2.2.2.2.2.2.2.1
theorem dL_law_1386 : decode cL_law 1386 = .ok (.iaload, 1) := fdg (k := 1344) (p := 42) hdk_1344 dLb_29.2.2.2.2.2.2.2.2.2.2.2.2.2.2.2.2.2.2.2.2.2.2.2.2.2.2.1
theorem dL_law_1387 : decode cL_law 1387 = .ok (.aload_n 3, 1) := fdg (k := 1344) (p := 43) hdk_1344 dLb_29.2.2.2.2.2.2.2.2.2.2.2.2.2.2.2.2.2.2.2.2.2.2.2.2.2.2.2.1
theorem dL_law_1388 : decode cL_law 1388 = .ok (.invokestatic 228, 3) := fdg (k := 1344) (p := 44) hdk_1344 dLb_29.2.2.2.2.2.2.2.2.2.2.2.2.2.2.2.2.2.2.2.2.2.2.2.2.2.2.2.2.1
theorem dL_law_1391 : decode cL_law 1391 = .ok (.istore 5, 2) := fdg (k := 1344) (p := 47) hdk_1344 dLb_29.2.2.2.2.2.2.2.2.2.2.2.2.2.2.2.2.2.2.2.2.2.2.2.2.2.2.2.2.2
theorem dLb_30 : fdq dk_1392 1 (.aload_n 2) 1 = true ∧ fdq dk_1392 2 (.aload_n 0) 1 = true ∧ fdq dk_1392 3 (.iload 4) 2 = true ∧ fdq dk_1392 5 (.iconst 1) 1 = true ∧ fdq dk_1392 6 (.iadd) 1 = true ∧ fdq dk_1392 7 (.iaload) 1 = true ∧ fdq dk_1392 8 (.aload_n 0) 1 = true ∧ fdq dk_1392 9 (.iload 4) 2 = true ∧ fdq dk_1392 11 (.iconst 2) 1 = true ∧ fdq dk_1392 12 (.iadd) 1 = true ∧ fdq dk_1392 13 (.iaload) 1 = true ∧ fdq dk_1392 14 (.invokevirtual 230) 3 = true ∧ fdq dk_1392 17 (.istore 6) 2 = true ∧ fdq dk_1392 19 (.aload_n 2) 1 = true ∧ fdq dk_1392 20 (.invokevirtual 170) 3 = true ∧ fdq dk_1392 23 (.iload 5) 2 = true ∧ fdq dk_1392 25 (.if_icmp .eq 5) 3 = true ∧ fdq dk_1392 28 (.iconst 0) 1 = true ∧ fdq dk_1392 29 (.ireturn) 1 = true ∧ fdq dk_1392 30 (.iload 5) 2 = true ∧ fdq dk_1392 32 (.ifCond .ne 16) 3 = true ∧ fdq dk_1392 35 (.aload_n 3) 1 = true ∧ fdq dk_1392 36 (.getfield 13) 3 = true ∧ fdq dk_1392 39 (.iload 6) 2 = true ∧ fdq dk_1392 41 (.i2l) 1 = true ∧ fdq dk_1392 42 (.lcmp) 1 = true ∧ fdq dk_1392 43 (.ifCond .eq 5) 3 = true ∧ fdq dk_1392 46 (.iconst 0) 1 = true ∧ fdq dk_1392 47 (.ireturn) 1 = true := by decide +kernel
theorem dL_law_1393 : decode cL_law 1393 = .ok (.aload_n 2, 1) := fdg (k := 1392) (p := 1) hdk_1392 dLb_30.1
theorem dL_law_1394 : decode cL_law 1394 = .ok (.aload_n 0, 1) := fdg (k := 1392) (p := 2) hdk_1392 dLb_30.2.1
theorem dL_law_1395 : decode cL_law 1395 = .ok (.iload 4, 2) := fdg (k := 1392) (p := 3) hdk_1392 dLb_30.2.2.1
theorem dL_law_1397 : decode cL_law 1397 = .ok (.iconst 1, 1) := fdg (k := 1392) (p := 5) hdk_1392 dLb_30.2.2.2.1
theorem dL_law_1398 : decode cL_law 1398 = .ok (.iadd, 1) := fdg (k := 1392) (p := 6) hdk_1392 dLb_30.2.2.2.2.1
theorem dL_law_1399 : decode cL_law 1399 = .ok (.iaload, 1) := fdg (k := 1392) (p := 7) hdk_1392 dLb_30.2.2.2.2.2.1
theorem dL_law_1400 : decode cL_law 1400 = .ok (.aload_n 0, 1) := fdg (k := 1392) (p := 8) hdk_1392 dLb_30.2.2.2.2.2.2.1
theorem dL_law_1401 : decode cL_law 1401 = .ok (.iload 4, 2) := fdg (k := 1392) (p := 9) hdk_1392 dLb_30.2.2.2.2.2.2.2.1
theorem dL_law_1403 : decode cL_law 1403 = .ok (.iconst 2, 1) := fdg (k := 1392) (p := 11) hdk_1392 dLb_30.2.2.2.2.2.2.2.2.1
theorem dL_law_1404 : decode cL_law 1404 = .ok (.iadd, 1) := fdg (k := 1392) (p := 12) hdk_1392 dLb_30.2.2.2.2.2.2.2.2.2.1
theorem dL_law_1405 : decode cL_law 1405 = .ok (.iaload, 1) := fdg (k := 1392) (p := 13) hdk_1392 dLb_30.2.2.2.2.2.2.2.2.2.2.1
theorem dL_law_1406 : decode cL_law 1406 = .ok (.invokevirtual 230, 3) := fdg (k := 1392) (p := 14) hdk_1392 dLb_30.2.2.2.2.2.2.2.2.2.2.2.1
theorem dL_law_1409 : decode cL_law 1409 = .ok (.istore 6, 2) := fdg (k := 1392) (p := 17) hdk_1392 dLb_30.2.2.2.2.2.2.2.2.2.2.2.2.1
theorem dL_law_1411 : decode cL_law 1411 = .ok (.aload_n 2, 1) := fdg (k := 1392) (p := 19) hdk_1392 dLb_30.2.2.2.2.2.2.2.2.2.2.2.2.2.1
theorem dL_law_1412 : decode cL_law 1412 = .ok (.invokevirtual 170, 3) := fdg (k := 1392) (p := 20) hdk_1392 dLb_30.2.2.2.2.2.2.2.2.2.2.2.2.2.2.1
theorem dL_law_1415 : decode cL_law 1415 = .ok (.iload 5, 2) := fdg (k := 1392) (p := 23) hdk_1392 dLb_30.2.2.2.2.2.2.2.2.2.2.2.2.2.2.2.1
theorem dL_law_1417 : decode cL_law 1417 = .ok (.if_icmp .eq 5, 3) := fdg (k := 1392) (p := 25) hdk_1392 dLb_30.2.2.2.2.2.2.2.2.2.2.2.2.2.2.2.2.1
theorem dL_law_1420 : decode cL_law 1420 = .ok (.iconst 0, 1) := fdg (k := 1392) (p := 28) hdk_1392 dLb_30.2.2.2.2.2.2.2.2.2.2.2.2.2.2.2.2.2.1
theorem dL_law_1421 : decode cL_law 1421 = .ok (.ireturn, 1) := fdg (k := 1392) (p := 29) hdk_1392 dLb_30.2.2.2.2.2.2.2.2.2.2.2.2.2.2.2.2.2.2.1
theorem dL_law_1422 : decode cL_law 1422 = .ok (.iload 5, 2) := fdg (k := 1392) (p := 30) hdk_1392 dLb_30.2.2.2.2.2.2.2.2.2.2.2.2.2.2.2.2.2.2.2.1
theorem dL_law_1424 : decode cL_law 1424 = .ok (.ifCond .ne 16, 3) := fdg (k := 1392) (p := 32) hdk_1392 dLb_30.2.2.2.2.2.2.2.2.2.2.2.2.2.2.2.2.2.2.2.2.1
theorem dL_law_1427 : decode cL_law 1427 = .ok (.aload_n 3, 1) := fdg (k := 1392) (p := 35) hdk_1392 dLb_30.2.2.2.2.2.2.2.2.2.2.2.2.2.2.2.2.2.2.2.2.2.1
theorem dL_law_1428 : decode cL_law 1428 = .ok (.getfield 13, 3) := fdg (k := 1392) (p := 36) hdk_1392 dLb_30.2.2.2.2.2.2.2.2.2.2.2.2.2.2.2.2.2.2.2.2.2.2.1
theorem dL_law_1431 : decode cL_law 1431 = .ok (.iload 6, 2) := fdg (k := 1392) (p := 39) hdk_1392 dLb_30.2.2.2.2.2.2.2.2.2.2.2.2.2.2.2.2.2.2.2.2.2.2.2.1
theorem dL_law_1433 : decode cL_law 1433 = .ok (.i2l, 1) := fdg (k := 1392) (p := 41) hdk_1392 dLb_30.2.2.2.2.2.2.2.2.2.2.2.2.2.2.2.2.2.2.2.2.2.2.2.2.1
theorem dL_law_1434 : decode cL_law 1434 = .ok (.lcmp, 1) := fdg (k := 1392) (p := 42) hdk_1392 dLb_30.2.2.2.2.2.2.2.2.2.2.2.2.2.2.2.2.2.2.2.2.2.2.2.2.2.1
theorem dL_law_1435 : decode cL_law 1435 = .ok (.ifCond .eq 5, 3) := fdg (k := 1392) (p := 43) hdk_1392 dLb_30.2.2.2.2.2.2.2.2.2.2.2.2.2.2.2.2.2.2.2.2.2.2.2.2.2.2.1
theorem dL_law_1438 : decode cL_law 1438 = .ok (.iconst 0, 1) := fdg (k := 1392) (p := 46) hdk_1392 dLb_30.2.2.2.2.2.2.2.2.2.2.2.2.2.2.2.2.2.2.2.2.2.2.2.2.2.2.2.1
theorem dL_law_1439 : decode cL_law 1439 = .ok (.ireturn, 1) := fdg (k := 1392) (p := 47) hdk_1392 dLb_30.2.2.2.2.2.2.2.2.2.2.2.2.2.2.2.2.2.2.2.2.2.2.2.2.2.2.2.2
theorem dLb_31 : fdq dk_1440 0 (.goto 1872) 3 = true ∧ fdq dk_1440 3 (.aload_n 1) 1 = true ∧ fdq dk_1440 4 (.aload_n 0) 1 = true ∧ fdq dk_1440 5 (.iload 4) 2 = true ∧ fdq dk_1440 7 (.iconst 1) 1 = true ∧ fdq dk_1440 8 (.iadd) 1 = true ∧ fdq dk_1440 9 (.iaload) 1 = true ∧ fdq dk_1440 10 (.aload_n 0) 1 = true ∧ fdq dk_1440 11 (.iload 4) 2 = true ∧ fdq dk_1440 13 (.iconst 2) 1 = true ∧ fdq dk_1440 14 (.iadd) 1 = true ∧ fdq dk_1440 15 (.iaload) 1 = true ∧ fdq dk_1440 16 (.aload_n 3) 1 = true ∧ fdq dk_1440 17 (.invokestatic 231) 3 = true ∧ fdq dk_1440 20 (.istore 5) 2 = true ∧ fdq dk_1440 22 (.aload_n 2) 1 = true ∧ fdq dk_1440 23 (.aload_n 0) 1 = true ∧ fdq dk_1440 24 (.iload 4) 2 = true ∧ fdq dk_1440 26 (.iconst 1) 1 = true ∧ fdq dk_1440 27 (.iadd) 1 = true ∧ fdq dk_1440 28 (.iaload) 1 = true ∧ fdq dk_1440 29 (.aload_n 0) 1 = true ∧ fdq dk_1440 30 (.iload 4) 2 = true ∧ fdq dk_1440 32 (.iconst 2) 1 = true ∧ fdq dk_1440 33 (.iadd) 1 = true ∧ fdq dk_1440 34 (.iaload) 1 = true ∧ fdq dk_1440 35 (.invokevirtual 233) 3 = true ∧ fdq dk_1440 38 (.istore 6) 2 = true ∧ fdq dk_1440 40 (.aload_n 2) 1 = true ∧ fdq dk_1440 41 (.invokevirtual 170) 3 = true ∧ fdq dk_1440 44 (.iload 5) 2 = true ∧ fdq dk_1440 46 (.if_icmp .eq 5) 3 = true := by decide +kernel
theorem dL_law_1440 : decode cL_law 1440 = .ok (.goto 1872, 3) := fdg (k := 1440) (p := 0) hdk_1440 dLb_31.1
theorem dL_law_1443 : decode cL_law 1443 = .ok (.aload_n 1, 1) := fdg (k := 1440) (p := 3) hdk_1440 dLb_31.2.1
theorem dL_law_1444 : decode cL_law 1444 = .ok (.aload_n 0, 1) := fdg (k := 1440) (p := 4) hdk_1440 dLb_31.2.2.1
theorem dL_law_1445 : decode cL_law 1445 = .ok (.iload 4, 2) := fdg (k := 1440) (p := 5) hdk_1440 dLb_31.2.2.2.1
theorem dL_law_1447 : decode cL_law 1447 = .ok (.iconst 1, 1) := fdg (k := 1440) (p := 7) hdk_1440 dLb_31.2.2.2.2.1
theorem dL_law_1448 : decode cL_law 1448 = .ok (.iadd, 1) := fdg (k := 1440) (p := 8) hdk_1440 dLb_31.2.2.2.2.2.1
theorem dL_law_1449 : decode cL_law 1449 = .ok (.iaload, 1) := fdg (k := 1440) (p := 9) hdk_1440 dLb_31.2.2.2.2.2.2.1
theorem dL_law_1450 : decode cL_law 1450 = .ok (.aload_n 0, 1) := fdg (k := 1440) (p := 10) hdk_1440 dLb_31.2.2.2.2.2.2.2.1
theorem dL_law_1451 : decode cL_law 1451 = .ok (.iload 4, 2) := fdg (k := 1440) (p := 11) hdk_1440 dLb_31.2.2.2.2.2.2.2.2.1
theorem dL_law_1453 : decode cL_law 1453 = .ok (.iconst 2, 1) := fdg (k := 1440) (p := 13) hdk_1440 dLb_31.2.2.2.2.2.2.2.2.2.1
theorem dL_law_1454 : decode cL_law 1454 = .ok (.iadd, 1) := fdg (k := 1440) (p := 14) hdk_1440 dLb_31.2.2.2.2.2.2.2.2.2.2.1
theorem dL_law_1455 : decode cL_law 1455 = .ok (.iaload, 1) := fdg (k := 1440) (p := 15) hdk_1440 dLb_31.2.2.2.2.2.2.2.2.2.2.2.1
theorem dL_law_1456 : decode cL_law 1456 = .ok (.aload_n 3, 1) := fdg (k := 1440) (p := 16) hdk_1440 dLb_31.2.2.2.2.2.2.2.2.2.2.2.2.1
theorem dL_law_1457 : decode cL_law 1457 = .ok (.invokestatic 231, 3) := fdg (k := 1440) (p := 17) hdk_1440 dLb_31.2.2.2.2.2.2.2.2.2.2.2.2.2.1
theorem dL_law_1460 : decode cL_law 1460 = .ok (.istore 5, 2) := fdg (k := 1440) (p := 20) hdk_1440 dLb_31.2.2.2.2.2.2.2.2.2.2.2.2.2.2.1
theorem dL_law_1462 : decode cL_law 1462 = .ok (.aload_n 2, 1) := fdg (k := 1440) (p := 22) hdk_1440 dLb_31.2.2.2.2.2.2.2.2.2.2.2.2.2.2.2.1
theorem dL_law_1463 : decode cL_law 1463 = .ok (.aload_n 0, 1) := fdg (k := 1440) (p := 23) hdk_1440 dLb_31.2.2.2.2.2.2.2.2.2.2.2.2.2.2.2.2.1
theorem dL_law_1464 : decode cL_law 1464 = .ok (.iload 4, 2) := fdg (k := 1440) (p := 24) hdk_1440 dLb_31.2.2.2.2.2.2.2.2.2.2.2.2.2.2.2.2.2.1
theorem dL_law_1466 : decode cL_law 1466 = .ok (.iconst 1, 1) := fdg (k := 1440) (p := 26) hdk_1440 dLb_31.2.2.2.2.2.2.2.2.2.2.2.2.2.2.2.2.2.2.1
theorem dL_law_1467 : decode cL_law 1467 = .ok (.iadd, 1) := fdg (k := 1440) (p := 27) hdk_1440 dLb_31.2.2.2.2.2.2.2.2.2.2.2.2.2.2.2.2.2.2.2.1
theorem dL_law_1468 : decode cL_law 1468 = .ok (.iaload, 1) := fdg (k := 1440) (p := 28) hdk_1440 dLb_31.2.2.2.2.2.2.2.2.2.2.2.2.2.2.2.2.2.2.2.2.1
theorem dL_law_1469 : decode cL_law 1469 = .ok (.aload_n 0, 1) := fdg (k := 1440) (p := 29) hdk_1440 dLb_31.2.2.2.2.2.2.2.2.2.2.2.2.2.2.2.2.2.2.2.2.2.1
theorem dL_law_1470 : decode cL_law 1470 = .ok (.iload 4, 2) := fdg (k := 1440) (p := 30) hdk_1440 dLb_31.2.2.2.2.2.2.2.2.2.2.2.2.2.2.2.2.2.2.2.2.2.2.1
theorem dL_law_1472 : decode cL_law 1472 = .ok (.iconst 2, 1) := fdg (k := 1440) (p := 32) hdk_1440 dLb_31.2.2.2.2.2.2.2.2.2.2.2.2.2.2.2.2.2.2.2.2.2.2.2.1
theorem dL_law_1473 : decode cL_law 1473 = .ok (.iadd, 1) := fdg (k := 1440) (p := 33) hdk_1440 dLb_31.2.2.2.2.2.2.2.2.2.2.2.2.2.2.2.2.2.2.2.2.2.2.2.2.1
theorem dL_law_1474 : decode cL_law 1474 = .ok (.iaload, 1) := fdg (k := 1440) (p := 34) hdk_1440 dLb_31.2.2.2.2.2.2.2.2.2.2.2.2.2.2.2.2.2.2.2.2.2.2.2.2.2.1
theorem dL_law_1475 : decode cL_law 1475 = .ok (.invokevirtual 233, 3) := fdg (k := 1440) (p := 35) hdk_1440 dLb_31.2.2.2.2.2.2.2.2.2.2.2.2.2.2.2.2.2.2.2.2.2.2.2.2.2.2.1
theorem dL_law_1478 : decode cL_law 1478 = .ok (.istore 6, 2) := fdg (k := 1440) (p := 38) hdk_1440 dLb_31.2.2.2.2.2.2.2.2.2.2.2.2.2.2.2.2.2.2.2.2.2.2.2.2.2.2.2.1
theorem dL_law_1480 : decode cL_law 1480 = .ok (.aload_n 2, 1) := fdg (k := 1440) (p := 40) hdk_1440 dLb_31.2.2.2.2.2.2.2.2.2.2.2.2.2.2.2.2.2.2.2.2.2.2.2.2.2.2.2.2.1
theorem dL_law_1481 : decode cL_law 1481 = .ok (.invokevirtual 170, 3) := fdg (k := 1440) (p := 41) hdk_1440 dLb_31.2.2.2.2.2.2.2.2.2.2.2.2.2.2.2.2.2.2.2.2.2.2.2.2.2.2.2.2.2.1
theorem dL_law_1484 : decode cL_law 1484 = .ok (.iload 5, 2) := fdg (k := 1440) (p := 44) hdk_1440 dLb_31.2.2.2.2.2.2.2.2.2.2.2.2.2.2.2.2.2.2.2.2.2.2.2.2.2.2.2.2.2.2.1
theorem dL_law_1486 : decode cL_law 1486 = .ok (.if_icmp .eq 5, 3) := fdg (k := 1440) (p := 46) hdk_1440 dLb_31.2.2.2.2.2.2.2.2.2.2.2.2.2.2.2.2.2.2.2.2.2.2.2.2.2.2.2.2.2.2.2
theorem dLb_32 : fdq dk_1488 1 (.iconst 0) 1 = true ∧ fdq dk_1488 2 (.ireturn) 1 = true ∧ fdq dk_1488 3 (.iload 5) 2 = true ∧ fdq dk_1488 5 (.ifCond .ne 23) 3 = true ∧ fdq dk_1488 8 (.aload_n 3) 1 = true ∧ fdq dk_1488 9 (.getfield 13) 3 = true ∧ fdq dk_1488 12 (.iload 6) 2 = true ∧ fdq dk_1488 14 (.ifCond .eq 7) 3 = true ∧ fdq dk_1488 17 (.lconst 1) 1 = true ∧ fdq dk_1488 18 (.goto 4) 3 = true ∧ fdq dk_1488 21 (.lconst 0) 1 = true ∧ fdq dk_1488 22 (.lcmp) 1 = true ∧ fdq dk_1488 23 (.ifCond .eq 5) 3 = true ∧ fdq dk_1488 26 (.iconst 0) 1 = true ∧ fdq dk_1488 27 (.ireturn) 1 = true ∧ fdq dk_1488 28 (.goto 1796) 3 = true ∧ fdq dk_1488 31 (.aload_n 1) 1 = true ∧ fdq dk_1488 32 (.aload_n 0) 1 = true ∧ fdq dk_1488 33 (.iload 4) 2 = true ∧ fdq dk_1488 35 (.iconst 1) 1 = true ∧ fdq dk_1488 36 (.iadd) 1 = true ∧ fdq dk_1488 37 (.iaload) 1 = true ∧ fdq dk_1488 38 (.aload_n 3) 1 = true ∧ fdq dk_1488 39 (.invokestatic 234) 3 = true ∧ fdq dk_1488 42 (.istore 5) 2 = true ∧ fdq dk_1488 44 (.aload_n 2) 1 = true ∧ fdq dk_1488 45 (.aload_n 0) 1 = true ∧ fdq dk_1488 46 (.iload 4) 2 = true := by decide +kernel
theorem dL_law_1489 : decode cL_law 1489 = .ok (.iconst 0, 1) := fdg (k := 1488) (p := 1) hdk_1488 dLb_32.1
theorem dL_law_1490 : decode cL_law 1490 = .ok (.ireturn, 1) := fdg (k := 1488) (p := 2) hdk_1488 dLb_32.2.1
theorem dL_law_1491 : decode cL_law 1491 = .ok (.iload 5, 2) := fdg (k := 1488) (p := 3) hdk_1488 dLb_32.2.2.1
theorem dL_law_1493 : decode cL_law 1493 = .ok (.ifCond .ne 23, 3) := fdg (k := 1488) (p := 5) hdk_1488 dLb_32.2.2.2.1
theorem dL_law_1496 : decode cL_law 1496 = .ok (.aload_n 3, 1) := fdg (k := 1488) (p := 8) hdk_1488 dLb_32.2.2.2.2.1
theorem dL_law_1497 : decode cL_law 1497 = .ok (.getfield 13, 3) := fdg (k := 1488) (p := 9) hdk_1488 dLb_32.2.2.2.2.2.1
theorem dL_law_1500 : decode cL_law 1500 = .ok (.iload 6, 2) := fdg (k := 1488) (p := 12) hdk_1488 dLb_32.2.2.2.2.2.2.1
theorem dL_law_1502 : decode cL_law 1502 = .ok (.ifCond .eq 7, 3) := fdg (k := 1488) (p := 14) hdk_1488 dLb_32.2.2.2.2.2.2.2.1
theorem dL_law_1505 : decode cL_law 1505 = .ok (.lconst 1, 1) := fdg (k := 1488) (p := 17) hdk_1488 dLb_32.2.2.2.2.2.2.2.2.1
theorem dL_law_1506 : decode cL_law 1506 = .ok (.goto 4, 3) := fdg (k := 1488) (p := 18) hdk_1488 dLb_32.2.2.2.2.2.2.2.2.2.1
theorem dL_law_1509 : decode cL_law 1509 = .ok (.lconst 0, 1) := fdg (k := 1488) (p := 21) hdk_1488 dLb_32.2.2.2.2.2.2.2.2.2.2.1
theorem dL_law_1510 : decode cL_law 1510 = .ok (.lcmp, 1) := fdg (k := 1488) (p := 22) hdk_1488 dLb_32.2.2.2.2.2.2.2.2.2.2.2.1
theorem dL_law_1511 : decode cL_law 1511 = .ok (.ifCond .eq 5, 3) := fdg (k := 1488) (p := 23) hdk_1488 dLb_32.2.2.2.2.2.2.2.2.2.2.2.2.1
theorem dL_law_1514 : decode cL_law 1514 = .ok (.iconst 0, 1) := fdg (k := 1488) (p := 26) hdk_1488 dLb_32.2.2.2.2.2.2.2.2.2.2.2.2.2.1
theorem dL_law_1515 : decode cL_law 1515 = .ok (.ireturn, 1) := fdg (k := 1488) (p := 27) hdk_1488 dLb_32.2.2.2.2.2.2.2.2.2.2.2.2.2.2.1
theorem dL_law_1516 : decode cL_law 1516 = .ok (.goto 1796, 3) := fdg (k := 1488) (p := 28) hdk_1488 dLb_32.2.2.2.2.2.2.2.2.2.2.2.2.2.2.2.1
theorem dL_law_1519 : decode cL_law 1519 = .ok (.aload_n 1, 1) := fdg (k := 1488) (p := 31) hdk_1488 dLb_32.2.2.2.2.2.2.2.2.2.2.2.2.2.2.2.2.1
theorem dL_law_1520 : decode cL_law 1520 = .ok (.aload_n 0, 1) := fdg (k := 1488) (p := 32) hdk_1488 dLb_32.2.2.2.2.2.2.2.2.2.2.2.2.2.2.2.2.2.1
theorem dL_law_1521 : decode cL_law 1521 = .ok (.iload 4, 2) := fdg (k := 1488) (p := 33) hdk_1488 dLb_32.2.2.2.2.2.2.2.2.2.2.2.2.2.2.2.2.2.2.1
theorem dL_law_1523 : decode cL_law 1523 = .ok (.iconst 1, 1) := fdg (k := 1488) (p := 35) hdk_1488 dLb_32.2.2.2.2.2.2.2.2.2.2.2.2.2.2.2.2.2.2.2.1
theorem dL_law_1524 : decode cL_law 1524 = .ok (.iadd, 1) := fdg (k := 1488) (p := 36) hdk_1488 dLb_32.2.2.2.2.2.2.2.2.2.2.2.2.2.2.2.2.2.2.2.2.1
theorem dL_law_1525 : decode cL_law 1525 = .ok (.iaload, 1) := fdg (k := 1488) (p := 37) hdk_1488 dLb_32.2.2.2.2.2.2.2.2.2.2.2.2.2.2.2.2.2.2.2.2.2.1
theorem dL_law_1526 : decode cL_law 1526 = .ok (.aload_n 3, 1) := fdg (k := 1488) (p := 38) hdk_1488 dLb_32.2.2.2.2.2.2.2.2.2.2.2.2.2.2.2.2.2.2.2.2.2.2.1
theorem dL_law_1527 : decode cL_law 1527 = .ok (.invokestatic 234, 3) := fdg (k := 1488) (p := 39) hdk_1488 dLb_32.2.2.2.2.2.2.2.2.2.2.2.2.2.2.2.2.2.2.2.2.2.2.2.1
theorem dL_law_1530 : decode cL_law 1530 = .ok (.istore 5, 2) := fdg (k := 1488) (p := 42) hdk_1488 dLb_32.2.2.2.2.2.2.2.2.2.2.2.2.2.2.2.2.2.2.2.2.2.2.2.2.1
theorem dL_law_1532 : decode cL_law 1532 = .ok (.aload_n 2, 1) := fdg (k := 1488) (p := 44) hdk_1488 dLb_32.2.2.2.2.2.2.2.2.2.2.2.2.2.2.2.2.2.2.2.2.2.2.2.2.2.1
theorem dL_law_1533 : decode cL_law 1533 = .ok (.aload_n 0, 1) := fdg (k := 1488) (p := 45) hdk_1488 dLb_32.2.2.2.2.2.2.2.2.2.2.2.2.2.2.2.2.2.2.2.2.2.2.2.2.2.2.1
theorem dL_law_1534 : decode cL_law 1534 = .ok (.iload 4, 2) := fdg (k := 1488) (p := 46) hdk_1488 dLb_32.2.2.2.2.2.2.2.2.2.2.2.2.2.2.2.2.2.2.2.2.2.2.2.2.2.2.2
theorem dLb_33 : fdq dk_1536 0 (.iconst 1) 1 = true ∧ fdq dk_1536 1 (.iadd) 1 = true ∧ fdq dk_1536 2 (.iaload) 1 = true ∧ fdq dk_1536 3 (.invokevirtual 236) 3 = true ∧ fdq dk_1536 6 (.istore 6) 2 = true ∧ fdq dk_1536 8 (.aload_n 2) 1 = true ∧ fdq dk_1536 9 (.invokevirtual 170) 3 = true ∧ fdq dk_1536 12 (.iload 5) 2 = true ∧ fdq dk_1536 14 (.if_icmp .eq 5) 3 = true ∧ fdq dk_1536 17 (.iconst 0) 1 = true ∧ fdq dk_1536 18 (.ireturn) 1 = true ∧ fdq dk_1536 19 (.iload 5) 2 = true ∧ fdq dk_1536 21 (.ifCond .ne 16) 3 = true ∧ fdq dk_1536 24 (.aload_n 3) 1 = true ∧ fdq dk_1536 25 (.getfield 13) 3 = true ∧ fdq dk_1536 28 (.iload 6) 2 = true ∧ fdq dk_1536 30 (.i2l) 1 = true ∧ fdq dk_1536 31 (.lcmp) 1 = true ∧ fdq dk_1536 32 (.ifCond .eq 5) 3 = true ∧ fdq dk_1536 35 (.iconst 0) 1 = true ∧ fdq dk_1536 36 (.ireturn) 1 = true ∧ fdq dk_1536 37 (.goto 1739) 3 = true ∧ fdq dk_1536 40 (.aload_n 1) 1 = true ∧ fdq dk_1536 41 (.aload_n 0) 1 = true ∧ fdq dk_1536 42 (.iload 4) 2 = true ∧ fdq dk_1536 44 (.iconst 1) 1 = true ∧ fdq dk_1536 45 (.iadd) 1 = true ∧ fdq dk_1536 46 (.iaload) 1 = true ∧ fdq dk_1536 47 (.aload_n 0) 1 = true := by decide +kernel
theorem dL_law_1536 : decode cL_law 1536 = .ok (.iconst 1, 1) := fdg (k := 1536) (p := 0) hdk_1536 dLb_33.1
theorem dL_law_1537 : decode cL_law 1537 = .ok (.iadd, 1) := fdg (k := 1536) (p := 1) hdk_1536 dLb_33.2.1
theorem dL_law_1538 : decode cL_law 1538 = .ok (.iaload, 1) := fdg (k := 1536) (p := 2) hdk_1536 dLb_33.2.2.1
theorem dL_law_1539 : decode cL_law 1539 = .ok (.invokevirtual 236, 3) := fdg (k := 1536) (p := 3) hdk_1536 dLb_33.2.2.2.1
theorem dL_law_1542 : decode cL_law 1542 = .ok (.istore 6, 2) := fdg (k := 1536) (p := 6) hdk_1536 dLb_33.2.2.2.2.1
theorem dL_law_1544 : decode cL_law 1544 = .ok (.aload_n 2, 1) := fdg (k := 1536) (p := 8) hdk_1536 dLb_33.2.2.2.2.2.1
theorem dL_law_1545 : decode cL_law 1545 = .ok (.invokevirtual 170, 3) := fdg (k := 1536) (p := 9) hdk_1536 dLb_33.2.2.2.2.2.2.1
theorem dL_law_1548 : decode cL_law 1548 = .ok (.iload 5, 2) := fdg (k := 1536) (p := 12) hdk_1536 dLb_33.2.2.2.2.2.2.2.1
theorem dL_law_1550 : decode cL_law 1550 = .ok (.if_icmp .eq 5, 3) := fdg (k := 1536) (p := 14) hdk_1536 dLb_33.2.2.2.2.2.2.2.2.1
theorem dL_law_1553 : decode cL_law 1553 = .ok (.iconst 0, 1) := fdg (k := 1536) (p := 17) hdk_1536 dLb_33.2.2.2.2.2.2.2.2.2.1
theorem dL_law_1554 : decode cL_law 1554 = .ok (.ireturn, 1) := fdg (k := 1536) (p := 18) hdk_1536 dLb_33.2.2.2.2.2.2.2.2.2.2.1
theorem dL_law_1555 : decode cL_law 1555 = .ok (.iload 5, 2) := fdg (k := 1536) (p := 19) hdk_1536 dLb_33.2.2.2.2.2.2.2.2.2.2.2.1
theorem dL_law_1557 : decode cL_law 1557 = .ok (.ifCond .ne 16, 3) := fdg (k := 1536) (p := 21) hdk_1536 dLb_33.2.2.2.2.2.2.2.2.2.2.2.2.1
theorem dL_law_1560 : decode cL_law 1560 = .ok (.aload_n 3, 1) := fdg (k := 1536) (p := 24) hdk_1536 dLb_33.2.2.2.2.2.2.2.2.2.2.2.2.2.1
theorem dL_law_1561 : decode cL_law 1561 = .ok (.getfield 13, 3) := fdg (k := 1536) (p := 25) hdk_1536 dLb_33.2.2.2.2.2.2.2.2.2.2.2.2.2.2.1
theorem dL_law_1564 : decode cL_law 1564 = .ok (.iload 6, 2) := fdg (k := 1536) (p := 28) hdk_1536 dLb_33.2.2.2.2.2.2.2.2.2.2.2.2.2.2.2.1
theorem dL_law_1566 : decode cL_law 1566 = .ok (.i2l, 1) := fdg (k := 1536) (p := 30) hdk_1536 dLb_33.2.2.2.2.2.2.2.2.2.2.2.2.2.2.2.2.1
theorem dL_law_1567 : decode cL_law 1567 = .ok (.lcmp, 1) := fdg (k := 1536) (p := 31) hdk_1536 dLb_33.2.2.2.2.2.2.2.2.2.2.2.2.2.2.2.2.2.1
theorem dL_law_1568 : decode cL_law 1568 = .ok (.ifCond .eq 5, 3) := fdg (k := 1536) (p := 32) hdk_1536 dLb_33.2.2.2.2.2.2.2.2.2.2.2.2.2.2.2.2.2.2.1
theorem dL_law_1571 : decode cL_law 1571 = .ok (.iconst 0, 1) := fdg (k := 1536) (p := 35) hdk_1536 dLb_33.2.2.2.2.2.2.2.2.2.2.2.2.2.2.2.2.2.2.2.1
theorem dL_law_1572 : decode cL_law 1572 = .ok (.ireturn, 1) := fdg (k := 1536) (p := 36) hdk_1536 dLb_33.2.2.2.2.2.2.2.2.2.2.2.2.2.2.2.2.2.2.2.2.1
theorem dL_law_1573 : decode cL_law 1573 = .ok (.goto 1739, 3) := fdg (k := 1536) (p := 37) hdk_1536 dLb_33.2.2.2.2.2.2.2.2.2.2.2.2.2.2.2.2.2.2.2.2.2.1
theorem dL_law_1576 : decode cL_law 1576 = .ok (.aload_n 1, 1) := fdg (k := 1536) (p := 40) hdk_1536 dLb_33.2.2.2.2.2.2.2.2.2.2.2.2.2.2.2.2.2.2.2.2.2.2.1
theorem dL_law_1577 : decode cL_law 1577 = .ok (.aload_n 0, 1) := fdg (k := 1536) (p := 41) hdk_1536 dLb_33.2.2.2.2.2.2.2.2.2.2.2.2.2.2.2.2.2.2.2.2.2.2.2.1
theorem dL_law_1578 : decode cL_law 1578 = .ok (.iload 4, 2) := fdg (k := 1536) (p := 42) hdk_1536 dLb_33.2.2.2.2.2.2.2.2.2.2.2.2.2.2.2.2.2.2.2.2.2.2.2.2.1
theorem dL_law_1580 : decode cL_law 1580 = .ok (.iconst 1, 1) := fdg (k := 1536) (p := 44) hdk_1536 dLb_33.2.2.2.2.2.2.2.2.2.2.2.2.2.2.2.2.2.2.2.2.2.2.2.2.2.1
theorem dL_law_1581 : decode cL_law 1581 = .ok (.iadd, 1) := fdg (k := 1536) (p := 45) hdk_1536 dLb_33.2.2.2.2.2.2.2.2.2.2.2.2.2.2.2.2.2.2.2.2.2.2.2.2.2.2.1
theorem dL_law_1582 : decode cL_law 1582 = .ok (.iaload, 1) := fdg (k := 1536) (p := 46) hdk_1536 dLb_33.2.2.2.2.2.2.2.2.2.2.2.2.2.2.2.2.2.2.2.2.2.2.2.2.2.2.2.1
theorem dL_law_1583 : decode cL_law 1583 = .ok (.aload_n 0, 1) := fdg (k := 1536) (p := 47) hdk_1536 dLb_33.2.2.2.2.2.2.2.2.2.2.2.2.2.2.2.2.2.2.2.2.2.2.2.2.2.2.2.2
theorem dLb_34 : fdq dk_1584 0 (.iload 4) 2 = true ∧ fdq dk_1584 2 (.iconst 2) 1 = true ∧ fdq dk_1584 3 (.iadd) 1 = true ∧ fdq dk_1584 4 (.iaload) 1 = true ∧ fdq dk_1584 5 (.aload_n 0) 1 = true ∧ fdq dk_1584 6 (.iload 4) 2 = true ∧ fdq dk_1584 8 (.iconst 3) 1 = true ∧ fdq dk_1584 9 (.iadd) 1 = true ∧ fdq dk_1584 10 (.iaload) 1 = true ∧ fdq dk_1584 11 (.aload_n 0) 1 = true ∧ fdq dk_1584 12 (.iload 4) 2 = true ∧ fdq dk_1584 14 (.iconst 4) 1 = true ∧ fdq dk_1584 15 (.iadd) 1 = true ∧ fdq dk_1584 16 (.iaload) 1 = true ∧ fdq dk_1584 17 (.ifCond .eq 7) 3 = true ∧ fdq dk_1584 20 (.iconst 1) 1 = true ∧ fdq dk_1584 21 (.goto 4) 3 = true ∧ fdq dk_1584 24 (.iconst 0) 1 = true ∧ fdq dk_1584 25 (.aload_n 3) 1 = true ∧ fdq dk_1584 26 (.invokestatic 237) 3 = true ∧ fdq dk_1584 29 (.istore 5) 2 = true ∧ fdq dk_1584 31 (.aload_n 2) 1 = true ∧ fdq dk_1584 32 (.aload_n 0) 1 = true ∧ fdq dk_1584 33 (.iload 4) 2 = true ∧ fdq dk_1584 35 (.iconst 1) 1 = true ∧ fdq dk_1584 36 (.iadd) 1 = true ∧ fdq dk_1584 37 (.iaload) 1 = true ∧ fdq dk_1584 38 (.aload_n 0) 1 = true ∧ fdq dk_1584 39 (.iload 4) 2 = true ∧ fdq dk_1584 41 (.iconst 2) 1 = true ∧ fdq dk_1584 42 (.iadd) 1 = true ∧ fdq dk_1584 43 (.iaload) 1 = true := by decide +kernel
theorem dL_law_1584 : decode cL_law 1584 = .ok (.iload 4, 2) := fdg (k := 1584) (p := 0) hdk_1584 dLb_34.1
theorem dL_law_1586 : decode cL_law 1586 = .ok (.iconst 2, 1) := fdg (k := 1584) (p := 2) hdk_1584 dLb_34.2.1
theorem dL_law_1587 : decode cL_law 1587 = .ok (.iadd, 1) := fdg (k := 1584) (p := 3) hdk_1584 dLb_34.2.2.1
theorem dL_law_1588 : decode cL_law 1588 = .ok (.iaload, 1) := fdg (k := 1584) (p := 4) hdk_1584 dLb_34.2.2.2.1
theorem dL_law_1589 : decode cL_law 1589 = .ok (.aload_n 0, 1) := fdg (k := 1584) (p := 5) hdk_1584 dLb_34.2.2.2.2.1
theorem dL_law_1590 : decode cL_law 1590 = .ok (.iload 4, 2) := fdg (k := 1584) (p := 6) hdk_1584 dLb_34.2.2.2.2.2.1
theorem dL_law_1592 : decode cL_law 1592 = .ok (.iconst 3, 1) := fdg (k := 1584) (p := 8) hdk_1584 dLb_34.2.2.2.2.2.2.1
theorem dL_law_1593 : decode cL_law 1593 = .ok (.iadd, 1) := fdg (k := 1584) (p := 9) hdk_1584 dLb_34.2.2.2.2.2.2.2.1
theorem dL_law_1594 : decode cL_law 1594 = .ok (.iaload, 1) := fdg (k := 1584) (p := 10) hdk_1584 dLb_34.2.2.2.2.2.2.2.2.1
theorem dL_law_1595 : decode cL_law 1595 = .ok (.aload_n 0, 1) := fdg (k := 1584) (p := 11) hdk_1584 dLb_34.2.2.2.2.2.2.2.2.2.1
theorem dL_law_1596 : decode cL_law 1596 = .ok (.iload 4, 2) := fdg (k := 1584) (p := 12) hdk_1584 dLb_34.2.2.2.2.2.2.2.2.2.2.1
theorem dL_law_1598 : decode cL_law 1598 = .ok (.iconst 4, 1) := fdg (k := 1584) (p := 14) hdk_1584 dLb_34.2.2.2.2.2.2.2.2.2.2.2.1
theorem dL_law_1599 : decode cL_law 1599 = .ok (.iadd, 1) := fdg (k := 1584) (p := 15) hdk_1584 dLb_34.2.2.2.2.2.2.2.2.2.2.2.2.1
theorem dL_law_1600 : decode cL_law 1600 = .ok (.iaload, 1) := fdg (k := 1584) (p := 16) hdk_1584 dLb_34.2.2.2.2.2.2.2.2.2.2.2.2.2.1
theorem dL_law_1601 : decode cL_law 1601 = .ok (.ifCond .eq 7, 3) := fdg (k := 1584) (p := 17) hdk_1584 dLb_34.2.2.2.2.2.2.2.2.2.2.2.2.2.2.1
theorem dL_law_1604 : decode cL_law 1604 = .ok (.iconst 1, 1) := fdg (k := 1584) (p := 20) hdk_1584 dLb_34.2.2.2.2.2.2.2.2.2.2.2.2.2.2.2.1
theorem dL_law_1605 : decode cL_law 1605 = .ok (.goto 4, 3) := fdg (k := 1584) (p := 21) hdk_1584 dLb_34.2.2.2.2.2.2.2.2.2.2.2.2.2.2.2.2.1
theorem dL_law_1608 : decode cL_law 1608 = .ok (.iconst 0, 1) := fdg (k := 1584) (p := 24) hdk_1584 dLb_34.2.2.2.2.2.2.2.2.2.2.2.2.2.2.2.2.2.1
theorem dL_law_1609 : decode cL_law 1609 = .ok (.aload_n 3, 1) := fdg (k := 1584) (p := 25) hdk_1584 dLb_34.2.2.2.2.2.2.2.2.2.2.2.2.2.2.2.2.2.2.1
theorem dL_law_1610 : decode cL_law 1610 = .ok (.invokestatic 237, 3) := fdg (k := 1584) (p := 26) hdk_1584 dLb_34.2.2.2.2.2.2.2.2.2.2.2.2.2.2.2.2.2.2.2.1
theorem dL_law_1613 : decode cL_law 1613 = .ok (.istore 5, 2) := fdg (k := 1584) (p := 29) hdk_1584 dLb_34.2.2.2.2.2.2.2.2.2.2.2.2.2.2.2.2.2.2.2.2.1
theorem dL_law_1615 : decode cL_law 1615 = .ok (.aload_n 2, 1) := fdg (k := 1584) (p := 31) hdk_1584 dLb_34.2.2.2.2.2.2.2.2.2.2.2.2.2.2.2.2.2.2.2.2.2.1
theorem dL_law_1616 : decode cL_law 1616 = .ok (.aload_n 0, 1) := fdg (k := 1584) (p := 32) hdk_1584 dLb_34.2.2.2.2.2.2.2.2.2.2.2.2.2.2.2.2.2.2.2.2.2.2.1
theorem dL_law_1617 : decode cL_law 1617 = .ok (.iload 4, 2) := fdg (k := 1584) (p := 33) hdk_1584 dLb_34.2.2.2.2.2.2.2.2.2.2.2.2.2.2.2.2.2.2.2.2.2.2.2.1
theorem dL_law_1619 : decode cL_law 1619 = .ok (.iconst 1, 1) := fdg (k := 1584) (p := 35) hdk_1584 dLb_34.2.2.2.2.2.2.2.2.2.2.2.2.2.2.2.2.2.2.2.2.2.2.2.2.1
theorem dL_law_1620 : decode cL_law 1620 = .ok (.iadd, 1) := fdg (k := 1584) (p := 36) hdk_1584 dLb_34.2.2.2.2.2.2.2.2.2.2.2.2.2.2.2.2.2.2.2.2.2.2.2.2.2.1
theorem dL_law_1621 : decode cL_law 1621 = .ok (.iaload, 1) := fdg (k := 1584) (p := 37) hdk_1584 dLb_34.2.2.2.2.2.2.2.2.2.2.2.2.2.2.2.2.2.2.2.2.2.2.2.2.2.2.1
theorem dL_law_1622 : decode cL_law 1622 = .ok (.aload_n 0, 1) := fdg (k := 1584) (p := 38) hdk_1584 dLb_34.2.2.2.2.2.2.2.2.2.2.2.2.2.2.2.2.2.2.2.2.2.2.2.2.2.2.2.1
theorem dL_law_1623 : decode cL_law 1623 = .ok (.iload 4, 2) := fdg (k := 1584) (p := 39) hdk_1584 dLb_34.2.2.2.2.2.2.2.2.2.2.2.2.2.2.2.2.2.2.2.2.2.2.2.2.2.2.2.2.1
theorem dL_law_1625 : decode cL_law 1625 = .ok (.iconst 2, 1) := fdg (k := 1584) (p := 41) hdk_1584 dLb_34.2.2.2.2.2.2.2.2.2.2.2.2.2.2.2.2.2.2.2.2.2.2.2.2.2.2.2.2.2.1
theorem dL_law_1626 : decode cL_law 1626 = .ok (.iadd, 1) := fdg (k := 1584) (p := 42) hdk_1584 dLb_34.2.2.2.2.2.2.2.2.2.2.2.2.2.2.2.2.2.2.2.2.2.2.2.2.2.2.2.2.2.2.1
theorem dL_law_1627 : decode cL_law 1627 = .ok (.iaload, 1) := fdg (k := 1584) (p := 43) hdk_1584 dLb_34.2.2.2.2.2.2.2.2.2.2.2.2.2.2.2.2.2.2.2.2.2.2.2.2.2.2.2.2.2.2.2
theorem dLb_35 : fdq dk_1584 44 (.aload_n 0) 1 = true ∧ fdq dk_1584 45 (.iload 4) 2 = true ∧ fdq dk_1584 47 (.iconst 3) 1 = true := by decide +kernel
theorem dL_law_1628 : decode cL_law 1628 = .ok (.aload_n 0, 1) := fdg (k := 1584) (p := 44) hdk_1584 dLb_35.1
theorem dL_law_1629 : decode cL_law 1629 = .ok (.iload 4, 2) := fdg (k := 1584) (p := 45) hdk_1584 dLb_35.2.1
theorem dL_law_1631 : decode cL_law 1631 = .ok (.iconst 3, 1) := fdg (k := 1584) (p := 47) hdk_1584 dLb_35.2.2
theorem dLb_36 : fdq dk_1632 0 (.iadd) 1 = true ∧ fdq dk_1632 1 (.iaload) 1 = true ∧ fdq dk_1632 2 (.aload_n 0) 1 = true ∧ fdq dk_1632 3 (.iload 4) 2 = true ∧ fdq dk_1632 5 (.iconst 4) 1 = true ∧ fdq dk_1632 6 (.iadd) 1 = true ∧ fdq dk_1632 7 (.iaload) 1 = true ∧ fdq dk_1632 8 (.ifCond .eq 7) 3 = true ∧ fdq dk_1632 11 (.iconst 1) 1 = true ∧ fdq dk_1632 12 (.goto 4) 3 = true ∧ fdq dk_1632 15 (.iconst 0) 1 = true ∧ fdq dk_1632 16 (.invokevirtual 240) 3 = true ∧ fdq dk_1632 19 (.astore 6) 2 = true ∧ fdq dk_1632 21 (.aload_n 2) 1 = true ∧ fdq dk_1632 22 (.invokevirtual 170) 3 = true ∧ fdq dk_1632 25 (.iload 5) 2 = true ∧ fdq dk_1632 27 (.if_icmp .eq 5) 3 = true ∧ fdq dk_1632 30 (.iconst 0) 1 = true ∧ fdq dk_1632 31 (.ireturn) 1 = true ∧ fdq dk_1632 32 (.iload 5) 2 = true ∧ fdq dk_1632 34 (.ifCond .ne 17) 3 = true ∧ fdq dk_1632 37 (.aload_n 3) 1 = true ∧ fdq dk_1632 38 (.getfield 52) 3 = true ∧ fdq dk_1632 41 (.aload 6) 2 = true ∧ fdq dk_1632 43 (.invokevirtual 201) 3 = true ∧ fdq dk_1632 46 (.ifCond .ne 5) 3 = true := by decide +kernel
theorem dL_law_1632 : decode cL_law 1632 = .ok (.iadd, 1) := fdg (k := 1632) (p := 0) hdk_1632 dLb_36.1
theorem dL_law_1633 : decode cL_law 1633 = .ok (.iaload, 1) := fdg (k := 1632) (p := 1) hdk_1632 dLb_36.2.1
theorem dL_law_1634 : decode cL_law 1634 = .ok (.aload_n 0, 1) := fdg (k := 1632) (p := 2) hdk_1632 dLb_36.2.2.1
theorem dL_law_1635 : decode cL_law 1635 = .ok (.iload 4, 2) := fdg (k := 1632) (p := 3) hdk_1632 dLb_36.2.2.2.1
theorem dL_law_1637 : decode cL_law 1637 = .ok (.iconst 4, 1) := fdg (k := 1632) (p := 5) hdk_1632 dLb_36.2.2.2.2.1
theorem dL_law_1638 : decode cL_law 1638 = .ok (.iadd, 1) := fdg (k := 1632) (p := 6) hdk_1632 dLb_36.2.2.2.2.2.1
theorem dL_law_1639 : decode cL_law 1639 = .ok (.iaload, 1) := fdg (k := 1632) (p := 7) hdk_1632 dLb_36.2.2.2.2.2.2.1
theorem dL_law_1640 : decode cL_law 1640 = .ok (.ifCond .eq 7, 3) := fdg (k := 1632) (p := 8) hdk_1632 dLb_36.2.2.2.2.2.2.2.1
theorem dL_law_1643 : decode cL_law 1643 = .ok (.iconst 1, 1) := fdg (k := 1632) (p := 11) hdk_1632 dLb_36.2.2.2.2.2.2.2.2.1
theorem dL_law_1644 : decode cL_law 1644 = .ok (.goto 4, 3) := fdg (k := 1632) (p := 12) hdk_1632 dLb_36.2.2.2.2.2.2.2.2.2.1
theorem dL_law_1647 : decode cL_law 1647 = .ok (.iconst 0, 1) := fdg (k := 1632) (p := 15) hdk_1632 dLb_36.2.2.2.2.2.2.2.2.2.2.1
theorem dL_law_1648 : decode cL_law 1648 = .ok (.invokevirtual 240, 3) := fdg (k := 1632) (p := 16) hdk_1632 dLb_36.2.2.2.2.2.2.2.2.2.2.2.1
theorem dL_law_1651 : decode cL_law 1651 = .ok (.astore 6, 2) := fdg (k := 1632) (p := 19) hdk_1632 dLb_36.2.2.2.2.2.2.2.2.2.2.2.2.1
theorem dL_law_1653 : decode cL_law 1653 = .ok (.aload_n 2, 1) := fdg (k := 1632) (p := 21) hdk_1632 dLb_36.2.2.2.2.2.2.2.2.2.2.2.2.2.1
theorem dL_law_1654 : decode cL_law 1654 = .ok (.invokevirtual 170, 3) := fdg (k := 1632) (p := 22) hdk_1632 dLb_36.2.2.2.2.2.2.2.2.2.2.2.2.2.2.1
theorem dL_law_1657 : decode cL_law 1657 = .ok (.iload 5, 2) := fdg (k := 1632) (p := 25) hdk_1632 dLb_36.2.2.2.2.2.2.2.2.2.2.2.2.2.2.2.1
theorem dL_law_1659 : decode cL_law 1659 = .ok (.if_icmp .eq 5, 3) := fdg (k := 1632) (p := 27) hdk_1632 dLb_36.2.2.2.2.2.2.2.2.2.2.2.2.2.2.2.2.1
theorem dL_law_1662 : decode cL_law 1662 = .ok (.iconst 0, 1) := fdg (k := 1632) (p := 30) hdk_1632 dLb_36.2.2.2.2.2.2.2.2.2.2.2.2.2.2.2.2.2.1
theorem dL_law_1663 : decode cL_law 1663 = .ok (.ireturn, 1) := fdg (k := 1632) (p := 31) hdk_1632 dLb_36.2.2.2.2.2.2.2.2.2.2.2.2.2.2.2.2.2.2.1
theorem dL_law_1664 : decode cL_law 1664 = .ok (.iload 5, 2) := fdg (k := 1632) (p := 32) hdk_1632 dLb_36.2.2.2.2.2.2.2.2.2.2.2.2.2.2.2.2.2.2.2.1
theorem dL_law_1666 : decode cL_law 1666 = .ok (.ifCond .ne 17, 3) := fdg (k := 1632) (p := 34) hdk_1632 dLb_36.2.2.2.2.2.2.2.2.2.2.2.2.2.2.2.2.2.2.2.2.1
theorem dL_law_1669 : decode cL_law 1669 = .ok (.aload_n 3, 1) := fdg (k := 1632) (p := 37) hdk_1632 dLb_36.2.2.2.2.2.2.2.2.2.2.2.2.2.2.2.2.2.2.2.2.2.1
theorem dL_law_1670 : decode cL_law 1670 = .ok (.getfield 52, 3) := fdg (k := 1632) (p := 38) hdk_1632 dLb_36.2.2.2.2.2.2.2.2.2.2.2.2.2.2.2.2.2.2.2.2.2.2.1
theorem dL_law_1673 : decode cL_law 1673 = .ok (.aload 6, 2) := fdg (k := 1632) (p := 41) hdk_1632 dLb_36.2.2.2.2.2.2.2.2.2.2.2.2.2.2.2.2.2.2.2.2.2.2.2.1
theorem dL_law_1675 : decode cL_law 1675 = .ok (.invokevirtual 201, 3) := fdg (k := 1632) (p := 43) hdk_1632 dLb_36.2.2.2.2.2.2.2.2.2.2.2.2.2.2.2.2.2.2.2.2.2.2.2.2.1
theorem dL_law_1678 : decode cL_law 1678 = .ok (.ifCond .ne 5, 3) := fdg (k := 1632) (p := 46) hdk_1632 dLb_36.2.2.2.2.2.2.2.2.2.2.2.2.2.2.2.2.2.2.2.2.2.2.2.2.2
theorem dLb_37 : fdq dk_1680 1 (.iconst 0) 1 = true ∧ fdq dk_1680 2 (.ireturn) 1 = true ∧ fdq dk_1680 3 (.goto 1629) 3 = true ∧ fdq dk_1680 6 (.aload_n 1) 1 = true ∧ fdq dk_1680 7 (.aload_n 0) 1 = true ∧ fdq dk_1680 8 (.iload 4) 2 = true ∧ fdq dk_1680 10 (.iconst 1) 1 = true ∧ fdq dk_1680 11 (.iadd) 1 = true ∧ fdq dk_1680 12 (.iaload) 1 = true ∧ fdq dk_1680 13 (.aload_n 3) 1 = true ∧ fdq dk_1680 14 (.invokestatic 241) 3 = true ∧ fdq dk_1680 17 (.istore 5) 2 = true ∧ fdq dk_1680 19 (.aload_n 2) 1 = true ∧ fdq dk_1680 20 (.aload_n 0) 1 = true ∧ fdq dk_1680 21 (.iload 4) 2 = true ∧ fdq dk_1680 23 (.iconst 1) 1 = true ∧ fdq dk_1680 24 (.iadd) 1 = true ∧ fdq dk_1680 25 (.iaload) 1 = true ∧ fdq dk_1680 26 (.invokevirtual 243) 3 = true ∧ fdq dk_1680 29 (.istore 6) 2 = true ∧ fdq dk_1680 31 (.aload_n 2) 1 = true ∧ fdq dk_1680 32 (.invokevirtual 170) 3 = true ∧ fdq dk_1680 35 (.iload 5) 2 = true ∧ fdq dk_1680 37 (.if_icmp .eq 5) 3 = true ∧ fdq dk_1680 40 (.iconst 0) 1 = true ∧ fdq dk_1680 41 (.ireturn) 1 = true ∧ fdq dk_1680 42 (.iload 5) 2 = true ∧ fdq dk_1680 44 (.ifCond .ne 16) 3 = true ∧ fdq dk_1680 47 (.aload_n 3) 1 = true := by decide +kernel
theorem dL_law_1681 : decode cL_law 1681 = .ok (.iconst 0, 1) := fdg (k := 1680) (p := 1) hdk_1680 dLb_37.1
theorem dL_law_1682 : decode cL_law 1682 = .ok (.ireturn, 1) := fdg (k := 1680) (p := 2) hdk_1680 dLb_37.2.1
theorem dL_law_1683 : decode cL_law 1683 = .ok (.goto 1629, 3) := fdg (k := 1680) (p := 3) hdk_1680 dLb_37.2.2.1
theorem dL_law_1686 : decode cL_law 1686 = .ok (.aload_n 1, 1) := fdg (k := 1680) (p := 6) hdk_1680 dLb_37.2.2.2.1
theorem dL_law_1687 : decode cL_law 1687 = .ok (.aload_n 0, 1) := fdg (k := 1680) (p := 7) hdk_1680 dLb_37.2.2.2.2.1
theorem dL_law_1688 : decode cL_law 1688 = .ok (.iload 4, 2) := fdg (k := 1680) (p := 8) hdk_1680 dLb_37.2.2.2.2.2.1
theorem dL_law_1690 : decode cL_law 1690 = .ok (.iconst 1, 1) := fdg (k := 1680) (p := 10) hdk_1680 dLb_37.2.2.2.2.2.2.1
theorem dL_law_1691 : decode cL_law 1691 = .ok (.iadd, 1) := fdg (k := 1680) (p := 11) hdk_1680 dLb_37.2.2.2.2.2.2.2.1
theorem dL_law_1692 : decode cL_law 1692 = .ok (.iaload, 1) := fdg (k := 1680) (p := 12) hdk_1680 dLb_37.2.2.2.2.2.2.2.2.1
theorem dL_law_1693 : decode cL_law 1693 = .ok (.aload_n 3, 1) := fdg (k := 1680) (p := 13) hdk_1680 dLb_37.2.2.2.2.2.2.2.2.2.1
theorem dL_law_1694 : decode cL_law 1694 = .ok (.invokestatic 241, 3) := fdg (k := 1680) (p := 14) hdk_1680 dLb_37.2.2.2.2.2.2.2.2.2.2.1
theorem dL_law_1697 : decode cL_law 1697 = .ok (.istore 5, 2) := fdg (k := 1680) (p := 17) hdk_1680 dLb_37.2.2.2.2.2.2.2.2.2.2.2.1
theorem dL_law_1699 : decode cL_law 1699 = .ok (.aload_n 2, 1) := fdg (k := 1680) (p := 19) hdk_1680 dLb_37.2.2.2.2.2.2.2.2.2.2.2.2.1
theorem dL_law_1700 : decode cL_law 1700 = .ok (.aload_n 0, 1) := fdg (k := 1680) (p := 20) hdk_1680 dLb_37.2.2.2.2.2.2.2.2.2.2.2.2.2.1
theorem dL_law_1701 : decode cL_law 1701 = .ok (.iload 4, 2) := fdg (k := 1680) (p := 21) hdk_1680 dLb_37.2.2.2.2.2.2.2.2.2.2.2.2.2.2.1
theorem dL_law_1703 : decode cL_law 1703 = .ok (.iconst 1, 1) := fdg (k := 1680) (p := 23) hdk_1680 dLb_37.2.2.2.2.2.2.2.2.2.2.2.2.2.2.2.1
theorem dL_law_1704 : decode cL_law 1704 = .ok (.iadd, 1) := fdg (k := 1680) (p := 24) hdk_1680 dLb_37.2.2.2.2.2.2.2.2.2.2.2.2.2.2.2.2.1
theorem dL_law_1705 : decode cL_law 1705 = .ok (.iaload, 1) := fdg (k := 1680) (p := 25) hdk_1680 dLb_37.2.2.2.2.2.2.2.2.2.2.2.2.2.2.2.2.2.1
theorem dL_law_1706 : decode cL_law 1706 = .ok (.invokevirtual 243, 3) := fdg (k := 1680) (p := 26) hdk_1680 dLb_37.2.2.2.2.2.2.2.2.2.2.2.2.2.2.2.2.2.2.1
theorem dL_law_1709 : decode cL_law 1709 = .ok (.istore 6, 2) := fdg (k := 1680) (p := 29) hdk_1680 dLb_37.2.2.2.2.2.2.2.2.2.2.2.2.2.2.2.2.2.2.2.1
theorem dL_law_1711 : decode cL_law 1711 = .ok (.aload_n 2, 1) := fdg (k := 1680) (p := 31) hdk_1680 dLb_37.2.2.2.2.2.2.2.2.2.2.2.2.2.2.2.2.2.2.2.2.1
theorem dL_law_1712 : decode cL_law 1712 = .ok (.invokevirtual 170, 3) := fdg (k := 1680) (p := 32) hdk_1680 dLb_37.2.2.2.2.2.2.2.2.2.2.2.2.2.2.2.2.2.2.2.2.2.1
theorem dL_law_1715 : decode cL_law 1715 = .ok (.iload 5, 2) := fdg (k := 1680) (p := 35) hdk_1680 dLb_37.2.2.2.2.2.2.2.2.2.2.2.2.2.2.2.2.2.2.2.2.2.2.1
theorem dL_law_1717 : decode cL_law 1717 = .ok (.if_icmp .eq 5, 3) := fdg (k := 1680) (p := 37) hdk_1680 dLb_37.2.2.2.2.2.2.2.2.2.2.2.2.2.2.2.2.2.2.2.2.2.2.2.1
theorem dL_law_1720 : decode cL_law 1720 = .ok (.iconst 0, 1) := fdg (k := 1680) (p := 40) hdk_1680 dLb_37.2.2.2.2.2.2.2.2.2.2.2.2.2.2.2.2.2.2.2.2.2.2.2.2.1
theorem dL_law_1721 : decode cL_law 1721 = .ok (.ireturn, 1) := fdg (k := 1680) (p := 41) hdk_1680 dLb_37.2.2.2.2.2.2.2.2.2.2.2.2.2.2.2.2.2.2.2.2.2.2.2.2.2.1
theorem dL_law_1722 : decode cL_law 1722 = .ok (.iload 5, 2) := fdg (k := 1680) (p := 42) hdk_1680 dLb_37.2.2.2.2.2.2.2.2.2.2.2.2.2.2.2.2.2.2.2.2.2.2.2.2.2.2.1
theorem dL_law_1724 : decode cL_law 1724 = .ok (.ifCond .ne 16, 3) := fdg (k := 1680) (p := 44) hdk_1680 dLb_37.2.2.2.2.2.2.2.2.2.2.2.2.2.2.2.2.2.2.2.2.2.2.2.2.2.2.2.1
theorem dL_law_1727 : decode cL_law 1727 = .ok (.aload_n 3, 1) := fdg (k := 1680) (p := 47) hdk_1680 dLb_37.2.2.2.2.2.2.2.2.2.2.2.2.2.2.2.2.2.2.2.2.2.2.2.2.2.2.2.2
theorem dLb_38 : fdq dk_1728 0 (.getfield 13) 3 = true ∧ fdq dk_1728 3 (.iload 6) 2 = true ∧ fdq dk_1728 5 (.i2l) 1 = true ∧ fdq dk_1728 6 (.lcmp) 1 = true ∧ fdq dk_1728 7 (.ifCond .eq 5) 3 = true ∧ fdq dk_1728 10 (.iconst 0) 1 = true ∧ fdq dk_1728 11 (.ireturn) 1 = true ∧ fdq dk_1728 12 (.goto 1572) 3 = true ∧ fdq dk_1728 15 (.aload_n 1) 1 = true ∧ fdq dk_1728 16 (.aload_n 0) 1 = true ∧ fdq dk_1728 17 (.iload 4) 2 = true ∧ fdq dk_1728 19 (.iconst 1) 1 = true ∧ fdq dk_1728 20 (.iadd) 1 = true ∧ fdq dk_1728 21 (.iaload) 1 = true ∧ fdq dk_1728 22 (.aload_n 0) 1 = true ∧ fdq dk_1728 23 (.iload 4) 2 = true ∧ fdq dk_1728 25 (.iconst 2) 1 = true ∧ fdq dk_1728 26 (.iadd) 1 = true ∧ fdq dk_1728 27 (.iaload) 1 = true ∧ fdq dk_1728 28 (.aload_n 0) 1 = true ∧ fdq dk_1728 29 (.iload 4) 2 = true ∧ fdq dk_1728 31 (.iconst 3) 1 = true ∧ fdq dk_1728 32 (.iadd) 1 = true ∧ fdq dk_1728 33 (.iaload) 1 = true ∧ fdq dk_1728 34 (.aload_n 0) 1 = true ∧ fdq dk_1728 35 (.iload 4) 2 = true ∧ fdq dk_1728 37 (.iconst 4) 1 = true ∧ fdq dk_1728 38 (.iadd) 1 = true ∧ fdq dk_1728 39 (.iaload) 1 = true ∧ fdq dk_1728 40 (.aload_n 0) 1 = true ∧ fdq dk_1728 41 (.iload 4) 2 = true ∧ fdq dk_1728 43 (.iconst 5) 1 = true := by decide +kernel
theorem dL_law_1728 : decode cL_law 1728 = .ok (.getfield 13, 3) := fdg (k := 1728) (p := 0) hdk_1728 dLb_38.1
theorem dL_law_1731 : decode cL_law 1731 = .ok (.iload 6, 2) := fdg (k := 1728) (p := 3) hdk_1728 dLb_38.2.1
theorem dL_law_1733 : decode cL_law 1733 = .ok (.i2l, 1) := fdg (k := 1728) (p := 5) hdk_1728 dLb_38.2.2.1
theorem dL_law_1734 : decode cL_law 1734 = .ok (.lcmp, 1) := fdg (k := 1728) (p := 6) hdk_1728 dLb_38.2.2.2.1
theorem dL_law_1735 : decode cL_law 1735 = .ok (.ifCond .eq 5, 3) := fdg (k := 1728) (p := 7) hdk_1728 dLb_38.2.2.2.2.1
theorem dL_law_1738 : decode cL_law 1738 = .ok (.iconst 0, 1) := fdg (k := 1728) (p := 10) hdk_1728 dLb_38.2.2.2.2.2.1
theorem dL_law_1739 : decode cL_law 1739 = .ok (.ireturn, 1) := fdg (k := 1728) (p := 11) hdk_1728 dLb_38.2.2.2.2.2.2.1
theorem dL_law_1740 : decode cL_law 1740 = .ok (.goto 1572, 3) := fdg (k := 1728) (p := 12) hdk_1728 dLb_38.2.2.2.2.2.2.2.1
theorem dL_law_1743 : decode cL_law 1743 = .ok (.aload_n 1, 1) := fdg (k := 1728) (p := 15) hdk_1728 dLb_38.2.2.2.2.2.2.2.2.1
theorem dL_law_1744 : decode cL_law 1744 = .ok (.aload_n 0, 1) := fdg (k := 1728) (p := 16) hdk_1728 dLb_38.2.2.2.2.2.2.2.2.2.1
theorem dL_law_1745 : decode cL_law 1745 = .ok (.iload 4, 2) := fdg (k := 1728) (p := 17) hdk_1728 dLb_38.2.2.2.2.2.2.2.2.2.2.1
theorem dL_law_1747 : decode cL_law 1747 = .ok (.iconst 1, 1) := fdg (k := 1728) (p := 19) hdk_1728 dLb_38.2.2.2.2.2.2.2.2.2.2.2.1
theorem dL_law_1748 : decode cL_law 1748 = .ok (.iadd, 1) := fdg (k := 1728) (p := 20) hdk_1728 dLb_38.2.2.2.2.2.2.2.2.2.2.2.2.1
theorem dL_law_1749 : decode cL_law 1749 = .ok (.iaload, 1) := fdg (k := 1728) (p := 21) hdk_1728 dLb_38.2.2.2.2.2.2.2.2.2.2.2.2.2.1
theorem dL_law_1750 : decode cL_law 1750 = .ok (.aload_n 0, 1) := fdg (k := 1728) (p := 22) hdk_1728 dLb_38.2.2.2.2.2.2.2.2.2.2.2.2.2.2.1
theorem dL_law_1751 : decode cL_law 1751 = .ok (.iload 4, 2) := fdg (k := 1728) (p := 23) hdk_1728 dLb_38.2.2.2.2.2.2.2.2.2.2.2.2.2.2.2.1
theorem dL_law_1753 : decode cL_law 1753 = .ok (.iconst 2, 1) := fdg (k := 1728) (p := 25) hdk_1728 dLb_38.2.2.2.2.2.2.2.2.2.2.2.2.2.2.2.2.1
theorem dL_law_1754 : decode cL_law 1754 = .ok (.iadd, 1) := fdg (k := 1728) (p := 26) hdk_1728 dLb_38.2.2.2.2.2.2.2.2.2.2.2.2.2.2.2.2.2.1
theorem dL_law_1755 : decode cL_law 1755 = .ok (.iaload, 1) := fdg (k := 1728) (p := 27) hdk_1728 dLb_38.2.2.2.2.2.2.2.2.2.2.2.2.2.2.2.2.2.2.1
theorem dL_law_1756 : decode cL_law 1756 = .ok (.aload_n 0, 1) := fdg (k := 1728) (p := 28) hdk_1728 dLb_38.2.2.2.2.2.2.2.2.2.2.2.2.2.2.2.2.2.2.2.1
theorem dL_law_1757 : decode cL_law 1757 = .ok (.iload 4, 2) := fdg (k := 1728) (p := 29) hdk_1728 dLb_38.2.2.2.2.2.2.2.2.2.2.2.2.2.2.2.2.2.2.2.2.1
theorem dL_law_1759 : decode cL_law 1759 = .ok (.iconst 3, 1) := fdg (k := 1728) (p := 31) hdk_1728 dLb_38.2.2.2.2.2.2.2.2.2.2.2.2.2.2.2.2.2.2.2.2.2.1
theorem dL_law_1760 : decode cL_law 1760 = .ok (.iadd, 1) := fdg (k := 1728) (p := 32) hdk_1728 dLb_38.2.2.2.2.2.2.2.2.2.2.2.2.2.2.2.2.2.2.2.2.2.2.1
theorem dL_law_1761 : decode cL_law 1761 = .ok (.iaload, 1) := fdg (k := 1728) (p := 33) hdk_1728 dLb_38.2.2.2.2.2.2.2.2.2.2.2.2.2.2.2.2.2.2.2.2.2.2.2.1
theorem dL_law_1762 : decode cL_law 1762 = .ok (.aload_n 0, 1) := fdg (k := 1728) (p := 34) hdk_1728 dLb_38.2.2.2.2.2.2.2.2.2.2.2.2.2.2.2.2.2.2.2.2.2.2.2.2.1
theorem dL_law_1763 : decode cL_law 1763 = .ok (.iload 4, 2) := fdg (k := 1728) (p := 35) hdk_1728 dLb_38.2.2.2.2.2.2.2.2.2.2.2.2.2.2.2.2.2.2.2.2.2.2.2.2.2.1
theorem dL_law_1765 : decode cL_law 1765 = .ok (.iconst 4, 1) := fdg (k := 1728) (p := 37) hdk_1728 dLb_38.2.2.2.2.2.2.2.2.2.2.2.2.2.2.2.2.2.2.2.2.2.2.2.2.2.2.1
theorem dL_law_1766 : decode cL_law 1766 = .ok (.iadd, 1) := fdg (k := 1728) (p := 38) hdk_1728 dLb_38.2.2.2.2.2.2.2.2.2.2.2.2.2.2.2.2.2.2.2.2.2.2.2.2.2.2.2.1
theorem dL_law_1767 : decode cL_law 1767 = .ok (.iaload, 1) := fdg (k := 1728) (p := 39) hdk_1728 dLb_38.2.2.2.2.2.2.2.2.2.2.2.2.2.2.2.2.2.2.2.2.2.2.2.2.2.2.2.2.1
theorem dL_law_1768 : decode cL_law 1768 = .ok (.aload_n 0, 1) := fdg (k := 1728) (p := 40) hdk_1728 dLb_38.2.2.2.2.2.2.2.2.2.2.2.2.2.2.2.2.2.2.2.2.2.2.2.2.2.2.2.2.2.1
theorem dL_law_1769 : decode cL_law 1769 = .ok (.iload 4, 2) := fdg (k := 1728) (p := 41) hdk_1728 dLb_38.2.2.2.2.2.2.2.2.2.2.2.2.2.2.2.2.2.2.2.2.2.2.2.2.2.2.2.2.2.2.1
theorem dL_law_1771 : decode cL_law 1771 = .ok (.iconst 5, 1) := fdg (k := 1728) (p := 43) hdk_1728 dLb_38.2.2.2.2.2.2.2.2.2.2.2.2.2.2.2.2.2.2.2.2.2.2.2.2.2.2.2.2.2.2.2
theorem dLb_39 : fdq dk_1728 44 (.iadd) 1 = true ∧ fdq dk_1728 45 (.iaload) 1 = true ∧ fdq dk_1728 46 (.ifCond .eq 7) 3 = true := by decide +kernel
theorem dL_law_1772 : decode cL_law 1772 = .ok (.iadd, 1) := fdg (k := 1728) (p := 44) hdk_1728 dLb_39.1
theorem dL_law_1773 : decode cL_law 1773 = .ok (.iaload, 1) := fdg (k := 1728) (p := 45) hdk_1728 dLb_39.2.1
theorem dL_law_1774 : decode cL_law 1774 = .ok (.ifCond .eq 7, 3) := fdg (k := 1728) (p := 46) hdk_1728 dLb_39.2.2
theorem dLb_40 : fdq dk_1776 1 (.iconst 1) 1 = true ∧ fdq dk_1776 2 (.goto 4) 3 = true ∧ fdq dk_1776 5 (.iconst 0) 1 = true ∧ fdq dk_1776 6 (.aload_n 3) 1 = true ∧ fdq dk_1776 7 (.invokestatic 244) 3 = true ∧ fdq dk_1776 10 (.istore 5) 2 = true ∧ fdq dk_1776 12 (.aload_n 2) 1 = true ∧ fdq dk_1776 13 (.aload_n 0) 1 = true ∧ fdq dk_1776 14 (.iload 4) 2 = true ∧ fdq dk_1776 16 (.iconst 1) 1 = true ∧ fdq dk_1776 17 (.iadd) 1 = true ∧ fdq dk_1776 18 (.iaload) 1 = true ∧ fdq dk_1776 19 (.aload_n 0) 1 = true ∧ fdq dk_1776 20 (.iload 4) 2 = true ∧ fdq dk_1776 22 (.iconst 2) 1 = true ∧ fdq dk_1776 23 (.iadd) 1 = true ∧ fdq dk_1776 24 (.iaload) 1 = true ∧ fdq dk_1776 25 (.aload_n 0) 1 = true ∧ fdq dk_1776 26 (.iload 4) 2 = true ∧ fdq dk_1776 28 (.iconst 3) 1 = true ∧ fdq dk_1776 29 (.iadd) 1 = true ∧ fdq dk_1776 30 (.iaload) 1 = true ∧ fdq dk_1776 31 (.aload_n 0) 1 = true ∧ fdq dk_1776 32 (.iload 4) 2 = true ∧ fdq dk_1776 34 (.iconst 4) 1 = true ∧ fdq dk_1776 35 (.iadd) 1 = true ∧ fdq dk_1776 36 (.iaload) 1 = true ∧ fdq dk_1776 37 (.aload_n 0) 1 = true ∧ fdq dk_1776 38 (.iload 4) 2 = true ∧ fdq dk_1776 40 (.iconst 5) 1 = true ∧ fdq dk_1776 41 (.iadd) 1 = true ∧ fdq dk_1776 42 (.iaload) 1 = true := by decide +kernel
theorem dL_law_1777 : decode cL_law 1777 = .ok (.iconst 1, 1) := fdg (k := 1776) (p := 1) hdk_1776 dLb_40.1
theorem dL_law_1778 : decode cL_law 1778 = .ok (.goto 4, 3) := fdg (k := 1776) (p := 2) hdk_1776 dLb_40.2.1
theorem dL_law_1781 : decode cL_law 1781 = .ok (.iconst 0, 1) := fdg (k := 1776) (p := 5) hdk_1776 dLb_40.2.2.1
theorem dL_law_1782 : decode cL_law 1782 = .ok (.aload_n 3, 1) := fdg (k := 1776) (p := 6) hdk_1776 dLb_40.2.2.2.1
theorem dL_law_1783 : decode cL_law 1783 = .ok (.invokestatic 244, 3) := fdg (k := 1776) (p := 7) hdk_1776 dLb_40.2.2.2.2.1
theorem dL_law_1786 : decode cL_law 1786 = .ok (.istore 5, 2) := fdg (k := 1776) (p := 10) hdk_1776 dLb_40.2.2.2.2.2.1
theorem dL_law_1788 : decode cL_law 1788 = .ok (.aload_n 2, 1) := fdg (k := 1776) (p := 12) hdk_1776 dLb_40.2.2.2.2.2.2.1
theorem dL_law_1789 : decode cL_law 1789 = .ok (.aload_n 0, 1) := fdg (k := 1776) (p := 13) hdk_1776 dLb_40.2.2.2.2.2.2.2.1
theorem dL_law_1790 : decode cL_law 1790 = .ok (.iload 4, 2) := fdg (k := 1776) (p := 14) hdk_1776 dLb_40.2.2.2.2.2.2.2.2.1
theorem dL_law_1792 : decode cL_law 1792 = .ok (.iconst 1, 1) := fdg (k := 1776) (p := 16) hdk_1776 dLb_40.2.2.2.2.2.2.2.2.2.1
theorem dL_law_1793 : decode cL_law 1793 = .ok (.iadd, 1) := fdg (k := 1776) (p := 17) hdk_1776 dLb_40.2.2.2.2.2.2.2.2.2.2.1
theorem dL_law_1794 : decode cL_law 1794 = .ok (.iaload, 1) := fdg (k := 1776) (p := 18) hdk_1776 dLb_40.2.2.2.2.2.2.2.2.2.2.2.1
theorem dL_law_1795 : decode cL_law 1795 = .ok (.aload_n 0, 1) := fdg (k := 1776) (p := 19) hdk_1776 dLb_40.2.2.2.2.2.2.2.2.2.2.2.2.1
theorem dL_law_1796 : decode cL_law 1796 = .ok (.iload 4, 2) := fdg (k := 1776) (p := 20) hdk_1776 dLb_40.2.2.2.2.2.2.2.2.2.2.2.2.2.1
theorem dL_law_1798 : decode cL_law 1798 = .ok (.iconst 2, 1) := fdg (k := 1776) (p := 22) hdk_1776 dLb_40.2.2.2.2.2.2.2.2.2.2.2.2.2.2.1
theorem dL_law_1799 : decode cL_law 1799 = .ok (.iadd, 1) := fdg (k := 1776) (p := 23) hdk_1776 dLb_40.2.2.2.2.2.2.2.2.2.2.2.2.2.2.2.1
theorem dL_law_1800 : decode cL_law 1800 = .ok (.iaload, 1) := fdg (k := 1776) (p := 24) hdk_1776 dLb_40.2.2.2.2.2.2.2.2.2.2.2.2.2.2.2.2.1
theorem dL_law_1801 : decode cL_law 1801 = .ok (.aload_n 0, 1) := fdg (k := 1776) (p := 25) hdk_1776 dLb_40.2.2.2.2.2.2.2.2.2.2.2.2.2.2.2.2.2.1
theorem dL_law_1802 : decode cL_law 1802 = .ok (.iload 4, 2) := fdg (k := 1776) (p := 26) hdk_1776 dLb_40.2.2.2.2.2.2.2.2.2.2.2.2.2.2.2.2.2.2.1
theorem dL_law_1804 : decode cL_law 1804 = .ok (.iconst 3, 1) := fdg (k := 1776) (p := 28) hdk_1776 dLb_40.2.2.2.2.2.2.2.2.2.2.2.2.2.2.2.2.2.2.2.1
theorem dL_law_1805 : decode cL_law 1805 = .ok (.iadd, 1) := fdg (k := 1776) (p := 29) hdk_1776 dLb_40.2.2.2.2.2.2.2.2.2.2.2.2.2.2.2.2.2.2.2.2.1
theorem dL_law_1806 : decode cL_law 1806 = .ok (.iaload, 1) := fdg (k := 1776) (p := 30) hdk_1776 dLb_40.2.2.2.2.2.2.2.2.2.2.2.2.2.2.2.2.2.2.2.2.2.1
theorem dL_law_1807 : decode cL_law 1807 = .ok (.aload_n 0, 1) := fdg (k := 1776) (p := 31) hdk_1776 dLb_40.2.2.2.2.2.2.2.2.2.2.2.2.2.2.2.2.2.2.2.2.2.2.1
theorem dL_law_1808 : decode cL_law 1808 = .ok (.iload 4, 2) := fdg (k := 1776) (p := 32) hdk_1776 dLb_40.2.2.2.2.2.2.2.2.2.2.2.2.2.2.2.2.2.2.2.2.2.2.2.1
theorem dL_law_1810 : decode cL_law 1810 = .ok (.iconst 4, 1) := fdg (k := 1776) (p := 34) hdk_1776 dLb_40.2.2.2.2.2.2.2.2.2.2.2.2.2.2.2.2.2.2.2.2.2.2.2.2.1
theorem dL_law_1811 : decode cL_law 1811 = .ok (.iadd, 1) := fdg (k := 1776) (p := 35) hdk_1776 dLb_40.2.2.2.2.2.2.2.2.2.2.2.2.2.2.2.2.2.2.2.2.2.2.2.2.2.1
theorem dL_law_1812 : decode cL_law 1812 = .ok (.iaload, 1) := fdg (k := 1776) (p := 36) hdk_1776 dLb_40.2.2.2.2.2.2.2.2.2.2.2.2.2.2.2.2.2.2.2.2.2.2.2.2.2.2.1
theorem dL_law_1813 : decode cL_law 1813 = .ok (.aload_n 0, 1) := fdg (k := 1776) (p := 37) hdk_1776 dLb_40.2.2.2.2.2.2.2.2.2.2.2.2.2.2.2.2.2.2.2.2.2.2.2.2.2.2.2.1
theorem dL_law_1814 : decode cL_law 1814 = .ok (.iload 4, 2) := fdg (k := 1776) (p := 38) hdk_1776 dLb_40.2.2.2.2.2.2.2.2.2.2.2.2.2.2.2.2.2.2.2.2.2.2.2.2.2.2.2.2.1
theorem dL_law_1816 : decode cL_law 1816 = .ok (.iconst 5, 1) := fdg (k := 1776) (p := 40) hdk_1776 dLb_40.2.2.2.2.2.2.2.2.2.2.2.2.2.2.2.2.2.2.2.2.2.2.2.2.2.2.2.2.2.1
theorem dL_law_1817 : decode cL_law 1817 = .ok (.iadd, 1) := fdg (k := 1776) (p := 41) hdk_1776 dLb_40.2.2.2.2.2.2.2.2.2.2.2.2.2.2.2.2.2.2.2.2.2.2.2.2.2.2.2.2.2.2.1
theorem dL_law_1818 : decode cL_law 1818 = .ok (.iaload, 1) := fdg (k := 1776) (p := 42) hdk_1776 dLb_40.2.2.2.2.2.2.2.2.2.2.2.2.2.2.2.2.2.2.2.2.2.2.2.2.2.2.2.2.2.2.2
theorem dLb_41 : fdq dk_1776 43 (.ifCond .eq 7) 3 = true ∧ fdq dk_1776 46 (.iconst 1) 1 = true ∧ fdq dk_1776 47 (.goto 4) 3 = true := by decide +kernel
theorem dL_law_1819 : decode cL_law 1819 = .ok (.ifCond .eq 7, 3) := fdg (k := 1776) (p := 43) hdk_1776 dLb_41.1
theorem dL_law_1822 : decode cL_law 1822 = .ok (.iconst 1, 1) := fdg (k := 1776) (p := 46) hdk_1776 dLb_41.2.1
theorem dL_law_1823 : decode cL_law 1823 = .ok (.goto 4, 3) := fdg (k := 1776) (p := 47) hdk_1776 dLb_41.2.2
theorem dLb_42 : fdq dk_1824 2 (.iconst 0) 1 = true ∧ fdq dk_1824 3 (.invokevirtual 247) 3 = true ∧ fdq dk_1824 6 (.istore 6) 2 = true ∧ fdq dk_1824 8 (.aload_n 2) 1 = true ∧ fdq dk_1824 9 (.invokevirtual 170) 3 = true ∧ fdq dk_1824 12 (.iload 5) 2 = true ∧ fdq dk_1824 14 (.if_icmp .eq 5) 3 = true ∧ fdq dk_1824 17 (.iconst 0) 1 = true ∧ fdq dk_1824 18 (.ireturn) 1 = true ∧ fdq dk_1824 19 (.iload 5) 2 = true ∧ fdq dk_1824 21 (.ifCond .ne 16) 3 = true ∧ fdq dk_1824 24 (.aload_n 3) 1 = true ∧ fdq dk_1824 25 (.getfield 13) 3 = true ∧ fdq dk_1824 28 (.iload 6) 2 = true ∧ fdq dk_1824 30 (.i2l) 1 = true ∧ fdq dk_1824 31 (.lcmp) 1 = true ∧ fdq dk_1824 32 (.ifCond .eq 5) 3 = true ∧ fdq dk_1824 35 (.iconst 0) 1 = true ∧ fdq dk_1824 36 (.ireturn) 1 = true ∧ fdq dk_1824 37 (.goto 1451) 3 = true ∧ fdq dk_1824 40 (.aload_n 1) 1 = true ∧ fdq dk_1824 41 (.aload_n 0) 1 = true ∧ fdq dk_1824 42 (.iload 4) 2 = true ∧ fdq dk_1824 44 (.iconst 1) 1 = true ∧ fdq dk_1824 45 (.iadd) 1 = true ∧ fdq dk_1824 46 (.iaload) 1 = true ∧ fdq dk_1824 47 (.aload_n 0) 1 = true := by decide +kernel
theorem dL_law_1826 : decode cL_law 1826 = .ok (.iconst 0, 1) := fdg (k := 1824) (p := 2) hdk_1824 dLb_42.1
theorem dL_law_1827 : decode cL_law 1827 = .ok (.invokevirtual 247, 3) := fdg (k := 1824) (p := 3) hdk_1824 dLb_42.2.1
theorem dL_law_1830 : decode cL_law 1830 = .ok (.istore 6, 2) := fdg (k := 1824) (p := 6) hdk_1824 dLb_42.2.2.1
theorem dL_law_1832 : decode cL_law 1832 = .ok (.aload_n 2, 1) := fdg (k := 1824) (p := 8) hdk_1824 dLb_42.2.2.2.1
theorem dL_law_1833 : decode cL_law 1833 = .ok (.invokevirtual 170, 3) := fdg (k := 1824) (p := 9) hdk_1824 dLb_42.2.2.2.2.1
theorem dL_law_1836 : decode cL_law 1836 = .ok (.iload 5, 2) := fdg (k := 1824) (p := 12) hdk_1824 dLb_42.2.2.2.2.2.1
theorem dL_law_1838 : decode cL_law 1838 = .ok (.if_icmp .eq 5, 3) := fdg (k := 1824) (p := 14) hdk_1824 dLb_42.2.2.2.2.2.2.1
theorem dL_law_1841 : decode cL_law 1841 = .ok (.iconst 0, 1) := fdg (k := 1824) (p := 17) hdk_1824 dLb_42.2.2.2.2.2.2.2.1
theorem dL_law_1842 : decode cL_law 1842 = .ok (.ireturn, 1) := fdg (k := 1824) (p := 18) hdk_1824 dLb_42.2.2.2.2.2.2.2.2.1
theorem dL_law_1843 : decode cL_law 1843 = .ok (.iload 5, 2) := fdg (k := 1824) (p := 19) hdk_1824 dLb_42.2.2.2.2.2.2.2.2.2.1
theorem dL_law_1845 : decode cL_law 1845 = .ok (.ifCond .ne 16, 3) := fdg (k := 1824) (p := 21) hdk_1824 dLb_42.2.2.2.2.2.2.2.2.2.2.1
theorem dL_law_1848 : decode cL_law 1848 = .ok (.aload_n 3, 1) := fdg (k := 1824) (p := 24) hdk_1824 dLb_42.2.2.2.2.2.2.2.2.2.2.2.1
theorem dL_law_1849 : decode cL_law 1849 = .ok (.getfield 13, 3) := fdg (k := 1824) (p := 25) hdk_1824 dLb_42.2.2.2.2.2.2.2.2.2.2.2.2.1
theorem dL_law_1852 : decode cL_law 1852 = .ok (.iload 6, 2) := fdg (k := 1824) (p := 28) hdk_1824 dLb_42.2.2.2.2.2.2.2.2.2.2.2.2.2.1
theorem dL_law_1854 : decode cL_law 1854 = .ok (.i2l, 1) := fdg (k := 1824) (p := 30) hdk_1824 dLb_42.2.2.2.2.2.2.2.2.2.2.2.2.2.2.1
theorem dL_law_1855 : decode cL_law 1855 = .ok (.lcmp, 1) := fdg (k := 1824) (p := 31) hdk_1824 dLb_42.2.2.2.2.2.2.2.2.2.2.2.2.2.2.2.1
theorem dL_law_1856 : decode cL_law 1856 = .ok (.ifCond .eq 5, 3) := fdg (k := 1824) (p := 32) hdk_1824 dLb_42.2.2.2.2.2.2.2.2.2.2.2.2.2.2.2.2.1
theorem dL_law_1859 : decode cL_law 1859 = .ok (.iconst 0, 1) := fdg (k := 1824) (p := 35) hdk_1824 dLb_42.2.2.2.2.2.2.2.2.2.2.2.2.2.2.2.2.2.1
theorem dL_law_1860 : decode cL_law 1860 = .ok (.ireturn, 1) := fdg (k := 1824) (p := 36) hdk_1824 dLb_42.2.2.2.2.2.2.2.2.2.2.2.2.2.2.2.2.2.2.1
theorem dL_law_1861 : decode cL_law 1861 = .ok (.goto 1451, 3) := fdg (k := 1824) (p := 37) hdk_1824 dLb_42.2.2.2.2.2.2.2.2.2.2.2.2.2.2.2.2.2.2.2.1
theorem dL_law_1864 : decode cL_law 1864 = .ok (.aload_n 1, 1) := fdg (k := 1824) (p := 40) hdk_1824 dLb_42.2.2.2.2.2.2.2.2.2.2.2.2.2.2.2.2.2.2.2.2.1
theorem dL_law_1865 : decode cL_law 1865 = .ok (.aload_n 0, 1) := fdg (k := 1824) (p := 41) hdk_1824 dLb_42.2.2.2.2.2.2.2.2.2.2.2.2.2.2.2.2.2.2.2.2.2.1
theorem dL_law_1866 : decode cL_law 1866 = .ok (.iload 4, 2) := fdg (k := 1824) (p := 42) hdk_1824 dLb_42.2.2.2.2.2.2.2.2.2.2.2.2.2.2.2.2.2.2.2.2.2.2.1
theorem dL_law_1868 : decode cL_law 1868 = .ok (.iconst 1, 1) := fdg (k := 1824) (p := 44) hdk_1824 dLb_42.2.2.2.2.2.2.2.2.2.2.2.2.2.2.2.2.2.2.2.2.2.2.2.1
theorem dL_law_1869 : decode cL_law 1869 = .ok (.iadd, 1) := fdg (k := 1824) (p := 45) hdk_1824 dLb_42.2.2.2.2.2.2.2.2.2.2.2.2.2.2.2.2.2.2.2.2.2.2.2.2.1
theorem dL_law_1870 : decode cL_law 1870 = .ok (.iaload, 1) := fdg (k := 1824) (p := 46) hdk_1824 dLb_42.2.2.2.2.2.2.2.2.2.2.2.2.2.2.2.2.2.2.2.2.2.2.2.2.2.1
theorem dL_law_1871 : decode cL_law 1871 = .ok (.aload_n 0, 1) := fdg (k := 1824) (p := 47) hdk_1824 dLb_42.2.2.2.2.2.2.2.2.2.2.2.2.2.2.2.2.2.2.2.2.2.2.2.2.2.2
theorem dLb_43 : fdq dk_1872 0 (.iload 4) 2 = true ∧ fdq dk_1872 2 (.iconst 2) 1 = true ∧ fdq dk_1872 3 (.iadd) 1 = true ∧ fdq dk_1872 4 (.iaload) 1 = true ∧ fdq dk_1872 5 (.aload_n 0) 1 = true ∧ fdq dk_1872 6 (.iload 4) 2 = true ∧ fdq dk_1872 8 (.iconst 3) 1 = true ∧ fdq dk_1872 9 (.iadd) 1 = true ∧ fdq dk_1872 10 (.iaload) 1 = true ∧ fdq dk_1872 11 (.aload_n 3) 1 = true ∧ fdq dk_1872 12 (.invokestatic 248) 3 = true ∧ fdq dk_1872 15 (.istore 5) 2 = true ∧ fdq dk_1872 17 (.aload_n 2) 1 = true ∧ fdq dk_1872 18 (.aload_n 0) 1 = true ∧ fdq dk_1872 19 (.iload 4) 2 = true ∧ fdq dk_1872 21 (.iconst 1) 1 = true ∧ fdq dk_1872 22 (.iadd) 1 = true ∧ fdq dk_1872 23 (.iaload) 1 = true ∧ fdq dk_1872 24 (.aload_n 0) 1 = true ∧ fdq dk_1872 25 (.iload 4) 2 = true ∧ fdq dk_1872 27 (.iconst 2) 1 = true ∧ fdq dk_1872 28 (.iadd) 1 = true ∧ fdq dk_1872 29 (.iaload) 1 = true ∧ fdq dk_1872 30 (.aload_n 0) 1 = true ∧ fdq dk_1872 31 (.iload 4) 2 = true ∧ fdq dk_1872 33 (.iconst 3) 1 = true ∧ fdq dk_1872 34 (.iadd) 1 = true ∧ fdq dk_1872 35 (.iaload) 1 = true ∧ fdq dk_1872 36 (.invokevirtual 250) 3 = true ∧ fdq dk_1872 39 (.istore 6) 2 = true ∧ fdq dk_1872 41 (.aload_n 2) 1 = true ∧ fdq dk_1872 42 (.invokevirtual 170) 3 = true := by decide +kernel
theorem dL_law_1872 : decode cL_law 1872 = .ok (.iload 4, 2) := fdg (k := 1872) (p := 0) hdk_1872 dLb_43.1
theorem dL_law_1874 : decode cL_law 1874 = .ok (.iconst 2, 1) := fdg (k := 1872) (p := 2) hdk_1872 dLb_43.2.1
theorem dL_law_1875 : decode cL_law 1875 = .ok (.iadd, 1) := fdg (k := 1872) (p := 3) hdk_1872 dLb_43.2.2.1
theorem dL_law_1876 : decode cL_law 1876 = .ok (.iaload, 1) := fdg (k := 1872) (p := 4) hdk_1872 dLb_43.2.2.2.1
theorem dL_law_1877 : decode cL_law 1877 = .ok (.aload_n 0, 1) := fdg (k := 1872) (p := 5) hdk_1872 dLb_43.2.2.2.2.1
theorem dL_law_1878 : decode cL_law 1878 = .ok (.iload 4, 2) := fdg (k := 1872) (p := 6) hdk_1872 dLb_43.2.2.2.2.2.1
theorem dL_law_1880 : decode cL_law 1880 = .ok (.iconst 3, 1) := fdg (k := 1872) (p := 8) hdk_1872 dLb_43.2.2.2.2.2.2.1
theorem dL_law_1881 : decode cL_law 1881 = .ok (.iadd, 1) := fdg (k := 1872) (p := 9) hdk_1872 dLb_43.2.2.2.2.2.2.2.1
theorem dL_law_1882 : decode cL_law 1882 = .ok (.iaload, 1) := fdg (k := 1872) (p := 10) hdk_1872 dLb_43.2.2.2.2.2.2.2.2.1
theorem dL_law_1883 : decode cL_law 1883 = .ok (.aload_n 3, 1) := fdg (k := 1872) (p := 11) hdk_1872 dLb_43.2.2.2.2.2.2.2.2.2.1
theorem dL_law_1884 : decode cL_law 1884 = .ok (.invokestatic 248, 3) := fdg (k := 1872) (p := 12) hdk_1872 dLb_43.2.2.2.2.2.2.2.2.2.2.1
theorem dL_law_1887 : decode cL_law 1887 = .ok (.istore 5, 2) := fdg (k := 1872) (p := 15) hdk_1872 dLb_43.2.2.2.2.2.2.2.2.2.2.2.1
theorem dL_law_1889 : decode cL_law 1889 = .ok (.aload_n 2, 1) := fdg (k := 1872) (p := 17) hdk_1872 dLb_43.2.2.2.2.2.2.2.2.2.2.2.2.1
theorem dL_law_1890 : decode cL_law 1890 = .ok (.aload_n 0, 1) := fdg (k := 1872) (p := 18) hdk_1872 dLb_43.2.2.2.2.2.2.2.2.2.2.2.2.2.1
theorem dL_law_1891 : decode cL_law 1891 = .ok (.iload 4, 2) := fdg (k := 1872) (p := 19) hdk_1872 dLb_43.2.2.2.2.2.2.2.2.2.2.2.2.2.2.1
theorem dL_law_1893 : decode cL_law 1893 = .ok (.iconst 1, 1) := fdg (k := 1872) (p := 21) hdk_1872 dLb_43.2.2.2.2.2.2.2.2.2.2.2.2.2.2.2.1
theorem dL_law_1894 : decode cL_law 1894 = .ok (.iadd, 1) := fdg (k := 1872) (p := 22) hdk_1872 dLb_43.2.2.2.2.2.2.2.2.2.2.2.2.2.2.2.2.1
theorem dL_law_1895 : decode cL_law 1895 = .ok (.iaload, 1) := fdg (k := 1872) (p := 23) hdk_1872 dLb_43.2.2.2.2.2.2.2.2.2.2.2.2.2.2.2.2.2.1
theorem dL_law_1896 : decode cL_law 1896 = .ok (.aload_n 0, 1) := fdg (k := 1872) (p := 24) hdk_1872 dLb_43.2.2.2.2.2.2.2.2.2.2.2.2.2.2.2.2.2.2.1
theorem dL_law_1897 : decode cL_law 1897 = .ok (.iload 4, 2) := fdg (k := 1872) (p := 25) hdk_1872 dLb_43.2.2.2.2.2.2.2.2.2.2.2.2.2.2.2.2.2.2.2.1
theorem dL_law_1899 : decode cL_law 1899 = .ok (.iconst 2, 1) := fdg (k := 1872) (p := 27) hdk_1872 dLb_43.2.2.2.2.2.2.2.2.2.2.2.2.2.2.2.2.2.2.2.2.1
theorem dL_law_1900 : decode cL_law 1900 = .ok (.iadd, 1) := fdg (k := 1872) (p := 28) hdk_1872 dLb_43.2.2.2.2.2.2.2.2.2.2.2.2.2.2.2.2.2.2.2.2.2.1
theorem dL_law_1901 : decode cL_law 1901 = .ok (.iaload, 1) := fdg (k := 1872) (p := 29) hdk_1872 dLb_43.2.2.2.2.2.2.2.2.2.2.2.2.2.2.2.2.2.2.2.2.2.2.1
theorem dL_law_1902 : decode cL_law 1902 = .ok (.aload_n 0, 1) := fdg (k := 1872) (p := 30) hdk_1872 dLb_43.2.2.2.2.2.2.2.2.2.2.2.2.2.2.2.2.2.2.2.2.2.2.2.1
theorem dL_law_1903 : decode cL_law 1903 = .ok (.iload 4, 2) := fdg (k := 1872) (p := 31) hdk_1872 dLb_43.2.2.2.2.2.2.2.2.2.2.2.2.2.2.2.2.2.2.2.2.2.2.2.2.1
theorem dL_law_1905 : decode cL_law 1905 = .ok (.iconst 3, 1) := fdg (k := 1872) (p := 33) hdk_1872 dLb_43.2.2.2.2.2.2.2.2.2.2.2.2.2.2.2.2.2.2.2.2.2.2.2.2.2.1
theorem dL_law_1906 : decode cL_law 1906 = .ok (.iadd, 1) := fdg (k := 1872) (p := 34) hdk_1872 dLb_43.2.2.2.2.2.2.2.2.2.2.2.2.2.2.2.2.2.2.2.2.2.2.2.2.2.2.1
theorem dL_law_1907 : decode cL_law 1907 = .ok (.iaload, 1) := fdg (k := 1872) (p := 35) hdk_1872 dLb_43.2.2.2.2.2.2.2.2.2.2.2.2.2.2.2.2.2.2.2.2.2.2.2.2.2.2.2.1
theorem dL_law_1908 : decode cL_law 1908 = .ok (.invokevirtual 250, 3) := fdg (k := 1872) (p := 36) hdk_1872 dLb_43.2.2.2.2.2.2.2.2.2.2.2.2.2.2.2.2.2.2.2.2.2.2.2.2.2.2.2.2.1
theorem dL_law_1911 : decode cL_law 1911 = .ok (.istore 6, 2) := fdg (k := 1872) (p := 39) hdk_1872 dLb_43.2.2.2.2.2.2.2.2.2.2.2.2.2.2.2.2.2.2.2.2.2.2.2.2.2.2.2.2.2.1
theorem dL_law_1913 : decode cL_law 1913 = .ok (.aload_n 2, 1) := fdg (k := 1872) (p := 41) hdk_1872 dLb_43.2.2.2.2.2.2.2.2.2.2.2.2.2.2.2.2.2.2.2.2.2.2.2.2.2.2.2.2.2.2.1
theorem dL_law_1914 : decode cL_law 1914 = .ok (.invokevirtual 170, 3) := fdg (k := 1872) (p := 42) hdk_1872 dLb_43.2.2.2.2.2.2.2.2.2.2.2.2.2.2.2.2.2.2.2.2.2.2.2.2.2.2.2.2.2.2.2
theorem dLb_44 : fdq dk_1872 45 (.iload 5) 2 = true ∧ fdq dk_1872 47 (.if_icmp .eq 5) 3 = true := by decide +kernel
theorem dL_law_1917 : decode cL_law 1917 = .ok (.iload 5, 2) := fdg (k := 1872) (p := 45) hdk_1872 dLb_44.1
theorem dL_law_1919 : decode cL_law 1919 = .ok (.if_icmp .eq 5, 3) := fdg (k := 1872) (p := 47) hdk_1872 dLb_44.2
theorem dLb_45 : fdq dk_1920 2 (.iconst 0) 1 = true ∧ fdq dk_1920 3 (.ireturn) 1 = true ∧ fdq dk_1920 4 (.iload 5) 2 = true ∧ fdq dk_1920 6 (.ifCond .ne 16) 3 = true ∧ fdq dk_1920 9 (.aload_n 3) 1 = true ∧ fdq dk_1920 10 (.getfield 13) 3 = true ∧ fdq dk_1920 13 (.iload 6) 2 = true ∧ fdq dk_1920 15 (.i2l) 1 = true ∧ fdq dk_1920 16 (.lcmp) 1 = true ∧ fdq dk_1920 17 (.ifCond .eq 5) 3 = true ∧ fdq dk_1920 20 (.iconst 0) 1 = true ∧ fdq dk_1920 21 (.ireturn) 1 = true ∧ fdq dk_1920 22 (.goto 1370) 3 = true ∧ fdq dk_1920 25 (.aload_n 1) 1 = true ∧ fdq dk_1920 26 (.aload_n 0) 1 = true ∧ fdq dk_1920 27 (.iload 4) 2 = true ∧ fdq dk_1920 29 (.iconst 1) 1 = true ∧ fdq dk_1920 30 (.iadd) 1 = true ∧ fdq dk_1920 31 (.iaload) 1 = true ∧ fdq dk_1920 32 (.aload_n 0) 1 = true ∧ fdq dk_1920 33 (.iload 4) 2 = true ∧ fdq dk_1920 35 (.iconst 2) 1 = true ∧ fdq dk_1920 36 (.iadd) 1 = true ∧ fdq dk_1920 37 (.iaload) 1 = true ∧ fdq dk_1920 38 (.aload_n 0) 1 = true ∧ fdq dk_1920 39 (.iload 4) 2 = true ∧ fdq dk_1920 41 (.iconst 3) 1 = true ∧ fdq dk_1920 42 (.iadd) 1 = true ∧ fdq dk_1920 43 (.iaload) 1 = true ∧ fdq dk_1920 44 (.aload_n 3) 1 = true ∧ fdq dk_1920 45 (.invokestatic 251) 3 = true := by decide +kernel
theorem dL_law_1922 : decode cL_law 1922 = .ok (.iconst 0, 1) := fdg (k := 1920) (p := 2) hdk_1920 dLb_45.1
theorem dL_law_1923 : decode cL_law 1923 = .ok (.ireturn, 1) := fdg (k := 1920) (p := 3) hdk_1920 dLb_45.2.1
theorem dL_law_1924 : decode cL_law 1924 = .ok (.iload 5, 2) := fdg (k := 1920) (p := 4) hdk_1920 dLb_45.2.2.1
theorem dL_law_1926 : decode cL_law 1926 = .ok (.ifCond .ne 16, 3) := fdg (k := 1920) (p := 6) hdk_1920 dLb_45.2.2.2.1
theorem dL_law_1929 : decode cL_law 1929 = .ok (.aload_n 3, 1) := fdg (k := 1920) (p := 9) hdk_1920 dLb_45.2.2.2.2.1
theorem dL_law_1930 : decode cL_law 1930 = .ok (.getfield 13, 3) := fdg (k := 1920) (p := 10) hdk_1920 dLb_45.2.2.2.2.2.1
theorem dL_law_1933 : decode cL_law 1933 = .ok (.iload 6, 2) := fdg (k := 1920) (p := 13) hdk_1920 dLb_45.2.2.2.2.2.2.1
theorem dL_law_1935 : decode cL_law 1935 = .ok (.i2l, 1) := fdg (k := 1920) (p := 15) hdk_1920 dLb_45.2.2.2.2.2.2.2.1
theorem dL_law_1936 : decode cL_law 1936 = .ok (.lcmp, 1) := fdg (k := 1920) (p := 16) hdk_1920 dLb_45.2.2.2.2.2.2.2.2.1
theorem dL_law_1937 : decode cL_law 1937 = .ok (.ifCond .eq 5, 3) := fdg (k := 1920) (p := 17) hdk_1920 dLb_45.2.2.2.2.2.2.2.2.2.1
theorem dL_law_1940 : decode cL_law 1940 = .ok (.iconst 0, 1) := fdg (k := 1920) (p := 20) hdk_1920 dLb_45.2.2.2.2.2.2.2.2.2.2.1
theorem dL_law_1941 : decode cL_law 1941 = .ok (.ireturn, 1) := fdg (k := 1920) (p := 21) hdk_1920 dLb_45.2.2.2.2.2.2.2.2.2.2.2.1
theorem dL_law_1942 : decode cL_law 1942 = .ok (.goto 1370, 3) := fdg (k := 1920) (p := 22) hdk_1920 dLb_45.2.2.2.2.2.2.2.2.2.2.2.2.1
theorem dL_law_1945 : decode cL_law 1945 = .ok (.aload_n 1, 1) := fdg (k := 1920) (p := 25) hdk_1920 dLb_45.2.2.2.2.2.2.2.2.2.2.2.2.2.1
theorem dL_law_1946 : decode cL_law 1946 = .ok (.aload_n 0, 1) := fdg (k := 1920) (p := 26) hdk_1920 dLb_45.2.2.2.2.2.2.2.2.2.2.2.2.2.2.1
theorem dL_law_1947 : decode cL_law 1947 = .ok (.iload 4, 2) := fdg (k := 1920) (p := 27) hdk_1920 dLb_45.2.2.2.2.2.2.2.2.2.2.2.2.2.2.2.1
theorem dL_law_1949 : decode cL_law 1949 = .ok (.iconst 1, 1) := fdg (k := 1920) (p := 29) hdk_1920 dLb_45.2.2.2.2.2.2.2.2.2.2.2.2.2.2.2.2.1
theorem dL_law_1950 : decode cL_law 1950 = .ok (.iadd, 1) := fdg (k := 1920) (p := 30) hdk_1920 dLb_45.2.2.2.2.2.2.2.2.2.2.2.2.2.2.2.2.2.1
theorem dL_law_1951 : decode cL_law 1951 = .ok (.iaload, 1) := fdg (k := 1920) (p := 31) hdk_1920 dLb_45.2.2.2.2.2.2.2.2.2.2.2.2.2.2.2.2.2.2.1
theorem dL_law_1952 : decode cL_law 1952 = .ok (.aload_n 0, 1) := fdg (k := 1920) (p := 32) hdk_1920 dLb_45.2.2.2.2.2.2.2.2.2.2.2.2.2.2.2.2.2.2.2.1
theorem dL_law_1953 : decode cL_law 1953 = .ok (.iload 4, 2) := fdg (k := 1920) (p := 33) hdk_1920 dLb_45.2.2.2.2.2.2.2.2.2.2.2.2.2.2.2.2.2.2.2.2.1
theorem dL_law_1955 : decode cL_law 1955 = .ok (.iconst 2, 1) := fdg (k := 1920) (p := 35) hdk_1920 dLb_45.2.2.2.2.2.2.2.2.2.2.2.2.2.2.2.2.2.2.2.2.2.1
theorem dL_law_1956 : decode cL_law 1956 = .ok (.iadd, 1) := fdg (k := 1920) (p := 36) hdk_1920 dLb_45.2.2.2.2.2.2.2.2.2.2.2.2.2.2.2.2.2.2.2.2.2.2.1
theorem dL_law_1957 : decode cL_law 1957 = .ok (.iaload, 1) := fdg (k := 1920) (p := 37) hdk_1920 dLb_45.2.2.2.2.2.2.2.2.2.2.2.2.2.2.2.2.2.2.2.2.2.2.2.1
theorem dL_law_1958 : decode cL_law 1958 = .ok (.aload_n 0, 1) := fdg (k := 1920) (p := 38) hdk_1920 dLb_45.2.2.2.2.2.2.2.2.2.2.2.2.2.2.2.2.2.2.2.2.2.2.2.2.1
theorem dL_law_1959 : decode cL_law 1959 = .ok (.iload 4, 2) := fdg (k := 1920) (p := 39) hdk_1920 dLb_45.2.2.2.2.2.2.2.2.2.2.2.2.2.2.2.2.2.2.2.2.2.2.2.2.2.1
theorem dL_law_1961 : decode cL_law 1961 = .ok (.iconst 3, 1) := fdg (k := 1920) (p := 41) hdk_1920 dLb_45.2.2.2.2.2.2.2.2.2.2.2.2.2.2.2.2.2.2.2.2.2.2.2.2.2.2.1
theorem dL_law_1962 : decode cL_law 1962 = .ok (.iadd, 1) := fdg (k := 1920) (p := 42) hdk_1920 dLb_45.2.2.2.2.2.2.2.2.2.2.2.2.2.2.2.2.2.2.2.2.2.2.2.2.2.2.2.1
theorem dL_law_1963 : decode cL_law 1963 = .ok (.iaload, 1) := fdg (k := 1920) (p := 43) hdk_1920 dLb_45.2.2.2.2.2.2.2.2.2.2.2.2.2.2.2.2.2.2.2.2.2.2.2.2.2.2.2.2.1
theorem dL_law_1964 : decode cL_law 1964 = .ok (.aload_n 3, 1) := fdg (k := 1920) (p := 44) hdk_1920 dLb_45.2.2.2.2.2.2.2.2.2.2.2.2.2.2.2.2.2.2.2.2.2.2.2.2.2.2.2.2.2.1
theorem dL_law_1965 : decode cL_law 1965 = .ok (.invokestatic 251, 3) := fdg (k := 1920) (p := 45) hdk_1920 dLb_45.2.2.2.2.2.2.2.2.2.2.2.2.2.2.2.2.2.2.2.2.2.2.2.2.2.2.2.2.2.2
theorem dLb_46 : fdq dk_1968 0 (.istore 5) 2 = true ∧ fdq dk_1968 2 (.aload_n 2) 1 = true ∧ fdq dk_1968 3 (.aload_n 0) 1 = true ∧ fdq dk_1968 4 (.iload 4) 2 = true ∧ fdq dk_1968 6 (.iconst 1) 1 = true ∧ fdq dk_1968 7 (.iadd) 1 = true ∧ fdq dk_1968 8 (.iaload) 1 = true ∧ fdq dk_1968 9 (.aload_n 0) 1 = true ∧ fdq dk_1968 10 (.iload 4) 2 = true ∧ fdq dk_1968 12 (.iconst 2) 1 = true ∧ fdq dk_1968 13 (.iadd) 1 = true ∧ fdq dk_1968 14 (.iaload) 1 = true ∧ fdq dk_1968 15 (.aload_n 0) 1 = true ∧ fdq dk_1968 16 (.iload 4) 2 = true ∧ fdq dk_1968 18 (.iconst 3) 1 = true ∧ fdq dk_1968 19 (.iadd) 1 = true ∧ fdq dk_1968 20 (.iaload) 1 = true ∧ fdq dk_1968 21 (.invokevirtual 253) 3 = true ∧ fdq dk_1968 24 (.istore 6) 2 = true ∧ fdq dk_1968 26 (.aload_n 2) 1 = true ∧ fdq dk_1968 27 (.invokevirtual 170) 3 = true ∧ fdq dk_1968 30 (.iload 5) 2 = true ∧ fdq dk_1968 32 (.if_icmp .eq 5) 3 = true ∧ fdq dk_1968 35 (.iconst 0) 1 = true ∧ fdq dk_1968 36 (.ireturn) 1 = true ∧ fdq dk_1968 37 (.iload 5) 2 = true ∧ fdq dk_1968 39 (.ifCond .ne 16) 3 = true ∧ fdq dk_1968 42 (.aload_n 3) 1 = true ∧ fdq dk_1968 43 (.getfield 13) 3 = true ∧ fdq dk_1968 46 (.iload 6) 2 = true := by decide +kernel
theorem dL_law_1968 : decode cL_law 1968 = .ok (.istore 5, 2) := fdg (k := 1968) (p := 0) hdk_1968 dLb_46.1
theorem dL_law_1970 : decode cL_law 1970 = .ok (.aload_n 2, 1) := fdg (k := 1968) (p := 2) hdk_1968 dLb_46.2.1
theorem dL_law_1971 : decode cL_law 1971 = .ok (.aload_n 0, 1) := fdg (k := 1968) (p := 3) hdk_1968 dLb_46.2.2.1
theorem dL_law_1972 : decode cL_law 1972 = .ok (.iload 4, 2) := fdg (k := 1968) (p := 4) hdk_1968 dLb_46.2.2.2.1
theorem dL_law_1974 : decode cL_law 1974 = .ok (.iconst 1, 1) := fdg (k := 1968) (p := 6) hdk_1968 dLb_46.2.2.2.2.1
theorem dL_law_1975 : decode cL_law 1975 = .ok (.iadd, 1) := fdg (k := 1968) (p := 7) hdk_1968 dLb_46.2.2.2.2.2.1
theorem dL_law_1976 : decode cL_law 1976 = .ok (.iaload, 1) := fdg (k := 1968) (p := 8) hdk_1968 dLb_46.2.2.2.2.2.2.1
theorem dL_law_1977 : decode cL_law 1977 = .ok (.aload_n 0, 1) := fdg (k := 1968) (p := 9) hdk_1968 dLb_46.2.2.2.2.2.2.2.1
theorem dL_law_1978 : decode cL_law 1978 = .ok (.iload 4, 2) := fdg (k := 1968) (p := 10) hdk_1968 dLb_46.2.2.2.2.2.2.2.2.1
theorem dL_law_1980 : decode cL_law 1980 = .ok (.iconst 2, 1) := fdg (k := 1968) (p := 12) hdk_1968 dLb_46.2.2.2.2.2.2.2.2.2.1
theorem dL_law_1981 : decode cL_law 1981 = .ok (.iadd, 1) := fdg (k := 1968) (p := 13) hdk_1968 dLb_46.2.2.2.2.2.2.2.2.2.2.1
theorem dL_law_1982 : decode cL_law 1982 = .ok (.iaload, 1) := fdg (k := 1968) (p := 14) hdk_1968 dLb_46.2.2.2.2.2.2.2.2.2.2.2.1
theorem dL_law_1983 : decode cL_law 1983 = .ok (.aload_n 0, 1) := fdg (k := 1968) (p := 15) hdk_1968 dLb_46.2.2.2.2.2.2.2.2.2.2.2.2.1
theorem dL_law_1984 : decode cL_law 1984 = .ok (.iload 4, 2) := fdg (k := 1968) (p := 16) hdk_1968 dLb_46.2.2.2.2.2.2.2.2.2.2.2.2.2.1
theorem dL_law_1986 : decode cL_law 1986 = .ok (.iconst 3, 1) := fdg (k := 1968) (p := 18) hdk_1968 dLb_46.2.2.2.2.2.2.2.2.2.2.2.2.2.2.1
theorem dL_law_1987 : decode cL_law 1987 = .ok (.iadd, 1) := fdg (k := 1968) (p := 19) hdk_1968 dLb_46.2.2.2.2.2.2.2.2.2.2.2.2.2.2.2.1
theorem dL_law_1988 : decode cL_law 1988 = .ok (.iaload, 1) := fdg (k := 1968) (p := 20) hdk_1968 dLb_46.2.2.2.2.2.2.2.2.2.2.2.2.2.2.2.2.1
theorem dL_law_1989 : decode cL_law 1989 = .ok (.invokevirtual 253, 3) := fdg (k := 1968) (p := 21) hdk_1968 dLb_46.2.2.2.2.2.2.2.2.2.2.2.2.2.2.2.2.2.1
theorem dL_law_1992 : decode cL_law 1992 = .ok (.istore 6, 2) := fdg (k := 1968) (p := 24) hdk_1968 dLb_46.2.2.2.2.2.2.2.2.2.2.2.2.2.2.2.2.2.2.1
theorem dL_law_1994 : decode cL_law 1994 = .ok (.aload_n 2, 1) := fdg (k := 1968) (p := 26) hdk_1968 dLb_46.2.2.2.2.2.2.2.2.2.2.2.2.2.2.2.2.2.2.2.1
theorem dL_law_1995 : decode cL_law 1995 = .ok (.invokevirtual 170, 3) := fdg (k := 1968) (p := 27) hdk_1968 dLb_46.2.2.2.2.2.2.2.2.2.2.2.2.2.2.2.2.2.2.2.2.1
theorem dL_law_1998 : decode cL_law 1998 = .ok (.iload 5, 2) := fdg (k := 1968) (p := 30) hdk_1968 dLb_46.2.2.2.2.2.2.2.2.2.2.2.2.2.2.2.2.2.2.2.2.2.1
theorem dL_law_2000 : decode cL_law 2000 = .ok (.if_icmp .eq 5, 3) := fdg (k := 1968) (p := 32) hdk_1968 dLb_46.2.2.2.2.2.2.2.2.2.2.2.2.2.2.2.2.2.2.2.2.2.2.1
theorem dL_law_2003 : decode cL_law 2003 = .ok (.iconst 0, 1) := fdg (k := 1968) (p := 35) hdk_1968 dLb_46.2.2.2.2.2.2.2.2.2.2.2.2.2.2.2.2.2.2.2.2.2.2.2.1
theorem dL_law_2004 : decode cL_law 2004 = .ok (.ireturn, 1) := fdg (k := 1968) (p := 36) hdk_1968 dLb_46.2.2.2.2.2.2.2.2.2.2.2.2.2.2.2.2.2.2.2.2.2.2.2.2.1
theorem dL_law_2005 : decode cL_law 2005 = .ok (.iload 5, 2) := fdg (k := 1968) (p := 37) hdk_1968 dLb_46.2.2.2.2.2.2.2.2.2.2.2.2.2.2.2.2.2.2.2.2.2.2.2.2.2.1
theorem dL_law_2007 : decode cL_law 2007 = .ok (.ifCond .ne 16, 3) := fdg (k := 1968) (p := 39) hdk_1968 dLb_46.2.2.2.2.2.2.2.2.2.2.2.2.2.2.2.2.2.2.2.2.2.2.2.2.2.2.1
theorem dL_law_2010 : decode cL_law 2010 = .ok (.aload_n 3, 1) := fdg (k := 1968) (p := 42) hdk_1968 dLb_46.2.2.2.2.2.2.2.2.2.2.2.2.2.2.2.2.2.2.2.2.2.2.2.2.2.2.2.1
theorem dL_law_2011 : decode cL_law 2011 = .ok (.getfield 13, 3) := fdg (k := 1968) (p := 43) hdk_1968 dLb_46.2.2.2.2.2.2.2.2.2.2.2.2.2.2.2.2.2.2.2.2.2.2.2.2.2.2.2.2.1
theorem dL_law_2014 : decode cL_law 2014 = .ok (.iload 6, 2) := fdg (k := 1968) (p := 46) hdk_1968 dLb_46.2.2.2.2.2.2.2.2.2.2.2.2.2.2.2.2.2.2.2.2.2.2.2.2.2.2.2.2.2
theorem dLb_47 : fdq dk_2016 0 (.i2l) 1 = true ∧ fdq dk_2016 1 (.lcmp) 1 = true ∧ fdq dk_2016 2 (.ifCond .eq 5) 3 = true ∧ fdq dk_2016 5 (.iconst 0) 1 = true ∧ fdq dk_2016 6 (.ireturn) 1 = true ∧ fdq dk_2016 7 (.goto 1289) 3 = true ∧ fdq dk_2016 10 (.aload_n 1) 1 = true ∧ fdq dk_2016 11 (.aload_n 0) 1 = true ∧ fdq dk_2016 12 (.iload 4) 2 = true ∧ fdq dk_2016 14 (.iconst 1) 1 = true ∧ fdq dk_2016 15 (.iadd) 1 = true ∧ fdq dk_2016 16 (.iaload) 1 = true ∧ fdq dk_2016 17 (.aload_n 0) 1 = true ∧ fdq dk_2016 18 (.iload 4) 2 = true ∧ fdq dk_2016 20 (.iconst 2) 1 = true ∧ fdq dk_2016 21 (.iadd) 1 = true ∧ fdq dk_2016 22 (.iaload) 1 = true ∧ fdq dk_2016 23 (.aload_n 3) 1 = true ∧ fdq dk_2016 24 (.invokestatic 254) 3 = true ∧ fdq dk_2016 27 (.istore 5) 2 = true ∧ fdq dk_2016 29 (.aload_n 2) 1 = true ∧ fdq dk_2016 30 (.aload_n 0) 1 = true ∧ fdq dk_2016 31 (.iload 4) 2 = true ∧ fdq dk_2016 33 (.iconst 1) 1 = true ∧ fdq dk_2016 34 (.iadd) 1 = true ∧ fdq dk_2016 35 (.iaload) 1 = true ∧ fdq dk_2016 36 (.aload_n 0) 1 = true ∧ fdq dk_2016 37 (.iload 4) 2 = true ∧ fdq dk_2016 39 (.iconst 2) 1 = true ∧ fdq dk_2016 40 (.iadd) 1 = true ∧ fdq dk_2016 41 (.iaload) 1 = true ∧ fdq dk_2016 42 (.invokevirtual 256) 3 = true := by decide +kernel
theorem dL_law_2016 : decode cL_law 2016 = .ok (.i2l, 1) := fdg (k := 2016) (p := 0) hdk_2016 dLb_47.1
theorem dL_law_2017 : decode cL_law 2017 = .ok (.lcmp, 1) := fdg (k := 2016) (p := 1) hdk_2016 dLb_47.2.1
theorem dL_law_2018 : decode cL_law 2018 = .ok (.ifCond .eq 5, 3) := fdg (k := 2016) (p := 2) hdk_2016 dLb_47.2.2.1
theorem dL_law_2021 : decode cL_law 2021 = .ok (.iconst 0, 1) := fdg (k := 2016) (p := 5) hdk_2016 dLb_47.2.2.2.1
theorem dL_law_2022 : decode cL_law 2022 = .ok (.ireturn, 1) := fdg (k := 2016) (p := 6) hdk_2016 dLb_47.2.2.2.2.1
theorem dL_law_2023 : decode cL_law 2023 = .ok (.goto 1289, 3) := fdg (k := 2016) (p := 7) hdk_2016 dLb_47.2.2.2.2.2.1
theorem dL_law_2026 : decode cL_law 2026 = .ok (.aload_n 1, 1) := fdg (k := 2016) (p := 10) hdk_2016 dLb_47.2.2.2.2.2.2.1
theorem dL_law_2027 : decode cL_law 2027 = .ok (.aload_n 0, 1) := fdg (k := 2016) (p := 11) hdk_2016 dLb_47.2.2.2.2.2.2.2.1
theorem dL_law_2028 : decode cL_law 2028 = .ok (.iload 4, 2) := fdg (k := 2016) (p := 12) hdk_2016 dLb_47.2.2.2.2.2.2.2.2.1
theorem dL_law_2030 : decode cL_law 2030 = .ok (.iconst 1, 1) := fdg (k := 2016) (p := 14) hdk_2016 dLb_47.2.2.2.2.2.2.2.2.2.1
theorem dL_law_2031 : decode cL_law 2031 = .ok (.iadd, 1) := fdg (k := 2016) (p := 15) hdk_2016 dLb_47.2.2.2.2.2.2.2.2.2.2.1
theorem dL_law_2032 : decode cL_law 2032 = .ok (.iaload, 1) := fdg (k := 2016) (p := 16) hdk_2016 dLb_47.2.2.2.2.2.2.2.2.2.2.2.1
theorem dL_law_2033 : decode cL_law 2033 = .ok (.aload_n 0, 1) := fdg (k := 2016) (p := 17) hdk_2016 dLb_47.2.2.2.2.2.2.2.2.2.2.2.2.1
theorem dL_law_2034 : decode cL_law 2034 = .ok (.iload 4, 2) := fdg (k := 2016) (p := 18) hdk_2016 dLb_47.2.2.2.2.2.2.2.2.2.2.2.2.2.1
theorem dL_law_2036 : decode cL_law 2036 = .ok (.iconst 2, 1) := fdg (k := 2016) (p := 20) hdk_2016 dLb_47.2.2.2.2.2.2.2.2.2.2.2.2.2.2.1
theorem dL_law_2037 : decode cL_law 2037 = .ok (.iadd, 1) := fdg (k := 2016) (p := 21) hdk_2016 dLb_47.2.2.2.2.2.2.2.2.2.2.2.2.2.2.2.1
theorem dL_law_2038 : decode cL_law 2038 = .ok (.iaload, 1) := fdg (k := 2016) (p := 22) hdk_2016 dLb_47.2.2.2.2.2.2.2.2.2.2.2.2.2.2.2.2.1
theorem dL_law_2039 : decode cL_law 2039 = .ok (.aload_n 3, 1) := fdg (k := 2016) (p := 23) hdk_2016 dLb_47.2.2.2.2.2.2.2.2.2.2.2.2.2.2.2.2.2.1
theorem dL_law_2040 : decode cL_law 2040 = .ok (.invokestatic 254, 3) := fdg (k := 2016) (p := 24) hdk_2016 dLb_47.2.2.2.2.2.2.2.2.2.2.2.2.2.2.2.2.2.2.1
theorem dL_law_2043 : decode cL_law 2043 = .ok (.istore 5, 2) := fdg (k := 2016) (p := 27) hdk_2016 dLb_47.2.2.2.2.2.2.2.2.2.2.2.2.2.2.2.2.2.2.2.1
theorem dL_law_2045 : decode cL_law 2045 = .ok (.aload_n 2, 1) := fdg (k := 2016) (p := 29) hdk_2016 dLb_47.2.2.2.2.2.2.2.2.2.2.2.2.2.2.2.2.2.2.2.2.1
theorem dL_law_2046 : decode cL_law 2046 = .ok (.aload_n 0, 1) := fdg (k := 2016) (p := 30) hdk_2016 dLb_47.2.2.2.2.2.2.2.2.2.2.2.2.2.2.2.2.2.2.2.2.2.1
theorem dL_law_2047 : decode cL_law 2047 = .ok (.iload 4, 2) := fdg (k := 2016) (p := 31) hdk_2016 dLb_47.2.2.2.2.2.2.2.2.2.2.2.2.2.2.2.2.2.2.2.2.2.2.1
theorem dL_law_2049 : decode cL_law 2049 = .ok (.iconst 1, 1) := fdg (k := 2016) (p := 33) hdk_2016 dLb_47.2.2.2.2.2.2.2.2.2.2.2.2.2.2.2.2.2.2.2.2.2.2.2.1
theorem dL_law_2050 : decode cL_law 2050 = .ok (.iadd, 1) := fdg (k := 2016) (p := 34) hdk_2016 dLb_47.2.2.2.2.2.2.2.2.2.2.2.2.2.2.2.2.2.2.2.2.2.2.2.2.1
theorem dL_law_2051 : decode cL_law 2051 = .ok (.iaload, 1) := fdg (k := 2016) (p := 35) hdk_2016 dLb_47.2.2.2.2.2.2.2.2.2.2.2.2.2.2.2.2.2.2.2.2.2.2.2.2.2.1
theorem dL_law_2052 : decode cL_law 2052 = .ok (.aload_n 0, 1) := fdg (k := 2016) (p := 36) hdk_2016 dLb_47.2.2.2.2.2.2.2.2.2.2.2.2.2.2.2.2.2.2.2.2.2.2.2.2.2.2.1
theorem dL_law_2053 : decode cL_law 2053 = .ok (.iload 4, 2) := fdg (k := 2016) (p := 37) hdk_2016 dLb_47.2.2.2.2.2.2.2.2.2.2.2.2.2.2.2.2.2.2.2.2.2.2.2.2.2.2.2.1
theorem dL_law_2055 : decode cL_law 2055 = .ok (.iconst 2, 1) := fdg (k := 2016) (p := 39) hdk_2016 dLb_47.2.2.2.2.2.2.2.2.2.2.2.2.2.2.2.2.2.2.2.2.2.2.2.2.2.2.2.2.1
theorem dL_law_2056 : decode cL_law 2056 = .ok (.iadd, 1) := fdg (k := 2016) (p := 40) hdk_2016 dLb_47.2.2.2.2.2.2.2.2.2.2.2.2.2.2.2.2.2.2.2.2.2.2.2.2.2.2.2.2.2.1
theorem dL_law_2057 : decode cL_law 2057 = .ok (.iaload, 1) := fdg (k := 2016) (p := 41) hdk_2016 dLb_47.2.2.2.2.2.2.2.2.2.2.2.2.2.2.2.2.2.2.2.2.2.2.2.2.2.2.2.2.2.2.1
theorem dL_law_2058 : decode cL_law 2058 = .ok (.invokevirtual 256, 3) := fdg (k := 2016) (p := 42) hdk_2016 dLb_47.2.2.2.2.2.2.2.2.2.2.2.2.2.2.2.2.2.2.2.2.2.2.2.2.2.2.2.2.2.2.2
theorem dLb_48 : fdq dk_2016 45 (.istore 6) 2 = true ∧ fdq dk_2016 47 (.aload_n 2) 1 = true := by decide +kernel
theorem dL_law_2061 : decode cL_law 2061 = .ok (.istore 6, 2) := fdg (k := 2016) (p := 45) hdk_2016 dLb_48.1
theorem dL_law_2063 : decode cL_law 2063 = .ok (.aload_n 2, 1) := fdg (k := 2016) (p := 47) hdk_2016 dLb_48.2
theorem dLb_49 : fdq dk_2064 0 (.invokevirtual 170) 3 = true ∧ fdq dk_2064 3 (.iload 5) 2 = true ∧ fdq dk_2064 5 (.if_icmp .eq 5) 3 = true ∧ fdq dk_2064 8 (.iconst 0) 1 = true ∧ fdq dk_2064 9 (.ireturn) 1 = true ∧ fdq dk_2064 10 (.iload 5) 2 = true ∧ fdq dk_2064 12 (.ifCond .ne 16) 3 = true ∧ fdq dk_2064 15 (.aload_n 3) 1 = true ∧ fdq dk_2064 16 (.getfield 13) 3 = true ∧ fdq dk_2064 19 (.iload 6) 2 = true ∧ fdq dk_2064 21 (.i2l) 1 = true ∧ fdq dk_2064 22 (.lcmp) 1 = true ∧ fdq dk_2064 23 (.ifCond .eq 5) 3 = true ∧ fdq dk_2064 26 (.iconst 0) 1 = true ∧ fdq dk_2064 27 (.ireturn) 1 = true ∧ fdq dk_2064 28 (.goto 1220) 3 = true ∧ fdq dk_2064 31 (.aload_n 1) 1 = true ∧ fdq dk_2064 32 (.aload_n 0) 1 = true ∧ fdq dk_2064 33 (.iload 4) 2 = true ∧ fdq dk_2064 35 (.iconst 1) 1 = true ∧ fdq dk_2064 36 (.iadd) 1 = true ∧ fdq dk_2064 37 (.iaload) 1 = true ∧ fdq dk_2064 38 (.aload_n 0) 1 = true ∧ fdq dk_2064 39 (.iload 4) 2 = true ∧ fdq dk_2064 41 (.iconst 2) 1 = true ∧ fdq dk_2064 42 (.iadd) 1 = true ∧ fdq dk_2064 43 (.iaload) 1 = true ∧ fdq dk_2064 44 (.ifCond .eq 7) 3 = true ∧ fdq dk_2064 47 (.iconst 1) 1 = true := by decide +kernel
theorem dL_law_2064 : decode cL_law 2064 = .ok (.invokevirtual 170, 3) := fdg (k := 2064) (p := 0) hdk_2064 dLb_49.1
theorem dL_law_2067 : decode cL_law 2067 = .ok (.iload 5, 2) := fdg (k := 2064) (p := 3) hdk_2064 dLb_49.2.1
theorem dL_law_2069 : decode cL_law 2069 = .ok (.if_icmp .eq 5, 3) := fdg (k := 2064) (p := 5) hdk_2064 dLb_49.2.2.1
theorem dL_law_2072 : decode cL_law 2072 = .ok (.iconst 0, 1) := fdg (k := 2064) (p := 8) hdk_2064 dLb_49.2.2.2.1
theorem dL_law_2073 : decode cL_law 2073 = .ok (.ireturn, 1) := fdg (k := 2064) (p := 9) hdk_2064 dLb_49.2.2.2.2.1
theorem dL_law_2074 : decode cL_law 2074 = .ok (.iload 5, 2) := fdg (k := 2064) (p := 10) hdk_2064 dLb_49.2.2.2.2.2.1
theorem dL_law_2076 : decode cL_law 2076 = .ok (.ifCond .ne 16, 3) := fdg (k := 2064) (p := 12) hdk_2064 dLb_49.2.2.2.2.2.2.1
theorem dL_law_2079 : decode cL_law 2079 = .ok (.aload_n 3, 1) := fdg (k := 2064) (p := 15) hdk_2064 dLb_49.2.2.2.2.2.2.2.1
theorem dL_law_2080 : decode cL_law 2080 = .ok (.getfield 13, 3) := fdg (k := 2064) (p := 16) hdk_2064 dLb_49.2.2.2.2.2.2.2.2.1
theorem dL_law_2083 : decode cL_law 2083 = .ok (.iload 6, 2) := fdg (k := 2064) (p := 19) hdk_2064 dLb_49.2.2.2.2.2.2.2.2.2.1
theorem dL_law_2085 : decode cL_law 2085 = .ok (.i2l, 1) := fdg (k := 2064) (p := 21) hdk_2064 dLb_49.2.2.2.2.2.2.2.2.2.2.1
theorem dL_law_2086 : decode cL_law 2086 = .ok (.lcmp, 1) := fdg (k := 2064) (p := 22) hdk_2064 dLb_49.2.2.2.2.2.2.2.2.2.2.2.1
theorem dL_law_2087 : decode cL_law 2087 = .ok (.ifCond .eq 5, 3) := fdg (k := 2064) (p := 23) hdk_2064 dLb_49.2.2.2.2.2.2.2.2.2.2.2.2.1
theorem dL_law_2090 : decode cL_law 2090 = .ok (.iconst 0, 1) := fdg (k := 2064) (p := 26) hdk_2064 dLb_49.2.2.2.2.2.2.2.2.2.2.2.2.2.1
theorem dL_law_2091 : decode cL_law 2091 = .ok (.ireturn, 1) := fdg (k := 2064) (p := 27) hdk_2064 dLb_49.2.2.2.2.2.2.2.2.2.2.2.2.2.2.1
theorem dL_law_2092 : decode cL_law 2092 = .ok (.goto 1220, 3) := fdg (k := 2064) (p := 28) hdk_2064 dLb_49.2.2.2.2.2.2.2.2.2.2.2.2.2.2.2.1
theorem dL_law_2095 : decode cL_law 2095 = .ok (.aload_n 1, 1) := fdg (k := 2064) (p := 31) hdk_2064 dLb_49.2.2.2.2.2.2.2.2.2.2.2.2.2.2.2.2.1
theorem dL_law_2096 : decode cL_law 2096 = .ok (.aload_n 0, 1) := fdg (k := 2064) (p := 32) hdk_2064 dLb_49.2.2.2.2.2.2.2.2.2.2.2.2.2.2.2.2.2.1
theorem dL_law_2097 : decode cL_law 2097 = .ok (.iload 4, 2) := fdg (k := 2064) (p := 33) hdk_2064 dLb_49.2.2.2.2.2.2.2.2.2.2.2.2.2.2.2.2.2.2.1
theorem dL_law_2099 : decode cL_law 2099 = .ok (.iconst 1, 1) := fdg (k := 2064) (p := 35) hdk_2064 dLb_49.2.2.2.2.2.2.2.2.2.2.2.2.2.2.2.2.2.2.2.1
theorem dL_law_2100 : decode cL_law 2100 = .ok (.iadd, 1) := fdg (k := 2064) (p := 36) hdk_2064 dLb_49.2.2.2.2.2.2.2.2.2.2.2.2.2.2.2.2.2.2.2.2.1
theorem dL_law_2101 : decode cL_law 2101 = .ok (.iaload, 1) := fdg (k := 2064) (p := 37) hdk_2064 dLb_49.2.2.2.2.2.2.2.2.2.2.2.2.2.2.2.2.2.2.2.2.2.1
theorem dL_law_2102 : decode cL_law 2102 = .ok (.aload_n 0, 1) := fdg (k := 2064) (p := 38) hdk_2064 dLb_49.2.2.2.2.2.2.2.2.2.2.2.2.2.2.2.2.2.2.2.2.2.2.1
theorem dL_law_2103 : decode cL_law 2103 = .ok (.iload 4, 2) := fdg (k := 2064) (p := 39) hdk_2064 dLb_49.2.2.2.2.2.2.2.2.2.2.2.2.2.2.2.2.2.2.2.2.2.2.2.1
theorem dL_law_2105 : decode cL_law 2105 = .ok (.iconst 2, 1) := fdg (k := 2064) (p := 41) hdk_2064 dLb_49.2.2.2.2.2.2.2.2.2.2.2.2.2.2.2.2.2.2.2.2.2.2.2.2.1
theorem dL_law_2106 : decode cL_law 2106 = .ok (.iadd, 1) := fdg (k := 2064) (p := 42) hdk_2064 dLb_49.2.2.2.2.2.2.2.2.2.2.2.2.2.2.2.2.2.2.2.2.2.2.2.2.2.1
theorem dL_law_2107 : decode cL_law 2107 = .ok (.iaload, 1) := fdg (k := 2064) (p := 43) hdk_2064 dLb_49.2.2.2.2.2.2.2.2.2.2.2.2.2.2.2.2.2.2.2.2.2.2.2.2.2.2.1
theorem dL_law_2108 : decode cL_law 2108 = .ok (.ifCond .eq 7, 3) := fdg (k := 2064) (p := 44) hdk_2064 dLb_49.2.2.2.2.2.2.2.2.2.2.2.2.2.2.2.2.2.2.2.2.2.2.2.2.2.2.2.1
theorem dL_law_2111 : decode cL_law 2111 = .ok (.iconst 1, 1) := fdg (k := 2064) (p := 47) hdk_2064 dLb_49.2.2.2.2.2.2.2.2.2.2.2.2.2.2.2.2.2.2.2.2.2.2.2.2.2.2.2.2
theorem dLb_50 : fdq dk_2112 0 (.goto 4) 3 = true ∧ fdq dk_2112 3 (.iconst 0) 1 = true ∧ fdq dk_2112 4 (.aload_n 3) 1 = true ∧ fdq dk_2112 5 (.invokestatic 257) 3 = true ∧ fdq dk_2112 8 (.istore 5) 2 = true ∧ fdq dk_2112 10 (.aload_n 2) 1 = true ∧ fdq dk_2112 11 (.aload_n 0) 1 = true ∧ fdq dk_2112 12 (.iload 4) 2 = true ∧ fdq dk_2112 14 (.iconst 1) 1 = true ∧ fdq dk_2112 15 (.iadd) 1 = true ∧ fdq dk_2112 16 (.iaload) 1 = true ∧ fdq dk_2112 17 (.aload_n 0) 1 = true ∧ fdq dk_2112 18 (.iload 4) 2 = true ∧ fdq dk_2112 20 (.iconst 2) 1 = true ∧ fdq dk_2112 21 (.iadd) 1 = true ∧ fdq dk_2112 22 (.iaload) 1 = true ∧ fdq dk_2112 23 (.ifCond .eq 7) 3 = true ∧ fdq dk_2112 26 (.iconst 1) 1 = true ∧ fdq dk_2112 27 (.goto 4) 3 = true ∧ fdq dk_2112 30 (.iconst 0) 1 = true ∧ fdq dk_2112 31 (.invokevirtual 260) 3 = true ∧ fdq dk_2112 34 (.istore 6) 2 = true ∧ fdq dk_2112 36 (.aload_n 2) 1 = true ∧ fdq dk_2112 37 (.invokevirtual 170) 3 = true ∧ fdq dk_2112 40 (.iload 5) 2 = true ∧ fdq dk_2112 42 (.if_icmp .eq 5) 3 = true ∧ fdq dk_2112 45 (.iconst 0) 1 = true ∧ fdq dk_2112 46 (.ireturn) 1 = true ∧ fdq dk_2112 47 (.iload 5) 2 = true := by decide +kernel
theorem dL_law_2112 : decode cL_law 2112 = .ok (.goto 4, 3) := fdg (k := 2112) (p := 0) hdk_2112 dLb_50.1
theorem dL_law_2115 : decode cL_law 2115 = .ok (.iconst 0, 1) := fdg (k := 2112) (p := 3) hdk_2112 dLb_50.2.1
theorem dL_law_2116 : decode cL_law 2116 = .ok (.aload_n 3, 1) := fdg (k := 2112) (p := 4) hdk_2112 dLb_50.2.2.1
theorem dL_law_2117 : decode cL_law 2117 = .ok (.invokestatic 257, 3) := fdg (k := 2112) (p := 5) hdk_2112 dLb_50.2.2.2.1
theorem dL_law_2120 : decode cL_law 2120 = .ok (.istore 5, 2) := fdg (k := 2112) (p := 8) hdk_2112 dLb_50.2.2.2.2.1
theorem dL_law_2122 : decode cL_law 2122 = .ok (.aload_n 2, 1) := fdg (k := 2112) (p := 10) hdk_2112 dLb_50.2.2.2.2.2.1
theorem dL_law_2123 : decode cL_law 2123 = .ok (.aload_n 0, 1) := fdg (k := 2112) (p := 11) hdk_2112 dLb_50.2.2.2.2.2.2.1
theorem dL_law_2124 : decode cL_law 2124 = .ok (.iload 4, 2) := fdg (k := 2112) (p := 12) hdk_2112 dLb_50.2.2.2.2.2.2.2.1
theorem dL_law_2126 : decode cL_law 2126 = .ok (.iconst 1, 1) := fdg (k := 2112) (p := 14) hdk_2112 dLb_50.2.2.2.2.2.2.2.2.1
theorem dL_law_2127 : decode cL_law 2127 = .ok (.iadd, 1) := fdg (k := 2112) (p := 15) hdk_2112 dLb_50.2.2.2.2.2.2.2.2.2.1
theorem dL_law_2128 : decode cL_law 2128 = .ok (.iaload, 1) := fdg (k := 2112) (p := 16) hdk_2112 dLb_50.2.2.2.2.2.2.2.2.2.2.1
theorem dL_law_2129 : decode cL_law 2129 = .ok (.aload_n 0, 1) := fdg (k := 2112) (p := 17) hdk_2112 dLb_50.2.2.2.2.2.2.2.2.2.2.2.1
theorem dL_law_2130 : decode cL_law 2130 = .ok (.iload 4, 2) := fdg (k := 2112) (p := 18) hdk_2112 dLb_50.2.2.2.2.2.2.2.2.2.2.2.2.1
theorem dL_law_2132 : decode cL_law 2132 = .ok (.iconst 2, 1) := fdg (k := 2112) (p := 20) hdk_2112 dLb_50.2.2.2.2.2.2.2.2.2.2.2.2.2.1
theorem dL_law_2133 : decode cL_law 2133 = .ok (.iadd, 1) := fdg (k := 2112) (p := 21) hdk_2112 dLb_50.2.2.2.2.2.2.2.2.2.2.2.2.2.2.1
theorem dL_law_2134 : decode cL_law 2134 = .ok (.iaload, 1) := fdg (k := 2112) (p := 22) hdk_2112 dLb_50.2.2.2.2.2.2.2.2.2.2.2.2.2.2.2.1
theorem dL_law_2135 : decode cL_law 2135 = .ok (.ifCond .eq 7, 3) := fdg (k := 2112) (p := 23) hdk_2112 dLb_50.2.2.2.2.2.2.2.2.2.2.2.2.2.2.2.2.1
theorem dL_law_2138 : decode cL_law 2138 = .ok (.iconst 1, 1) := fdg (k := 2112) (p := 26) hdk_2112 dLb_50.2.2.2.2.2.2.2.2.2.2.2.2.2.2.2.2.2.1
theorem dL_law_2139 : decode cL_law 2139 = .ok (.goto 4, 3) := fdg (k := 2112) (p := 27) hdk_2112 dLb_50.2.2.2.2.2.2.2.2.2.2.2.2.2.2.2.2.2.2.1
theorem dL_law_2142 : decode cL_law 2142 = .ok (.iconst 0, 1) := fdg (k := 2112) (p := 30) hdk_2112 dLb_50.2.2.2.2.2.2.2.2.2.2.2.2.2.2.2.2.2.2.2.1
theorem dL_law_2143 : decode cL_law 2143 = .ok (.invokevirtual 260, 3) := fdg (k := 2112) (p := 31) hdk_2112 dLb_50.2.2.2.2.2.2.2.2.2.2.2.2.2.2.2.2.2.2.2.2.1
theorem dL_law_2146 : decode cL_law 2146 = .ok (.istore 6, 2) := fdg (k := 2112) (p := 34) hdk_2112 dLb_50.2.2.2.2.2.2.2.2.2.2.2.2.2.2.2.2.2.2.2.2.2.1
theorem dL_law_2148 : decode cL_law 2148 = .ok (.aload_n 2, 1) := fdg (k := 2112) (p := 36) hdk_2112 dLb_50.2.2.2.2.2.2.2.2.2.2.2.2.2.2.2.2.2.2.2.2.2.2.1
theorem dL_law_2149 : decode cL_law 2149 = .ok (.invokevirtual 170, 3) := fdg (k := 2112) (p := 37) hdk_2112 dLb_50.2.2.2.2.2.2.2.2.2.2.2.2.2.2.2.2.2.2.2.2.2.2.2.1
theorem dL_law_2152 : decode cL_law 2152 = .ok (.iload 5, 2) := fdg (k := 2112) (p := 40) hdk_2112 dLb_50.2.2.2.2.2.2.2.2.2.2.2.2.2.2.2.2.2.2.2.2.2.2.2.2.1
theorem dL_law_2154 : decode cL_law 2154 = .ok (.if_icmp .eq 5, 3) := fdg (k := 2112) (p := 42) hdk_2112 dLb_50.2.2.2.2.2.2.2.2.2.2.2.2.2.2.2.2.2.2.2.2.2.2.2.2.2.1
theorem dL_law_2157 : decode cL_law 2157 = .ok (.iconst 0, 1) := fdg (k := 2112) (p := 45) hdk_2112 dLb_50.2.2.2.2.2.2.2.2.2.2.2.2.2.2.2.2.2.2.2.2.2.2.2.2.2.2.1
theorem dL_law_2158 : decode cL_law 2158 = .ok (.ireturn, 1) := fdg (k := 2112) (p := 46) hdk_2112 dLb_50.2.2.2.2.2.2.2.2.2.2.2.2.2.2.2.2.2.2.2.2.2.2.2.2.2.2.2.1
theorem dL_law_2159 : decode cL_law 2159 = .ok (.iload 5, 2) := fdg (k := 2112) (p := 47) hdk_2112 dLb_50.2.2.2.2.2.2.2.2.2.2.2.2.2.2.2.2.2.2.2.2.2.2.2.2.2.2.2.2
theorem dLb_51 : fdq dk_2160 1 (.ifCond .ne 16) 3 = true ∧ fdq dk_2160 4 (.aload_n 3) 1 = true ∧ fdq dk_2160 5 (.getfield 13) 3 = true ∧ fdq dk_2160 8 (.iload 6) 2 = true ∧ fdq dk_2160 10 (.i2l) 1 = true ∧ fdq dk_2160 11 (.lcmp) 1 = true ∧ fdq dk_2160 12 (.ifCond .eq 5) 3 = true ∧ fdq dk_2160 15 (.iconst 0) 1 = true ∧ fdq dk_2160 16 (.ireturn) 1 = true ∧ fdq dk_2160 17 (.goto 1135) 3 = true ∧ fdq dk_2160 20 (.aload_n 1) 1 = true ∧ fdq dk_2160 21 (.aload_n 0) 1 = true ∧ fdq dk_2160 22 (.iload 4) 2 = true ∧ fdq dk_2160 24 (.iconst 1) 1 = true ∧ fdq dk_2160 25 (.iadd) 1 = true ∧ fdq dk_2160 26 (.iaload) 1 = true ∧ fdq dk_2160 27 (.aload_n 3) 1 = true ∧ fdq dk_2160 28 (.invokestatic 261) 3 = true ∧ fdq dk_2160 31 (.istore 5) 2 = true ∧ fdq dk_2160 33 (.aload_n 2) 1 = true ∧ fdq dk_2160 34 (.aload_n 0) 1 = true ∧ fdq dk_2160 35 (.iload 4) 2 = true ∧ fdq dk_2160 37 (.iconst 1) 1 = true ∧ fdq dk_2160 38 (.iadd) 1 = true ∧ fdq dk_2160 39 (.iaload) 1 = true ∧ fdq dk_2160 40 (.invokevirtual 263) 3 = true ∧ fdq dk_2160 43 (.istore 6) 2 = true ∧ fdq dk_2160 45 (.aload_n 2) 1 = true ∧ fdq dk_2160 46 (.invokevirtual 170) 3 = true := by decide +kernel
theorem dL_law_2161 : decode cL_law 2161 = .ok (.ifCond .ne 16, 3) := fdg (k := 2160) (p := 1) hdk_2160 dLb_51.1
theorem dL_law_2164 : decode cL_law 2164 = .ok (.aload_n 3, 1) := fdg (k := 2160) (p := 4) hdk_2160 dLb_51.2.1
theorem dL_law_2165 : decode cL_law 2165 = .ok (.getfield 13, 3) := fdg (k := 2160) (p := 5) hdk_2160 dLb_51.2.2.1
theorem dL_law_2168 : decode cL_law 2168 = .ok (.iload 6, 2) := fdg (k := 2160) (p := 8) hdk_2160 dLb_51.2.2.2.1
theorem dL_law_2170 : decode cL_law 2170 = .ok (.i2l, 1) := fdg (k := 2160) (p := 10) hdk_2160 dLb_51.2.2.2.2.1
theorem dL_law_2171 : decode cL_law 2171 = .ok (.lcmp, 1) := fdg (k := 2160) (p := 11) hdk_2160 dLb_51.2.2.2.2.2.1
theorem dL_law_2172 : decode cL_law 2172 = .ok (.ifCond .eq 5, 3) := fdg (k := 2160) (p := 12) hdk_2160 dLb_51.2.2.2.2.2.2.1
theorem dL_law_2175 : decode cL_law 2175 = .ok (.iconst 0, 1) := fdg (k := 2160) (p := 15) hdk_2160 dLb_51.2.2.2.2.2.2.2.1
theorem dL_law_2176 : decode cL_law 2176 = .ok (.ireturn, 1) := fdg (k := 2160) (p := 16) hdk_2160 dLb_51.2.2.2.2.2.2.2.2.1
theorem dL_law_2177 : decode cL_law 2177 = .ok (.goto 1135, 3) := fdg (k := 2160) (p := 17) hdk_2160 dLb_51.2.2.2.2.2.2.2.2.2.1
theorem dL_law_2180 : decode cL_law 2180 = .ok (.aload_n 1, 1) := fdg (k := 2160) (p := 20) hdk_2160 dLb_51.2.2.2.2.2.2.2.2.2.2.1
theorem dL_law_2181 : decode cL_law 2181 = .ok (.aload_n 0, 1) := fdg (k := 2160) (p := 21) hdk_2160 dLb_51.2.2.2.2.2.2.2.2.2.2.2.1
theorem dL_law_2182 : decode cL_law 2182 = .ok (.iload 4, 2) := fdg (k := 2160) (p := 22) hdk_2160 dLb_51.2.2.2.2.2.2.2.2.2.2.2.2.1
theorem dL_law_2184 : decode cL_law 2184 = .ok (.iconst 1, 1) := fdg (k := 2160) (p := 24) hdk_2160 dLb_51.2.2.2.2.2.2.2.2.2.2.2.2.2.1
theorem dL_law_2185 : decode cL_law 2185 = .ok (.iadd, 1) := fdg (k := 2160) (p := 25) hdk_2160 dLb_51.2.2.2.2.2.2.2.2.2.2.2.2.2.2.1
theorem dL_law_2186 : decode cL_law 2186 = .ok (.iaload, 1) := fdg (k := 2160) (p := 26) hdk_2160 dLb_51.2.2.2.2.2.2.2.2.2.2.2.2.2.2.2.1
theorem dL_law_2187 : decode cL_law 2187 = .ok (.aload_n 3, 1) := fdg (k := 2160) (p := 27) hdk_2160 dLb_51.2.2.2.2.2.2.2.2.2.2.2.2.2.2.2.2.1
theorem dL_law_2188 : decode cL_law 2188 = .ok (.invokestatic 261, 3) := fdg (k := 2160) (p := 28) hdk_2160 dLb_51.2.2.2.2.2.2.2.2.2.2.2.2.2.2.2.2.2.1
theorem dL_law_2191 : decode cL_law 2191 = .ok (.istore 5, 2) := fdg (k := 2160) (p := 31) hdk_2160 dLb_51.2.2.2.2.2.2.2.2.2.2.2.2.2.2.2.2.2.2.1
theorem dL_law_2193 : decode cL_law 2193 = .ok (.aload_n 2, 1) := fdg (k := 2160) (p := 33) hdk_2160 dLb_51.2.2.2.2.2.2.2.2.2.2.2.2.2.2.2.2.2.2.2.1
theorem dL_law_2194 : decode cL_law 2194 = .ok (.aload_n 0, 1) := fdg (k := 2160) (p := 34) hdk_2160 dLb_51.2.2.2.2.2.2.2.2.2.2.2.2.2.2.2.2.2.2.2.2.1
theorem dL_law_2195 : decode cL_law 2195 = .ok (.iload 4, 2) := fdg (k := 2160) (p := 35) hdk_2160 dLb_51.2.2.2.2.2.2.2.2.2.2.2.2.2.2.2.2.2.2.2.2.2.1
theorem dL_law_2197 : decode cL_law 2197 = .ok (.iconst 1, 1) := fdg (k := 2160) (p := 37) hdk_2160 dLb_51.2.2.2.2.2.2.2.2.2.2.2.2.2.2.2.2.2.2.2.2.2.2.1
theorem dL_law_2198 : decode cL_law 2198 = .ok (.iadd, 1) := fdg (k := 2160) (p := 38) hdk_2160 dLb_51.2.2.2.2.2.2.2.2.2.2.2.2.2.2.2.2.2.2.2.2.2.2.2.1
theorem dL_law_2199 : decode cL_law 2199 = .ok (.iaload, 1) := fdg (k := 2160) (p := 39) hdk_2160 dLb_51.2.2.2.2.2.2.2.2.2.2.2.2.2.2.2.2.2.2.2.2.2.2.2.2.1
theorem dL_law_2200 : decode cL_law 2200 = .ok (.invokevirtual 263, 3) := fdg (k := 2160) (p := 40) hdk_2160 dLb_51.2.2.2.2.2.2.2.2.2.2.2.2.2.2.2.2.2.2.2.2.2.2.2.2.2.1
theorem dL_law_2203 : decode cL_law 2203 = .ok (.istore 6, 2) := fdg (k := 2160) (p := 43) hdk_2160 dLb_51.2.2.2.2.2.2.2.2.2.2.2.2.2.2.2.2.2.2.2.2.2.2.2.2.2.2.1
theorem dL_law_2205 : decode cL_law 2205 = .ok (.aload_n 2, 1) := fdg (k := 2160) (p := 45) hdk_2160 dLb_51.2.2.2.2.2.2.2.2.2.2.2.2.2.2.2.2.2.2.2.2.2.2.2.2.2.2.2.1
theorem dL_law_2206 : decode cL_law 2206 = .ok (.invokevirtual 170, 3) := fdg (k := 2160) (p := 46) hdk_2160 dLb_51.2.2.2.2.2.2.2.2.2.2.2.2.2.2.2.2.2.2.2.2.2.2.2.2.2.2.2.2
theorem dLb_52 : fdq dk_2208 1 (.iload 5) 2 = true ∧ fdq dk_2208 3 (.if_icmp .eq 5) 3 = true ∧ fdq dk_2208 6 (.iconst 0) 1 = true ∧ fdq dk_2208 7 (.ireturn) 1 = true ∧ fdq dk_2208 8 (.iload 5) 2 = true ∧ fdq dk_2208 10 (.ifCond .ne 16) 3 = true ∧ fdq dk_2208 13 (.aload_n 3) 1 = true ∧ fdq dk_2208 14 (.getfield 13) 3 = true ∧ fdq dk_2208 17 (.iload 6) 2 = true ∧ fdq dk_2208 19 (.i2l) 1 = true ∧ fdq dk_2208 20 (.lcmp) 1 = true ∧ fdq dk_2208 21 (.ifCond .eq 5) 3 = true ∧ fdq dk_2208 24 (.iconst 0) 1 = true ∧ fdq dk_2208 25 (.ireturn) 1 = true ∧ fdq dk_2208 26 (.goto 1078) 3 = true ∧ fdq dk_2208 29 (.aload_n 1) 1 = true ∧ fdq dk_2208 30 (.aload_n 0) 1 = true ∧ fdq dk_2208 31 (.iload 4) 2 = true ∧ fdq dk_2208 33 (.iconst 1) 1 = true ∧ fdq dk_2208 34 (.iadd) 1 = true ∧ fdq dk_2208 35 (.iaload) 1 = true ∧ fdq dk_2208 36 (.aload_n 0) 1 = true ∧ fdq dk_2208 37 (.iload 4) 2 = true ∧ fdq dk_2208 39 (.iconst 2) 1 = true ∧ fdq dk_2208 40 (.iadd) 1 = true ∧ fdq dk_2208 41 (.iaload) 1 = true ∧ fdq dk_2208 42 (.aload_n 3) 1 = true ∧ fdq dk_2208 43 (.invokestatic 264) 3 = true ∧ fdq dk_2208 46 (.istore 5) 2 = true := by decide +kernel
theorem dL_law_2209 : decode cL_law 2209 = .ok (.iload 5, 2) := fdg (k := 2208) (p := 1) hdk_2208 dLb_52.1
theorem dL_law_2211 : decode cL_law 2211 = .ok (.if_icmp .eq 5, 3) := fdg (k := 2208) (p := 3) hdk_2208 dLb_52.2.1
theorem dL_law_2214 : decode cL_law 2214 = .ok (.iconst 0, 1) := fdg (k := 2208) (p := 6) hdk_2208 dLb_52.2.2.1
theorem dL_law_2215 : decode cL_law 2215 = .ok (.ireturn, 1) := fdg (k := 2208) (p := 7) hdk_2208 dLb_52.2.2.2.1
theorem dL_law_2216 : decode cL_law 2216 = .ok (.iload 5, 2) := fdg (k := 2208) (p := 8) hdk_2208 dLb_52.2.2.2.2.1
theorem dL_law_2218 : decode cL_law 2218 = .ok (.ifCond .ne 16, 3) := fdg (k := 2208) (p := 10) hdk_2208 dLb_52.2.2.2.2.2.1
theorem dL_law_2221 : decode cL_law 2221 = .ok (.aload_n 3, 1) := fdg (k := 2208) (p := 13) hdk_2208 dLb_52.2.2.2.2.2.2.1
theorem dL_law_2222 : decode cL_law 2222 = .ok (.getfield 13, 3) := fdg (k := 2208) (p := 14) hdk_2208 dLb_52.2.2.2.2.2.2.2.1
theorem dL_law_2225 : decode cL_law 2225 = .ok (.iload 6, 2) := fdg (k := 2208) (p := 17) hdk_2208 dLb_52.2.2.2.2.2.2.2.2.1
theorem dL_law_2227 : decode cL_law 2227 = .ok (.i2l, 1) := fdg (k := 2208) (p := 19) hdk_2208 dLb_52.2.2.2.2.2.2.2.2.2.1
theorem dL_law_2228 : decode cL_law 2228 = .ok (.lcmp, 1) := fdg (k := 2208) (p := 20) hdk_2208 dLb_52.2.2.2.2.2.2.2.2.2.2.1
theorem dL_law_2229 : decode cL_law 2229 = .ok (.ifCond .eq 5, 3) := fdg (k := 2208) (p := 21) hdk_2208 dLb_52.2.2.2.2.2.2.2.2.2.2.2.1
theorem dL_law_2232 : decode cL_law 2232 = .ok (.iconst 0, 1) := fdg (k := 2208) (p := 24) hdk_2208 dLb_52.2.2.2.2.2.2.2.2.2.2.2.2.1
theorem dL_law_2233 : decode cL_law 2233 = .ok (.ireturn, 1) := fdg (k := 2208) (p := 25) hdk_2208 dLb_52.2.2.2.2.2.2.2.2.2.2.2.2.2.1
theorem dL_law_2234 : decode cL_law 2234 = .ok (.goto 1078, 3) := fdg (k := 2208) (p := 26) hdk_2208 dLb_52.2.2.2.2.2.2.2.2.2.2.2.2.2.2.1
theorem dL_law_2237 : decode cL_law 2237 = .ok (.aload_n 1, 1) := fdg (k := 2208) (p := 29) hdk_2208 dLb_52.2.2.2.2.2.2.2.2.2.2.2.2.2.2.2.1
theorem dL_law_2238 : decode cL_law 2238 = .ok (.aload_n 0, 1) := fdg (k := 2208) (p := 30) hdk_2208 dLb_52.2.2.2.2.2.2.2.2.2.2.2.2.2.2.2.2.1
theorem dL_law_2239 : decode cL_law 2239 = .ok (.iload 4, 2) := fdg (k := 2208) (p := 31) hdk_2208 dLb_52.2.2.2.2.2.2.2.2.2.2.2.2.2.2.2.2.2.1
theorem dL_law_2241 : decode cL_law 2241 = .ok (.iconst 1, 1) := fdg (k := 2208) (p := 33) hdk_2208 dLb_52.2.2.2.2.2.2.2.2.2.2.2.2.2.2.2.2.2.2.1
theorem dL_law_2242 : decode cL_law 2242 = .ok (.iadd, 1) := fdg (k := 2208) (p := 34) hdk_2208 dLb_52.2.2.2.2.2.2.2.2.2.2.2.2.2.2.2.2.2.2.2.1
theorem dL_law_2243 : decode cL_law 2243 = .ok (.iaload, 1) := fdg (k := 2208) (p := 35) hdk_2208 dLb_52.2.2.2.2.2.2.2.2.2.2.2.2.2.2.2.2.2.2.2.2.1
theorem dL_law_2244 : decode cL_law 2244 = .ok (.aload_n 0, 1) := fdg (k := 2208) (p := 36) hdk_2208 dLb_52.2.2.2.2.2.2.2.2.2.2.2.2.2.2.2.2.2.2.2.2.2.1
theorem dL_law_2245 : decode cL_law 2245 = .ok (.iload 4, 2) := fdg (k := 2208) (p := 37) hdk_2208 dLb_52.2.2.2.2.2.2.2.2.2.2.2.2.2.2.2.2.2.2.2.2.2.2.1
theorem dL_law_2247 : decode cL_law 2247 = .ok (.iconst 2, 1) := fdg (k := 2208) (p := 39) hdk_2208 dLb_52.2.2.2.2.2.2.2.2.2.2.2.2.2.2.2.2.2.2.2.2.2.2.2.1
theorem dL_law_2248 : decode cL_law 2248 = .ok (.iadd, 1) := fdg (k := 2208) (p := 40) hdk_2208 dLb_52.2.2.2.2.2.2.2.2.2.2.2.2.2.2.2.2.2.2.2.2.2.2.2.2.1
theorem dL_law_2249 : decode cL_law 2249 = .ok (.iaload, 1) := fdg (k := 2208) (p := 41) hdk_2208 dLb_52.2.2.2.2.2.2.2.2.2.2.2.2.2.2.2.2.2.2.2.2.2.2.2.2.2.1
theorem dL_law_2250 : decode cL_law 2250 = .ok (.aload_n 3, 1) := fdg (k := 2208) (p := 42) hdk_2208 dLb_52.2.2.2.2.2.2.2.2.2.2.2.2.2.2.2.2.2.2.2.2.2.2.2.2.2.2.1
theorem dL_law_2251 : decode cL_law 2251 = .ok (.invokestatic 264, 3) := fdg (k := 2208) (p := 43) hdk_2208 dLb_52.2.2.2.2.2.2.2.2.2.2.2.2.2.2.2.2.2.2.2.2.2.2.2.2.2.2.2.1
theorem dL_law_2254 : decode cL_law 2254 = .ok (.istore 5, 2) := fdg (k := 2208) (p := 46) hdk_2208 dLb_52.2.2.2.2.2.2.2.2.2.2.2.2.2.2.2.2.2.2.2.2.2.2.2.2.2.2.2.2
theorem dLb_53 : fdq dk_2256 0 (.aload_n 2) 1 = true ∧ fdq dk_2256 1 (.aload_n 0) 1 = true ∧ fdq dk_2256 2 (.iload 4) 2 = true ∧ fdq dk_2256 4 (.iconst 1) 1 = true ∧ fdq dk_2256 5 (.iadd) 1 = true ∧ fdq dk_2256 6 (.iaload) 1 = true ∧ fdq dk_2256 7 (.aload_n 0) 1 = true ∧ fdq dk_2256 8 (.iload 4) 2 = true ∧ fdq dk_2256 10 (.iconst 2) 1 = true ∧ fdq dk_2256 11 (.iadd) 1 = true ∧ fdq dk_2256 12 (.iaload) 1 = true ∧ fdq dk_2256 13 (.invokevirtual 266) 3 = true ∧ fdq dk_2256 16 (.istore 6) 2 = true ∧ fdq dk_2256 18 (.aload_n 2) 1 = true ∧ fdq dk_2256 19 (.invokevirtual 170) 3 = true ∧ fdq dk_2256 22 (.iload 5) 2 = true ∧ fdq dk_2256 24 (.if_icmp .eq 5) 3 = true ∧ fdq dk_2256 27 (.iconst 0) 1 = true ∧ fdq dk_2256 28 (.ireturn) 1 = true ∧ fdq dk_2256 29 (.iload 5) 2 = true ∧ fdq dk_2256 31 (.ifCond .ne 16) 3 = true ∧ fdq dk_2256 34 (.aload_n 3) 1 = true ∧ fdq dk_2256 35 (.getfield 13) 3 = true ∧ fdq dk_2256 38 (.iload 6) 2 = true ∧ fdq dk_2256 40 (.i2l) 1 = true ∧ fdq dk_2256 41 (.lcmp) 1 = true ∧ fdq dk_2256 42 (.ifCond .eq 5) 3 = true ∧ fdq dk_2256 45 (.iconst 0) 1 = true ∧ fdq dk_2256 46 (.ireturn) 1 = true ∧ fdq dk_2256 47 (.goto 1009) 3 = true := by decide +kernel
theorem dL_law_2256 : decode cL_law 2256 = .ok (.aload_n 2, 1) := fdg (k := 2256) (p := 0) hdk_2256 dLb_53.1
theorem dL_law_2257 : decode cL_law 2257 = .ok (.aload_n 0, 1) := fdg (k := 2256) (p := 1) hdk_2256 dLb_53.2.1
theorem dL_law_2258 : decode cL_law 2258 = .ok (.iload 4, 2) := fdg (k := 2256) (p := 2) hdk_2256 dLb_53.2.2.1
theorem dL_law_2260 : decode cL_law 2260 = .ok (.iconst 1, 1) := fdg (k := 2256) (p := 4) hdk_2256 dLb_53.2.2.2.1
theorem dL_law_2261 : decode cL_law 2261 = .ok (.iadd, 1) := fdg (k := 2256) (p := 5) hdk_2256 dLb_53.2.2.2.2.1
theorem dL_law_2262 : decode cL_law 2262 = .ok (.iaload, 1) := fdg (k := 2256) (p := 6) hdk_2256 dLb_53.2.2.2.2.2.1
theorem dL_law_2263 : decode cL_law 2263 = .ok (.aload_n 0, 1) := fdg (k := 2256) (p := 7) hdk_2256 dLb_53.2.2.2.2.2.2.1
theorem dL_law_2264 : decode cL_law 2264 = .ok (.iload 4, 2) := fdg (k := 2256) (p := 8) hdk_2256 dLb_53.2.2.2.2.2.2.2.1
theorem dL_law_2266 : decode cL_law 2266 = .ok (.iconst 2, 1) := fdg (k := 2256) (p := 10) hdk_2256 dLb_53.2.2.2.2.2.2.2.2.1
theorem dL_law_2267 : decode cL_law 2267 = .ok (.iadd, 1) := fdg (k := 2256) (p := 11) hdk_2256 dLb_53.2.2.2.2.2.2.2.2.2.1
theorem dL_law_2268 : decode cL_law 2268 = .ok (.iaload, 1) := fdg (k := 2256) (p := 12) hdk_2256 dLb_53.2.2.2.2.2.2.2.2.2.2.1
theorem dL_law_2269 : decode cL_law 2269 = .ok (.invokevirtual 266, 3) := fdg (k := 2256) (p := 13) hdk_2256 dLb_53.2.2.2.2.2.2.2.2.2.2.2.1
theorem dL_law_2272 : decode cL_law 2272 = .ok (.istore 6, 2) := fdg (k := 2256) (p := 16) hdk_2256 dLb_53.2.2.2.2.2.2.2.2.2.2.2.2.1
theorem dL_law_2274 : decode cL_law 2274 = .ok (.aload_n 2, 1) := fdg (k := 2256) (p := 18) hdk_2256 dLb_53.2.2.2.2.2.2.2.2.2.2.2.2.2.1
theorem dL_law_2275 : decode cL_law 2275 = .ok (.invokevirtual 170, 3) := fdg (k := 2256) (p := 19) hdk_2256 dLb_53.2.2.2.2.2.2.2.2.2.2.2.2.2.2.1
theorem dL_law_2278 : decode cL_law 2278 = .ok (.iload 5, 2) := fdg (k := 2256) (p := 22) hdk_2256 dLb_53.2.2.2.2.2.2.2.2.2.2.2.2.2.2.2.1
theorem dL_law_2280 : decode cL_law 2280 = .ok (.if_icmp .eq 5, 3) := fdg (k := 2256) (p := 24) hdk_2256 dLb_53.2.2.2.2.2.2.2.2.2.2.2.2.2.2.2.2.1
theorem dL_law_2283 : decode cL_law 2283 = .ok (.iconst 0, 1) := fdg (k := 2256) (p := 27) hdk_2256 dLb_53.2.2.2.2.2.2.2.2.2.2.2.2.2.2.2.2.2.1
theorem dL_law_2284 : decode cL_law 2284 = .ok (.ireturn, 1) := fdg (k := 2256) (p := 28) hdk_2256 dLb_53.2.2.2.2.2.2.2.2.2.2.2.2.2.2.2.2.2.2.1
theorem dL_law_2285 : decode cL_law 2285 = .ok (.iload 5, 2) := fdg (k := 2256) (p := 29) hdk_2256 dLb_53.2.2.2.2.2.2.2.2.2.2.2.2.2.2.2.2.2.2.2.1
theorem dL_law_2287 : decode cL_law 2287 = .ok (.ifCond .ne 16, 3) := fdg (k := 2256) (p := 31) hdk_2256 dLb_53.2.2.2.2.2.2.2.2.2.2.2.2.2.2.2.2.2.2.2.2.1
theorem dL_law_2290 : decode cL_law 2290 = .ok (.aload_n 3, 1) := fdg (k := 2256) (p := 34) hdk_2256 dLb_53.2.2.2.2.2.2.2.2.2.2.2.2.2.2.2.2.2.2.2.2.2.1
theorem dL_law_2291 : decode cL_law 2291 = .ok (.getfield 13, 3) := fdg (k := 2256) (p := 35) hdk_2256 dLb_53.2.2.2.2.2.2.2.2.2.2.2.2.2.2.2.2.2.2.2.2.2.2.1
theorem dL_law_2294 : decode cL_law 2294 = .ok (.iload 6, 2) := fdg (k := 2256) (p := 38) hdk_2256 dLb_53.2.2.2.2.2.2.2.2.2.2.2.2.2.2.2.2.2.2.2.2.2.2.2.1
theorem dL_law_2296 : decode cL_law 2296 = .ok (.i2l, 1) := fdg (k := 2256) (p := 40) hdk_2256 dLb_53.2.2.2.2.2.2.2.2.2.2.2.2.2.2.2.2.2.2.2.2.2.2.2.2.1
theorem dL_law_2297 : decode cL_law 2297 = .ok (.lcmp, 1) := fdg (k := 2256) (p := 41) hdk_2256 dLb_53.2.2.2.2.2.2.2.2.2.2.2.2.2.2.2.2.2.2.2.2.2.2.2.2.2.1
theorem dL_law_2298 : decode cL_law 2298 = .ok (.ifCond .eq 5, 3) := fdg (k := 2256) (p := 42) hdk_2256 dLb_53.2.2.2.2.2.2.2.2.2.2.2.2.2.2.2.2.2.2.2.2.2.2.2.2.2.2.1
theorem dL_law_2301 : decode cL_law 2301 = .ok (.iconst 0, 1) := fdg (k := 2256) (p := 45) hdk_2256 dLb_53.2.2.2.2.2.2.2.2.2.2.2.2.2.2.2.2.2.2.2.2.2.2.2.2.2.2.2.1
theorem dL_law_2302 : decode cL_law 2302 = .ok (.ireturn, 1) := fdg (k := 2256) (p := 46) hdk_2256 dLb_53.2.2.2.2.2.2.2.2.2.2.2.2.2.2.2.2.2.2.2.2.2.2.2.2.2.2.2.2.1
theorem dL_law_2303 : decode cL_law 2303 = .ok (.goto 1009, 3) := fdg (k := 2256) (p := 47) hdk_2256 dLb_53.2.2.2.2.2.2.2.2.2.2.2.2.2.2.2.2.2.2.2.2.2.2.2.2.2.2.2.2.2
theorem dLb_54 : fdq dk_2304 2 (.aload_n 1) 1 = true ∧ fdq dk_2304 3 (.aload_n 0) 1 = true ∧ fdq dk_2304 4 (.iload 4) 2 = true ∧ fdq dk_2304 6 (.iconst 1) 1 = true ∧ fdq dk_2304 7 (.iadd) 1 = true ∧ fdq dk_2304 8 (.iaload) 1 = true ∧ fdq dk_2304 9 (.aload_n 0) 1 = true ∧ fdq dk_2304 10 (.iload 4) 2 = true ∧ fdq dk_2304 12 (.iconst 2) 1 = true ∧ fdq dk_2304 13 (.iadd) 1 = true ∧ fdq dk_2304 14 (.iaload) 1 = true ∧ fdq dk_2304 15 (.aload_n 0) 1 = true ∧ fdq dk_2304 16 (.iload 4) 2 = true ∧ fdq dk_2304 18 (.iconst 3) 1 = true ∧ fdq dk_2304 19 (.iadd) 1 = true ∧ fdq dk_2304 20 (.iaload) 1 = true ∧ fdq dk_2304 21 (.aload_n 3) 1 = true ∧ fdq dk_2304 22 (.invokestatic 267) 3 = true ∧ fdq dk_2304 25 (.istore 5) 2 = true ∧ fdq dk_2304 27 (.aload_n 2) 1 = true ∧ fdq dk_2304 28 (.aload_n 0) 1 = true ∧ fdq dk_2304 29 (.iload 4) 2 = true ∧ fdq dk_2304 31 (.iconst 1) 1 = true ∧ fdq dk_2304 32 (.iadd) 1 = true ∧ fdq dk_2304 33 (.iaload) 1 = true ∧ fdq dk_2304 34 (.aload_n 0) 1 = true ∧ fdq dk_2304 35 (.iload 4) 2 = true ∧ fdq dk_2304 37 (.iconst 2) 1 = true ∧ fdq dk_2304 38 (.iadd) 1 = true ∧ fdq dk_2304 39 (.iaload) 1 = true ∧ fdq dk_2304 40 (.aload_n 0) 1 = true ∧ fdq dk_2304 41 (.iload 4) 2 = true := by decide +kernel
theorem dL_law_2306 : decode cL_law 2306 = .ok (.aload_n 1, 1) := fdg (k := 2304) (p := 2) hdk_2304 dLb_54.1
theorem dL_law_2307 : decode cL_law 2307 = .ok (.aload_n 0, 1) := fdg (k := 2304) (p := 3) hdk_2304 dLb_54.2.1
theorem dL_law_2308 : decode cL_law 2308 = .ok (.iload 4, 2) := fdg (k := 2304) (p := 4) hdk_2304 dLb_54.2.2.1
theorem dL_law_2310 : decode cL_law 2310 = .ok (.iconst 1, 1) := fdg (k := 2304) (p := 6) hdk_2304 dLb_54.2.2.2.1
theorem dL_law_2311 : decode cL_law 2311 = .ok (.iadd, 1) := fdg (k := 2304) (p := 7) hdk_2304 dLb_54.2.2.2.2.1
theorem dL_law_2312 : decode cL_law 2312 = .ok (.iaload, 1) := fdg (k := 2304) (p := 8) hdk_2304 dLb_54.2.2.2.2.2.1
theorem dL_law_2313 : decode cL_law 2313 = .ok (.aload_n 0, 1) := fdg (k := 2304) (p := 9) hdk_2304 dLb_54.2.2.2.2.2.2.1
theorem dL_law_2314 : decode cL_law 2314 = .ok (.iload 4, 2) := fdg (k := 2304) (p := 10) hdk_2304 dLb_54.2.2.2.2.2.2.2.1
theorem dL_law_2316 : decode cL_law 2316 = .ok (.iconst 2, 1) := fdg (k := 2304) (p := 12) hdk_2304 dLb_54.2.2.2.2.2.2.2.2.1
theorem dL_law_2317 : decode cL_law 2317 = .ok (.iadd, 1) := fdg (k := 2304) (p := 13) hdk_2304 dLb_54.2.2.2.2.2.2.2.2.2.1
theorem dL_law_2318 : decode cL_law 2318 = .ok (.iaload, 1) := fdg (k := 2304) (p := 14) hdk_2304 dLb_54.2.2.2.2.2.2.2.2.2.2.1
theorem dL_law_2319 : decode cL_law 2319 = .ok (.aload_n 0, 1) := fdg (k := 2304) (p := 15) hdk_2304 dLb_54.2.2.2.2.2.2.2.2.2.2.2.1
theorem dL_law_2320 : decode cL_law 2320 = .ok (.iload 4, 2) := fdg (k := 2304) (p := 16) hdk_2304 dLb_54.2.2.2.2.2.2.2.2.2.2.2.2.1
theorem dL_law_2322 : decode cL_law 2322 = .ok (.iconst 3, 1) := fdg (k := 2304) (p := 18) hdk_2304 dLb_54.2.2.2.2.2.2.2.2.2.2.2.2.2.1
theorem dL_law_2323 : decode cL_law 2323 = .ok (.iadd, 1) := fdg (k := 2304) (p := 19) hdk_2304 dLb_54.2.2.2.2.2.2.2.2.2.2.2.2.2.2.1
theorem dL_law_2324 : decode cL_law 2324 = .ok (.iaload, 1) := fdg (k := 2304) (p := 20) hdk_2304 dLb_54.2.2.2.2.2.2.2.2.2.2.2.2.2.2.2.1
theorem dL_law_2325 : decode cL_law 2325 = .ok (.aload_n 3, 1) := fdg (k := 2304) (p := 21) hdk_2304 dLb_54.2.2.2.2.2.2.2.2.2.2.2.2.2.2.2.2.1
theorem dL_law_2326 : decode cL_law 2326 = .ok (.invokestatic 267, 3) := fdg (k := 2304) (p := 22) hdk_2304 dLb_54.2.2.2.2.2.2.2.2.2.2.2.2.2.2.2.2.2.1
theorem dL_law_2329 : decode cL_law 2329 = .ok (.istore 5, 2) := fdg (k := 2304) (p := 25) hdk_2304 dLb_54.2.2.2.2.2.2.2.2.2.2.2.2.2.2.2.2.2.2.1
theorem dL_law_2331 : decode cL_law 2331 = .ok (.aload_n 2, 1) := fdg (k := 2304) (p := 27) hdk_2304 dLb_54.2.2.2.2.2.2.2.2.2.2.2.2.2.2.2.2.2.2.2.1
theorem dL_law_2332 : decode cL_law 2332 = .ok (.aload_n 0, 1) := fdg (k := 2304) (p := 28) hdk_2304 dLb_54.2.2.2.2.2.2.2.2.2.2.2.2.2.2.2.2.2.2.2.2.1
theorem dL_law_2333 : decode cL_law 2333 = .ok (.iload 4, 2) := fdg (k := 2304) (p := 29) hdk_2304 dLb_54.2.2.2.2.2.2.2.2.2.2.2.2.2.2.2.2.2.2.2.2.2.1
theorem dL_law_2335 : decode cL_law 2335 = .ok (.iconst 1, 1) := fdg (k := 2304) (p := 31) hdk_2304 dLb_54.2.2.2.2.2.2.2.2.2.2.2.2.2.2.2.2.2.2.2.2.2.2.1
theorem dL_law_2336 : decode cL_law 2336 = .ok (.iadd, 1) := fdg (k := 2304) (p := 32) hdk_2304 dLb_54.2.2.2.2.2.2.2.2.2.2.2.2.2.2.2.2.2.2.2.2.2.2.2.1
theorem dL_law_2337 : decode cL_law 2337 = .ok (.iaload, 1) := fdg (k := 2304) (p := 33) hdk_2304 dLb_54.2.2.2.2.2.2.2.2.2.2.2.2.2.2.2.2.2.2.2.2.2.2.2.2.1
theorem dL_law_2338 : decode cL_law 2338 = .ok (.aload_n 0, 1) := fdg (k := 2304) (p := 34) hdk_2304 dLb_54.2.2.2.2.2.2.2.2.2.2.2.2.2.2.2.2.2.2.2.2.2.2.2.2.2.1
theorem dL_law_2339 : decode cL_law 2339 = .ok (.iload 4, 2) := fdg (k := 2304) (p := 35) hdk_2304 dLb_54.2.2.2.2.2.2.2.2.2.2.2.2.2.2.2.2.2.2.2.2.2.2.2.2.2.2.1
theorem dL_law_2341 : decode cL_law 2341 = .ok (.iconst 2, 1) := fdg (k := 2304) (p := 37) hdk_2304 dLb_54.2.2.2.2.2.2.2.2.2.2.2.2.2.2.2.2.2.2.2.2.2.2.2.2.2.2.2.1
theorem dL_law_2342 : decode cL_law 2342 = .ok (.iadd, 1) := fdg (k := 2304) (p := 38) hdk_2304 dLb_54.2.2.2.2.2.2.2.2.2.2.2.2.2.2.2.2.2.2.2.2.2.2.2.2.2.2.2.2.1
theorem dL_law_2343 : decode cL_law 2343 = .ok (.iaload, 1) := fdg (k := 2304) (p := 39) hdk_2304 dLb_54.2.2.2.2.2.2.2.2.2.2.2.2.2.2.2.2.2.2.2.2.2.2.2.2.2.2.2.2.2.1
theorem dL_law_2344 : decode cL_law 2344 = .ok (.aload_n 0, 1) := fdg (k := 2304) (p := 40) hdk_2304 dLb_54.2.2.2.2.2.2.2.2.2.2.2.2.2.2.2.2.2.2.2.2.2.2.2.2.2.2.2.2.2.2.1
theorem dL_law_2345 : decode cL_law 2345 = .ok (.iload 4, 2) := fdg (k := 2304) (p := 41) hdk_2304 dLb_54.2.2.2.2.2.2.2.2.2.2.2.2.2.2.2.2.2.2.2.2.2.2.2.2.2.2.2.2.2.2.2
theorem dLb_55 : fdq dk_2304 43 (.iconst 3) 1 = true ∧ fdq dk_2304 44 (.iadd) 1 = true ∧ fdq dk_2304 45 (.iaload) 1 = true ∧ fdq dk_2304 46 (.invokevirtual 269) 3 = true := by decide +kernel
theorem dL_law_2347 : decode cL_law 2347 = .ok (.iconst 3, 1) := fdg (k := 2304) (p := 43) hdk_2304 dLb_55.1
theorem dL_law_2348 : decode cL_law 2348 = .ok (.iadd, 1) := fdg (k := 2304) (p := 44) hdk_2304 dLb_55.2.1
theorem dL_law_2349 : decode cL_law 2349 = .ok (.iaload, 1) := fdg (k := 2304) (p := 45) hdk_2304 dLb_55.2.2.1
theorem dL_law_2350 : decode cL_law 2350 = .ok (.invokevirtual 269, 3) := fdg (k := 2304) (p := 46) hdk_2304 dLb_55.2.2.2
theorem dLb_56 : fdq dk_2352 1 (.istore 6) 2 = true ∧ fdq dk_2352 3 (.aload_n 2) 1 = true ∧ fdq dk_2352 4 (.invokevirtual 170) 3 = true ∧ fdq dk_2352 7 (.iload 5) 2 = true ∧ fdq dk_2352 9 (.if_icmp .eq 5) 3 = true ∧ fdq dk_2352 12 (.iconst 0) 1 = true ∧ fdq dk_2352 13 (.ireturn) 1 = true ∧ fdq dk_2352 14 (.iload 5) 2 = true ∧ fdq dk_2352 16 (.ifCond .ne 16) 3 = true ∧ fdq dk_2352 19 (.aload_n 3) 1 = true ∧ fdq dk_2352 20 (.getfield 13) 3 = true ∧ fdq dk_2352 23 (.iload 6) 2 = true ∧ fdq dk_2352 25 (.i2l) 1 = true ∧ fdq dk_2352 26 (.lcmp) 1 = true ∧ fdq dk_2352 27 (.ifCond .eq 5) 3 = true ∧ fdq dk_2352 30 (.iconst 0) 1 = true ∧ fdq dk_2352 31 (.ireturn) 1 = true ∧ fdq dk_2352 32 (.goto 928) 3 = true ∧ fdq dk_2352 35 (.aload_n 1) 1 = true ∧ fdq dk_2352 36 (.aload_n 0) 1 = true ∧ fdq dk_2352 37 (.iload 4) 2 = true ∧ fdq dk_2352 39 (.iconst 1) 1 = true ∧ fdq dk_2352 40 (.iadd) 1 = true ∧ fdq dk_2352 41 (.iaload) 1 = true ∧ fdq dk_2352 42 (.aload_n 0) 1 = true ∧ fdq dk_2352 43 (.iload 4) 2 = true ∧ fdq dk_2352 45 (.iconst 2) 1 = true ∧ fdq dk_2352 46 (.iadd) 1 = true ∧ fdq dk_2352 47 (.iaload) 1 = true := by decide +kernel
theorem dL_law_2353 : decode cL_law 2353 = .ok (.istore 6, 2) := fdg (k := 2352) (p := 1) hdk_2352 dLb_56.1
theorem dL_law_2355 : decode cL_law 2355 = .ok (.aload_n 2, 1) := fdg (k := 2352) (p := 3) hdk_2352 dLb_56.2.1
theorem dL_law_2356 : decode cL_law 2356 = .ok (.invokevirtual 170, 3) := fdg (k := 2352) (p := 4) hdk_2352 dLb_56.2.2.1
theorem dL_law_2359 : decode cL_law 2359 = .ok (.iload 5, 2) := fdg (k := 2352) (p := 7) hdk_2352 dLb_56.2.2.2.1
theorem dL_law_2361 : decode cL_law 2361 = .ok (.if_icmp .eq 5, 3) := fdg (k := 2352) (p := 9) hdk_2352 dLb_56.2.2.2.2.1
theorem dL_law_2364 : decode cL_law 2364 = .ok (.iconst 0, 1) := fdg (k := 2352) (p := 12) hdk_2352 dLb_56.2.2.2.2.2.1
theorem dL_law_2365 : decode cL_law 2365 = .ok (.ireturn, 1) := fdg (k := 2352) (p := 13) hdk_2352 dLb_56.2.2.2.2.2.2.1
theorem dL_law_2366 : decode cL_law 2366 = .ok (.iload 5, 2) := fdg (k := 2352) (p := 14) hdk_2352 dLb_56.2.2.2.2.2.2.2.1
theorem dL_law_2368 : decode cL_law 2368 = .ok (.ifCond .ne 16, 3) := fdg (k := 2352) (p := 16) hdk_2352 dLb_56.2.2.2.2.2.2.2.2.1
theorem dL_law_2371 : decode cL_law 2371 = .ok (.aload_n 3, 1) := fdg (k := 2352) (p := 19) hdk_2352 dLb_56.2.2.2.2.2.2.2.2.2.1
theorem dL_law_2372 : decode cL_law 2372 = .ok (.getfield 13, 3) := fdg (k := 2352) (p := 20) hdk_2352 dLb_56.2.2.2.2.2.2.2.2.2.2.1
theorem dL_law_2375 : decode cL_law 2375 = .ok (.iload 6, 2) := fdg (k := 2352) (p := 23) hdk_2352 dLb_56.2.2.2.2.2.2.2.2.2.2.2.1
theorem dL_law_2377 : decode cL_law 2377 = .ok (.i2l, 1) := fdg (k := 2352) (p := 25) hdk_2352 dLb_56.2.2.2.2.2.2.2.2.2.2.2.2.1
theorem dL_law_2378 : decode cL_law 2378 = .ok (.lcmp, 1) := fdg (k := 2352) (p := 26) hdk_2352 dLb_56.2.2.2.2.2.2.2.2.2.2.2.2.2.1
theorem dL_law_2379 : decode cL_law 2379 = .ok (.ifCond .eq 5, 3) := fdg (k := 2352) (p := 27) hdk_2352 dLb_56.2.2.2.2.2.2.2.2.2.2.2.2.2.2.1
theorem dL_law_2382 : decode cL_law 2382 = .ok (.iconst 0, 1) := fdg (k := 2352) (p := 30) hdk_2352 dLb_56.2.2.2.2.2.2.2.2.2.2.2.2.2.2.2.1
theorem dL_law_2383 : decode cL_law 2383 = .ok (.ireturn, 1) := fdg (k := 2352) (p := 31) hdk_2352 dLb_56.2.2.2.2.2.2.2.2.2.2.2.2.2.2.2.2.1
theorem dL_law_2384 : decode cL_law 2384 = .ok (.goto 928, 3) := fdg (k := 2352) (p := 32) hdk_2352 dLb_56.2.2.2.2.2.2.2.2.2.2.2.2.2.2.2.2.2.1
theorem dL_law_2387 : decode cL_law 2387 = .ok (.aload_n 1, 1) := fdg (k := 2352) (p := 35) hdk_2352 dLb_56.2.2.2.2.2.2.2.2.2.2.2.2.2.2.2.2.2.2.1
theorem dL_law_2388 : decode cL_law 2388 = .ok (.aload_n 0, 1) := fdg (k := 2352) (p := 36) hdk_2352 dLb_56.2.2.2.2.2.2.2.2.2.2.2.2.2.2.2.2.2.2.2.1
theorem dL_law_2389 : decode cL_law 2389 = .ok (.iload 4, 2) := fdg (k := 2352) (p := 37) hdk_2352 dLb_56.2.2.2.2.2.2.2.2.2.2.2.2.2.2.2.2.2.2.2.2.1
theorem dL_law_2391 : decode cL_law 2391 = .ok (.iconst 1, 1) := fdg (k := 2352) (p := 39) hdk_2352 dLb_56.2.2.2.2.2.2.2.2.2.2.2.2.2.2.2.2.2.2.2.2.2.1
theorem dL_law_2392 : decode cL_law 2392 = .ok (.iadd, 1) := fdg (k := 2352) (p := 40) hdk_2352 dLb_56.2.2.2.2.2.2.2.2.2.2.2.2.2.2.2.2.2.2.2.2.2.2.1
theorem dL_law_2393 : decode cL_law 2393 = .ok (.iaload, 1) := fdg (k := 2352) (p := 41) hdk_2352 dLb_56.2.2.2.2.2.2.2.2.2.2.2.2.2.2.2.2.2.2.2.2.2.2.2.1
theorem dL_law_2394 : decode cL_law 2394 = .ok (.aload_n 0, 1) := fdg (k := 2352) (p := 42) hdk_2352 dLb_56.2.2.2.2.2.2.2.2.2.2.2.2.2.2.2.2.2.2.2.2.2.2.2.2.1
theorem dL_law_2395 : decode cL_law 2395 = .ok (.iload 4, 2) := fdg (k := 2352) (p := 43) hdk_2352 dLb_56.2.2.2.2.2.2.2.2.2.2.2.2.2.2.2.2.2.2.2.2.2.2.2.2.2.1
theorem dL_law_2397 : decode cL_law 2397 = .ok (.iconst 2, 1) := fdg (k := 2352) (p := 45) hdk_2352 dLb_56.2.2.2.2.2.2.2.2.2.2.2.2.2.2.2.2.2.2.2.2.2.2.2.2.2.2.1
theorem dL_law_2398 : decode cL_law 2398 = .ok (.iadd, 1) := fdg (k := 2352) (p := 46) hdk_2352 dLb_56.2.2.2.2.2.2.2.2.2.2.2.2.2.2.2.2.2.2.2.2.2.2.2.2.2.2.2.1
theorem dL_law_2399 : decode cL_law 2399 = .ok (.iaload, 1) := fdg (k := 2352) (p := 47) hdk_2352 dLb_56.2.2.2.2.2.2.2.2.2.2.2.2.2.2.2.2.2.2.2.2.2.2.2.2.2.2.2.2
theorem dLb_57 : fdq dk_2400 0 (.aload_n 3) 1 = true ∧ fdq dk_2400 1 (.invokestatic 270) 3 = true ∧ fdq dk_2400 4 (.istore 5) 2 = true ∧ fdq dk_2400 6 (.aload_n 2) 1 = true ∧ fdq dk_2400 7 (.aload_n 0) 1 = true ∧ fdq dk_2400 8 (.iload 4) 2 = true ∧ fdq dk_2400 10 (.iconst 1) 1 = true ∧ fdq dk_2400 11 (.iadd) 1 = true ∧ fdq dk_2400 12 (.iaload) 1 = true ∧ fdq dk_2400 13 (.aload_n 0) 1 = true ∧ fdq dk_2400 14 (.iload 4) 2 = true ∧ fdq dk_2400 16 (.iconst 2) 1 = true ∧ fdq dk_2400 17 (.iadd) 1 = true ∧ fdq dk_2400 18 (.iaload) 1 = true ∧ fdq dk_2400 19 (.invokevirtual 272) 3 = true ∧ fdq dk_2400 22 (.istore 6) 2 = true ∧ fdq dk_2400 24 (.aload_n 2) 1 = true ∧ fdq dk_2400 25 (.invokevirtual 170) 3 = true ∧ fdq dk_2400 28 (.iload 5) 2 = true ∧ fdq dk_2400 30 (.if_icmp .eq 5) 3 = true ∧ fdq dk_2400 33 (.iconst 0) 1 = true ∧ fdq dk_2400 34 (.ireturn) 1 = true ∧ fdq dk_2400 35 (.iload 5) 2 = true ∧ fdq dk_2400 37 (.ifCond .ne 16) 3 = true ∧ fdq dk_2400 40 (.aload_n 3) 1 = true ∧ fdq dk_2400 41 (.getfield 13) 3 = true ∧ fdq dk_2400 44 (.iload 6) 2 = true ∧ fdq dk_2400 46 (.i2l) 1 = true ∧ fdq dk_2400 47 (.lcmp) 1 = true := by decide +kernel
theorem dL_law_2400 : decode cL_law 2400 = .ok (.aload_n 3, 1) := fdg (k := 2400) (p := 0) hdk_2400 dLb_57.1
theorem dL_law_2401 : decode cL_law 2401 = .ok (.invokestatic 270, 3) := fdg (k := 2400) (p := 1) hdk_2400 dLb_57.2.1
theorem dL_law_2404 : decode cL_law 2404 = .ok (.istore 5, 2) := fdg (k := 2400) (p := 4) hdk_2400 dLb_57.2.2.1
theorem dL_law_2406 : decode cL_law 2406 = .ok (.aload_n 2, 1) := fdg (k := 2400) (p := 6) hdk_2400 dLb_57.2.2.2.1
theorem dL_law_2407 : decode cL_law 2407 = .ok (.aload_n 0, 1) := fdg (k := 2400) (p := 7) hdk_2400 dLb_57.2.2.2.2.1
theorem dL_law_2408 : decode cL_law 2408 = .ok (.iload 4, 2) := fdg (k := 2400) (p := 8) hdk_2400 dLb_57.2.2.2.2.2.1
theorem dL_law_2410 : decode cL_law 2410 = .ok (.iconst 1, 1) := fdg (k := 2400) (p := 10) hdk_2400 dLb_57.2.2.2.2.2.2.1
theorem dL_law_2411 : decode cL_law 2411 = .ok (.iadd, 1) := fdg (k := 2400) (p := 11) hdk_2400 dLb_57.2.2.2.2.2.2.2.1
theorem dL_law_2412 : decode cL_law 2412 = .ok (.iaload, 1) := fdg (k := 2400) (p := 12) hdk_2400 dLb_57.2.2.2.2.2.2.2.2.1
theorem dL_law_2413 : decode cL_law 2413 = .ok (.aload_n 0, 1) := fdg (k := 2400) (p := 13) hdk_2400 dLb_57.2.2.2.2.2.2.2.2.2.1
theorem dL_law_2414 : decode cL_law 2414 = .ok (.iload 4, 2) := fdg (k := 2400) (p := 14) hdk_2400 dLb_57.2.2.2.2.2.2.2.2.2.2.1
theorem dL_law_2416 : decode cL_law 2416 = .ok (.iconst 2, 1) := fdg (k := 2400) (p := 16) hdk_2400 dLb_57.2.2.2.2.2.2.2.2.2.2.2.1
theorem dL_law_2417 : decode cL_law 2417 = .ok (.iadd, 1) := fdg (k := 2400) (p := 17) hdk_2400 dLb_57.2.2.2.2.2.2.2.2.2.2.2.2.1
theorem dL_law_2418 : decode cL_law 2418 = .ok (.iaload, 1) := fdg (k := 2400) (p := 18) hdk_2400 dLb_57.2.2.2.2.2.2.2.2.2.2.2.2.2.1
theorem dL_law_2419 : decode cL_law 2419 = .ok (.invokevirtual 272, 3) := fdg (k := 2400) (p := 19) hdk_2400 dLb_57.2.2.2.2.2.2.2.2.2.2.2.2.2.2.1
theorem dL_law_2422 : decode cL_law 2422 = .ok (.istore 6, 2) := fdg (k := 2400) (p := 22) hdk_2400 dLb_57.2.2.2.2.2.2.2.2.2.2.2.2.2.2.2.1
theorem dL_law_2424 : decode cL_law 2424 = .ok (.aload_n 2, 1) := fdg (k := 2400) (p := 24) hdk_2400 dLb_57.2.2.2.2.2.2.2.2.2.2.2.2.2.2.2.2.1
theorem dL_law_2425 : decode cL_law 2425 = .ok (.invokevirtual 170, 3) := fdg (k := 2400) (p := 25) hdk_2400 dLb_57.2.2.2.2.2.2.2.2.2.2.2.2.2.2.2.2.2.1
theorem dL_law_2428 : decode cL_law 2428 = .ok (.iload 5, 2) := fdg (k := 2400) (p := 28) hdk_2400 dLb_57.2.2.2.2.2.2.2.2.2.2.2.2.2.2.2.2.2.2.1
theorem dL_law_2430 : decode cL_law 2430 = .ok (.if_icmp .eq 5, 3) := fdg (k := 2400) (p := 30) hdk_2400 dLb_57.2.2.2.2.2.2.2.2.2.2.2.2.2.2.2.2.2.2.2.1
theorem dL_law_2433 : decode cL_law 2433 = .ok (.iconst 0, 1) := fdg (k := 2400) (p := 33) hdk_2400 dLb_57.2.2.2.2.2.2.2.2.2.2.2.2.2.2.2.2.2.2.2.2.1
theorem dL_law_2434 : decode cL_law 2434 = .ok (.ireturn, 1) := fdg (k := 2400) (p := 34) hdk_2400 dLb_57.2.2.2.2.2.2.2.2.2.2.2.2.2.2.2.2.2.2.2.2.2.1
theorem dL_law_2435 : decode cL_law 2435 = .ok (.iload 5, 2) := fdg (k := 2400) (p := 35) hdk_2400 dLb_57.2.2.2.2.2.2.2.2.2.2.2.2.2.2.2.2.2.2.2.2.2.2.1
theorem dL_law_2437 : decode cL_law 2437 = .ok (.ifCond .ne 16, 3) := fdg (k := 2400) (p := 37) hdk_2400 dLb_57.2.2.2.2.2.2.2.2.2.2.2.2.2.2.2.2.2.2.2.2.2.2.2.1
theorem dL_law_2440 : decode cL_law 2440 = .ok (.aload_n 3, 1) := fdg (k := 2400) (p := 40) hdk_2400 dLb_57.2.2.2.2.2.2.2.2.2.2.2.2.2.2.2.2.2.2.2.2.2.2.2.2.1
theorem dL_law_2441 : decode cL_law 2441 = .ok (.getfield 13, 3) := fdg (k := 2400) (p := 41) hdk_2400 dLb_57.2.2.2.2.2.2.2.2.2.2.2.2.2.2.2.2.2.2.2.2.2.2.2.2.2.1
theorem dL_law_2444 : decode cL_law 2444 = .ok (.iload 6, 2) := fdg (k := 2400) (p := 44) hdk_2400 dLb_57.2.2.2.2.2.2.2.2.2.2.2.2.2.2.2.2.2.2.2.2.2.2.2.2.2.2.1
theorem dL_law_2446 : decode cL_law 2446 = .ok (.i2l, 1) := fdg (k := 2400) (p := 46) hdk_2400 dLb_57.2.2.2.2.2.2.2.2.2.2.2.2.2.2.2.2.2.2.2.2.2.2.2.2.2.2.2.1
theorem dL_law_2447 : decode cL_law 2447 = .ok (.lcmp, 1) := fdg (k := 2400) (p := 47) hdk_2400 dLb_57.2.2.2.2.2.2.2.2.2.2.2.2.2.2.2.2.2.2.2.2.2.2.2.2.2.2.2.2
theorem dLb_58 : fdq dk_2448 0 (.ifCond .eq 5) 3 = true ∧ fdq dk_2448 3 (.iconst 0) 1 = true ∧ fdq dk_2448 4 (.ireturn) 1 = true ∧ fdq dk_2448 5 (.goto 859) 3 = true ∧ fdq dk_2448 8 (.aload_n 1) 1 = true ∧ fdq dk_2448 9 (.aload_n 0) 1 = true ∧ fdq dk_2448 10 (.iload 4) 2 = true ∧ fdq dk_2448 12 (.iconst 1) 1 = true ∧ fdq dk_2448 13 (.iadd) 1 = true ∧ fdq dk_2448 14 (.iaload) 1 = true ∧ fdq dk_2448 15 (.aload_n 0) 1 = true ∧ fdq dk_2448 16 (.iload 4) 2 = true ∧ fdq dk_2448 18 (.iconst 2) 1 = true ∧ fdq dk_2448 19 (.iadd) 1 = true ∧ fdq dk_2448 20 (.iaload) 1 = true ∧ fdq dk_2448 21 (.aload_n 0) 1 = true ∧ fdq dk_2448 22 (.iload 4) 2 = true ∧ fdq dk_2448 24 (.iconst 3) 1 = true ∧ fdq dk_2448 25 (.iadd) 1 = true ∧ fdq dk_2448 26 (.iaload) 1 = true ∧ fdq dk_2448 27 (.aload_n 3) 1 = true ∧ fdq dk_2448 28 (.invokestatic 273) 3 = true ∧ fdq dk_2448 31 (.istore 5) 2 = true ∧ fdq dk_2448 33 (.aload_n 2) 1 = true ∧ fdq dk_2448 34 (.aload_n 0) 1 = true ∧ fdq dk_2448 35 (.iload 4) 2 = true ∧ fdq dk_2448 37 (.iconst 1) 1 = true ∧ fdq dk_2448 38 (.iadd) 1 = true ∧ fdq dk_2448 39 (.iaload) 1 = true ∧ fdq dk_2448 40 (.aload_n 0) 1 = true ∧ fdq dk_2448 41 (.iload 4) 2 = true ∧ fdq dk_2448 43 (.iconst 2) 1 = true := by decide +kernel
theorem dL_law_2448 : decode cL_law 2448 = .ok (.ifCond .eq 5, 3) := fdg (k := 2448) (p := 0) hdk_2448 dLb_58.1
theorem dL_law_2451 : decode cL_law 2451 = .ok (.iconst 0, 1) := fdg (k := 2448) (p := 3) hdk_2448 dLb_58.2.1
theorem dL_law_2452 : decode cL_law 2452 = .ok (.ireturn, 1) := fdg (k := 2448) (p := 4) hdk_2448 dLb_58.2.2.1
theorem dL_law_2453 : decode cL_law 2453 = .ok (.goto 859, 3) := fdg (k := 2448) (p := 5) hdk_2448 dLb_58.2.2.2.1
theorem dL_law_2456 : decode cL_law 2456 = .ok (.aload_n 1, 1) := fdg (k := 2448) (p := 8) hdk_2448 dLb_58.2.2.2.2.1
theorem dL_law_2457 : decode cL_law 2457 = .ok (.aload_n 0, 1) := fdg (k := 2448) (p := 9) hdk_2448 dLb_58.2.2.2.2.2.1
theorem dL_law_2458 : decode cL_law 2458 = .ok (.iload 4, 2) := fdg (k := 2448) (p := 10) hdk_2448 dLb_58.2.2.2.2.2.2.1
theorem dL_law_2460 : decode cL_law 2460 = .ok (.iconst 1, 1) := fdg (k := 2448) (p := 12) hdk_2448 dLb_58.2.2.2.2.2.2.2.1
theorem dL_law_2461 : decode cL_law 2461 = .ok (.iadd, 1) := fdg (k := 2448) (p := 13) hdk_2448 dLb_58.2.2.2.2.2.2.2.2.1
theorem dL_law_2462 : decode cL_law 2462 = .ok (.iaload, 1) := fdg (k := 2448) (p := 14) hdk_2448 dLb_58.2.2.2.2.2.2.2.2.2.1
theorem dL_law_2463 : decode cL_law 2463 = .ok (.aload_n 0, 1) := fdg (k := 2448) (p := 15) hdk_2448 dLb_58.2.2.2.2.2.2.2.2.2.2.1
theorem dL_law_2464 : decode cL_law 2464 = .ok (.iload 4, 2) := fdg (k := 2448) (p := 16) hdk_2448 dLb_58.2.2.2.2.2.2.2.2.2.2.2.1
theorem dL_law_2466 : decode cL_law 2466 = .ok (.iconst 2, 1) := fdg (k := 2448) (p := 18) hdk_2448 dLb_58.2.2.2.2.2.2.2.2.2.2.2.2.1
theorem dL_law_2467 : decode cL_law 2467 = .ok (.iadd, 1) := fdg (k := 2448) (p := 19) hdk_2448 dLb_58.2.2.2.2.2.2.2.2.2.2.2.2.2.1
theorem dL_law_2468 : decode cL_law 2468 = .ok (.iaload, 1) := fdg (k := 2448) (p := 20) hdk_2448 dLb_58.2.2.2.2.2.2.2.2.2.2.2.2.2.2.1
theorem dL_law_2469 : decode cL_law 2469 = .ok (.aload_n 0, 1) := fdg (k := 2448) (p := 21) hdk_2448 dLb_58.2.2.2.2.2.2.2.2.2.2.2.2.2.2.2.1
theorem dL_law_2470 : decode cL_law 2470 = .ok (.iload 4, 2) := fdg (k := 2448) (p := 22) hdk_2448 dLb_58.2.2.2.2.2.2.2.2.2.2.2.2.2.2.2.2.1
theorem dL_law_2472 : decode cL_law 2472 = .ok (.iconst 3, 1) := fdg (k := 2448) (p := 24) hdk_2448 dLb_58.2.2.2.2.2.2.2.2.2.2.2.2.2.2.2.2.2.1
theorem dL_law_2473 : decode cL_law 2473 = .ok (.iadd, 1) := fdg (k := 2448) (p := 25) hdk_2448 dLb_58.2.2.2.2.2.2.2.2.2.2.2.2.2.2.2.2.2.2.1
theorem dL_law_2474 : decode cL_law 2474 = .ok (.iaload, 1) := fdg (k := 2448) (p := 26) hdk_2448 dLb_58.2.2.2.2.2.2.2.2.2.2.2.2.2.2.2.2.2.2.2.1
theorem dL_law_2475 : decode cL_law 2475 = .ok (.aload_n 3, 1) := fdg (k := 2448) (p := 27) hdk_2448 dLb_58.2.2.2.2.2.2.2.2.2.2.2.2.2.2.2.2.2.2.2.2.1
theorem dL_law_2476 : decode cL_law 2476 = .ok (.invokestatic 273, 3) := fdg (k := 2448) (p := 28) hdk_2448 dLb_58.2.2.2.2.2.2.2.2.2.2.2.2.2.2.2.2.2.2.2.2.2.1
theorem dL_law_2479 : decode cL_law 2479 = .ok (.istore 5, 2) := fdg (k := 2448) (p := 31) hdk_2448 dLb_58.2.2.2.2.2.2.2.2.2.2.2.2.2.2.2.2.2.2.2.2.2.2.1
theorem dL_law_2481 : decode cL_law 2481 = .ok (.aload_n 2, 1) := fdg (k := 2448) (p := 33) hdk_2448 dLb_58.2.2.2.2.2.2.2.2.2.2.2.2.2.2.2.2.2.2.2.2.2.2.2.1
theorem dL_law_2482 : decode cL_law 2482 = .ok (.aload_n 0, 1) := fdg (k := 2448) (p := 34) hdk_2448 dLb_58.2.2.2.2.2.2.2.2.2.2.2.2.2.2.2.2.2.2.2.2.2.2.2.2.1
theorem dL_law_2483 : decode cL_law 2483 = .ok (.iload 4, 2) := fdg (k := 2448) (p := 35) hdk_2448 dLb_58.2.2.2.2.2.2.2.2.2.2.2.2.2.2.2.2.2.2.2.2.2.2.2.2.2.1
theorem dL_law_2485 : decode cL_law 2485 = .ok (.iconst 1, 1) := fdg (k := 2448) (p := 37) hdk_2448 dLb_58.2.2.2.2.2.2.2.2.2.2.2.2.2.2.2.2.2.2.2.2.2.2.2.2.2.2.1
theorem dL_law_2486 : decode cL_law 2486 = .ok (.iadd, 1) := fdg (k := 2448) (p := 38) hdk_2448 dLb_58.2.2.2.2.2.2.2.2.2.2.2.2.2.2.2.2.2.2.2.2.2.2.2.2.2.2.2.1
theorem dL_law_2487 : decode cL_law 2487 = .ok (.iaload, 1) := fdg (k := 2448) (p := 39) hdk_2448 dLb_58.2.2.2.2.2.2.2.2.2.2.2.2.2.2.2.2.2.2.2.2.2.2.2.2.2.2.2.2.1
theorem dL_law_2488 : decode cL_law 2488 = .ok (.aload_n 0, 1) := fdg (k := 2448) (p := 40) hdk_2448 dLb_58.2.2.2.2.2.2.2.2.2.2.2.2.2.2.2.2.2.2.2.2.2.2.2.2.2.2.2.2.2.1
theorem dL_law_2489 : decode cL_law 2489 = .ok (.iload 4, 2) := fdg (k := 2448) (p := 41) hdk_2448 dLb_58.2.2.2.2.2.2.2.2.2.2.2.2.2.2.2.2.2.2.2.2.2.2.2.2.2.2.2.2.2.2.1
theorem dL_law_2491 : decode cL_law 2491 = .ok (.iconst 2, 1) := fdg (k := 2448) (p := 43) hdk_2448 dLb_58.2.2.2.2.2.2.2.2.2.2.2.2.2.2.2.2.2.2.2.2.2.2.2.2.2.2.2.2.2.2.2
theorem dLb_59 : fdq dk_2448 44 (.iadd) 1 = true ∧ fdq dk_2448 45 (.iaload) 1 = true ∧ fdq dk_2448 46 (.aload_n 0) 1 = true ∧ fdq dk_2448 47 (.iload 4) 2 = true := by decide +kernel
theorem dL_law_2492 : decode cL_law 2492 = .ok (.iadd, 1) := fdg (k := 2448) (p := 44) hdk_2448 dLb_59.1
theorem dL_law_2493 : decode cL_law 2493 = .ok (.iaload, 1) := fdg (k := 2448) (p := 45) hdk_2448 dLb_59.2.1
theorem dL_law_2494 : decode cL_law 2494 = .ok (.aload_n 0, 1) := fdg (k := 2448) (p := 46) hdk_2448 dLb_59.2.2.1
theorem dL_law_2495 : decode cL_law 2495 = .ok (.iload 4, 2) := fdg (k := 2448) (p := 47) hdk_2448 dLb_59.2.2.2
theorem dLb_60 : fdq dk_2496 1 (.iconst 3) 1 = true ∧ fdq dk_2496 2 (.iadd) 1 = true ∧ fdq dk_2496 3 (.iaload) 1 = true ∧ fdq dk_2496 4 (.invokevirtual 275) 3 = true ∧ fdq dk_2496 7 (.istore 6) 2 = true ∧ fdq dk_2496 9 (.aload_n 2) 1 = true ∧ fdq dk_2496 10 (.invokevirtual 170) 3 = true ∧ fdq dk_2496 13 (.iload 5) 2 = true ∧ fdq dk_2496 15 (.if_icmp .eq 5) 3 = true ∧ fdq dk_2496 18 (.iconst 0) 1 = true ∧ fdq dk_2496 19 (.ireturn) 1 = true ∧ fdq dk_2496 20 (.iload 5) 2 = true ∧ fdq dk_2496 22 (.ifCond .ne 16) 3 = true ∧ fdq dk_2496 25 (.aload_n 3) 1 = true ∧ fdq dk_2496 26 (.getfield 13) 3 = true ∧ fdq dk_2496 29 (.iload 6) 2 = true ∧ fdq dk_2496 31 (.i2l) 1 = true ∧ fdq dk_2496 32 (.lcmp) 1 = true ∧ fdq dk_2496 33 (.ifCond .eq 5) 3 = true ∧ fdq dk_2496 36 (.iconst 0) 1 = true ∧ fdq dk_2496 37 (.ireturn) 1 = true ∧ fdq dk_2496 38 (.goto 778) 3 = true ∧ fdq dk_2496 41 (.aload_n 1) 1 = true ∧ fdq dk_2496 42 (.aload_n 0) 1 = true ∧ fdq dk_2496 43 (.iload 4) 2 = true ∧ fdq dk_2496 45 (.iconst 1) 1 = true ∧ fdq dk_2496 46 (.iadd) 1 = true ∧ fdq dk_2496 47 (.iaload) 1 = true := by decide +kernel
theorem dL_law_2497 : decode cL_law 2497 = .ok (.iconst 3, 1) := fdg (k := 2496) (p := 1) hdk_2496 dLb_60.1
theorem dL_law_2498 : decode cL_law 2498 = .ok (.iadd, 1) := fdg (k := 2496) (p := 2) hdk_2496 dLb_60.2.1
theorem dL_law_2499 : decode cL_law 2499 = .ok (.iaload, 1) := fdg (k := 2496) (p := 3) hdk_2496 dLb_60.2.2.1
theorem dL_law_2500 : decode cL_law 2500 = .ok (.invokevirtual 275, 3) := fdg (k := 2496) (p := 4) hdk_2496 dLb_60.2.2.2.1
theorem dL_law_2503 : decode cL_law 2503 = .ok (.istore 6, 2) := fdg (k := 2496) (p := 7) hdk_2496 dLb_60.2.2.2.2.1
theorem dL_law_2505 : decode cL_law 2505 = .ok (.aload_n 2, 1) := fdg (k := 2496) (p := 9) hdk_2496 dLb_60.2.2.2.2.2.1
theorem dL_law_2506 : decode cL_law 2506 = .ok (.invokevirtual 170, 3) := fdg (k := 2496) (p := 10) hdk_2496 dLb_60.2.2.2.2.2.2.1
theorem dL_law_2509 : decode cL_law 2509 = .ok (.iload 5, 2) := fdg (k := 2496) (p := 13) hdk_2496 dLb_60.2.2.2.2.2.2.2.1
theorem dL_law_2511 : decode cL_law 2511 = .ok (.if_icmp .eq 5, 3) := fdg (k := 2496) (p := 15) hdk_2496 dLb_60.2.2.2.2.2.2.2.2.1
theorem dL_law_2514 : decode cL_law 2514 = .ok (.iconst 0, 1) := fdg (k := 2496) (p := 18) hdk_2496 dLb_60.2.2.2.2.2.2.2.2.2.1
theorem dL_law_2515 : decode cL_law 2515 = .ok (.ireturn, 1) := fdg (k := 2496) (p := 19) hdk_2496 dLb_60.2.2.2.2.2.2.2.2.2.2.1
theorem dL_law_2516 : decode cL_law 2516 = .ok (.iload 5, 2) := fdg (k := 2496) (p := 20) hdk_2496 dLb_60.2.2.2.2.2.2.2.2.2.2.2.1
theorem dL_law_2518 : decode cL_law 2518 = .ok (.ifCond .ne 16, 3) := fdg (k := 2496) (p := 22) hdk_2496 dLb_60.2.2.2.2.2.2.2.2.2.2.2.2.1
theorem dL_law_2521 : decode cL_law 2521 = .ok (.aload_n 3, 1) := fdg (k := 2496) (p := 25) hdk_2496 dLb_60.2.2.2.2.2.2.2.2.2.2.2.2.2.1
theorem dL_law_2522 : decode cL_law 2522 = .ok (.getfield 13, 3) := fdg (k := 2496) (p := 26) hdk_2496 dLb_60.2.2.2.2.2.2.2.2.2.2.2.2.2.2.1
theorem dL_law_2525 : decode cL_law 2525 = .ok (.iload 6, 2) := fdg (k := 2496) (p := 29) hdk_2496 dLb_60.2.2.2.2.2.2.2.2.2.2.2.2.2.2.2.1
theorem dL_law_2527 : decode cL_law 2527 = .ok (.i2l, 1) := fdg (k := 2496) (p := 31) hdk_2496 dLb_60.2.2.2.2.2.2.2.2.2.2.2.2.2.2.2.2.1
theorem dL_law_2528 : decode cL_law 2528 = .ok (.lcmp, 1) := fdg (k := 2496) (p := 32) hdk_2496 dLb_60.2.2.2.2.2.2.2.2.2.2.2.2.2.2.2.2.2.1
theorem dL_law_2529 : decode cL_law 2529 = .ok (.ifCond .eq 5, 3) := fdg (k := 2496) (p := 33) hdk_2496 dLb_60.2.2.2.2.2.2.2.2.2.2.2.2.2.2.2.2.2.2.1
theorem dL_law_2532 : decode cL_law 2532 = .ok (.iconst 0, 1) := fdg (k := 2496) (p := 36) hdk_2496 dLb_60.2.2.2.2.2.2.2.2.2.2.2.2.2.2.2.2.2.2.2.1
theorem dL_law_2533 : decode cL_law 2533 = .ok (.ireturn, 1) := fdg (k := 2496) (p := 37) hdk_2496 dLb_60.2.2.2.2.2.2.2.2.2.2.2.2.2.2.2.2.2.2.2.2.1
theorem dL_law_2534 : decode cL_law 2534 = .ok (.goto 778, 3) := fdg (k := 2496) (p := 38) hdk_2496 dLb_60.2.2.2.2.2.2.2.2.2.2.2.2.2.2.2.2.2.2.2.2.2.1
theorem dL_law_2537 : decode cL_law 2537 = .ok (.aload_n 1, 1) := fdg (k := 2496) (p := 41) hdk_2496 dLb_60.2.2.2.2.2.2.2.2.2.2.2.2.2.2.2.2.2.2.2.2.2.2.1
theorem dL_law_2538 : decode cL_law 2538 = .ok (.aload_n 0, 1) := fdg (k := 2496) (p := 42) hdk_2496 dLb_60.2.2.2.2.2.2.2.2.2.2.2.2.2.2.2.2.2.2.2.2.2.2.2.1
theorem dL_law_2539 : decode cL_law 2539 = .ok (.iload 4, 2) := fdg (k := 2496) (p := 43) hdk_2496 dLb_60.2.2.2.2.2.2.2.2.2.2.2.2.2.2.2.2.2.2.2.2.2.2.2.2.1
theorem dL_law_2541 : decode cL_law 2541 = .ok (.iconst 1, 1) := fdg (k := 2496) (p := 45) hdk_2496 dLb_60.2.2.2.2.2.2.2.2.2.2.2.2.2.2.2.2.2.2.2.2.2.2.2.2.2.1
theorem dL_law_2542 : decode cL_law 2542 = .ok (.iadd, 1) := fdg (k := 2496) (p := 46) hdk_2496 dLb_60.2.2.2.2.2.2.2.2.2.2.2.2.2.2.2.2.2.2.2.2.2.2.2.2.2.2.1
theorem dL_law_2543 : decode cL_law 2543 = .ok (.iaload, 1) := fdg (k := 2496) (p := 47) hdk_2496 dLb_60.2.2.2.2.2.2.2.2.2.2.2.2.2.2.2.2.2.2.2.2.2.2.2.2.2.2.2
theorem dLb_61 : fdq dk_2544 0 (.aload_n 0) 1 = true ∧ fdq dk_2544 1 (.iload 4) 2 = true ∧ fdq dk_2544 3 (.iconst 2) 1 = true ∧ fdq dk_2544 4 (.iadd) 1 = true ∧ fdq dk_2544 5 (.iaload) 1 = true ∧ fdq dk_2544 6 (.aload_n 3) 1 = true ∧ fdq dk_2544 7 (.invokestatic 276) 3 = true ∧ fdq dk_2544 10 (.istore 5) 2 = true ∧ fdq dk_2544 12 (.aload_n 2) 1 = true ∧ fdq dk_2544 13 (.aload_n 0) 1 = true ∧ fdq dk_2544 14 (.iload 4) 2 = true ∧ fdq dk_2544 16 (.iconst 1) 1 = true ∧ fdq dk_2544 17 (.iadd) 1 = true ∧ fdq dk_2544 18 (.iaload) 1 = true ∧ fdq dk_2544 19 (.aload_n 0) 1 = true ∧ fdq dk_2544 20 (.iload 4) 2 = true ∧ fdq dk_2544 22 (.iconst 2) 1 = true ∧ fdq dk_2544 23 (.iadd) 1 = true ∧ fdq dk_2544 24 (.iaload) 1 = true ∧ fdq dk_2544 25 (.invokevirtual 278) 3 = true ∧ fdq dk_2544 28 (.istore 6) 2 = true ∧ fdq dk_2544 30 (.aload_n 2) 1 = true ∧ fdq dk_2544 31 (.invokevirtual 170) 3 = true ∧ fdq dk_2544 34 (.iload 5) 2 = true ∧ fdq dk_2544 36 (.if_icmp .eq 5) 3 = true ∧ fdq dk_2544 39 (.iconst 0) 1 = true ∧ fdq dk_2544 40 (.ireturn) 1 = true ∧ fdq dk_2544 41 (.iload 5) 2 = true ∧ fdq dk_2544 43 (.ifCond .ne 16) 3 = true ∧ fdq dk_2544 46 (.aload_n 3) 1 = true ∧ fdq dk_2544 47 (.getfield 13) 3 = true := by decide +kernel
theorem dL_law_2544 : decode cL_law 2544 = .ok (.aload_n 0, 1) := fdg (k := 2544) (p := 0) hdk_2544 dLb_61.1
theorem dL_law_2545 : decode cL_law 2545 = .ok (.iload 4, 2) := fdg (k := 2544) (p := 1) hdk_2544 dLb_61.2.1
theorem dL_law_2547 : decode cL_law 2547 = .ok (.iconst 2, 1) := fdg (k := 2544) (p := 3) hdk_2544 dLb_61.2.2.1
theorem dL_law_2548 : decode cL_law 2548 = .ok (.iadd, 1) := fdg (k := 2544) (p := 4) hdk_2544 dLb_61.2.2.2.1
theorem dL_law_2549 : decode cL_law 2549 = .ok (.iaload, 1) := fdg (k := 2544) (p := 5) hdk_2544 dLb_61.2.2.2.2.1
theorem dL_law_2550 : decode cL_law 2550 = .ok (.aload_n 3, 1) := fdg (k := 2544) (p := 6) hdk_2544 dLb_61.2.2.2.2.2.1
theorem dL_law_2551 : decode cL_law 2551 = .ok (.invokestatic 276, 3) := fdg (k := 2544) (p := 7) hdk_2544 dLb_61.2.2.2.2.2.2.1
theorem dL_law_2554 : decode cL_law 2554 = .ok (.istore 5, 2) := fdg (k := 2544) (p := 10) hdk_2544 dLb_61.2.2.2.2.2.2.2.1
theorem dL_law_2556 : decode cL_law 2556 = .ok (.aload_n 2, 1) := fdg (k := 2544) (p := 12) hdk_2544 dLb_61.2.2.2.2.2.2.2.2.1
theorem dL_law_2557 : decode cL_law 2557 = .ok (.aload_n 0, 1) := fdg (k := 2544) (p := 13) hdk_2544 dLb_61.2.2.2.2.2.2.2.2.2.1
theorem dL_law_2558 : decode cL_law 2558 = .ok (.iload 4, 2) := fdg (k := 2544) (p := 14) hdk_2544 dLb_61.2.2.2.2.2.2.2.2.2.2.1
theorem dL_law_2560 : decode cL_law 2560 = .ok (.iconst 1, 1) := fdg (k := 2544) (p := 16) hdk_2544 dLb_61.2.2.2.2.2.2.2.2.2.2.2.1
theorem dL_law_2561 : decode cL_law 2561 = .ok (.iadd, 1) := fdg (k := 2544) (p := 17) hdk_2544 dLb_61.2.2.2.2.2.2.2.2.2.2.2.2.1
theorem dL_law_2562 : decode cL_law 2562 = .ok (.iaload, 1) := fdg (k := 2544) (p := 18) hdk_2544 dLb_61.2.2.2.2.2.2.2.2.2.2.2.2.2.1
theorem dL_law_2563 : decode cL_law 2563 = .ok (.aload_n 0, 1) := fdg (k := 2544) (p := 19) hdk_2544 dLb_61.2.2.2.2.2.2.2.2.2.2.2.2.2.2.1
theorem dL_law_2564 : decode cL_law 2564 = .ok (.iload 4, 2) := fdg (k := 2544) (p := 20) hdk_2544 dLb_61.2.2.2.2.2.2.2.2.2.2.2.2.2.2.2.1
theorem dL_law_2566 : decode cL_law 2566 = .ok (.iconst 2, 1) := fdg (k := 2544) (p := 22) hdk_2544 dLb_61.2.2.2.2.2.2.2.2.2.2.2.2.2.2.2.2.1
theorem dL_law_2567 : decode cL_law 2567 = .ok (.iadd, 1) := fdg (k := 2544) (p := 23) hdk_2544 dLb_61.2.2.2.2.2.2.2.2.2.2.2.2.2.2.2.2.2.1
theorem dL_law_2568 : decode cL_law 2568 = .ok (.iaload, 1) := fdg (k := 2544) (p := 24) hdk_2544 dLb_61.2.2.2.2.2.2.2.2.2.2.2.2.2.2.2.2.2.2.1
theorem dL_law_2569 : decode cL_law 2569 = .ok (.invokevirtual 278, 3) := fdg (k := 2544) (p := 25) hdk_2544 dLb_61.2.2.2.2.2.2.2.2.2.2.2.2.2.2.2.2.2.2.2.1
theorem dL_law_2572 : decode cL_law 2572 = .ok (.istore 6, 2) := fdg (k := 2544) (p := 28) hdk_2544 dLb_61.2.2.2.2.2.2.2.2.2.2.2.2.2.2.2.2.2.2.2.2.1
theorem dL_law_2574 : decode cL_law 2574 = .ok (.aload_n 2, 1) := fdg (k := 2544) (p := 30) hdk_2544 dLb_61.2.2.2.2.2.2.2.2.2.2.2.2.2.2.2.2.2.2.2.2.2.1
theorem dL_law_2575 : decode cL_law 2575 = .ok (.invokevirtual 170, 3) := fdg (k := 2544) (p := 31) hdk_2544 dLb_61.2.2.2.2.2.2.2.2.2.2.2.2.2.2.2.2.2.2.2.2.2.2.1
theorem dL_law_2578 : decode cL_law 2578 = .ok (.iload 5, 2) := fdg (k := 2544) (p := 34) hdk_2544 dLb_61.2.2.2.2.2.2.2.2.2.2.2.2.2.2.2.2.2.2.2.2.2.2.2.1
theorem dL_law_2580 : decode cL_law 2580 = .ok (.if_icmp .eq 5, 3) := fdg (k := 2544) (p := 36) hdk_2544 dLb_61.2.2.2.2.2.2.2.2.2.2.2.2.2.2.2.2.2.2.2.2.2.2.2.2.1
theorem dL_law_2583 : decode cL_law 2583 = .ok (.iconst 0, 1) := fdg (k := 2544) (p := 39) hdk_2544 dLb_61.2.2.2.2.2.2.2.2.2.2.2.2.2.2.2.2.2.2.2.2.2.2.2.2.2.1
theorem dL_law_2584 : decode cL_law 2584 = .ok (.ireturn, 1) := fdg (k := 2544) (p := 40) hdk_2544 dLb_61.2.2.2.2.2.2.2.2.2.2.2.2.2.2.2.2.2.2.2.2.2.2.2.2.2.2.1
theorem dL_law_2585 : decode cL_law 2585 = .ok (.iload 5, 2) := fdg (k := 2544) (p := 41) hdk_2544 dLb_61.2.2.2.2.2.2.2.2.2.2.2.2.2.2.2.2.2.2.2.2.2.2.2.2.2.2.2.1
theorem dL_law_2587 : decode cL_law 2587 = .ok (.ifCond .ne 16, 3) := fdg (k := 2544) (p := 43) hdk_2544 dLb_61.2.2.2.2.2.2.2.2.2.2.2.2.2.2.2.2.2.2.2.2.2.2.2.2.2.2.2.2.1
theorem dL_law_2590 : decode cL_law 2590 = .ok (.aload_n 3, 1) := fdg (k := 2544) (p := 46) hdk_2544 dLb_61.2.2.2.2.2.2.2.2.2.2.2.2.2.2.2.2.2.2.2.2.2.2.2.2.2.2.2.2.2.1
theorem dL_law_2591 : decode cL_law 2591 = .ok (.getfield 13, 3) := fdg (k := 2544) (p := 47) hdk_2544 dLb_61.2.2.2.2.2.2.2.2.2.2.2.2.2.2.2.2.2.2.2.2.2.2.2.2.2.2.2.2.2.2
theorem dLb_62 : fdq dk_2592 2 (.iload 6) 2 = true ∧ fdq dk_2592 4 (.i2l) 1 = true ∧ fdq dk_2592 5 (.lcmp) 1 = true ∧ fdq dk_2592 6 (.ifCond .eq 5) 3 = true ∧ fdq dk_2592 9 (.iconst 0) 1 = true ∧ fdq dk_2592 10 (.ireturn) 1 = true ∧ fdq dk_2592 11 (.goto 709) 3 = true ∧ fdq dk_2592 14 (.aload_n 1) 1 = true ∧ fdq dk_2592 15 (.aload_n 0) 1 = true ∧ fdq dk_2592 16 (.iload 4) 2 = true ∧ fdq dk_2592 18 (.iconst 1) 1 = true ∧ fdq dk_2592 19 (.iadd) 1 = true ∧ fdq dk_2592 20 (.iaload) 1 = true ∧ fdq dk_2592 21 (.aload_n 0) 1 = true ∧ fdq dk_2592 22 (.iload 4) 2 = true ∧ fdq dk_2592 24 (.iconst 2) 1 = true ∧ fdq dk_2592 25 (.iadd) 1 = true ∧ fdq dk_2592 26 (.iaload) 1 = true ∧ fdq dk_2592 27 (.aload_n 3) 1 = true ∧ fdq dk_2592 28 (.invokestatic 279) 3 = true ∧ fdq dk_2592 31 (.istore 5) 2 = true ∧ fdq dk_2592 33 (.aload_n 2) 1 = true ∧ fdq dk_2592 34 (.aload_n 0) 1 = true ∧ fdq dk_2592 35 (.iload 4) 2 = true ∧ fdq dk_2592 37 (.iconst 1) 1 = true ∧ fdq dk_2592 38 (.iadd) 1 = true ∧ fdq dk_2592 39 (.iaload) 1 = true ∧ fdq dk_2592 40 (.aload_n 0) 1 = true ∧ fdq dk_2592 41 (.iload 4) 2 = true ∧ fdq dk_2592 43 (.iconst 2) 1 = true ∧ fdq dk_2592 44 (.iadd) 1 = true ∧ fdq dk_2592 45 (.iaload) 1 = true := by decide +kernel
theorem dL_law_2594 : decode cL_law 2594 = .ok (.iload 6, 2) := fdg (k := 2592) (p := 2) hdk_2592 dLb_62.1
theorem dL_law_2596 : decode cL_law 2596 = .ok (.i2l, 1) := fdg (k := 2592) (p := 4) hdk_2592 dLb_62.2.1
theorem dL_law_2597 : decode cL_law 2597 = .ok (.lcmp, 1) := fdg (k := 2592) (p := 5) hdk_2592 dLb_62.2.2.1
theorem dL_law_2598 : decode cL_law 2598 = .ok (.ifCond .eq 5, 3) := fdg (k := 2592) (p := 6) hdk_2592 dLb_62.2.2.2.1
theorem dL_law_2601 : decode cL_law 2601 = .ok (.iconst 0, 1) := fdg (k := 2592) (p := 9) hdk_2592 dLb_62.2.2.2.2.1
theorem dL_law_2602 : decode cL_law 2602 = .ok (.ireturn, 1) := fdg (k := 2592) (p := 10) hdk_2592 dLb_62.2.2.2.2.2.1
theorem dL_law_2603 : decode cL_law 2603 = .ok (.goto 709, 3) := fdg (k := 2592) (p := 11) hdk_2592 dLb_62.2.2.2.2.2.2.1
theorem dL_law_2606 : decode cL_law 2606 = .ok (.aload_n 1, 1) := fdg (k := 2592) (p := 14) hdk_2592 dLb_62.2.2.2.2.2.2.2.1
theorem dL_law_2607 : decode cL_law 2607 = .ok (.aload_n 0, 1) := fdg (k := 2592) (p := 15) hdk_2592 dLb_62.2.2.2.2.2.2.2.2.1
theorem dL_law_2608 : decode cL_law 2608 = .ok (.iload 4, 2) := fdg (k := 2592) (p := 16) hdk_2592 dLb_62.2.2.2.2.2.2.2.2.2.1
theorem dL_law_2610 : decode cL_law 2610 = .ok (.iconst 1, 1) := fdg (k := 2592) (p := 18) hdk_2592 dLb_62.2.2.2.2.2.2.2.2.2.2.1
theorem dL_law_2611 : decode cL_law 2611 = .ok (.iadd, 1) := fdg (k := 2592) (p := 19) hdk_2592 dLb_62.2.2.2.2.2.2.2.2.2.2.2.1
theorem dL_law_2612 : decode cL_law 2612 = .ok (.iaload, 1) := fdg (k := 2592) (p := 20) hdk_2592 dLb_62.2.2.2.2.2.2.2.2.2.2.2.2.1
theorem dL_law_2613 : decode cL_law 2613 = .ok (.aload_n 0, 1) := fdg (k := 2592) (p := 21) hdk_2592 dLb_62.2.2.2.2.2.2.2.2.2.2.2.2.2.1
theorem dL_law_2614 : decode cL_law 2614 = .ok (.iload 4, 2) := fdg (k := 2592) (p := 22) hdk_2592 dLb_62.2.2.2.2.2.2.2.2.2.2.2.2.2.2.1
theorem dL_law_2616 : decode cL_law 2616 = .ok (.iconst 2, 1) := fdg (k := 2592) (p := 24) hdk_2592 dLb_62.2.2.2.2.2.2.2.2.2.2.2.2.2.2.2.1
theorem dL_law_2617 : decode cL_law 2617 = .ok (.iadd, 1) := fdg (k := 2592) (p := 25) hdk_2592 dLb_62.2.2.2.2.2.2.2.2.2.2.2.2.2.2.2.2.1
theorem dL_law_2618 : decode cL_law 2618 = .ok (.iaload, 1) := fdg (k := 2592) (p := 26) hdk_2592 dLb_62.2.2.2.2.2.2.2.2.2.2.2.2.2.2.2.2.2.1
theorem dL_law_2619 : decode cL_law 2619 = .ok (.aload_n 3, 1) := fdg (k := 2592) (p := 27) hdk_2592 dLb_62.2.2.2.2.2.2.2.2.2.2.2.2.2.2.2.2.2.2.1
theorem dL_law_2620 : decode cL_law 2620 = .ok (.invokestatic 279, 3) := fdg (k := 2592) (p := 28) hdk_2592 dLb_62.2.2.2.2.2.2.2.2.2.2.2.2.2.2.2.2.2.2.2.1
theorem dL_law_2623 : decode cL_law 2623 = .ok (.istore 5, 2) := fdg (k := 2592) (p := 31) hdk_2592 dLb_62.2.2.2.2.2.2.2.2.2.2.2.2.2.2.2.2.2.2.2.2.1
theorem dL_law_2625 : decode cL_law 2625 = .ok (.aload_n 2, 1) := fdg (k := 2592) (p := 33) hdk_2592 dLb_62.2.2.2.2.2.2.2.2.2.2.2.2.2.2.2.2.2.2.2.2.2.1
theorem dL_law_2626 : decode cL_law 2626 = .ok (.aload_n 0, 1) := fdg (k := 2592) (p := 34) hdk_2592 dLb_62.2.2.2.2.2.2.2.2.2.2.2.2.2.2.2.2.2.2.2.2.2.2.1
theorem dL_law_2627 : decode cL_law 2627 = .ok (.iload 4, 2) := fdg (k := 2592) (p := 35) hdk_2592 dLb_62.2.2.2.2.2.2.2.2.2.2.2.2.2.2.2.2.2.2.2.2.2.2.2.1
theorem dL_law_2629 : decode cL_law 2629 = .ok (.iconst 1, 1) := fdg (k := 2592) (p := 37) hdk_2592 dLb_62.2.2.2.2.2.2.2.2.2.2.2.2.2.2.2.2.2.2.2.2.2.2.2.2.1
theorem dL_law_2630 : decode cL_law 2630 = .ok (.iadd, 1) := fdg (k := 2592) (p := 38) hdk_2592 dLb_62.2.2.2.2.2.2.2.2.2.2.2.2.2.2.2.2.2.2.2.2.2.2.2.2.2.1
theorem dL_law_2631 : decode cL_law 2631 = .ok (.iaload, 1) := fdg (k := 2592) (p := 39) hdk_2592 dLb_62.2.2.2.2.2.2.2.2.2.2.2.2.2.2.2.2.2.2.2.2.2.2.2.2.2.2.1
theorem dL_law_2632 : decode cL_law 2632 = .ok (.aload_n 0, 1) := fdg (k := 2592) (p := 40) hdk_2592 dLb_62.2.2.2.2.2.2.2.2.2.2.2.2.2.2.2.2.2.2.2.2.2.2.2.2.2.2.2.1
theorem dL_law_2633 : decode cL_law 2633 = .ok (.iload 4, 2) := fdg (k := 2592) (p := 41) hdk_2592 dLb_62.2.2.2.2.2.2.2.2.2.2.2.2.2.2.2.2.2.2.2.2.2.2.2.2.2.2.2.2.1
theorem dL_law_2635 : decode cL_law 2635 = .ok (.iconst 2, 1) := fdg (k := 2592) (p := 43) hdk_2592 dLb_62.2.2.2.2.2.2.2.2.2.2.2.2.2.2.2.2.2.2.2.2.2.2.2.2.2.2.2.2.2.1
theorem dL_law_2636 : decode cL_law 2636 = .ok (.iadd, 1) := fdg (k := 2592) (p := 44) hdk_2592 dLb_62.2.2.2.2.2.2.2.2.2.2.2.2.2.2.2.2.2.2.2.2.2.2.2.2.2.2.2.2.2.2.1
theorem dL_law_2637 : decode cL_law 2637 = .ok (.iaload, 1) := fdg (k := 2592) (p := 45) hdk_2592 dLb_62.2.2.2.2.2.2.2.2.2.2.2.2.2.2.2.2.2.2.2.2.2.2.2.2.2.2.2.2.2.2.2
theorem dLb_63 : fdq dk_2592 46 (.invokevirtual 281) 3 = true := by decide +kernel
theorem dL_law_2638 : decode cL_law 2638 = .ok (.invokevirtual 281, 3) := fdg (k := 2592) (p := 46) hdk_2592 dLb_63
theorem dLb_64 : fdq dk_2640 1 (.istore 6) 2 = true ∧ fdq dk_2640 3 (.aload_n 2) 1 = true ∧ fdq dk_2640 4 (.invokevirtual 170) 3 = true ∧ fdq dk_2640 7 (.iload 5) 2 = true ∧ fdq dk_2640 9 (.if_icmp .eq 5) 3 = true ∧ fdq dk_2640 12 (.iconst 0) 1 = true ∧ fdq dk_2640 13 (.ireturn) 1 = true ∧ fdq dk_2640 14 (.iload 5) 2 = true ∧ fdq dk_2640 16 (.ifCond .ne 16) 3 = true ∧ fdq dk_2640 19 (.aload_n 3) 1 = true ∧ fdq dk_2640 20 (.getfield 13) 3 = true ∧ fdq dk_2640 23 (.iload 6) 2 = true ∧ fdq dk_2640 25 (.i2l) 1 = true ∧ fdq dk_2640 26 (.lcmp) 1 = true ∧ fdq dk_2640 27 (.ifCond .eq 5) 3 = true ∧ fdq dk_2640 30 (.iconst 0) 1 = true ∧ fdq dk_2640 31 (.ireturn) 1 = true ∧ fdq dk_2640 32 (.goto 640) 3 = true ∧ fdq dk_2640 35 (.aload_n 1) 1 = true ∧ fdq dk_2640 36 (.aload_n 0) 1 = true ∧ fdq dk_2640 37 (.iload 4) 2 = true ∧ fdq dk_2640 39 (.iconst 1) 1 = true ∧ fdq dk_2640 40 (.iadd) 1 = true ∧ fdq dk_2640 41 (.iaload) 1 = true ∧ fdq dk_2640 42 (.aload_n 0) 1 = true ∧ fdq dk_2640 43 (.iload 4) 2 = true ∧ fdq dk_2640 45 (.iconst 2) 1 = true ∧ fdq dk_2640 46 (.iadd) 1 = true ∧ fdq dk_2640 47 (.iaload) 1 = true := by decide +kernel
theorem dL_law_2641 : decode cL_law 2641 = .ok (.istore 6, 2) := fdg (k := 2640) (p := 1) hdk_2640 dLb_64.1
theorem dL_law_2643 : decode cL_law 2643 = .ok (.aload_n 2, 1) := fdg (k := 2640) (p := 3) hdk_2640 dLb_64.2.1
theorem dL_law_2644 : decode cL_law 2644 = .ok (.invokevirtual 170, 3) := fdg (k := 2640) (p := 4) hdk_2640 dLb_64.2.2.1
theorem dL_law_2647 : decode cL_law 2647 = .ok (.iload 5, 2) := fdg (k := 2640) (p := 7) hdk_2640 dLb_64.2.2.2.1
theorem dL_law_2649 : decode cL_law 2649 = .ok (.if_icmp .eq 5, 3) := fdg (k := 2640) (p := 9) hdk_2640 dLb_64.2.2.2.2.1
theorem dL_law_2652 : decode cL_law 2652 = .ok (.iconst 0, 1) := fdg (k := 2640) (p := 12) hdk_2640 dLb_64.2.2.2.2.2.1
theorem dL_law_2653 : decode cL_law 2653 = .ok (.ireturn, 1) := fdg (k := 2640) (p := 13) hdk_2640 dLb_64.2.2.2.2.2.2.1
theorem dL_law_2654 : decode cL_law 2654 = .ok (.iload 5, 2) := fdg (k := 2640) (p := 14) hdk_2640 dLb_64.2.2.2.2.2.2.2.1
theorem dL_law_2656 : decode cL_law 2656 = .ok (.ifCond .ne 16, 3) := fdg (k := 2640) (p := 16) hdk_2640 dLb_64.2.2.2.2.2.2.2.2.1
theorem dL_law_2659 : decode cL_law 2659 = .ok (.aload_n 3, 1) := fdg (k := 2640) (p := 19) hdk_2640 dLb_64.2.2.2.2.2.2.2.2.2.1
theorem dL_law_2660 : decode cL_law 2660 = .ok (.getfield 13, 3) := fdg (k := 2640) (p := 20) hdk_2640 dLb_64.2.2.2.2.2.2.2.2.2.2.1
theorem dL_law_2663 : decode cL_law 2663 = .ok (.iload 6, 2) := fdg (k := 2640) (p := 23) hdk_2640 dLb_64.2.2.2.2.2.2.2.2.2.2.2.1
theorem dL_law_2665 : decode cL_law 2665 = .ok (.i2l, 1) := fdg (k := 2640) (p := 25) hdk_2640 dLb_64.2.2.2.2.2.2.2.2.2.2.2.2.1
theorem dL_law_2666 : decode cL_law 2666 = .ok (.lcmp, 1) := fdg (k := 2640) (p := 26) hdk_2640 dLb_64.2.2.2.2.2.2.2.2.2.2.2.2.2.1
theorem dL_law_2667 : decode cL_law 2667 = .ok (.ifCond .eq 5, 3) := fdg (k := 2640) (p := 27) hdk_2640 dLb_64.2.2.2.2.2.2.2.2.2.2.2.2.2.2.1
theorem dL_law_2670 : decode cL_law 2670 = .ok (.iconst 0, 1) := fdg (k := 2640) (p := 30) hdk_2640 dLb_64.2.2.2.2.2.2.2.2.2.2.2.2.2.2.2.1
theorem dL_law_2671 : decode cL_law 2671 = .ok (.ireturn, 1) := fdg (k := 2640) (p := 31) hdk_2640 dLb_64.2.2.2.2.2.2.2.2.2.2.2.2.2.2.2.2.1
theorem dL_law_2672 : decode cL_law 2672 = .ok (.goto 640, 3) := fdg (k := 2640) (p := 32) hdk_2640 dLb_64.2.2.2.2.2.2.2.2.2.2.2.2.2.2.2.2.2.1
theorem dL_law_2675 : decode cL_law 2675 = .ok (.aload_n 1, 1) := fdg (k := 2640) (p := 35) hdk_2640 dLb_64.2.2.2.2.2.2.2.2.2.2.2.2.2.2.2.2.2.2.1
theorem dL_law_2676 : decode cL_law 2676 = .ok (.aload_n 0, 1) := fdg (k := 2640) (p := 36) hdk_2640 dLb_64.2.2.2.2.2.2.2.2.2.2.2.2.2.2.2.2.2.2.2.1
theorem dL_law_2677 : decode cL_law 2677 = .ok (.iload 4, 2) := fdg (k := 2640) (p := 37) hdk_2640 dLb_64.2.2.2.2.2.2.2.2.2.2.2.2.2.2.2.2.2.2.2.2.1
theorem dL_law_2679 : decode cL_law 2679 = .ok (.iconst 1, 1) := fdg (k := 2640) (p := 39) hdk_2640 dLb_64.2.2.2.2.2.2.2.2.2.2.2.2.2.2.2.2.2.2.2.2.2.1
theorem dL_law_2680 : decode cL_law 2680 = .ok (.iadd, 1) := fdg (k := 2640) (p := 40) hdk_2640 dLb_64.2.2.2.2.2.2.2.2.2.2.2.2.2.2.2.2.2.2.2.2.2.2.1
theorem dL_law_2681 : decode cL_law 2681 = .ok (.iaload, 1) := fdg (k := 2640) (p := 41) hdk_2640 dLb_64.2.2.2.2.2.2.2.2.2.2.2.2.2.2.2.2.2.2.2.2.2.2.2.1
theorem dL_law_2682 : decode cL_law 2682 = .ok (.aload_n 0, 1) := fdg (k := 2640) (p := 42) hdk_2640 dLb_64.2.2.2.2.2.2.2.2.2.2.2.2.2.2.2.2.2.2.2.2.2.2.2.2.1
theorem dL_law_2683 : decode cL_law 2683 = .ok (.iload 4, 2) := fdg (k := 2640) (p := 43) hdk_2640 dLb_64.2.2.2.2.2.2.2.2.2.2.2.2.2.2.2.2.2.2.2.2.2.2.2.2.2.1
theorem dL_law_2685 : decode cL_law 2685 = .ok (.iconst 2, 1) := fdg (k := 2640) (p := 45) hdk_2640 dLb_64.2.2.2.2.2.2.2.2.2.2.2.2.2.2.2.2.2.2.2.2.2.2.2.2.2.2.1
theorem dL_law_2686 : decode cL_law 2686 = .ok (.iadd, 1) := fdg (k := 2640) (p := 46) hdk_2640 dLb_64.2.2.2.2.2.2.2.2.2.2.2.2.2.2.2.2.2.2.2.2.2.2.2.2.2.2.2.1
theorem dL_law_2687 : decode cL_law 2687 = .ok (.iaload, 1) := fdg (k := 2640) (p := 47) hdk_2640 dLb_64.2.2.2.2.2.2.2.2.2.2.2.2.2.2.2.2.2.2.2.2.2.2.2.2.2.2.2.2
theorem dLb_65 : fdq dk_2688 0 (.aload_n 3) 1 = true ∧ fdq dk_2688 1 (.invokestatic 282) 3 = true ∧ fdq dk_2688 4 (.istore 5) 2 = true ∧ fdq dk_2688 6 (.aload_n 2) 1 = true ∧ fdq dk_2688 7 (.aload_n 0) 1 = true ∧ fdq dk_2688 8 (.iload 4) 2 = true ∧ fdq dk_2688 10 (.iconst 1) 1 = true ∧ fdq dk_2688 11 (.iadd) 1 = true ∧ fdq dk_2688 12 (.iaload) 1 = true ∧ fdq dk_2688 13 (.aload_n 0) 1 = true ∧ fdq dk_2688 14 (.iload 4) 2 = true ∧ fdq dk_2688 16 (.iconst 2) 1 = true ∧ fdq dk_2688 17 (.iadd) 1 = true ∧ fdq dk_2688 18 (.iaload) 1 = true ∧ fdq dk_2688 19 (.invokevirtual 284) 3 = true ∧ fdq dk_2688 22 (.istore 6) 2 = true ∧ fdq dk_2688 24 (.aload_n 2) 1 = true ∧ fdq dk_2688 25 (.invokevirtual 170) 3 = true ∧ fdq dk_2688 28 (.iload 5) 2 = true ∧ fdq dk_2688 30 (.if_icmp .eq 5) 3 = true ∧ fdq dk_2688 33 (.iconst 0) 1 = true ∧ fdq dk_2688 34 (.ireturn) 1 = true ∧ fdq dk_2688 35 (.iload 5) 2 = true ∧ fdq dk_2688 37 (.ifCond .ne 16) 3 = true ∧ fdq dk_2688 40 (.aload_n 3) 1 = true ∧ fdq dk_2688 41 (.getfield 13) 3 = true ∧ fdq dk_2688 44 (.iload 6) 2 = true ∧ fdq dk_2688 46 (.i2l) 1 = true ∧ fdq dk_2688 47 (.lcmp) 1 = true := by decide +kernel
theorem dL_law_2688 : decode cL_law 2688 = .ok (.aload_n 3, 1) := fdg (k := 2688) (p := 0) hdk_2688 dLb_65.1
theorem dL_law_2689 : decode cL_law 2689 = .ok (.invokestatic 282, 3) := fdg (k := 2688) (p := 1) hdk_2688 dLb_65.2.1
theorem dL_law_2692 : decode cL_law 2692 = .ok (.istore 5, 2) := fdg (k := 2688) (p := 4) hdk_2688 dLb_65.2.2.1
theorem dL_law_2694 : decode cL_law 2694 = .ok (.aload_n 2, 1) := fdg (k := 2688) (p := 6) hdk_2688 dLb_65.2.2.2.1
theorem dL_law_2695 : decode cL_law 2695 = .ok (.aload_n 0, 1) := fdg (k := 2688) (p := 7) hdk_2688 dLb_65.2.2.2.2.1
theorem dL_law_2696 : decode cL_law 2696 = .ok (.iload 4, 2) := fdg (k := 2688) (p := 8) hdk_2688 dLb_65.2.2.2.2.2.1
theorem dL_law_2698 : decode cL_law 2698 = .ok (.iconst 1, 1) := fdg (k := 2688) (p := 10) hdk_2688 dLb_65.2.2.2.2.2.2.1
theorem dL_law_2699 : decode cL_law 2699 = .ok (.iadd, 1) := fdg (k := 2688) (p := 11) hdk_2688 dLb_65.2.2.2.2.2.2.2.1
theorem dL_law_2700 : decode cL_law 2700 = .ok (.iaload, 1) := fdg (k := 2688) (p := 12) hdk_2688 dLb_65.2.2.2.2.2.2.2.2.1
theorem dL_law_2701 : decode cL_law 2701 = .ok (.aload_n 0, 1) := fdg (k := 2688) (p := 13) hdk_2688 dLb_65.2.2.2.2.2.2.2.2.2.1
theorem dL_law_2702 : decode cL_law 2702 = .ok (.iload 4, 2) := fdg (k := 2688) (p := 14) hdk_2688 dLb_65.2.2.2.2.2.2.2.2.2.2.1
theorem dL_law_2704 : decode cL_law 2704 = .ok (.iconst 2, 1) := fdg (k := 2688) (p := 16) hdk_2688 dLb_65.2.2.2.2.2.2.2.2.2.2.2.1
theorem dL_law_2705 : decode cL_law 2705 = .ok (.iadd, 1) := fdg (k := 2688) (p := 17) hdk_2688 dLb_65.2.2.2.2.2.2.2.2.2.2.2.2.1
theorem dL_law_2706 : decode cL_law 2706 = .ok (.iaload, 1) := fdg (k := 2688) (p := 18) hdk_2688 dLb_65.2.2.2.2.2.2.2.2.2.2.2.2.2.1
theorem dL_law_2707 : decode cL_law 2707 = .ok (.invokevirtual 284, 3) := fdg (k := 2688) (p := 19) hdk_2688 dLb_65.2.2.2.2.2.2.2.2.2.2.2.2.2.2.1
theorem dL_law_2710 : decode cL_law 2710 = .ok (.istore 6, 2) := fdg (k := 2688) (p := 22) hdk_2688 dLb_65.2.2.2.2.2.2.2.2.2.2.2.2.2.2.2.1
theorem dL_law_2712 : decode cL_law 2712 = .ok (.aload_n 2, 1) := fdg (k := 2688) (p := 24) hdk_2688 dLb_65.2.2.2.2.2.2.2.2.2.2.2.2.2.2.2.2.1
theorem dL_law_2713 : decode cL_law 2713 = .ok (.invokevirtual 170, 3) := fdg (k := 2688) (p := 25) hdk_2688 dLb_65.2.2.2.2.2.2.2.2.2.2.2.2.2.2.2.2.2.1
theorem dL_law_2716 : decode cL_law 2716 = .ok (.iload 5, 2) := fdg (k := 2688) (p := 28) hdk_2688 dLb_65.2.2.2.2.2.2.2.2.2.2.2.2.2.2.2.2.2.2.1
theorem dL_law_2718 : decode cL_law 2718 = .ok (.if_icmp .eq 5, 3) := fdg (k := 2688) (p := 30) hdk_2688 dLb_65.2.2.2.2.2.2.2.2.2.2.2.2.2.2.2.2.2.2.2.1
theorem dL_law_2721 : decode cL_law 2721 = .ok (.iconst 0, 1) := fdg (k := 2688) (p := 33) hdk_2688 dLb_65.2.2.2.2.2.2.2.2.2.2.2.2.2.2.2.2.2.2.2.2.1
theorem dL_law_2722 : decode cL_law 2722 = .ok (.ireturn, 1) := fdg (k := 2688) (p := 34) hdk_2688 dLb_65.2.2.2.2.2.2.2.2.2.2.2.2.2.2.2.2.2.2.2.2.2.1
theorem dL_law_2723 : decode cL_law 2723 = .ok (.iload 5, 2) := fdg (k := 2688) (p := 35) hdk_2688 dLb_65.2.2.2.2.2.2.2.2.2.2.2.2.2.2.2.2.2.2.2.2.2.2.1
theorem dL_law_2725 : decode cL_law 2725 = .ok (.ifCond .ne 16, 3) := fdg (k := 2688) (p := 37) hdk_2688 dLb_65.2.2.2.2.2.2.2.2.2.2.2.2.2.2.2.2.2.2.2.2.2.2.2.1
theorem dL_law_2728 : decode cL_law 2728 = .ok (.aload_n 3, 1) := fdg (k := 2688) (p := 40) hdk_2688 dLb_65.2.2.2.2.2.2.2.2.2.2.2.2.2.2.2.2.2.2.2.2.2.2.2.2.1
theorem dL_law_2729 : decode cL_law 2729 = .ok (.getfield 13, 3) := fdg (k := 2688) (p := 41) hdk_2688 dLb_65.2.2.2.2.2.2.2.2.2.2.2.2.2.2.2.2.2.2.2.2.2.2.2.2.2.1
theorem dL_law_2732 : decode cL_law 2732 = .ok (.iload 6, 2) := fdg (k := 2688) (p := 44) hdk_2688 dLb_65.2.2.2.2.2.2.2.2.2.2.2.2.2.2.2.2.2.2.2.2.2.2.2.2.2.2.1
theorem dL_law_2734 : decode cL_law 2734 = .ok (.i2l, 1) := fdg (k := 2688) (p := 46) hdk_2688 dLb_65.2.2.2.2.2.2.2.2.2.2.2.2.2.2.2.2.2.2.2.2.2.2.2.2.2.2.2.1
theorem dL_law_2735 : decode cL_law 2735 = .ok (.lcmp, 1) := fdg (k := 2688) (p := 47) hdk_2688 dLb_65.2.2.2.2.2.2.2.2.2.2.2.2.2.2.2.2.2.2.2.2.2.2.2.2.2.2.2.2
theorem dLb_66 : fdq dk_2736 0 (.ifCond .eq 5) 3 = true ∧ fdq dk_2736 3 (.iconst 0) 1 = true ∧ fdq dk_2736 4 (.ireturn) 1 = true ∧ fdq dk_2736 5 (.goto 571) 3 = true ∧ fdq dk_2736 8 (.aload_n 1) 1 = true ∧ fdq dk_2736 9 (.aload_n 0) 1 = true ∧ fdq dk_2736 10 (.iload 4) 2 = true ∧ fdq dk_2736 12 (.iconst 1) 1 = true ∧ fdq dk_2736 13 (.iadd) 1 = true ∧ fdq dk_2736 14 (.iaload) 1 = true ∧ fdq dk_2736 15 (.aload_n 0) 1 = true ∧ fdq dk_2736 16 (.iload 4) 2 = true ∧ fdq dk_2736 18 (.iconst 2) 1 = true ∧ fdq dk_2736 19 (.iadd) 1 = true ∧ fdq dk_2736 20 (.iaload) 1 = true ∧ fdq dk_2736 21 (.aload_n 3) 1 = true ∧ fdq dk_2736 22 (.invokestatic 285) 3 = true ∧ fdq dk_2736 25 (.istore 5) 2 = true ∧ fdq dk_2736 27 (.aload_n 2) 1 = true ∧ fdq dk_2736 28 (.aload_n 0) 1 = true ∧ fdq dk_2736 29 (.iload 4) 2 = true ∧ fdq dk_2736 31 (.iconst 1) 1 = true ∧ fdq dk_2736 32 (.iadd) 1 = true ∧ fdq dk_2736 33 (.iaload) 1 = true ∧ fdq dk_2736 34 (.aload_n 0) 1 = true ∧ fdq dk_2736 35 (.iload 4) 2 = true ∧ fdq dk_2736 37 (.iconst 2) 1 = true ∧ fdq dk_2736 38 (.iadd) 1 = true ∧ fdq dk_2736 39 (.iaload) 1 = true ∧ fdq dk_2736 40 (.invokevirtual 287) 3 = true ∧ fdq dk_2736 43 (.istore 6) 2 = true ∧ fdq dk_2736 45 (.aload_n 2) 1 = true := by decide +kernel
theorem dL_law_2736 : decode cL_law 2736 = .ok (.ifCond .eq 5, 3) := fdg (k := 2736) (p := 0) hdk_2736 dLb_66.1
theorem dL_law_2739 : decode cL_law 2739 = .ok (.iconst 0, 1) := fdg (k := 2736) (p := 3) hdk_2736 dLb_66.2.1
theorem dL_law_2740 : decode cL_law 2740 = .ok (.ireturn, 1) := fdg (k := 2736) (p := 4) hdk_2736 dLb_66.2.2.1
theorem dL_law_2741 : decode cL_law 2741 = .ok (.goto 571, 3) := fdg (k := 2736) (p := 5) hdk_2736 dLb_66.2.2.2.1
theorem dL_law_2744 : decode cL_law 2744 = .ok (.aload_n 1, 1) := fdg (k := 2736) (p := 8) hdk_2736 dLb_66.2.2.2.2.1
theorem dL_law_2745 : decode cL_law 2745 = .ok (.aload_n 0, 1) := fdg (k := 2736) (p := 9) hdk_2736 dLb_66.2.2.2.2.2.1
theorem dL_law_2746 : decode cL_law 2746 = .ok (.iload 4, 2) := fdg (k := 2736) (p := 10) hdk_2736 dLb_66.2.2.2.2.2.2.1
theorem dL_law_2748 : decode cL_law 2748 = .ok (.iconst 1, 1) := fdg (k := 2736) (p := 12) hdk_2736 dLb_66.2.2.2.2.2.2.2.1
theorem dL_law_2749 : decode cL_law 2749 = .ok (.iadd, 1) := fdg (k := 2736) (p := 13) hdk_2736 dLb_66.2.2.2.2.2.2.2.2.1
theorem dL_law_2750 : decode cL_law 2750 = .ok (.iaload, 1) := fdg (k := 2736) (p := 14) hdk_2736 dLb_66.2.2.2.2.2.2.2.2.2.1
theorem dL_law_2751 : decode cL_law 2751 = .ok (.aload_n 0, 1) := fdg (k := 2736) (p := 15) hdk_2736 dLb_66.2.2.2.2.2.2.2.2.2.2.1
theorem dL_law_2752 : decode cL_law 2752 = .ok (.iload 4, 2) := fdg (k := 2736) (p := 16) hdk_2736 dLb_66.2.2.2.2.2.2.2.2.2.2.2.1
theorem dL_law_2754 : decode cL_law 2754 = .ok (.iconst 2, 1) := fdg (k := 2736) (p := 18) hdk_2736 dLb_66.2.2.2.2.2.2.2.2.2.2.2.2.1
theorem dL_law_2755 : decode cL_law 2755 = .ok (.iadd, 1) := fdg (k := 2736) (p := 19) hdk_2736 dLb_66.2.2.2.2.2.2.2.2.2.2.2.2.2.1
theorem dL_law_2756 : decode cL_law 2756 = .ok (.iaload, 1) := fdg (k := 2736) (p := 20) hdk_2736 dLb_66.2.2.2.2.2.2.2.2.2.2.2.2.2.2.1
theorem dL_law_2757 : decode cL_law 2757 = .ok (.aload_n 3, 1) := fdg (k := 2736) (p := 21) hdk_2736 dLb_66.2.2.2.2.2.2.2.2.2.2.2.2.2.2.2.1
theorem dL_law_2758 : decode cL_law 2758 = .ok (.invokestatic 285, 3) := fdg (k := 2736) (p := 22) hdk_2736 dLb_66.2.2.2.2.2.2.2.2.2.2.2.2.2.2.2.2.1
theorem dL_law_2761 : decode cL_law 2761 = .ok (.istore 5, 2) := fdg (k := 2736) (p := 25) hdk_2736 dLb_66.2.2.2.2.2.2.2.2.2.2.2.2.2.2.2.2.2.1
theorem dL_law_2763 : decode cL_law 2763 = .ok (.aload_n 2, 1) := fdg (k := 2736) (p := 27) hdk_2736 dLb_66.2.2.2.2.2.2.2.2.2.2.2.2.2.2.2.2.2.2.1
theorem dL_law_2764 : decode cL_law 2764 = .ok (.aload_n 0, 1) := fdg (k := 2736) (p := 28) hdk_2736 dLb_66.2.2.2.2.2.2.2.2.2.2.2.2.2.2.2.2.2.2.2.1
theorem dL_law_2765 : decode cL_law 2765 = .ok (.iload 4, 2) := fdg (k := 2736) (p := 29) hdk_2736 dLb_66.2.2.2.2.2.2.2.2.2.2.2.2.2.2.2.2.2.2.2.2.1
theorem dL_law_2767 : decode cL_law 2767 = .ok (.iconst 1, 1) := fdg (k := 2736) (p := 31) hdk_2736 dLb_66.2.2.2.2.2.2.2.2.2.2.2.2.2.2.2.2.2.2.2.2.2.1
theorem dL_law_2768 : decode cL_law 2768 = .ok (.iadd, 1) := fdg (k := 2736) (p := 32) hdk_2736 dLb_66.2.2.2.2.2.2.2.2.2.2.2.2.2.2.2.2.2.2.2.2.2.2.1
theorem dL_law_2769 : decode cL_law 2769 = .ok (.iaload, 1) := fdg (k := 2736) (p := 33) hdk_2736 dLb_66.2.2.2.2.2.2.2.2.2.2.2.2.2.2.2.2.2.2.2.2.2.2.2.1
theorem dL_law_2770 : decode cL_law 2770 = .ok (.aload_n 0, 1) := fdg (k := 2736) (p := 34) hdk_2736 dLb_66.2.2.2.2.2.2.2.2.2.2.2.2.2.2.2.2.2.2.2.2.2.2.2.2.1
theorem dL_law_2771 : decode cL_law 2771 = .ok (.iload 4, 2) := fdg (k := 2736) (p := 35) hdk_2736 dLb_66.2.2.2.2.2.2.2.2.2.2.2.2.2.2.2.2.2.2.2.2.2.2.2.2.2.1
theorem dL_law_2773 : decode cL_law 2773 = .ok (.iconst 2, 1) := fdg (k := 2736) (p := 37) hdk_2736 dLb_66.2.2.2.2.2.2.2.2.2.2.2.2.2.2.2.2.2.2.2.2.2.2.2.2.2.2.1
theorem dL_law_2774 : decode cL_law 2774 = .ok (.iadd, 1) := fdg (k := 2736) (p := 38) hdk_2736 dLb_66.2.2.2.2.2.2.2.2.2.2.2.2.2.2.2.2.2.2.2.2.2.2.2.2.2.2.2.1
theorem dL_law_2775 : decode cL_law 2775 = .ok (.iaload, 1) := fdg (k := 2736) (p := 39) hdk_2736 dLb_66.2.2.2.2.2.2.2.2.2.2.2.2.2.2.2.2.2.2.2.2.2.2.2.2.2.2.2.2.1
theorem dL_law_2776 : decode cL_law 2776 = .ok (.invokevirtual 287, 3) := fdg (k := 2736) (p := 40) hdk_2736 dLb_66.2.2.2.2.2.2.2.2.2.2.2.2.2.2.2.2.2.2.2.2.2.2.2.2.2.2.2.2.2.1
theorem dL_law_2779 : decode cL_law 2779 = .ok (.istore 6, 2) := fdg (k := 2736) (p := 43) hdk_2736 dLb_66.2.2.2.2.2.2.2.2.2.2.2.2.2.2.2.2.2.2.2.2.2.2.2.2.2.2.2.2.2.2.1
theorem dL_law_2781 : decode cL_law 2781 = .ok (.aload_n 2, 1) := fdg (k := 2736) (p := 45) hdk_2736 dLb_66.2.2.2.2.2.2.2.2.2.2.2.2.2.2.2.2.2.2.2.2.2.2.2.2.2.2.2.2.2.2.2
theorem dLb_67 : fdq dk_2736 46 (.invokevirtual 170) 3 = true := by decide +kernel
theorem dL_law_2782 : decode cL_law 2782 = .ok (.invokevirtual 170, 3) := fdg (k := 2736) (p := 46) hdk_2736 dLb_67
theorem dLb_68 : fdq dk_2784 1 (.iload 5) 2 = true ∧ fdq dk_2784 3 (.if_icmp .eq 5) 3 = true ∧ fdq dk_2784 6 (.iconst 0) 1 = true ∧ fdq dk_2784 7 (.ireturn) 1 = true ∧ fdq dk_2784 8 (.iload 5) 2 = true ∧ fdq dk_2784 10 (.ifCond .ne 16) 3 = true ∧ fdq dk_2784 13 (.aload_n 3) 1 = true ∧ fdq dk_2784 14 (.getfield 13) 3 = true ∧ fdq dk_2784 17 (.iload 6) 2 = true ∧ fdq dk_2784 19 (.i2l) 1 = true ∧ fdq dk_2784 20 (.lcmp) 1 = true ∧ fdq dk_2784 21 (.ifCond .eq 5) 3 = true ∧ fdq dk_2784 24 (.iconst 0) 1 = true ∧ fdq dk_2784 25 (.ireturn) 1 = true ∧ fdq dk_2784 26 (.goto 502) 3 = true ∧ fdq dk_2784 29 (.aload_n 1) 1 = true ∧ fdq dk_2784 30 (.aload_n 0) 1 = true ∧ fdq dk_2784 31 (.iload 4) 2 = true ∧ fdq dk_2784 33 (.iconst 1) 1 = true ∧ fdq dk_2784 34 (.iadd) 1 = true ∧ fdq dk_2784 35 (.iaload) 1 = true ∧ fdq dk_2784 36 (.aload_n 0) 1 = true ∧ fdq dk_2784 37 (.iload 4) 2 = true ∧ fdq dk_2784 39 (.iconst 2) 1 = true ∧ fdq dk_2784 40 (.iadd) 1 = true ∧ fdq dk_2784 41 (.iaload) 1 = true ∧ fdq dk_2784 42 (.aload_n 3) 1 = true ∧ fdq dk_2784 43 (.invokestatic 288) 3 = true ∧ fdq dk_2784 46 (.istore 5) 2 = true := by decide +kernel
theorem dL_law_2785 : decode cL_law 2785 = .ok (.iload 5, 2) := fdg (k := 2784) (p := 1) hdk_2784 dLb_68.1
theorem dL_law_2787 : decode cL_law 2787 = .ok (.if_icmp .eq 5, 3) := fdg (k := 2784) (p := 3) hdk_2784 dLb_68.2.1
theorem dL_law_2790 : decode cL_law 2790 = .ok (.iconst 0, 1) := fdg (k := 2784) (p := 6) hdk_2784 dLb_68.2.2.1
theorem dL_law_2791 : decode cL_law 2791 = .ok (.ireturn, 1) := fdg (k := 2784) (p := 7) hdk_2784 dLb_68.2.2.2.1
theorem dL_law_2792 : decode cL_law 2792 = .ok (.iload 5, 2) := fdg (k := 2784) (p := 8) hdk_2784 dLb_68.2.2.2.2.1
theorem dL_law_2794 : decode cL_law 2794 = .ok (.ifCond .ne 16, 3) := fdg (k := 2784) (p := 10) hdk_2784 dLb_68.2.2.2.2.2.1
theorem dL_law_2797 : decode cL_law 2797 = .ok (.aload_n 3, 1) := fdg (k := 2784) (p := 13) hdk_2784 dLb_68.2.2.2.2.2.2.1
theorem dL_law_2798 : decode cL_law 2798 = .ok (.getfield 13, 3) := fdg (k := 2784) (p := 14) hdk_2784 dLb_68.2.2.2.2.2.2.2.1
theorem dL_law_2801 : decode cL_law 2801 = .ok (.iload 6, 2) := fdg (k := 2784) (p := 17) hdk_2784 dLb_68.2.2.2.2.2.2.2.2.1
theorem dL_law_2803 : decode cL_law 2803 = .ok (.i2l, 1) := fdg (k := 2784) (p := 19) hdk_2784 dLb_68.2.2.2.2.2.2.2.2.2.1
theorem dL_law_2804 : decode cL_law 2804 = .ok (.lcmp, 1) := fdg (k := 2784) (p := 20) hdk_2784 dLb_68.2.2.2.2.2.2.2.2.2.2.1
theorem dL_law_2805 : decode cL_law 2805 = .ok (.ifCond .eq 5, 3) := fdg (k := 2784) (p := 21) hdk_2784 dLb_68.2.2.2.2.2.2.2.2.2.2.2.1
theorem dL_law_2808 : decode cL_law 2808 = .ok (.iconst 0, 1) := fdg (k := 2784) (p := 24) hdk_2784 dLb_68.2.2.2.2.2.2.2.2.2.2.2.2.1
theorem dL_law_2809 : decode cL_law 2809 = .ok (.ireturn, 1) := fdg (k := 2784) (p := 25) hdk_2784 dLb_68.2.2.2.2.2.2.2.2.2.2.2.2.2.1
theorem dL_law_2810 : decode cL_law 2810 = .ok (.goto 502, 3) := fdg (k := 2784) (p := 26) hdk_2784 dLb_68.2.2.2.2.2.2.2.2.2.2.2.2.2.2.1
theorem dL_law_2813 : decode cL_law 2813 = .ok (.aload_n 1, 1) := fdg (k := 2784) (p := 29) hdk_2784 dLb_68.2.2.2.2.2.2.2.2.2.2.2.2.2.2.2.1
theorem dL_law_2814 : decode cL_law 2814 = .ok (.aload_n 0, 1) := fdg (k := 2784) (p := 30) hdk_2784 dLb_68.2.2.2.2.2.2.2.2.2.2.2.2.2.2.2.2.1
theorem dL_law_2815 : decode cL_law 2815 = .ok (.iload 4, 2) := fdg (k := 2784) (p := 31) hdk_2784 dLb_68.2.2.2.2.2.2.2.2.2.2.2.2.2.2.2.2.2.1
theorem dL_law_2817 : decode cL_law 2817 = .ok (.iconst 1, 1) := fdg (k := 2784) (p := 33) hdk_2784 dLb_68.2.2.2.2.2.2.2.2.2.2.2.2.2.2.2.2.2.2.1
theorem dL_law_2818 : decode cL_law 2818 = .ok (.iadd, 1) := fdg (k := 2784) (p := 34) hdk_2784 dLb_68.2.2.2.2.2.2.2.2.2.2.2.2.2.2.2.2.2.2.2.1
theorem dL_law_2819 : decode cL_law 2819 = .ok (.iaload, 1) := fdg (k := 2784) (p := 35) hdk_2784 dLb_68.2.2.2.2.2.2.2.2.2.2.2.2.2.2.2.2.2.2.2.2.1
theorem dL_law_2820 : decode cL_law 2820 = .ok (.aload_n 0, 1) := fdg (k := 2784) (p := 36) hdk_2784 dLb_68.2.2.2.2.2.2.2.2.2.2.2.2.2.2.2.2.2.2.2.2.2.1
theorem dL_law_2821 : decode cL_law 2821 = .ok (.iload 4, 2) := fdg (k := 2784) (p := 37) hdk_2784 dLb_68.2.2.2.2.2.2.2.2.2.2.2.2.2.2.2.2.2.2.2.2.2.2.1
theorem dL_law_2823 : decode cL_law 2823 = .ok (.iconst 2, 1) := fdg (k := 2784) (p := 39) hdk_2784 dLb_68.2.2.2.2.2.2.2.2.2.2.2.2.2.2.2.2.2.2.2.2.2.2.2.1
theorem dL_law_2824 : decode cL_law 2824 = .ok (.iadd, 1) := fdg (k := 2784) (p := 40) hdk_2784 dLb_68.2.2.2.2.2.2.2.2.2.2.2.2.2.2.2.2.2.2.2.2.2.2.2.2.1
theorem dL_law_2825 : decode cL_law 2825 = .ok (.iaload, 1) := fdg (k := 2784) (p := 41) hdk_2784 dLb_68.2.2.2.2.2.2.2.2.2.2.2.2.2.2.2.2.2.2.2.2.2.2.2.2.2.1
theorem dL_law_2826 : decode cL_law 2826 = .ok (.aload_n 3, 1) := fdg (k := 2784) (p := 42) hdk_2784 dLb_68.2.2.2.2.2.2.2.2.2.2.2.2.2.2.2.2.2.2.2.2.2.2.2.2.2.2.1
theorem dL_law_2827 : decode cL_law 2827 = .ok (.invokestatic 288, 3) := fdg (k := 2784) (p := 43) hdk_2784 dLb_68.2.2.2.2.2.2.2.2.2.2.2.2.2.2.2.2.2.2.2.2.2.2.2.2.2.2.2.1
theorem dL_law_2830 : decode cL_law 2830 = .ok (.istore 5, 2) := fdg (k := 2784) (p := 46) hdk_2784 dLb_68.2.2.2.2.2.2.2.2.2.2.2.2.2.2.2.2.2.2.2.2.2.2.2.2.2.2.2.2
theorem dLb_69 : fdq dk_2832 0 (.aload_n 2) 1 = true ∧ fdq dk_2832 1 (.aload_n 0) 1 = true ∧ fdq dk_2832 2 (.iload 4) 2 = true ∧ fdq dk_2832 4 (.iconst 1) 1 = true ∧ fdq dk_2832 5 (.iadd) 1 = true ∧ fdq dk_2832 6 (.iaload) 1 = true ∧ fdq dk_2832 7 (.aload_n 0) 1 = true ∧ fdq dk_2832 8 (.iload 4) 2 = true ∧ fdq dk_2832 10 (.iconst 2) 1 = true ∧ fdq dk_2832 11 (.iadd) 1 = true ∧ fdq dk_2832 12 (.iaload) 1 = true ∧ fdq dk_2832 13 (.invokevirtual 290) 3 = true ∧ fdq dk_2832 16 (.istore 6) 2 = true ∧ fdq dk_2832 18 (.aload_n 2) 1 = true ∧ fdq dk_2832 19 (.invokevirtual 170) 3 = true ∧ fdq dk_2832 22 (.iload 5) 2 = true ∧ fdq dk_2832 24 (.if_icmp .eq 5) 3 = true ∧ fdq dk_2832 27 (.iconst 0) 1 = true ∧ fdq dk_2832 28 (.ireturn) 1 = true ∧ fdq dk_2832 29 (.iload 5) 2 = true ∧ fdq dk_2832 31 (.ifCond .ne 16) 3 = true ∧ fdq dk_2832 34 (.aload_n 3) 1 = true ∧ fdq dk_2832 35 (.getfield 13) 3 = true ∧ fdq dk_2832 38 (.iload 6) 2 = true ∧ fdq dk_2832 40 (.i2l) 1 = true ∧ fdq dk_2832 41 (.lcmp) 1 = true ∧ fdq dk_2832 42 (.ifCond .eq 5) 3 = true ∧ fdq dk_2832 45 (.iconst 0) 1 = true ∧ fdq dk_2832 46 (.ireturn) 1 = true ∧ fdq dk_2832 47 (.goto 433) 3 = true := by decide +kernel
theorem dL_law_2832 : decode cL_law 2832 = .ok (.aload_n 2, 1) := fdg (k := 2832) (p := 0) hdk_2832 dLb_69.1
theorem dL_law_2833 : decode cL_law 2833 = .ok (.aload_n 0, 1) := fdg (k := 2832) (p := 1) hdk_2832 dLb_69.2.1
theorem dL_law_2834 : decode cL_law 2834 = .ok (.iload 4, 2) := fdg (k := 2832) (p := 2) hdk_2832 dLb_69.2.2.1
theorem dL_law_2836 : decode cL_law 2836 = .ok (.iconst 1, 1) := fdg (k := 2832) (p := 4) hdk_2832 dLb_69.2.2.2.1
theorem dL_law_2837 : decode cL_law 2837 = .ok (.iadd, 1) := fdg (k := 2832) (p := 5) hdk_2832 dLb_69.2.2.2.2.1
theorem dL_law_2838 : decode cL_law 2838 = .ok (.iaload, 1) := fdg (k := 2832) (p := 6) hdk_2832 dLb_69.2.2.2.2.2.1
theorem dL_law_2839 : decode cL_law 2839 = .ok (.aload_n 0, 1) := fdg (k := 2832) (p := 7) hdk_2832 dLb_69.2.2.2.2.2.2.1
theorem dL_law_2840 : decode cL_law 2840 = .ok (.iload 4, 2) := fdg (k := 2832) (p := 8) hdk_2832 dLb_69.2.2.2.2.2.2.2.1
theorem dL_law_2842 : decode cL_law 2842 = .ok (.iconst 2, 1) := fdg (k := 2832) (p := 10) hdk_2832 dLb_69.2.2.2.2.2.2.2.2.1
theorem dL_law_2843 : decode cL_law 2843 = .ok (.iadd, 1) := fdg (k := 2832) (p := 11) hdk_2832 dLb_69.2.2.2.2.2.2.2.2.2.1
theorem dL_law_2844 : decode cL_law 2844 = .ok (.iaload, 1) := fdg (k := 2832) (p := 12) hdk_2832 dLb_69.2.2.2.2.2.2.2.2.2.2.1
theorem dL_law_2845 : decode cL_law 2845 = .ok (.invokevirtual 290, 3) := fdg (k := 2832) (p := 13) hdk_2832 dLb_69.2.2.2.2.2.2.2.2.2.2.2.1
theorem dL_law_2848 : decode cL_law 2848 = .ok (.istore 6, 2) := fdg (k := 2832) (p := 16) hdk_2832 dLb_69.2.2.2.2.2.2.2.2.2.2.2.2.1
theorem dL_law_2850 : decode cL_law 2850 = .ok (.aload_n 2, 1) := fdg (k := 2832) (p := 18) hdk_2832 dLb_69.2.2.2.2.2.2.2.2.2.2.2.2.2.1
theorem dL_law_2851 : decode cL_law 2851 = .ok (.invokevirtual 170, 3) := fdg (k := 2832) (p := 19) hdk_2832 dLb_69.2.2.2.2.2.2.2.2.2.2.2.2.2.2.1
theorem dL_law_2854 : decode cL_law 2854 = .ok (.iload 5, 2) := fdg (k := 2832) (p := 22) hdk_2832 dLb_69.2.2.2.2.2.2.2.2.2.2.2.2.2.2.2.1
theorem dL_law_2856 : decode cL_law 2856 = .ok (.if_icmp .eq 5, 3) := fdg (k := 2832) (p := 24) hdk_2832 dLb_69.2.2.2.2.2.2.2.2.2.2.2.2.2.2.2.2.1
theorem dL_law_2859 : decode cL_law 2859 = .ok (.iconst 0, 1) := fdg (k := 2832) (p := 27) hdk_2832 dLb_69.2.2.2.2.2.2.2.2.2.2.2.2.2.2.2.2.2.1
theorem dL_law_2860 : decode cL_law 2860 = .ok (.ireturn, 1) := fdg (k := 2832) (p := 28) hdk_2832 dLb_69.2.2.2.2.2.2.2.2.2.2.2.2.2.2.2.2.2.2.1
theorem dL_law_2861 : decode cL_law 2861 = .ok (.iload 5, 2) := fdg (k := 2832) (p := 29) hdk_2832 dLb_69.2.2.2.2.2.2.2.2.2.2.2.2.2.2.2.2.2.2.2.1
theorem dL_law_2863 : decode cL_law 2863 = .ok (.ifCond .ne 16, 3) := fdg (k := 2832) (p := 31) hdk_2832 dLb_69.2.2.2.2.2.2.2.2.2.2.2.2.2.2.2.2.2.2.2.2.1
theorem dL_law_2866 : decode cL_law 2866 = .ok (.aload_n 3, 1) := fdg (k := 2832) (p := 34) hdk_2832 dLb_69.2.2.2.2.2.2.2.2.2.2.2.2.2.2.2.2.2.2.2.2.2.1
theorem dL_law_2867 : decode cL_law 2867 = .ok (.getfield 13, 3) := fdg (k := 2832) (p := 35) hdk_2832 dLb_69.2.2.2.2.2.2.2.2.2.2.2.2.2.2.2.2.2.2.2.2.2.2.1
theorem dL_law_2870 : decode cL_law 2870 = .ok (.iload 6, 2) := fdg (k := 2832) (p := 38) hdk_2832 dLb_69.2.2.2.2.2.2.2.2.2.2.2.2.2.2.2.2.2.2.2.2.2.2.2.1
theorem dL_law_2872 : decode cL_law 2872 = .ok (.i2l, 1) := fdg (k := 2832) (p := 40) hdk_2832 dLb_69.2.2.2.2.2.2.2.2.2.2.2.2.2.2.2.2.2.2.2.2.2.2.2.2.1
theorem dL_law_2873 : decode cL_law 2873 = .ok (.lcmp, 1) := fdg (k := 2832) (p := 41) hdk_2832 dLb_69.2.2.2.2.2.2.2.2.2.2.2.2.2.2.2.2.2.2.2.2.2.2.2.2.2.1
theorem dL_law_2874 : decode cL_law 2874 = .ok (.ifCond .eq 5, 3) := fdg (k := 2832) (p := 42) hdk_2832 dLb_69.2.2.2.2.2.2.2.2.2.2.2.2.2.2.2.2.2.2.2.2.2.2.2.2.2.2.1
theorem dL_law_2877 : decode cL_law 2877 = .ok (.iconst 0, 1) := fdg (k := 2832) (p := 45) hdk_2832 dLb_69.2.2.2.2.2.2.2.2.2.2.2.2.2.2.2.2.2.2.2.2.2.2.2.2.2.2.2.1
theorem dL_law_2878 : decode cL_law 2878 = .ok (.ireturn, 1) := fdg (k := 2832) (p := 46) hdk_2832 dLb_69.2.2.2.2.2.2.2.2.2.2.2.2.2.2.2.2.2.2.2.2.2.2.2.2.2.2.2.2.1
theorem dL_law_2879 : decode cL_law 2879 = .ok (.goto 433, 3) := fdg (k := 2832) (p := 47) hdk_2832 dLb_69.2.2.2.2.2.2.2.2.2.2.2.2.2.2.2.2.2.2.2.2.2.2.2.2.2.2.2.2.2
theorem dLb_70 : fdq dk_2880 2 (.aload_n 1) 1 = true ∧ fdq dk_2880 3 (.aload_n 0) 1 = true ∧ fdq dk_2880 4 (.iload 4) 2 = true ∧ fdq dk_2880 6 (.iconst 1) 1 = true ∧ fdq dk_2880 7 (.iadd) 1 = true ∧ fdq dk_2880 8 (.iaload) 1 = true ∧ fdq dk_2880 9 (.aload_n 0) 1 = true ∧ fdq dk_2880 10 (.iload 4) 2 = true ∧ fdq dk_2880 12 (.iconst 2) 1 = true ∧ fdq dk_2880 13 (.iadd) 1 = true ∧ fdq dk_2880 14 (.iaload) 1 = true ∧ fdq dk_2880 15 (.aload_n 0) 1 = true ∧ fdq dk_2880 16 (.iload 4) 2 = true ∧ fdq dk_2880 18 (.iconst 3) 1 = true ∧ fdq dk_2880 19 (.iadd) 1 = true ∧ fdq dk_2880 20 (.iaload) 1 = true ∧ fdq dk_2880 21 (.aload_n 3) 1 = true ∧ fdq dk_2880 22 (.invokestatic 291) 3 = true ∧ fdq dk_2880 25 (.istore 5) 2 = true ∧ fdq dk_2880 27 (.aload_n 2) 1 = true ∧ fdq dk_2880 28 (.aload_n 0) 1 = true ∧ fdq dk_2880 29 (.iload 4) 2 = true ∧ fdq dk_2880 31 (.iconst 1) 1 = true ∧ fdq dk_2880 32 (.iadd) 1 = true ∧ fdq dk_2880 33 (.iaload) 1 = true ∧ fdq dk_2880 34 (.aload_n 0) 1 = true ∧ fdq dk_2880 35 (.iload 4) 2 = true ∧ fdq dk_2880 37 (.iconst 2) 1 = true ∧ fdq dk_2880 38 (.iadd) 1 = true ∧ fdq dk_2880 39 (.iaload) 1 = true ∧ fdq dk_2880 40 (.aload_n 0) 1 = true ∧ fdq dk_2880 41 (.iload 4) 2 = true := by decide +kernel
theorem dL_law_2882 : decode cL_law 2882 = .ok (.aload_n 1, 1) := fdg (k := 2880) (p := 2) hdk_2880 dLb_70.1
theorem dL_law_2883 : decode cL_law 2883 = .ok (.aload_n 0, 1) := fdg (k := 2880) (p := 3) hdk_2880 dLb_70.2.1
theorem dL_law_2884 : decode cL_law 2884 = .ok (.iload 4, 2) := fdg (k := 2880) (p := 4) hdk_2880 dLb_70.2.2.1
theorem dL_law_2886 : decode cL_law 2886 = .ok (.iconst 1, 1) := fdg (k := 2880) (p := 6) hdk_2880 dLb_70.2.2.2.1
theorem dL_law_2887 : decode cL_law 2887 = .ok (.iadd, 1) := fdg (k := 2880) (p := 7) hdk_2880 dLb_70.2.2.2.2.1
theorem dL_law_2888 : decode cL_law 2888 = .ok (.iaload, 1) := fdg (k := 2880) (p := 8) hdk_2880 dLb_70.2.2.2.2.2.1
theorem dL_law_2889 : decode cL_law 2889 = .ok (.aload_n 0, 1) := fdg (k := 2880) (p := 9) hdk_2880 dLb_70.2.2.2.2.2.2.1
theorem dL_law_2890 : decode cL_law 2890 = .ok (.iload 4, 2) := fdg (k := 2880) (p := 10) hdk_2880 dLb_70.2.2.2.2.2.2.2.1
theorem dL_law_2892 : decode cL_law 2892 = .ok (.iconst 2, 1) := fdg (k := 2880) (p := 12) hdk_2880 dLb_70.2.2.2.2.2.2.2.2.1
theorem dL_law_2893 : decode cL_law 2893 = .ok (.iadd, 1) := fdg (k := 2880) (p := 13) hdk_2880 dLb_70.2.2.2.2.2.2.2.2.2.1
theorem dL_law_2894 : decode cL_law 2894 = .ok (.iaload, 1) := fdg (k := 2880) (p := 14) hdk_2880 dLb_70.2.2.2.2.2.2.2.2.2.2.1
theorem dL_law_2895 : decode cL_law 2895 = .ok (.aload_n 0, 1) := fdg (k := 2880) (p := 15) hdk_2880 dLb_70.2.2.2.2.2.2.2.2.2.2.2.1
theorem dL_law_2896 : decode cL_law 2896 = .ok (.iload 4, 2) := fdg (k := 2880) (p := 16) hdk_2880 dLb_70.2.2.2.2.2.2.2.2.2.2.2.2.1
theorem dL_law_2898 : decode cL_law 2898 = .ok (.iconst 3, 1) := fdg (k := 2880) (p := 18) hdk_2880 dLb_70.2.2.2.2.2.2.2.2.2.2.2.2.2.1
theorem dL_law_2899 : decode cL_law 2899 = .ok (.iadd, 1) := fdg (k := 2880) (p := 19) hdk_2880 dLb_70.2.2.2.2.2.2.2.2.2.2.2.2.2.2.1
theorem dL_law_2900 : decode cL_law 2900 = .ok (.iaload, 1) := fdg (k := 2880) (p := 20) hdk_2880 dLb_70.2.2.2.2.2.2.2.2.2.2.2.2.2.2.2.1
theorem dL_law_2901 : decode cL_law 2901 = .ok (.aload_n 3, 1) := fdg (k := 2880) (p := 21) hdk_2880 dLb_70.2.2.2.2.2.2.2.2.2.2.2.2.2.2.2.2.1
theorem dL_law_2902 : decode cL_law 2902 = .ok (.invokestatic 291, 3) := fdg (k := 2880) (p := 22) hdk_2880 dLb_70.2.2.2.2.2.2.2.2.2.2.2.2.2.2.2.2.2.1
theorem dL_law_2905 : decode cL_law 2905 = .ok (.istore 5, 2) := fdg (k := 2880) (p := 25) hdk_2880 dLb_70.2.2.2.2.2.2.2.2.2.2.2.2.2.2.2.2.2.2.1
theorem dL_law_2907 : decode cL_law 2907 = .ok (.aload_n 2, 1) := fdg (k := 2880) (p := 27) hdk_2880 dLb_70.2.2.2.2.2.2.2.2.2.2.2.2.2.2.2.2.2.2.2.1
theorem dL_law_2908 : decode cL_law 2908 = .ok (.aload_n 0, 1) := fdg (k := 2880) (p := 28) hdk_2880 dLb_70.2.2.2.2.2.2.2.2.2.2.2.2.2.2.2.2.2.2.2.2.1
theorem dL_law_2909 : decode cL_law 2909 = .ok (.iload 4, 2) := fdg (k := 2880) (p := 29) hdk_2880 dLb_70.2.2.2.2.2.2.2.2.2.2.2.2.2.2.2.2.2.2.2.2.2.1
theorem dL_law_2911 : decode cL_law 2911 = .ok (.iconst 1, 1) := fdg (k := 2880) (p := 31) hdk_2880 dLb_70.2.2.2.2.2.2.2.2.2.2.2.2.2.2.2.2.2.2.2.2.2.2.1
theorem dL_law_2912 : decode cL_law 2912 = .ok (.iadd, 1) := fdg (k := 2880) (p := 32) hdk_2880 dLb_70.2.2.2.2.2.2.2.2.2.2.2.2.2.2.2.2.2.2.2.2.2.2.2.1
theorem dL_law_2913 : decode cL_law 2913 = .ok (.iaload, 1) := fdg (k := 2880) (p := 33) hdk_2880 dLb_70.2.2.2.2.2.2.2.2.2.2.2.2.2.2.2.2.2.2.2.2.2.2.2.2.1
theorem dL_law_2914 : decode cL_law 2914 = .ok (.aload_n 0, 1) := fdg (k := 2880) (p := 34) hdk_2880 dLb_70.2.2.2.2.2.2.2.2.2.2.2.2.2.2.2.2.2.2.2.2.2.2.2.2.2.1
theorem dL_law_2915 : decode cL_law 2915 = .ok (.iload 4, 2) := fdg (k := 2880) (p := 35) hdk_2880 dLb_70.2.2.2.2.2.2.2.2.2.2.2.2.2.2.2.2.2.2.2.2.2.2.2.2.2.2.1
theorem dL_law_2917 : decode cL_law 2917 = .ok (.iconst 2, 1) := fdg (k := 2880) (p := 37) hdk_2880 dLb_70.2.2.2.2.2.2.2.2.2.2.2.2.2.2.2.2.2.2.2.2.2.2.2.2.2.2.2.1
theorem dL_law_2918 : decode cL_law 2918 = .ok (.iadd, 1) := fdg (k := 2880) (p := 38) hdk_2880 dLb_70.2.2.2.2.2.2.2.2.2.2.2.2.2.2.2.2.2.2.2.2.2.2.2.2.2.2.2.2.1
theorem dL_law_2919 : decode cL_law 2919 = .ok (.iaload, 1) := fdg (k := 2880) (p := 39) hdk_2880 dLb_70.2.2.2.2.2.2.2.2.2.2.2.2.2.2.2.2.2.2.2.2.2.2.2.2.2.2.2.2.2.1
theorem dL_law_2920 : decode cL_law 2920 = .ok (.aload_n 0, 1) := fdg (k := 2880) (p := 40) hdk_2880 dLb_70.2.2.2.2.2.2.2.2.2.2.2.2.2.2.2.2.2.2.2.2.2.2.2.2.2.2.2.2.2.2.1
theorem dL_law_2921 : decode cL_law 2921 = .ok (.iload 4, 2) := fdg (k := 2880) (p := 41) hdk_2880 dLb_70.2.2.2.2.2.2.2.2.2.2.2.2.2.2.2.2.2.2.2.2.2.2.2.2.2.2.2.2.2.2.2
theorem dLb_71 : fdq dk_2880 43 (.iconst 3) 1 = true ∧ fdq dk_2880 44 (.iadd) 1 = true ∧ fdq dk_2880 45 (.iaload) 1 = true ∧ fdq dk_2880 46 (.invokevirtual 293) 3 = true := by decide +kernel
theorem dL_law_2923 : decode cL_law 2923 = .ok (.iconst 3, 1) := fdg (k := 2880) (p := 43) hdk_2880 dLb_71.1
theorem dL_law_2924 : decode cL_law 2924 = .ok (.iadd, 1) := fdg (k := 2880) (p := 44) hdk_2880 dLb_71.2.1
theorem dL_law_2925 : decode cL_law 2925 = .ok (.iaload, 1) := fdg (k := 2880) (p := 45) hdk_2880 dLb_71.2.2.1
theorem dL_law_2926 : decode cL_law 2926 = .ok (.invokevirtual 293, 3) := fdg (k := 2880) (p := 46) hdk_2880 dLb_71.2.2.2
theorem dLb_72 : fdq dk_2928 1 (.istore 6) 2 = true ∧ fdq dk_2928 3 (.aload_n 2) 1 = true ∧ fdq dk_2928 4 (.invokevirtual 170) 3 = true ∧ fdq dk_2928 7 (.iload 5) 2 = true ∧ fdq dk_2928 9 (.if_icmp .eq 5) 3 = true ∧ fdq dk_2928 12 (.iconst 0) 1 = true ∧ fdq dk_2928 13 (.ireturn) 1 = true ∧ fdq dk_2928 14 (.iload 5) 2 = true ∧ fdq dk_2928 16 (.ifCond .ne 16) 3 = true ∧ fdq dk_2928 19 (.aload_n 3) 1 = true ∧ fdq dk_2928 20 (.getfield 13) 3 = true ∧ fdq dk_2928 23 (.iload 6) 2 = true ∧ fdq dk_2928 25 (.i2l) 1 = true ∧ fdq dk_2928 26 (.lcmp) 1 = true ∧ fdq dk_2928 27 (.ifCond .eq 5) 3 = true ∧ fdq dk_2928 30 (.iconst 0) 1 = true ∧ fdq dk_2928 31 (.ireturn) 1 = true ∧ fdq dk_2928 32 (.goto 352) 3 = true ∧ fdq dk_2928 35 (.aload_n 1) 1 = true ∧ fdq dk_2928 36 (.aload_n 0) 1 = true ∧ fdq dk_2928 37 (.iload 4) 2 = true ∧ fdq dk_2928 39 (.iconst 1) 1 = true ∧ fdq dk_2928 40 (.iadd) 1 = true ∧ fdq dk_2928 41 (.iaload) 1 = true ∧ fdq dk_2928 42 (.aload_n 3) 1 = true ∧ fdq dk_2928 43 (.invokestatic 294) 3 = true ∧ fdq dk_2928 46 (.istore 5) 2 = true := by decide +kernel
theorem dL_law_2929 : decode cL_law 2929 = .ok (.istore 6, 2) := fdg (k := 2928) (p := 1) hdk_2928 dLb_72.1
theorem dL_law_2931 : decode cL_law 2931 = .ok (.aload_n 2, 1) := fdg (k := 2928) (p := 3) hdk_2928 dLb_72.2.1
theorem dL_law_2932 : decode cL_law 2932 = .ok (.invokevirtual 170, 3) := fdg (k := 2928) (p := 4) hdk_2928 dLb_72.2.2.1
theorem dL_law_2935 : decode cL_law 2935 = .ok (.iload 5, 2) := fdg (k := 2928) (p := 7) hdk_2928 dLb_72.2.2.2.1
theorem dL_law_2937 : decode cL_law 2937 = .ok (.if_icmp .eq 5, 3) := fdg (k := 2928) (p := 9) hdk_2928 dLb_72.2.2.2.2.1
theorem dL_law_2940 : decode cL_law 2940 = .ok (.iconst 0, 1) := fdg (k := 2928) (p := 12) hdk_2928 dLb_72.2.2.2.2.2.1
theorem dL_law_2941 : decode cL_law 2941 = .ok (.ireturn, 1) := fdg (k := 2928) (p := 13) hdk_2928 dLb_72.2.2.2.2.2.2.1
theorem dL_law_2942 : decode cL_law 2942 = .ok (.iload 5, 2) := fdg (k := 2928) (p := 14) hdk_2928 dLb_72.2.2.2.2.2.2.2.1
theorem dL_law_2944 : decode cL_law 2944 = .ok (.ifCond .ne 16, 3) := fdg (k := 2928) (p := 16) hdk_2928 dLb_72.2.2.2.2.2.2.2.2.1
theorem dL_law_2947 : decode cL_law 2947 = .ok (.aload_n 3, 1) := fdg (k := 2928) (p := 19) hdk_2928 dLb_72.2.2.2.2.2.2.2.2.2.1
theorem dL_law_2948 : decode cL_law 2948 = .ok (.getfield 13, 3) := fdg (k := 2928) (p := 20) hdk_2928 dLb_72.2.2.2.2.2.2.2.2.2.2.1
theorem dL_law_2951 : decode cL_law 2951 = .ok (.iload 6, 2) := fdg (k := 2928) (p := 23) hdk_2928 dLb_72.2.2.2.2.2.2.2.2.2.2.2.1
theorem dL_law_2953 : decode cL_law 2953 = .ok (.i2l, 1) := fdg (k := 2928) (p := 25) hdk_2928 dLb_72.2.2.2.2.2.2.2.2.2.2.2.2.1
theorem dL_law_2954 : decode cL_law 2954 = .ok (.lcmp, 1) := fdg (k := 2928) (p := 26) hdk_2928 dLb_72.2.2.2.2.2.2.2.2.2.2.2.2.2.1
theorem dL_law_2955 : decode cL_law 2955 = .ok (.ifCond .eq 5, 3) := fdg (k := 2928) (p := 27) hdk_2928 dLb_72.2.2.2.2.2.2.2.2.2.2.2.2.2.2.1
theorem dL_law_2958 : decode cL_law 2958 = .ok (.iconst 0, 1) := fdg (k := 2928) (p := 30) hdk_2928 dLb_72.2.2.2.2.2.2.2.2.2.2.2.2.2.2.2.1
theorem dL_law_2959 : decode cL_law 2959 = .ok (.ireturn, 1) := fdg (k := 2928) (p := 31) hdk_2928 dLb_72.2.2.2.2.2.2.2.2.2.2.2.2.2.2.2.2.1
theorem dL_law_2960 : decode cL_law 2960 = .ok (.goto 352, 3) := fdg (k := 2928) (p := 32) hdk_2928 dLb_72.2.2.2.2.2.2.2.2.2.2.2.2.2.2.2.2.2.1
theorem dL_law_2963 : decode cL_law 2963 = .ok (.aload_n 1, 1) := fdg (k := 2928) (p := 35) hdk_2928 dLb_72.2.2.2.2.2.2.2.2.2.2.2.2.2.2.2.2.2.2.1
theorem dL_law_2964 : decode cL_law 2964 = .ok (.aload_n 0, 1) := fdg (k := 2928) (p := 36) hdk_2928 dLb_72.2.2.2.2.2.2.2.2.2.2.2.2.2.2.2.2.2.2.2.1
theorem dL_law_2965 : decode cL_law 2965 = .ok (.iload 4, 2) := fdg (k := 2928) (p := 37) hdk_2928 dLb_72.2.2.2.2.2.2.2.2.2.2.2.2.2.2.2.2.2.2.2.2.1
theorem dL_law_2967 : decode cL_law 2967 = .ok (.iconst 1, 1) := fdg (k := 2928) (p := 39) hdk_2928 dLb_72.2.2.2.2.2.2.2.2.2.2.2.2.2.2.2.2.2.2.2.2.2.1
theorem dL_law_2968 : decode cL_law 2968 = .ok (.iadd, 1) := fdg (k := 2928) (p := 40) hdk_2928 dLb_72.2.2.2.2.2.2.2.2.2.2.2.2.2.2.2.2.2.2.2.2.2.2.1
theorem dL_law_2969 : decode cL_law 2969 = .ok (.iaload, 1) := fdg (k := 2928) (p := 41) hdk_2928 dLb_72.2.2.2.2.2.2.2.2.2.2.2.2.2.2.2.2.2.2.2.2.2.2.2.1
theorem dL_law_2970 : decode cL_law 2970 = .ok (.aload_n 3, 1) := fdg (k := 2928) (p := 42) hdk_2928 dLb_72.2.2.2.2.2.2.2.2.2.2.2.2.2.2.2.2.2.2.2.2.2.2.2.2.1
theorem dL_law_2971 : decode cL_law 2971 = .ok (.invokestatic 294, 3) := fdg (k := 2928) (p := 43) hdk_2928 dLb_72.2.2.2.2.2.2.2.2.2.2.2.2.2.2.2.2.2.2.2.2.2.2.2.2.2.1
theorem dL_law_2974 : decode cL_law 2974 = .ok (.istore 5, 2) := fdg (k := 2928) (p := 46) hdk_2928 dLb_72.2.2.2.2.2.2.2.2.2.2.2.2.2.2.2.2.2.2.2.2.2.2.2.2.2.2
theorem dLb_73 : fdq dk_2976 0 (.aload_n 2) 1 = true ∧ fdq dk_2976 1 (.aload_n 0) 1 = true ∧ fdq dk_2976 2 (.iload 4) 2 = true ∧ fdq dk_2976 4 (.iconst 1) 1 = true ∧ fdq dk_2976 5 (.iadd) 1 = true ∧ fdq dk_2976 6 (.iaload) 1 = true ∧ fdq dk_2976 7 (.invokevirtual 296) 3 = true ∧ fdq dk_2976 10 (.istore 6) 2 = true ∧ fdq dk_2976 12 (.aload_n 2) 1 = true ∧ fdq dk_2976 13 (.invokevirtual 170) 3 = true ∧ fdq dk_2976 16 (.iload 5) 2 = true ∧ fdq dk_2976 18 (.if_icmp .eq 5) 3 = true ∧ fdq dk_2976 21 (.iconst 0) 1 = true ∧ fdq dk_2976 22 (.ireturn) 1 = true ∧ fdq dk_2976 23 (.iload 5) 2 = true ∧ fdq dk_2976 25 (.ifCond .ne 16) 3 = true ∧ fdq dk_2976 28 (.aload_n 3) 1 = true ∧ fdq dk_2976 29 (.getfield 13) 3 = true ∧ fdq dk_2976 32 (.iload 6) 2 = true ∧ fdq dk_2976 34 (.i2l) 1 = true ∧ fdq dk_2976 35 (.lcmp) 1 = true ∧ fdq dk_2976 36 (.ifCond .eq 5) 3 = true ∧ fdq dk_2976 39 (.iconst 0) 1 = true ∧ fdq dk_2976 40 (.ireturn) 1 = true ∧ fdq dk_2976 41 (.goto 295) 3 = true ∧ fdq dk_2976 44 (.aload_n 1) 1 = true ∧ fdq dk_2976 45 (.aload_n 0) 1 = true ∧ fdq dk_2976 46 (.iload 4) 2 = true := by decide +kernel
theorem dL_law_2976 : decode cL_law 2976 = .ok (.aload_n 2, 1) := fdg (k := 2976) (p := 0) hdk_2976 dLb_73.1
theorem dL_law_2977 : decode cL_law 2977 = .ok (.aload_n 0, 1) := fdg (k := 2976) (p := 1) hdk_2976 dLb_73.2.1
theorem dL_law_2978 : decode cL_law 2978 = .ok (.iload 4, 2) := fdg (k := 2976) (p := 2) hdk_2976 dLb_73.2.2.1
theorem dL_law_2980 : decode cL_law 2980 = .ok (.iconst 1, 1) := fdg (k := 2976) (p := 4) hdk_2976 dLb_73.2.2.2.1
theorem dL_law_2981 : decode cL_law 2981 = .ok (.iadd, 1) := fdg (k := 2976) (p := 5) hdk_2976 dLb_73.2.2.2.2.1
theorem dL_law_2982 : decode cL_law 2982 = .ok (.iaload, 1) := fdg (k := 2976) (p := 6) hdk_2976 dLb_73.2.2.2.2.2.1
theorem dL_law_2983 : decode cL_law 2983 = .ok (.invokevirtual 296, 3) := fdg (k := 2976) (p := 7) hdk_2976 dLb_73.2.2.2.2.2.2.1
theorem dL_law_2986 : decode cL_law 2986 = .ok (.istore 6, 2) := fdg (k := 2976) (p := 10) hdk_2976 dLb_73.2.2.2.2.2.2.2.1
theorem dL_law_2988 : decode cL_law 2988 = .ok (.aload_n 2, 1) := fdg (k := 2976) (p := 12) hdk_2976 dLb_73.2.2.2.2.2.2.2.2.1
theorem dL_law_2989 : decode cL_law 2989 = .ok (.invokevirtual 170, 3) := fdg (k := 2976) (p := 13) hdk_2976 dLb_73.2.2.2.2.2.2.2.2.2.1
theorem dL_law_2992 : decode cL_law 2992 = .ok (.iload 5, 2) := fdg (k := 2976) (p := 16) hdk_2976 dLb_73.2.2.2.2.2.2.2.2.2.2.1
theorem dL_law_2994 : decode cL_law 2994 = .ok (.if_icmp .eq 5, 3) := fdg (k := 2976) (p := 18) hdk_2976 dLb_73.2.2.2.2.2.2.2.2.2.2.2.1
theorem dL_law_2997 : decode cL_law 2997 = .ok (.iconst 0, 1) := fdg (k := 2976) (p := 21) hdk_2976 dLb_73.2.2.2.2.2.2.2.2.2.2.2.2.1
theorem dL_law_2998 : decode cL_law 2998 = .ok (.ireturn, 1) := fdg (k := 2976) (p := 22) hdk_2976 dLb_73.2.2.2.2.2.2.2.2.2.2.2.2.2.1
theorem dL_law_2999 : decode cL_law 2999 = .ok (.iload 5, 2) := fdg (k := 2976) (p := 23) hdk_2976 dLb_73.2.2.2.2.2.2.2.2.2.2.2.2.2.2.1
theorem dL_law_3001 : decode cL_law 3001 = .ok (.ifCond .ne 16, 3) := fdg (k := 2976) (p := 25) hdk_2976 dLb_73.2.2.2.2.2.2.2.2.2.2.2.2.2.2.2.1
theorem dL_law_3004 : decode cL_law 3004 = .ok (.aload_n 3, 1) := fdg (k := 2976) (p := 28) hdk_2976 dLb_73.2.2.2.2.2.2.2.2.2.2.2.2.2.2.2.2.1
theorem dL_law_3005 : decode cL_law 3005 = .ok (.getfield 13, 3) := fdg (k := 2976) (p := 29) hdk_2976 dLb_73.2.2.2.2.2.2.2.2.2.2.2.2.2.2.2.2.2.1
theorem dL_law_3008 : decode cL_law 3008 = .ok (.iload 6, 2) := fdg (k := 2976) (p := 32) hdk_2976 dLb_73.2.2.2.2.2.2.2.2.2.2.2.2.2.2.2.2.2.2.1
theorem dL_law_3010 : decode cL_law 3010 = .ok (.i2l, 1) := fdg (k := 2976) (p := 34) hdk_2976 dLb_73.2.2.2.2.2.2.2.2.2.2.2.2.2.2.2.2.2.2.2.1
theorem dL_law_3011 : decode cL_law 3011 = .ok (.lcmp, 1) := fdg (k := 2976) (p := 35) hdk_2976 dLb_73.2.2.2.2.2.2.2.2.2.2.2.2.2.2.2.2.2.2.2.2.1
theorem dL_law_3012 : decode cL_law 3012 = .ok (.ifCond .eq 5, 3) := fdg (k := 2976) (p := 36) hdk_2976 dLb_73.2.2.2.2.2.2.2.2.2.2.2.2.2.2.2.2.2.2.2.2.2.1
theorem dL_law_3015 : decode cL_law 3015 = .ok (.iconst 0, 1) := fdg (k := 2976) (p := 39) hdk_2976 dLb_73.2.2.2.2.2.2.2.2.2.2.2.2.2.2.2.2.2.2.2.2.2.2.1
theorem dL_law_3016 : decode cL_law 3016 = .ok (.ireturn, 1) := fdg (k := 2976) (p := 40) hdk_2976 dLb_73.2.2.2.2.2.2.2.2.2.2.2.2.2.2.2.2.2.2.2.2.2.2.2.1
theorem dL_law_3017 : decode cL_law 3017 = .ok (.goto 295, 3) := fdg (k := 2976) (p := 41) hdk_2976 dLb_73.2.2.2.2.2.2.2.2.2.2.2.2.2.2.2.2.2.2.2.2.2.2.2.2.1
theorem dL_law_3020 : decode cL_law 3020 = .ok (.aload_n 1, 1) := fdg (k := 2976) (p := 44) hdk_2976 dLb_73.2.2.2.2.2.2.2.2.2.2.2.2.2.2.2.2.2.2.2.2.2.2.2.2.2.1
theorem dL_law_3021 : decode cL_law 3021 = .ok (.aload_n 0, 1) := fdg (k := 2976) (p := 45) hdk_2976 dLb_73.2.2.2.2.2.2.2.2.2.2.2.2.2.2.2.2.2.2.2.2.2.2.2.2.2.2.1
theorem dL_law_3022 : decode cL_law 3022 = .ok (.iload 4, 2) := fdg (k := 2976) (p := 46) hdk_2976 dLb_73.2.2.2.2.2.2.2.2.2.2.2.2.2.2.2.2.2.2.2.2.2.2.2.2.2.2.2
theorem dLb_74 : fdq dk_3024 0 (.iconst 1) 1 = true ∧ fdq dk_3024 1 (.iadd) 1 = true ∧ fdq dk_3024 2 (.iaload) 1 = true ∧ fdq dk_3024 3 (.aload_n 0) 1 = true ∧ fdq dk_3024 4 (.iload 4) 2 = true ∧ fdq dk_3024 6 (.iconst 2) 1 = true ∧ fdq dk_3024 7 (.iadd) 1 = true ∧ fdq dk_3024 8 (.iaload) 1 = true ∧ fdq dk_3024 9 (.aload_n 0) 1 = true ∧ fdq dk_3024 10 (.iload 4) 2 = true ∧ fdq dk_3024 12 (.iconst 3) 1 = true ∧ fdq dk_3024 13 (.iadd) 1 = true ∧ fdq dk_3024 14 (.iaload) 1 = true ∧ fdq dk_3024 15 (.aload_n 3) 1 = true ∧ fdq dk_3024 16 (.invokestatic 297) 3 = true ∧ fdq dk_3024 19 (.istore 5) 2 = true ∧ fdq dk_3024 21 (.aload_n 2) 1 = true ∧ fdq dk_3024 22 (.aload_n 0) 1 = true ∧ fdq dk_3024 23 (.iload 4) 2 = true ∧ fdq dk_3024 25 (.iconst 1) 1 = true ∧ fdq dk_3024 26 (.iadd) 1 = true ∧ fdq dk_3024 27 (.iaload) 1 = true ∧ fdq dk_3024 28 (.aload_n 0) 1 = true ∧ fdq dk_3024 29 (.iload 4) 2 = true ∧ fdq dk_3024 31 (.iconst 2) 1 = true ∧ fdq dk_3024 32 (.iadd) 1 = true ∧ fdq dk_3024 33 (.iaload) 1 = true ∧ fdq dk_3024 34 (.aload_n 0) 1 = true ∧ fdq dk_3024 35 (.iload 4) 2 = true ∧ fdq dk_3024 37 (.iconst 3) 1 = true ∧ fdq dk_3024 38 (.iadd) 1 = true ∧ fdq dk_3024 39 (.iaload) 1 = true := by decide +kernel
theorem dL_law_3024 : decode cL_law 3024 = .ok (.iconst 1, 1) := fdg (k := 3024) (p := 0) hdk_3024 dLb_74.1
theorem dL_law_3025 : decode cL_law 3025 = .ok (.iadd, 1) := fdg (k := 3024) (p := 1) hdk_3024 dLb_74.2.1
theorem dL_law_3026 : decode cL_law 3026 = .ok (.iaload, 1) := fdg (k := 3024) (p := 2) hdk_3024 dLb_74.2.2.1
theorem dL_law_3027 : decode cL_law 3027 = .ok (.aload_n 0, 1) := fdg (k := 3024) (p := 3) hdk_3024 dLb_74.2.2.2.1
theorem dL_law_3028 : decode cL_law 3028 = .ok (.iload 4, 2) := fdg (k := 3024) (p := 4) hdk_3024 dLb_74.2.2.2.2.1
theorem dL_law_3030 : decode cL_law 3030 = .ok (.iconst 2, 1) := fdg (k := 3024) (p := 6) hdk_3024 dLb_74.2.2.2.2.2.1
theorem dL_law_3031 : decode cL_law 3031 = .ok (.iadd, 1) := fdg (k := 3024) (p := 7) hdk_3024 dLb_74.2.2.2.2.2.2.1
theorem dL_law_3032 : decode cL_law 3032 = .ok (.iaload, 1) := fdg (k := 3024) (p := 8) hdk_3024 dLb_74.2.2.2.2.2.2.2.1
theorem dL_law_3033 : decode cL_law 3033 = .ok (.aload_n 0, 1) := fdg (k := 3024) (p := 9) hdk_3024 dLb_74.2.2.2.2.2.2.2.2.1
theorem dL_law_3034 : decode cL_law 3034 = .ok (.iload 4, 2) := fdg (k := 3024) (p := 10) hdk_3024 dLb_74.2.2.2.2.2.2.2.2.2.1
theorem dL_law_3036 : decode cL_law 3036 = .ok (.iconst 3, 1) := fdg (k := 3024) (p := 12) hdk_3024 dLb_74.2.2.2.2.2.2.2.2.2.2.1
theorem dL_law_3037 : decode cL_law 3037 = .ok (.iadd, 1) := fdg (k := 3024) (p := 13) hdk_3024 dLb_74.2.2.2.2.2.2.2.2.2.2.2.1
theorem dL_law_3038 : decode cL_law 3038 = .ok (.iaload, 1) := fdg (k := 3024) (p := 14) hdk_3024 dLb_74.2.2.2.2.2.2.2.2.2.2.2.2.1
theorem dL_law_3039 : decode cL_law 3039 = .ok (.aload_n 3, 1) := fdg (k := 3024) (p := 15) hdk_3024 dLb_74.2.2.2.2.2.2.2.2.2.2.2.2.2.1
theorem dL_law_3040 : decode cL_law 3040 = .ok (.invokestatic 297, 3) := fdg (k := 3024) (p := 16) hdk_3024 dLb_74.2.2.2.2.2.2.2.2.2.2.2.2.2.2.1
theorem dL_law_3043 : decode cL_law 3043 = .ok (.istore 5, 2) := fdg (k := 3024) (p := 19) hdk_3024 dLb_74.2.2.2.2.2.2.2.2.2.2.2.2.2.2.2.1
theorem dL_law_3045 : decode cL_law 3045 = .ok (.aload_n 2, 1) := fdg (k := 3024) (p := 21) hdk_3024 dLb_74.2.2.2.2.2.2.2.2.2.2.2.2.2.2.2.2.1
theorem dL_law_3046 : decode cL_law 3046 = .ok (.aload_n 0, 1) := fdg (k := 3024) (p := 22) hdk_3024 dLb_74.2.2.2.2.2.2.2.2.2.2.2.2.2.2.2.2.2.1
theorem dL_law_3047 : decode cL_law 3047 = .ok (.iload 4, 2) := fdg (k := 3024) (p := 23) hdk_3024 dLb_74.2.2.2.2.2.2.2.2.2.2.2.2.2.2.2.2.2.2.1
theorem dL_law_3049 : decode cL_law 3049 = .ok (.iconst 1, 1) := fdg (k := 3024) (p := 25) hdk_3024 dLb_74.2.2.2.2.2.2.2.2.2.2.2.2.2.2.2.2.2.2.2.1
theorem dL_law_3050 : decode cL_law 3050 = .ok (.iadd, 1) := fdg (k := 3024) (p := 26) hdk_3024 dLb_74.2.2.2.2.2.2.2.2.2.2.2.2.2.2.2.2.2.2.2.2.1
theorem dL_law_3051 : decode cL_law 3051 = .ok (.iaload, 1) := fdg (k := 3024) (p := 27) hdk_3024 dLb_74.2.2.2.2.2.2.2.2.2.2.2.2.2.2.2.2.2.2.2.2.2.1
theorem dL_law_3052 : decode cL_law 3052 = .ok (.aload_n 0, 1) := fdg (k := 3024) (p := 28) hdk_3024 dLb_74.2.2.2.2.2.2.2.2.2.2.2.2.2.2.2.2.2.2.2.2.2.2.1
theorem dL_law_3053 : decode cL_law 3053 = .ok (.iload 4, 2) := fdg (k := 3024) (p := 29) hdk_3024 dLb_74.2.2.2.2.2.2.2.2.2.2.2.2.2.2.2.2.2.2.2.2.2.2.2.1
theorem dL_law_3055 : decode cL_law 3055 = .ok (.iconst 2, 1) := fdg (k := 3024) (p := 31) hdk_3024 dLb_74.2.2.2.2.2.2.2.2.2.2.2.2.2.2.2.2.2.2.2.2.2.2.2.2.1
theorem dL_law_3056 : decode cL_law 3056 = .ok (.iadd, 1) := fdg (k := 3024) (p := 32) hdk_3024 dLb_74.2.2.2.2.2.2.2.2.2.2.2.2.2.2.2.2.2.2.2.2.2.2.2.2.2.1
theorem dL_law_3057 : decode cL_law 3057 = .ok (.iaload, 1) := fdg (k := 3024) (p := 33) hdk_3024 dLb_74.2.2.2.2.2.2.2.2.2.2.2.2.2.2.2.2.2.2.2.2.2.2.2.2.2.2.1
theorem dL_law_3058 : decode cL_law 3058 = .ok (.aload_n 0, 1) := fdg (k := 3024) (p := 34) hdk_3024 dLb_74.2.2.2.2.2.2.2.2.2.2.2.2.2.2.2.2.2.2.2.2.2.2.2.2.2.2.2.1
theorem dL_law_3059 : decode cL_law 3059 = .ok (.iload 4, 2) := fdg (k := 3024) (p := 35) hdk_3024 dLb_74.2.2.2.2.2.2.2.2.2.2.2.2.2.2.2.2.2.2.2.2.2.2.2.2.2.2.2.2.1
theorem dL_law_3061 : decode cL_law 3061 = .ok (.iconst 3, 1) := fdg (k := 3024) (p := 37) hdk_3024 dLb_74.2.2.2.2.2.2.2.2.2.2.2.2.2.2.2.2.2.2.2.2.2.2.2.2.2.2.2.2.2.1
theorem dL_law_3062 : decode cL_law 3062 = .ok (.iadd, 1) := fdg (k := 3024) (p := 38) hdk_3024 dLb_74.2.2.2.2.2.2.2.2.2.2.2.2.2.2.2.2.2.2.2.2.2.2.2.2.2.2.2.2.2.2.1
theorem dL_law_3063 : decode cL_law 3063 = .ok (.iaload, 1) := fdg (k := 3024) (p := 39) hdk_3024 dLb_74.2.2.2.2.2.2.2.2.2.2.2.2.2.2.2.2.2.2.2.2.2.2.2.2.2.2.2.2.2.2.2
theorem dLb_75 : fdq dk_3024 40 (.invokevirtual 299) 3 = true ∧ fdq dk_3024 43 (.istore 6) 2 = true ∧ fdq dk_3024 45 (.aload_n 2) 1 = true ∧ fdq dk_3024 46 (.invokevirtual 170) 3 = true := by decide +kernel
theorem dL_law_3064 : decode cL_law 3064 = .ok (.invokevirtual 299, 3) := fdg (k := 3024) (p := 40) hdk_3024 dLb_75.1
theorem dL_law_3067 : decode cL_law 3067 = .ok (.istore 6, 2) := fdg (k := 3024) (p := 43) hdk_3024 dLb_75.2.1
theorem dL_law_3069 : decode cL_law 3069 = .ok (.aload_n 2, 1) := fdg (k := 3024) (p := 45) hdk_3024 dLb_75.2.2.1
theorem dL_law_3070 : decode cL_law 3070 = .ok (.invokevirtual 170, 3) := fdg (k := 3024) (p := 46) hdk_3024 dLb_75.2.2.2
theorem dLb_76 : fdq dk_3072 1 (.iload 5) 2 = true ∧ fdq dk_3072 3 (.if_icmp .eq 5) 3 = true ∧ fdq dk_3072 6 (.iconst 0) 1 = true ∧ fdq dk_3072 7 (.ireturn) 1 = true ∧ fdq dk_3072 8 (.iload 5) 2 = true ∧ fdq dk_3072 10 (.ifCond .ne 16) 3 = true ∧ fdq dk_3072 13 (.aload_n 3) 1 = true ∧ fdq dk_3072 14 (.getfield 13) 3 = true ∧ fdq dk_3072 17 (.iload 6) 2 = true ∧ fdq dk_3072 19 (.i2l) 1 = true ∧ fdq dk_3072 20 (.lcmp) 1 = true ∧ fdq dk_3072 21 (.ifCond .eq 5) 3 = true ∧ fdq dk_3072 24 (.iconst 0) 1 = true ∧ fdq dk_3072 25 (.ireturn) 1 = true ∧ fdq dk_3072 26 (.goto 214) 3 = true ∧ fdq dk_3072 29 (.aload_n 1) 1 = true ∧ fdq dk_3072 30 (.invokevirtual 300) 3 = true ∧ fdq dk_3072 33 (.aload_n 2) 1 = true ∧ fdq dk_3072 34 (.invokevirtual 303) 3 = true ∧ fdq dk_3072 37 (.if_icmp .eq 203) 3 = true ∧ fdq dk_3072 40 (.iconst 0) 1 = true ∧ fdq dk_3072 41 (.ireturn) 1 = true ∧ fdq dk_3072 42 (.aload_n 1) 1 = true ∧ fdq dk_3072 43 (.aload_n 0) 1 = true ∧ fdq dk_3072 44 (.iload 4) 2 = true ∧ fdq dk_3072 46 (.iconst 1) 1 = true ∧ fdq dk_3072 47 (.iadd) 1 = true := by decide +kernel
theorem dL_law_3073 : decode cL_law 3073 = .ok (.iload 5, 2) := fdg (k := 3072) (p := 1) hdk_3072 dLb_76.1
theorem dL_law_3075 : decode cL_law 3075 = .ok (.if_icmp .eq 5, 3) := fdg (k := 3072) (p := 3) hdk_3072 dLb_76.2.1
theorem dL_law_3078 : decode cL_law 3078 = .ok (.iconst 0, 1) := fdg (k := 3072) (p := 6) hdk_3072 dLb_76.2.2.1
theorem dL_law_3079 : decode cL_law 3079 = .ok (.ireturn, 1) := fdg (k := 3072) (p := 7) hdk_3072 dLb_76.2.2.2.1
theorem dL_law_3080 : decode cL_law 3080 = .ok (.iload 5, 2) := fdg (k := 3072) (p := 8) hdk_3072 dLb_76.2.2.2.2.1
theorem dL_law_3082 : decode cL_law 3082 = .ok (.ifCond .ne 16, 3) := fdg (k := 3072) (p := 10) hdk_3072 dLb_76.2.2.2.2.2.1
theorem dL_law_3085 : decode cL_law 3085 = .ok (.aload_n 3, 1) := fdg (k := 3072) (p := 13) hdk_3072 dLb_76.2.2.2.2.2.2.1
theorem dL_law_3086 : decode cL_law 3086 = .ok (.getfield 13, 3) := fdg (k := 3072) (p := 14) hdk_3072 dLb_76.2.2.2.2.2.2.2.1
theorem dL_law_3089 : decode cL_law 3089 = .ok (.iload 6, 2) := fdg (k := 3072) (p := 17) hdk_3072 dLb_76.2.2.2.2.2.2.2.2.1
theorem dL_law_3091 : decode cL_law 3091 = .ok (.i2l, 1) := fdg (k := 3072) (p := 19) hdk_3072 dLb_76.2.2.2.2.2.2.2.2.2.1
theorem dL_law_3092 : decode cL_law 3092 = .ok (.lcmp, 1) := fdg (k := 3072) (p := 20) hdk_3072 dLb_76.2.2.2.2.2.2.2.2.2.2.1
theorem dL_law_3093 : decode cL_law 3093 = .ok (.ifCond .eq 5, 3) := fdg (k := 3072) (p := 21) hdk_3072 dLb_76.2.2.2.2.2.2.2.2.2.2.2.1
theorem dL_law_3096 : decode cL_law 3096 = .ok (.iconst 0, 1) := fdg (k := 3072) (p := 24) hdk_3072 dLb_76.2.2.2.2.2.2.2.2.2.2.2.2.1
theorem dL_law_3097 : decode cL_law 3097 = .ok (.ireturn, 1) := fdg (k := 3072) (p := 25) hdk_3072 dLb_76.2.2.2.2.2.2.2.2.2.2.2.2.2.1
theorem dL_law_3098 : decode cL_law 3098 = .ok (.goto 214, 3) := fdg (k := 3072) (p := 26) hdk_3072 dLb_76.2.2.2.2.2.2.2.2.2.2.2.2.2.2.1
theorem dL_law_3101 : decode cL_law 3101 = .ok (.aload_n 1, 1) := fdg (k := 3072) (p := 29) hdk_3072 dLb_76.2.2.2.2.2.2.2.2.2.2.2.2.2.2.2.1
theorem dL_law_3102 : decode cL_law 3102 = .ok (.invokevirtual 300, 3) := fdg (k := 3072) (p := 30) hdk_3072 dLb_76.2.2.2.2.2.2.2.2.2.2.2.2.2.2.2.2.1
theorem dL_law_3105 : decode cL_law 3105 = .ok (.aload_n 2, 1) := fdg (k := 3072) (p := 33) hdk_3072 dLb_76.2.2.2.2.2.2.2.2.2.2.2.2.2.2.2.2.2.1
theorem dL_law_3106 : decode cL_law 3106 = .ok (.invokevirtual 303, 3) := fdg (k := 3072) (p := 34) hdk_3072 dLb_76.2.2.2.2.2.2.2.2.2.2.2.2.2.2.2.2.2.2.1
theorem dL_law_3109 : decode cL_law 3109 = .ok (.if_icmp .eq 203, 3) := fdg (k := 3072) (p := 37) hdk_3072 dLb_76.2.2.2.2.2.2.2.2.2.2.2.2.2.2.2.2.2.2.2.1
theorem dL_law_3112 : decode cL_law 3112 = .ok (.iconst 0, 1) := fdg (k := 3072) (p := 40) hdk_3072 dLb_76.2.2.2.2.2.2.2.2.2.2.2.2.2.2.2.2.2.2.2.2.1
theorem dL_law_3113 : decode cL_law 3113 = .ok (.ireturn, 1) := fdg (k := 3072) (p := 41) hdk_3072 dLb_76.2.2.2.2.2.2.2.2.2.2.2.2.2.2.2.2.2.2.2.2.2.1
theorem dL_law_3114 : decode cL_law 3114 = .ok (.aload_n 1, 1) := fdg (k := 3072) (p := 42) hdk_3072 dLb_76.2.2.2.2.2.2.2.2.2.2.2.2.2.2.2.2.2.2.2.2.2.2.1
theorem dL_law_3115 : decode cL_law 3115 = .ok (.aload_n 0, 1) := fdg (k := 3072) (p := 43) hdk_3072 dLb_76.2.2.2.2.2.2.2.2.2.2.2.2.2.2.2.2.2.2.2.2.2.2.2.1
theorem dL_law_3116 : decode cL_law 3116 = .ok (.iload 4, 2) := fdg (k := 3072) (p := 44) hdk_3072 dLb_76.2.2.2.2.2.2.2.2.2.2.2.2.2.2.2.2.2.2.2.2.2.2.2.2.1
theorem dL_law_3118 : decode cL_law 3118 = .ok (.iconst 1, 1) := fdg (k := 3072) (p := 46) hdk_3072 dLb_76.2.2.2.2.2.2.2.2.2.2.2.2.2.2.2.2.2.2.2.2.2.2.2.2.2.1
theorem dL_law_3119 : decode cL_law 3119 = .ok (.iadd, 1) := fdg (k := 3072) (p := 47) hdk_3072 dLb_76.2.2.2.2.2.2.2.2.2.2.2.2.2.2.2.2.2.2.2.2.2.2.2.2.2.2
theorem dLb_77 : fdq dk_3120 0 (.iaload) 1 = true ∧ fdq dk_3120 1 (.aload_n 3) 1 = true ∧ fdq dk_3120 2 (.invokestatic 304) 3 = true ∧ fdq dk_3120 5 (.istore 5) 2 = true ∧ fdq dk_3120 7 (.aload_n 2) 1 = true ∧ fdq dk_3120 8 (.aload_n 0) 1 = true ∧ fdq dk_3120 9 (.iload 4) 2 = true ∧ fdq dk_3120 11 (.iconst 1) 1 = true ∧ fdq dk_3120 12 (.iadd) 1 = true ∧ fdq dk_3120 13 (.iaload) 1 = true ∧ fdq dk_3120 14 (.invokevirtual 306) 3 = true ∧ fdq dk_3120 17 (.istore 6) 2 = true ∧ fdq dk_3120 19 (.aload_n 2) 1 = true ∧ fdq dk_3120 20 (.invokevirtual 170) 3 = true ∧ fdq dk_3120 23 (.iload 5) 2 = true ∧ fdq dk_3120 25 (.if_icmp .eq 5) 3 = true ∧ fdq dk_3120 28 (.iconst 0) 1 = true ∧ fdq dk_3120 29 (.ireturn) 1 = true ∧ fdq dk_3120 30 (.iload 5) 2 = true ∧ fdq dk_3120 32 (.ifCond .ne 16) 3 = true ∧ fdq dk_3120 35 (.aload_n 3) 1 = true ∧ fdq dk_3120 36 (.getfield 13) 3 = true ∧ fdq dk_3120 39 (.iload 6) 2 = true ∧ fdq dk_3120 41 (.i2l) 1 = true ∧ fdq dk_3120 42 (.lcmp) 1 = true ∧ fdq dk_3120 43 (.ifCond .eq 5) 3 = true ∧ fdq dk_3120 46 (.iconst 0) 1 = true ∧ fdq dk_3120 47 (.ireturn) 1 = true := by decide +kernel
theorem dL_law_3120 : decode cL_law 3120 = .ok (.iaload, 1) := fdg (k := 3120) (p := 0) hdk_3120 dLb_77.1
theorem dL_law_3121 : decode cL_law 3121 = .ok (.aload_n 3, 1) := fdg (k := 3120) (p := 1) hdk_3120 dLb_77.2.1
theorem dL_law_3122 : decode cL_law 3122 = .ok (.invokestatic 304, 3) := fdg (k := 3120) (p := 2) hdk_3120 dLb_77.2.2.1
theorem dL_law_3125 : decode cL_law 3125 = .ok (.istore 5, 2) := fdg (k := 3120) (p := 5) hdk_3120 dLb_77.2.2.2.1
theorem dL_law_3127 : decode cL_law 3127 = .ok (.aload_n 2, 1) := fdg (k := 3120) (p := 7) hdk_3120 dLb_77.2.2.2.2.1
theorem dL_law_3128 : decode cL_law 3128 = .ok (.aload_n 0, 1) := fdg (k := 3120) (p := 8) hdk_3120 dLb_77.2.2.2.2.2.1
theorem dL_law_3129 : decode cL_law 3129 = .ok (.iload 4, 2) := fdg (k := 3120) (p := 9) hdk_3120 dLb_77.2.2.2.2.2.2.1
theorem dL_law_3131 : decode cL_law 3131 = .ok (.iconst 1, 1) := fdg (k := 3120) (p := 11) hdk_3120 dLb_77.2.2.2.2.2.2.2.1
theorem dL_law_3132 : decode cL_law 3132 = .ok (.iadd, 1) := fdg (k := 3120) (p := 12) hdk_3120 dLb_77.2.2.2.2.2.2.2.2.1
theorem dL_law_3133 : decode cL_law 3133 = .ok (.iaload, 1) := fdg (k := 3120) (p := 13) hdk_3120 dLb_77.2.2.2.2.2.2.2.2.2.1
theorem dL_law_3134 : decode cL_law 3134 = .ok (.invokevirtual 306, 3) := fdg (k := 3120) (p := 14) hdk_3120 dLb_77.2.2.2.2.2.2.2.2.2.2.1
theorem dL_law_3137 : decode cL_law 3137 = .ok (.istore 6, 2) := fdg (k := 3120) (p := 17) hdk_3120 dLb_77.2.2.2.2.2.2.2.2.2.2.2.1
theorem dL_law_3139 : decode cL_law 3139 = .ok (.aload_n 2, 1) := fdg (k := 3120) (p := 19) hdk_3120 dLb_77.2.2.2.2.2.2.2.2.2.2.2.2.1
theorem dL_law_3140 : decode cL_law 3140 = .ok (.invokevirtual 170, 3) := fdg (k := 3120) (p := 20) hdk_3120 dLb_77.2.2.2.2.2.2.2.2.2.2.2.2.2.1
theorem dL_law_3143 : decode cL_law 3143 = .ok (.iload 5, 2) := fdg (k := 3120) (p := 23) hdk_3120 dLb_77.2.2.2.2.2.2.2.2.2.2.2.2.2.2.1
theorem dL_law_3145 : decode cL_law 3145 = .ok (.if_icmp .eq 5, 3) := fdg (k := 3120) (p := 25) hdk_3120 dLb_77.2.2.2.2.2.2.2.2.2.2.2.2.2.2.2.1
theorem dL_law_3148 : decode cL_law 3148 = .ok (.iconst 0, 1) := fdg (k := 3120) (p := 28) hdk_3120 dLb_77.2.2.2.2.2.2.2.2.2.2.2.2.2.2.2.2.1
theorem dL_law_3149 : decode cL_law 3149 = .ok (.ireturn, 1) := fdg (k := 3120) (p := 29) hdk_3120 dLb_77.2.2.2.2.2.2.2.2.2.2.2.2.2.2.2.2.2.1
theorem dL_law_3150 : decode cL_law 3150 = .ok (.iload 5, 2) := fdg (k := 3120) (p := 30) hdk_3120 dLb_77.2.2.2.2.2.2.2.2.2.2.2.2.2.2.2.2.2.2.1
theorem dL_law_3152 : decode cL_law 3152 = .ok (.ifCond .ne 16, 3) := fdg (k := 3120) (p := 32) hdk_3120 dLb_77.2.2.2.2.2.2.2.2.2.2.2.2.2.2.2.2.2.2.2.1
theorem dL_law_3155 : decode cL_law 3155 = .ok (.aload_n 3, 1) := fdg (k := 3120) (p := 35) hdk_3120 dLb_77.2.2.2.2.2.2.2.2.2.2.2.2.2.2.2.2.2.2.2.2.1
theorem dL_law_3156 : decode cL_law 3156 = .ok (.getfield 13, 3) := fdg (k := 3120) (p := 36) hdk_3120 dLb_77.2.2.2.2.2.2.2.2.2.2.2.2.2.2.2.2.2.2.2.2.2.1
theorem dL_law_3159 : decode cL_law 3159 = .ok (.iload 6, 2) := fdg (k := 3120) (p := 39) hdk_3120 dLb_77.2.2.2.2.2.2.2.2.2.2.2.2.2.2.2.2.2.2.2.2.2.2.1
theorem dL_law_3161 : decode cL_law 3161 = .ok (.i2l, 1) := fdg (k := 3120) (p := 41) hdk_3120 dLb_77.2.2.2.2.2.2.2.2.2.2.2.2.2.2.2.2.2.2.2.2.2.2.2.1
theorem dL_law_3162 : decode cL_law 3162 = .ok (.lcmp, 1) := fdg (k := 3120) (p := 42) hdk_3120 dLb_77.2.2.2.2.2.2.2.2.2.2.2.2.2.2.2.2.2.2.2.2.2.2.2.2.1
theorem dL_law_3163 : decode cL_law 3163 = .ok (.ifCond .eq 5, 3) := fdg (k := 3120) (p := 43) hdk_3120 dLb_77.2.2.2.2.2.2.2.2.2.2.2.2.2.2.2.2.2.2.2.2.2.2.2.2.2.1
theorem dL_law_3166 : decode cL_law 3166 = .ok (.iconst 0, 1) := fdg (k := 3120) (p := 46) hdk_3120 dLb_77.2.2.2.2.2.2.2.2.2.2.2.2.2.2.2.2.2.2.2.2.2.2.2.2.2.2.1
theorem dL_law_3167 : decode cL_law 3167 = .ok (.ireturn, 1) := fdg (k := 3120) (p := 47) hdk_3120 dLb_77.2.2.2.2.2.2.2.2.2.2.2.2.2.2.2.2.2.2.2.2.2.2.2.2.2.2.2
theorem dLb_78 : fdq dk_3168 0 (.goto 144) 3 = true ∧ fdq dk_3168 3 (.aload_n 1) 1 = true ∧ fdq dk_3168 4 (.aload_n 0) 1 = true ∧ fdq dk_3168 5 (.iload 4) 2 = true ∧ fdq dk_3168 7 (.iconst 1) 1 = true ∧ fdq dk_3168 8 (.iadd) 1 = true ∧ fdq dk_3168 9 (.iaload) 1 = true ∧ fdq dk_3168 10 (.aload_n 3) 1 = true ∧ fdq dk_3168 11 (.invokestatic 307) 3 = true ∧ fdq dk_3168 14 (.istore 5) 2 = true ∧ fdq dk_3168 16 (.aload_n 2) 1 = true ∧ fdq dk_3168 17 (.aload_n 0) 1 = true ∧ fdq dk_3168 18 (.iload 4) 2 = true ∧ fdq dk_3168 20 (.iconst 1) 1 = true ∧ fdq dk_3168 21 (.iadd) 1 = true ∧ fdq dk_3168 22 (.iaload) 1 = true ∧ fdq dk_3168 23 (.invokevirtual 309) 3 = true ∧ fdq dk_3168 26 (.istore 6) 2 = true ∧ fdq dk_3168 28 (.aload_n 2) 1 = true ∧ fdq dk_3168 29 (.invokevirtual 170) 3 = true ∧ fdq dk_3168 32 (.iload 5) 2 = true ∧ fdq dk_3168 34 (.if_icmp .eq 5) 3 = true ∧ fdq dk_3168 37 (.iconst 0) 1 = true ∧ fdq dk_3168 38 (.ireturn) 1 = true ∧ fdq dk_3168 39 (.iload 5) 2 = true ∧ fdq dk_3168 41 (.ifCond .ne 16) 3 = true ∧ fdq dk_3168 44 (.aload_n 3) 1 = true ∧ fdq dk_3168 45 (.getfield 13) 3 = true := by decide +kernel
theorem dL_law_3168 : decode cL_law 3168 = .ok (.goto 144, 3) := fdg (k := 3168) (p := 0) hdk_3168 dLb_78.1
theorem dL_law_3171 : decode cL_law 3171 = .ok (.aload_n 1, 1) := fdg (k := 3168) (p := 3) hdk_3168 dLb_78.2.1
theorem dL_law_3172 : decode cL_law 3172 = .ok (.aload_n 0, 1) := fdg (k := 3168) (p := 4) hdk_3168 dLb_78.2.2.1
theorem dL_law_3173 : decode cL_law 3173 = .ok (.iload 4, 2) := fdg (k := 3168) (p := 5) hdk_3168 dLb_78.2.2.2.1
theorem dL_law_3175 : decode cL_law 3175 = .ok (.iconst 1, 1) := fdg (k := 3168) (p := 7) hdk_3168 dLb_78.2.2.2.2.1
theorem dL_law_3176 : decode cL_law 3176 = .ok (.iadd, 1) := fdg (k := 3168) (p := 8) hdk_3168 dLb_78.2.2.2.2.2.1
theorem dL_law_3177 : decode cL_law 3177 = .ok (.iaload, 1) := fdg (k := 3168) (p := 9) hdk_3168 dLb_78.2.2.2.2.2.2.1
theorem dL_law_3178 : decode cL_law 3178 = .ok (.aload_n 3, 1) := fdg (k := 3168) (p := 10) hdk_3168 dLb_78.2.2.2.2.2.2.2.1
theorem dL_law_3179 : decode cL_law 3179 = .ok (.invokestatic 307, 3) := fdg (k := 3168) (p := 11) hdk_3168 dLb_78.2.2.2.2.2.2.2.2.1
theorem dL_law_3182 : decode cL_law 3182 = .ok (.istore 5, 2) := fdg (k := 3168) (p := 14) hdk_3168 dLb_78.2.2.2.2.2.2.2.2.2.1
theorem dL_law_3184 : decode cL_law 3184 = .ok (.aload_n 2, 1) := fdg (k := 3168) (p := 16) hdk_3168 dLb_78.2.2.2.2.2.2.2.2.2.2.1
theorem dL_law_3185 : decode cL_law 3185 = .ok (.aload_n 0, 1) := fdg (k := 3168) (p := 17) hdk_3168 dLb_78.2.2.2.2.2.2.2.2.2.2.2.1
theorem dL_law_3186 : decode cL_law 3186 = .ok (.iload 4, 2) := fdg (k := 3168) (p := 18) hdk_3168 dLb_78.2.2.2.2.2.2.2.2.2.2.2.2.1
theorem dL_law_3188 : decode cL_law 3188 = .ok (.iconst 1, 1) := fdg (k := 3168) (p := 20) hdk_3168 dLb_78.2.2.2.2.2.2.2.2.2.2.2.2.2.1
theorem dL_law_3189 : decode cL_law 3189 = .ok (.iadd, 1) := fdg (k := 3168) (p := 21) hdk_3168 dLb_78.2.2.2.2.2.2.2.2.2.2.2.2.2.2.1
theorem dL_law_3190 : decode cL_law 3190 = .ok (.iaload, 1) := fdg (k := 3168) (p := 22) hdk_3168 dLb_78.2.2.2.2.2.2.2.2.2.2.2.2.2.2.2.1
theorem dL_law_3191 : decode cL_law 3191 = .ok (.invokevirtual 309, 3) := fdg (k := 3168) (p := 23) hdk_3168 dLb_78.2.2.2.2.2.2.2.2.2.2.2.2.2.2.2.2.1
theorem dL_law_3194 : decode cL_law 3194 = .ok (.istore 6, 2) := fdg (k := 3168) (p := 26) hdk_3168 dLb_78.2.2.2.2.2.2.2.2.2.2.2.2.2.2.2.2.2.1
theorem dL_law_3196 : decode cL_law 3196 = .ok (.aload_n 2, 1) := fdg (k := 3168) (p := 28) hdk_3168 dLb_78.2.2.2.2.2.2.2.2.2.2.2.2.2.2.2.2.2.2.1
theorem dL_law_3197 : decode cL_law 3197 = .ok (.invokevirtual 170, 3) := fdg (k := 3168) (p := 29) hdk_3168 dLb_78.2.2.2.2.2.2.2.2.2.2.2.2.2.2.2.2.2.2.2.1
theorem dL_law_3200 : decode cL_law 3200 = .ok (.iload 5, 2) := fdg (k := 3168) (p := 32) hdk_3168 dLb_78.2.2.2.2.2.2.2.2.2.2.2.2.2.2.2.2.2.2.2.2.1
theorem dL_law_3202 : decode cL_law 3202 = .ok (.if_icmp .eq 5, 3) := fdg (k := 3168) (p := 34) hdk_3168 dLb_78.2.2.2.2.2.2.2.2.2.2.2.2.2.2.2.2.2.2.2.2.2.1
theorem dL_law_3205 : decode cL_law 3205 = .ok (.iconst 0, 1) := fdg (k := 3168) (p := 37) hdk_3168 dLb_78.2.2.2.2.2.2.2.2.2.2.2.2.2.2.2.2.2.2.2.2.2.2.1
theorem dL_law_3206 : decode cL_law 3206 = .ok (.ireturn, 1) := fdg (k := 3168) (p := 38) hdk_3168 dLb_78.2.2.2.2.2.2.2.2.2.2.2.2.2.2.2.2.2.2.2.2.2.2.2.1
theorem dL_law_3207 : decode cL_law 3207 = .ok (.iload 5, 2) := fdg (k := 3168) (p := 39) hdk_3168 dLb_78.2.2.2.2.2.2.2.2.2.2.2.2.2.2.2.2.2.2.2.2.2.2.2.2.1
theorem dL_law_3209 : decode cL_law 3209 = .ok (.ifCond .ne 16, 3) := fdg (k := 3168) (p := 41) hdk_3168 dLb_78.2.2.2.2.2.2.2.2.2.2.2.2.2.2.2.2.2.2.2.2.2.2.2.2.2.1
theorem dL_law_3212 : decode cL_law 3212 = .ok (.aload_n 3, 1) := fdg (k := 3168) (p := 44) hdk_3168 dLb_78.2.2.2.2.2.2.2.2.2.2.2.2.2.2.2.2.2.2.2.2.2.2.2.2.2.2.1
theorem dL_law_3213 : decode cL_law 3213 = .ok (.getfield 13, 3) := fdg (k := 3168) (p := 45) hdk_3168 dLb_78.2.2.2.2.2.2.2.2.2.2.2.2.2.2.2.2.2.2.2.2.2.2.2.2.2.2.2
theorem dLb_79 : fdq dk_3216 0 (.iload 6) 2 = true ∧ fdq dk_3216 2 (.i2l) 1 = true ∧ fdq dk_3216 3 (.lcmp) 1 = true ∧ fdq dk_3216 4 (.ifCond .eq 5) 3 = true ∧ fdq dk_3216 7 (.iconst 0) 1 = true ∧ fdq dk_3216 8 (.ireturn) 1 = true ∧ fdq dk_3216 9 (.goto 87) 3 = true ∧ fdq dk_3216 12 (.aload_n 1) 1 = true ∧ fdq dk_3216 13 (.aload_n 0) 1 = true ∧ fdq dk_3216 14 (.iload 4) 2 = true ∧ fdq dk_3216 16 (.iconst 1) 1 = true ∧ fdq dk_3216 17 (.iadd) 1 = true ∧ fdq dk_3216 18 (.iaload) 1 = true ∧ fdq dk_3216 19 (.aload_n 3) 1 = true ∧ fdq dk_3216 20 (.invokestatic 310) 3 = true ∧ fdq dk_3216 23 (.istore 5) 2 = true ∧ fdq dk_3216 25 (.aload_n 2) 1 = true ∧ fdq dk_3216 26 (.aload_n 0) 1 = true ∧ fdq dk_3216 27 (.iload 4) 2 = true ∧ fdq dk_3216 29 (.iconst 1) 1 = true ∧ fdq dk_3216 30 (.iadd) 1 = true ∧ fdq dk_3216 31 (.iaload) 1 = true ∧ fdq dk_3216 32 (.invokevirtual 312) 3 = true ∧ fdq dk_3216 35 (.istore 6) 2 = true ∧ fdq dk_3216 37 (.aload_n 2) 1 = true ∧ fdq dk_3216 38 (.invokevirtual 170) 3 = true ∧ fdq dk_3216 41 (.iload 5) 2 = true ∧ fdq dk_3216 43 (.if_icmp .eq 5) 3 = true ∧ fdq dk_3216 46 (.iconst 0) 1 = true ∧ fdq dk_3216 47 (.ireturn) 1 = true := by decide +kernel
theorem dL_law_3216 : decode cL_law 3216 = .ok (.iload 6, 2) := fdg (k := 3216) (p := 0) hdk_3216 dLb_79.1
theorem dL_law_3218 : decode cL_law 3218 = .ok (.i2l, 1) := fdg (k := 3216) (p := 2) hdk_3216 dLb_79.2.1
theorem dL_law_3219 : decode cL_law 3219 = .ok (.lcmp, 1) := fdg (k := 3216) (p := 3) hdk_3216 dLb_79.2.2.1
theorem dL_law_3220 : decode cL_law 3220 = .ok (.ifCond .eq 5, 3) := fdg (k := 3216) (p := 4) hdk_3216 dLb_79.2.2.2.1
theorem dL_law_3223 : decode cL_law 3223 = .ok (.iconst 0, 1) := fdg (k := 3216) (p := 7) hdk_3216 dLb_79.2.2.2.2.1
theorem dL_law_3224 : decode cL_law 3224 = .ok (.ireturn, 1) := fdg (k := 3216) (p := 8) hdk_3216 dLb_79.2.2.2.2.2.1
theorem dL_law_3225 : decode cL_law 3225 = .ok (.goto 87, 3) := fdg (k := 3216) (p := 9) hdk_3216 dLb_79.2.2.2.2.2.2.1
theorem dL_law_3228 : decode cL_law 3228 = .ok (.aload_n 1, 1) := fdg (k := 3216) (p := 12) hdk_3216 dLb_79.2.2.2.2.2.2.2.1
theorem dL_law_3229 : decode cL_law 3229 = .ok (.aload_n 0, 1) := fdg (k := 3216) (p := 13) hdk_3216 dLb_79.2.2.2.2.2.2.2.2.1
theorem dL_law_3230 : decode cL_law 3230 = .ok (.iload 4, 2) := fdg (k := 3216) (p := 14) hdk_3216 dLb_79.2.2.2.2.2.2.2.2.2.1
theorem dL_law_3232 : decode cL_law 3232 = .ok (.iconst 1, 1) := fdg (k := 3216) (p := 16) hdk_3216 dLb_79.2.2.2.2.2.2.2.2.2.2.1
theorem dL_law_3233 : decode cL_law 3233 = .ok (.iadd, 1) := fdg (k := 3216) (p := 17) hdk_3216 dLb_79.2.2.2.2.2.2.2.2.2.2.2.1
theorem dL_law_3234 : decode cL_law 3234 = .ok (.iaload, 1) := fdg (k := 3216) (p := 18) hdk_3216 dLb_79.2.2.2.2.2.2.2.2.2.2.2.2.1
theorem dL_law_3235 : decode cL_law 3235 = .ok (.aload_n 3, 1) := fdg (k := 3216) (p := 19) hdk_3216 dLb_79.2.2.2.2.2.2.2.2.2.2.2.2.2.1
theorem dL_law_3236 : decode cL_law 3236 = .ok (.invokestatic 310, 3) := fdg (k := 3216) (p := 20) hdk_3216 dLb_79.2.2.2.2.2.2.2.2.2.2.2.2.2.2.1
theorem dL_law_3239 : decode cL_law 3239 = .ok (.istore 5, 2) := fdg (k := 3216) (p := 23) hdk_3216 dLb_79.2.2.2.2.2.2.2.2.2.2.2.2.2.2.2.1
theorem dL_law_3241 : decode cL_law 3241 = .ok (.aload_n 2, 1) := fdg (k := 3216) (p := 25) hdk_3216 dLb_79.2.2.2.2.2.2.2.2.2.2.2.2.2.2.2.2.1
theorem dL_law_3242 : decode cL_law 3242 = .ok (.aload_n 0, 1) := fdg (k := 3216) (p := 26) hdk_3216 dLb_79.2.2.2.2.2.2.2.2.2.2.2.2.2.2.2.2.2.1
theorem dL_law_3243 : decode cL_law 3243 = .ok (.iload 4, 2) := fdg (k := 3216) (p := 27) hdk_3216 dLb_79.2.2.2.2.2.2.2.2.2.2.2.2.2.2.2.2.2.2.1
theorem dL_law_3245 : decode cL_law 3245 = .ok (.iconst 1, 1) := fdg (k := 3216) (p := 29) hdk_3216 dLb_79.2.2.2.2.2.2.2.2.2.2.2.2.2.2.2.2.2.2.2.1
theorem dL_law_3246 : decode cL_law 3246 = .ok (.iadd, 1) := fdg (k := 3216) (p := 30) hdk_3216 dLb_79.2.2.2.2.2.2.2.2.2.2.2.2.2.2.2.2.2.2.2.2.1
theorem dL_law_3247 : decode cL_law 3247 = .ok (.iaload, 1) := fdg (k := 3216) (p := 31) hdk_3216 dLb_79.2.2.2.2.2.2.2.2.2.2.2.2.2.2.2.2.2.2.2.2.2.1
theorem dL_law_3248 : decode cL_law 3248 = .ok (.invokevirtual 312, 3) := fdg (k := 3216) (p := 32) hdk_3216 dLb_79.2.2.2.2.2.2.2.2.2.2.2.2.2.2.2.2.2.2.2.2.2.2.1
theorem dL_law_3251 : decode cL_law 3251 = .ok (.istore 6, 2) := fdg (k := 3216) (p := 35) hdk_3216 dLb_79.2.2.2.2.2.2.2.2.2.2.2.2.2.2.2.2.2.2.2.2.2.2.2.1
theorem dL_law_3253 : decode cL_law 3253 = .ok (.aload_n 2, 1) := fdg (k := 3216) (p := 37) hdk_3216 dLb_79.2.2.2.2.2.2.2.2.2.2.2.2.2.2.2.2.2.2.2.2.2.2.2.2.1
theorem dL_law_3254 : decode cL_law 3254 = .ok (.invokevirtual 170, 3) := fdg (k := 3216) (p := 38) hdk_3216 dLb_79.2.2.2.2.2.2.2.2.2.2.2.2.2.2.2.2.2.2.2.2.2.2.2.2.2.1
theorem dL_law_3257 : decode cL_law 3257 = .ok (.iload 5, 2) := fdg (k := 3216) (p := 41) hdk_3216 dLb_79.2.2.2.2.2.2.2.2.2.2.2.2.2.2.2.2.2.2.2.2.2.2.2.2.2.2.1
theorem dL_law_3259 : decode cL_law 3259 = .ok (.if_icmp .eq 5, 3) := fdg (k := 3216) (p := 43) hdk_3216 dLb_79.2.2.2.2.2.2.2.2.2.2.2.2.2.2.2.2.2.2.2.2.2.2.2.2.2.2.2.1
theorem dL_law_3262 : decode cL_law 3262 = .ok (.iconst 0, 1) := fdg (k := 3216) (p := 46) hdk_3216 dLb_79.2.2.2.2.2.2.2.2.2.2.2.2.2.2.2.2.2.2.2.2.2.2.2.2.2.2.2.2.1
theorem dL_law_3263 : decode cL_law 3263 = .ok (.ireturn, 1) := fdg (k := 3216) (p := 47) hdk_3216 dLb_79.2.2.2.2.2.2.2.2.2.2.2.2.2.2.2.2.2.2.2.2.2.2.2.2.2.2.2.2.2
theorem dLb_80 : fdq dk_3264 0 (.iload 5) 2 = true ∧ fdq dk_3264 2 (.ifCond .ne 16) 3 = true ∧ fdq dk_3264 5 (.aload_n 3) 1 = true ∧ fdq dk_3264 6 (.getfield 13) 3 = true ∧ fdq dk_3264 9 (.iload 6) 2 = true ∧ fdq dk_3264 11 (.i2l) 1 = true ∧ fdq dk_3264 12 (.lcmp) 1 = true ∧ fdq dk_3264 13 (.ifCond .eq 5) 3 = true ∧ fdq dk_3264 16 (.iconst 0) 1 = true ∧ fdq dk_3264 17 (.ireturn) 1 = true ∧ fdq dk_3264 18 (.goto 30) 3 = true ∧ fdq dk_3264 21 (.aload_n 1) 1 = true ∧ fdq dk_3264 22 (.invokevirtual 313) 3 = true ∧ fdq dk_3264 25 (.aload_n 2) 1 = true ∧ fdq dk_3264 26 (.invokevirtual 317) 3 = true ∧ fdq dk_3264 29 (.if_icmp .eq 19) 3 = true ∧ fdq dk_3264 32 (.iconst 0) 1 = true ∧ fdq dk_3264 33 (.ireturn) 1 = true ∧ fdq dk_3264 34 (.aload_n 1) 1 = true ∧ fdq dk_3264 35 (.invokevirtual 318) 3 = true ∧ fdq dk_3264 38 (.aload_n 2) 1 = true ∧ fdq dk_3264 39 (.invokevirtual 322) 3 = true ∧ fdq dk_3264 42 (.lcmp) 1 = true ∧ fdq dk_3264 43 (.ifCond .eq 5) 3 = true ∧ fdq dk_3264 46 (.iconst 0) 1 = true ∧ fdq dk_3264 47 (.ireturn) 1 = true := by decide +kernel
theorem dL_law_3264 : decode cL_law 3264 = .ok (.iload 5, 2) := fdg (k := 3264) (p := 0) hdk_3264 dLb_80.1
theorem dL_law_3266 : decode cL_law 3266 = .ok (.ifCond .ne 16, 3) := fdg (k := 3264) (p := 2) hdk_3264 dLb_80.2.1
theorem dL_law_3269 : decode cL_law 3269 = .ok (.aload_n 3, 1) := fdg (k := 3264) (p := 5) hdk_3264 dLb_80.2.2.1
theorem dL_law_3270 : decode cL_law 3270 = .ok (.getfield 13, 3) := fdg (k := 3264) (p := 6) hdk_3264 dLb_80.2.2.2.1
theorem dL_law_3273 : decode cL_law 3273 = .ok (.iload 6, 2) := fdg (k := 3264) (p := 9) hdk_3264 dLb_80.2.2.2.2.1
theorem dL_law_3275 : decode cL_law 3275 = .ok (.i2l, 1) := fdg (k := 3264) (p := 11) hdk_3264 dLb_80.2.2.2.2.2.1
theorem dL_law_3276 : decode cL_law 3276 = .ok (.lcmp, 1) := fdg (k := 3264) (p := 12) hdk_3264 dLb_80.2.2.2.2.2.2.1
theorem dL_law_3277 : decode cL_law 3277 = .ok (.ifCond .eq 5, 3) := fdg (k := 3264) (p := 13) hdk_3264 dLb_80.2.2.2.2.2.2.2.1
theorem dL_law_3280 : decode cL_law 3280 = .ok (.iconst 0, 1) := fdg (k := 3264) (p := 16) hdk_3264 dLb_80.2.2.2.2.2.2.2.2.1
theorem dL_law_3281 : decode cL_law 3281 = .ok (.ireturn, 1) := fdg (k := 3264) (p := 17) hdk_3264 dLb_80.2.2.2.2.2.2.2.2.2.1
theorem dL_law_3282 : decode cL_law 3282 = .ok (.goto 30, 3) := fdg (k := 3264) (p := 18) hdk_3264 dLb_80.2.2.2.2.2.2.2.2.2.2.1
theorem dL_law_3285 : decode cL_law 3285 = .ok (.aload_n 1, 1) := fdg (k := 3264) (p := 21) hdk_3264 dLb_80.2.2.2.2.2.2.2.2.2.2.2.1
theorem dL_law_3286 : decode cL_law 3286 = .ok (.invokevirtual 313, 3) := fdg (k := 3264) (p := 22) hdk_3264 dLb_80.2.2.2.2.2.2.2.2.2.2.2.2.1
theorem dL_law_3289 : decode cL_law 3289 = .ok (.aload_n 2, 1) := fdg (k := 3264) (p := 25) hdk_3264 dLb_80.2.2.2.2.2.2.2.2.2.2.2.2.2.1
theorem dL_law_3290 : decode cL_law 3290 = .ok (.invokevirtual 317, 3) := fdg (k := 3264) (p := 26) hdk_3264 dLb_80.2.2.2.2.2.2.2.2.2.2.2.2.2.2.1
theorem dL_law_3293 : decode cL_law 3293 = .ok (.if_icmp .eq 19, 3) := fdg (k := 3264) (p := 29) hdk_3264 dLb_80.2.2.2.2.2.2.2.2.2.2.2.2.2.2.2.1
theorem dL_law_3296 : decode cL_law 3296 = .ok (.iconst 0, 1) := fdg (k := 3264) (p := 32) hdk_3264 dLb_80.2.2.2.2.2.2.2.2.2.2.2.2.2.2.2.2.1
theorem dL_law_3297 : decode cL_law 3297 = .ok (.ireturn, 1) := fdg (k := 3264) (p := 33) hdk_3264 dLb_80.2.2.2.2.2.2.2.2.2.2.2.2.2.2.2.2.2.1
theorem dL_law_3298 : decode cL_law 3298 = .ok (.aload_n 1, 1) := fdg (k := 3264) (p := 34) hdk_3264 dLb_80.2.2.2.2.2.2.2.2.2.2.2.2.2.2.2.2.2.2.1
theorem dL_law_3299 : decode cL_law 3299 = .ok (.invokevirtual 318, 3) := fdg (k := 3264) (p := 35) hdk_3264 dLb_80.2.2.2.2.2.2.2.2.2.2.2.2.2.2.2.2.2.2.2.1
theorem dL_law_3302 : decode cL_law 3302 = .ok (.aload_n 2, 1) := fdg (k := 3264) (p := 38) hdk_3264 dLb_80.2.2.2.2.2.2.2.2.2.2.2.2.2.2.2.2.2.2.2.2.1
theorem dL_law_3303 : decode cL_law 3303 = .ok (.invokevirtual 322, 3) := fdg (k := 3264) (p := 39) hdk_3264 dLb_80.2.2.2.2.2.2.2.2.2.2.2.2.2.2.2.2.2.2.2.2.2.1
theorem dL_law_3306 : decode cL_law 3306 = .ok (.lcmp, 1) := fdg (k := 3264) (p := 42) hdk_3264 dLb_80.2.2.2.2.2.2.2.2.2.2.2.2.2.2.2.2.2.2.2.2.2.2.1
theorem dL_law_3307 : decode cL_law 3307 = .ok (.ifCond .eq 5, 3) := fdg (k := 3264) (p := 43) hdk_3264 dLb_80.2.2.2.2.2.2.2.2.2.2.2.2.2.2.2.2.2.2.2.2.2.2.2.1
theorem dL_law_3310 : decode cL_law 3310 = .ok (.iconst 0, 1) := fdg (k := 3264) (p := 46) hdk_3264 dLb_80.2.2.2.2.2.2.2.2.2.2.2.2.2.2.2.2.2.2.2.2.2.2.2.2.1
theorem dL_law_3311 : decode cL_law 3311 = .ok (.ireturn, 1) := fdg (k := 3264) (p := 47) hdk_3264 dLb_80.2.2.2.2.2.2.2.2.2.2.2.2.2.2.2.2.2.2.2.2.2.2.2.2.2
theorem dLb_81 : fdq dk_3312 0 (.iinc 4 6) 3 = true ∧ fdq dk_3312 3 (.goto (-3288)) 3 = true ∧ fdq dk_3312 6 (.iconst 1) 1 = true ∧ fdq dk_3312 7 (.ireturn) 1 = true := by decide +kernel
theorem dL_law_3312 : decode cL_law 3312 = .ok (.iinc 4 6, 3) := fdg (k := 3312) (p := 0) hdk_3312 dLb_81.1
theorem dL_law_3315 : decode cL_law 3315 = .ok (.goto (-3288), 3) := fdg (k := 3312) (p := 3) hdk_3312 dLb_81.2.1
theorem dL_law_3318 : decode cL_law 3318 = .ok (.iconst 1, 1) := fdg (k := 3312) (p := 6) hdk_3312 dLb_81.2.2.1
theorem dL_law_3319 : decode cL_law 3319 = .ok (.ireturn, 1) := fdg (k := 3312) (p := 7) hdk_3312 dLb_81.2.2.2
theorem dL_law_44 : decode cL_law 44 = .ok (.tableswitch 3268 0 44 #[196, 265, 346, 415, 508, 589, 658, 715, 779, 837, 895, 964, 1033, 1109, 1178, 1254, 1330, 1399, 1475, 1532, 1642, 1699, 1820, 1901, 1982, 2051, 2136, 2193, 2262, 2343, 2412, 2493, 2562, 2631, 2700, 2769, 2838, 2919, 2976, 3057, 3070, 3127, 3184, 3241, 3254], 196) := by decide +kernel

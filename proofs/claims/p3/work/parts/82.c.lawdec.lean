def dlq (b : ByteArray) (p : Nat) (r : Jvm.ClassFile.Instr × Nat) : Bool := decide (decode b p = .ok r) && dlop b p
theorem dl_finq {k : Nat} {a b : ByteArray} (hS : dlS k a b) {p i n} (h : dlq b p (i, n) = true) : decode a (k + p) = .ok (i, n) :=
  dl_fin hS (by unfold dlq at h; rw [Bool.and_eq_true, decide_eq_true_eq] at h; exact h)
theorem dl_size : cL_law.size = 2092 := by decide +kernel
def dk_0 : ByteArray := dlk cL_law 0 140
theorem hdk_0 : dlS 0 cL_law dk_0 := dl_S cL_law 0 140 (Nat.le_trans (by decide : 0 ≤ 2092) (Nat.le_of_eq dl_size.symm))
def dk_128 : ByteArray := dlk cL_law 128 140
theorem hdk_128 : dlS 128 cL_law dk_128 := dl_S cL_law 128 140 (Nat.le_trans (by decide : 128 ≤ 2092) (Nat.le_of_eq dl_size.symm))
def dk_256 : ByteArray := dlk cL_law 256 140
theorem hdk_256 : dlS 256 cL_law dk_256 := dl_S cL_law 256 140 (Nat.le_trans (by decide : 256 ≤ 2092) (Nat.le_of_eq dl_size.symm))
def dk_384 : ByteArray := dlk cL_law 384 140
theorem hdk_384 : dlS 384 cL_law dk_384 := dl_S cL_law 384 140 (Nat.le_trans (by decide : 384 ≤ 2092) (Nat.le_of_eq dl_size.symm))
def dk_512 : ByteArray := dlk cL_law 512 140
theorem hdk_512 : dlS 512 cL_law dk_512 := dl_S cL_law 512 140 (Nat.le_trans (by decide : 512 ≤ 2092) (Nat.le_of_eq dl_size.symm))
def dk_640 : ByteArray := dlk cL_law 640 140
theorem hdk_640 : dlS 640 cL_law dk_640 := dl_S cL_law 640 140 (Nat.le_trans (by decide : 640 ≤ 2092) (Nat.le_of_eq dl_size.symm))
def dk_768 : ByteArray := dlk cL_law 768 140
theorem hdk_768 : dlS 768 cL_law dk_768 := dl_S cL_law 768 140 (Nat.le_trans (by decide : 768 ≤ 2092) (Nat.le_of_eq dl_size.symm))
def dk_896 : ByteArray := dlk cL_law 896 140
theorem hdk_896 : dlS 896 cL_law dk_896 := dl_S cL_law 896 140 (Nat.le_trans (by decide : 896 ≤ 2092) (Nat.le_of_eq dl_size.symm))
def dk_1024 : ByteArray := dlk cL_law 1024 140
theorem hdk_1024 : dlS 1024 cL_law dk_1024 := dl_S cL_law 1024 140 (Nat.le_trans (by decide : 1024 ≤ 2092) (Nat.le_of_eq dl_size.symm))
def dk_1152 : ByteArray := dlk cL_law 1152 140
theorem hdk_1152 : dlS 1152 cL_law dk_1152 := dl_S cL_law 1152 140 (Nat.le_trans (by decide : 1152 ≤ 2092) (Nat.le_of_eq dl_size.symm))
def dk_1280 : ByteArray := dlk cL_law 1280 140
theorem hdk_1280 : dlS 1280 cL_law dk_1280 := dl_S cL_law 1280 140 (Nat.le_trans (by decide : 1280 ≤ 2092) (Nat.le_of_eq dl_size.symm))
def dk_1408 : ByteArray := dlk cL_law 1408 140
theorem hdk_1408 : dlS 1408 cL_law dk_1408 := dl_S cL_law 1408 140 (Nat.le_trans (by decide : 1408 ≤ 2092) (Nat.le_of_eq dl_size.symm))
def dk_1536 : ByteArray := dlk cL_law 1536 140
theorem hdk_1536 : dlS 1536 cL_law dk_1536 := dl_S cL_law 1536 140 (Nat.le_trans (by decide : 1536 ≤ 2092) (Nat.le_of_eq dl_size.symm))
def dk_1664 : ByteArray := dlk cL_law 1664 140
theorem hdk_1664 : dlS 1664 cL_law dk_1664 := dl_S cL_law 1664 140 (Nat.le_trans (by decide : 1664 ≤ 2092) (Nat.le_of_eq dl_size.symm))
def dk_1792 : ByteArray := dlk cL_law 1792 140
theorem hdk_1792 : dlS 1792 cL_law dk_1792 := dl_S cL_law 1792 140 (Nat.le_trans (by decide : 1792 ≤ 2092) (Nat.le_of_eq dl_size.symm))
def dk_1920 : ByteArray := dlk cL_law 1920 140
theorem hdk_1920 : dlS 1920 cL_law dk_1920 := dl_S cL_law 1920 140 (Nat.le_trans (by decide : 1920 ≤ 2092) (Nat.le_of_eq dl_size.symm))
def dk_2048 : ByteArray := dlk cL_law 2048 140
theorem hdk_2048 : dlS 2048 cL_law dk_2048 := dl_S cL_law 2048 140 (Nat.le_trans (by decide : 2048 ≤ 2092) (Nat.le_of_eq dl_size.symm))
theorem dLb_0 : dlq dk_0 0 (.new 8, 3) = true ∧ dlq dk_0 3 (.dup, 1) = true ∧ dlq dk_0 4 (.invokespecial 159, 3) = true ∧ dlq dk_0 7 (.astore_n 1, 1) = true ∧ dlq dk_0 8 (.new 160, 3) = true ∧ dlq dk_0 11 (.dup, 1) = true ∧ dlq dk_0 12 (.invokespecial 162, 3) = true ∧ dlq dk_0 15 (.astore_n 2, 1) = true ∧ dlq dk_0 16 (.new 14, 3) = true ∧ dlq dk_0 19 (.dup, 1) = true ∧ dlq dk_0 20 (.invokespecial 163, 3) = true ∧ dlq dk_0 23 (.astore_n 3, 1) = true ∧ dlq dk_0 24 (.iconst 0, 1) = true ∧ dlq dk_0 25 (.istore 4, 2) = true ∧ dlq dk_0 27 (.iload 4, 2) = true ∧ dlq dk_0 29 (.aload_n 0, 1) = true := by decide +kernel
theorem dL_law_0 : decode cL_law 0 = .ok (.new 8, 3) := dl_finq (k := 0) (p := 0) hdk_0 dLb_0.1
theorem dL_law_3 : decode cL_law 3 = .ok (.dup, 1) := dl_finq (k := 0) (p := 3) hdk_0 dLb_0.2.1
theorem dL_law_4 : decode cL_law 4 = .ok (.invokespecial 159, 3) := dl_finq (k := 0) (p := 4) hdk_0 dLb_0.2.2.1
theorem dL_law_7 : decode cL_law 7 = .ok (.astore_n 1, 1) := dl_finq (k := 0) (p := 7) hdk_0 dLb_0.2.2.2.1
theorem dL_law_8 : decode cL_law 8 = .ok (.new 160, 3) := dl_finq (k := 0) (p := 8) hdk_0 dLb_0.2.2.2.2.1
theorem dL_law_11 : decode cL_law 11 = .ok (.dup, 1) := dl_finq (k := 0) (p := 11) hdk_0 dLb_0.2.2.2.2.2.1
theorem dL_law_12 : decode cL_law 12 = .ok (.invokespecial 162, 3) := dl_finq (k := 0) (p := 12) hdk_0 dLb_0.2.2.2.2.2.2.1
theorem dL_law_15 : decode cL_law 15 = .ok (.astore_n 2, 1) := dl_finq (k := 0) (p := 15) hdk_0 dLb_0.2.2.2.2.2.2.2.1
theorem dL_law_16 : decode cL_law 16 = .ok (.new 14, 3) := dl_finq (k := 0) (p := 16) hdk_0 dLb_0.2.2.2.2.2.2.2.2.1
theorem dL_law_19 : decode cL_law 19 = .ok (.dup, 1) := dl_finq (k := 0) (p := 19) hdk_0 dLb_0.2.2.2.2.2.2.2.2.2.1
theorem dL_law_20 : decode cL_law 20 = .ok (.invokespecial 163, 3) := dl_finq (k := 0) (p := 20) hdk_0 dLb_0.2.2.2.2.2.2.2.2.2.2.1
theorem dL_law_23 : decode cL_law 23 = .ok (.astore_n 3, 1) := dl_finq (k := 0) (p := 23) hdk_0 dLb_0.2.2.2.2.2.2.2.2.2.2.2.1
theorem dL_law_24 : decode cL_law 24 = .ok (.iconst 0, 1) := dl_finq (k := 0) (p := 24) hdk_0 dLb_0.2.2.2.2.2.2.2.2.2.2.2.2.1
theorem dL_law_25 : decode cL_law 25 = .ok (.istore 4, 2) := dl_finq (k := 0) (p := 25) hdk_0 dLb_0.2.2.2.2.2.2.2.2.2.2.2.2.2.1
theorem dL_law_27 : decode cL_law 27 = .ok (.iload 4, 2) := dl_finq (k := 0) (p := 27) hdk_0 dLb_0.2.2.2.2.2.2.2.2.2.2.2.2.2.2.1
theorem dL_law_29 : decode cL_law 29 = .ok (.aload_n 0, 1) := dl_finq (k := 0) (p := 29) hdk_0 dLb_0.2.2.2.2.2.2.2.2.2.2.2.2.2.2.2
theorem dLb_1 : dlq dk_0 30 (.arraylength, 1) = true ∧ dlq dk_0 31 (.bipush 6, 2) = true ∧ dlq dk_0 33 (.isub, 1) = true ∧ dlq dk_0 34 (.if_icmp .gt 2056, 3) = true ∧ dlq dk_0 37 (.aload_n 0, 1) = true ∧ dlq dk_0 38 (.iload 4, 2) = true ∧ dlq dk_0 40 (.iaload, 1) = true ∧ dlq dk_0 41 (.bipush 63, 2) = true ∧ dlq dk_0 43 (.iand, 1) = true := by decide +kernel
theorem dL_law_30 : decode cL_law 30 = .ok (.arraylength, 1) := dl_finq (k := 0) (p := 30) hdk_0 dLb_1.1
theorem dL_law_31 : decode cL_law 31 = .ok (.bipush 6, 2) := dl_finq (k := 0) (p := 31) hdk_0 dLb_1.2.1
theorem dL_law_33 : decode cL_law 33 = .ok (.isub, 1) := dl_finq (k := 0) (p := 33) hdk_0 dLb_1.2.2.1
theorem dL_law_34 : decode cL_law 34 = .ok (.if_icmp .gt 2056, 3) := dl_finq (k := 0) (p := 34) hdk_0 dLb_1.2.2.2.1
theorem dL_law_37 : decode cL_law 37 = .ok (.aload_n 0, 1) := dl_finq (k := 0) (p := 37) hdk_0 dLb_1.2.2.2.2.1
theorem dL_law_38 : decode cL_law 38 = .ok (.iload 4, 2) := dl_finq (k := 0) (p := 38) hdk_0 dLb_1.2.2.2.2.2.1
theorem dL_law_40 : decode cL_law 40 = .ok (.iaload, 1) := dl_finq (k := 0) (p := 40) hdk_0 dLb_1.2.2.2.2.2.2.1
theorem dL_law_41 : decode cL_law 41 = .ok (.bipush 63, 2) := dl_finq (k := 0) (p := 41) hdk_0 dLb_1.2.2.2.2.2.2.2.1
theorem dL_law_43 : decode cL_law 43 = .ok (.iand, 1) := dl_finq (k := 0) (p := 43) hdk_0 dLb_1.2.2.2.2.2.2.2.2
theorem dLb_2 : dlq dk_128 112 (.aload_n 1, 1) = true ∧ dlq dk_128 113 (.aload_n 0, 1) = true ∧ dlq dk_128 114 (.iload 4, 2) = true ∧ dlq dk_128 116 (.iconst 1, 1) = true ∧ dlq dk_128 117 (.iadd, 1) = true ∧ dlq dk_128 118 (.iaload, 1) = true ∧ dlq dk_128 119 (.aload_n 0, 1) = true ∧ dlq dk_128 120 (.iload 4, 2) = true ∧ dlq dk_128 122 (.iconst 2, 1) = true ∧ dlq dk_128 123 (.iadd, 1) = true ∧ dlq dk_128 124 (.iaload, 1) = true ∧ dlq dk_128 125 (.aload_n 3, 1) = true ∧ dlq dk_128 126 (.invokestatic 164, 3) = true := by decide +kernel
theorem dL_law_240 : decode cL_law 240 = .ok (.aload_n 1, 1) := dl_finq (k := 128) (p := 112) hdk_128 dLb_2.1
theorem dL_law_241 : decode cL_law 241 = .ok (.aload_n 0, 1) := dl_finq (k := 128) (p := 113) hdk_128 dLb_2.2.1
theorem dL_law_242 : decode cL_law 242 = .ok (.iload 4, 2) := dl_finq (k := 128) (p := 114) hdk_128 dLb_2.2.2.1
theorem dL_law_244 : decode cL_law 244 = .ok (.iconst 1, 1) := dl_finq (k := 128) (p := 116) hdk_128 dLb_2.2.2.2.1
theorem dL_law_245 : decode cL_law 245 = .ok (.iadd, 1) := dl_finq (k := 128) (p := 117) hdk_128 dLb_2.2.2.2.2.1
theorem dL_law_246 : decode cL_law 246 = .ok (.iaload, 1) := dl_finq (k := 128) (p := 118) hdk_128 dLb_2.2.2.2.2.2.1
theorem dL_law_247 : decode cL_law 247 = .ok (.aload_n 0, 1) := dl_finq (k := 128) (p := 119) hdk_128 dLb_2.2.2.2.2.2.2.1
theorem dL_law_248 : decode cL_law 248 = .ok (.iload 4, 2) := dl_finq (k := 128) (p := 120) hdk_128 dLb_2.2.2.2.2.2.2.2.1
theorem dL_law_250 : decode cL_law 250 = .ok (.iconst 2, 1) := dl_finq (k := 128) (p := 122) hdk_128 dLb_2.2.2.2.2.2.2.2.2.1
theorem dL_law_251 : decode cL_law 251 = .ok (.iadd, 1) := dl_finq (k := 128) (p := 123) hdk_128 dLb_2.2.2.2.2.2.2.2.2.2.1
theorem dL_law_252 : decode cL_law 252 = .ok (.iaload, 1) := dl_finq (k := 128) (p := 124) hdk_128 dLb_2.2.2.2.2.2.2.2.2.2.2.1
theorem dL_law_253 : decode cL_law 253 = .ok (.aload_n 3, 1) := dl_finq (k := 128) (p := 125) hdk_128 dLb_2.2.2.2.2.2.2.2.2.2.2.2.1
theorem dL_law_254 : decode cL_law 254 = .ok (.invokestatic 164, 3) := dl_finq (k := 128) (p := 126) hdk_128 dLb_2.2.2.2.2.2.2.2.2.2.2.2.2
theorem dLb_3 : dlq dk_256 1 (.istore 5, 2) = true ∧ dlq dk_256 3 (.aload_n 2, 1) = true ∧ dlq dk_256 4 (.aload_n 0, 1) = true ∧ dlq dk_256 5 (.iload 4, 2) = true ∧ dlq dk_256 7 (.iconst 1, 1) = true ∧ dlq dk_256 8 (.iadd, 1) = true ∧ dlq dk_256 9 (.iaload, 1) = true ∧ dlq dk_256 10 (.aload_n 0, 1) = true ∧ dlq dk_256 11 (.iload 4, 2) = true ∧ dlq dk_256 13 (.iconst 2, 1) = true ∧ dlq dk_256 14 (.iadd, 1) = true ∧ dlq dk_256 15 (.iaload, 1) = true ∧ dlq dk_256 16 (.invokevirtual 169, 3) = true ∧ dlq dk_256 19 (.istore 6, 2) = true ∧ dlq dk_256 21 (.goto 1807, 3) = true ∧ dlq dk_256 24 (.aload_n 1, 1) = true := by decide +kernel
theorem dL_law_257 : decode cL_law 257 = .ok (.istore 5, 2) := dl_finq (k := 256) (p := 1) hdk_256 dLb_3.1
theorem dL_law_259 : decode cL_law 259 = .ok (.aload_n 2, 1) := dl_finq (k := 256) (p := 3) hdk_256 dLb_3.2.1
theorem dL_law_260 : decode cL_law 260 = .ok (.aload_n 0, 1) := dl_finq (k := 256) (p := 4) hdk_256 dLb_3.2.2.1
theorem dL_law_261 : decode cL_law 261 = .ok (.iload 4, 2) := dl_finq (k := 256) (p := 5) hdk_256 dLb_3.2.2.2.1
theorem dL_law_263 : decode cL_law 263 = .ok (.iconst 1, 1) := dl_finq (k := 256) (p := 7) hdk_256 dLb_3.2.2.2.2.1
theorem dL_law_264 : decode cL_law 264 = .ok (.iadd, 1) := dl_finq (k := 256) (p := 8) hdk_256 dLb_3.2.2.2.2.2.1
theorem dL_law_265 : decode cL_law 265 = .ok (.iaload, 1) := dl_finq (k := 256) (p := 9) hdk_256 dLb_3.2.2.2.2.2.2.1
theorem dL_law_266 : decode cL_law 266 = .ok (.aload_n 0, 1) := dl_finq (k := 256) (p := 10) hdk_256 dLb_3.2.2.2.2.2.2.2.1
theorem dL_law_267 : decode cL_law 267 = .ok (.iload 4, 2) := dl_finq (k := 256) (p := 11) hdk_256 dLb_3.2.2.2.2.2.2.2.2.1
theorem dL_law_269 : decode cL_law 269 = .ok (.iconst 2, 1) := dl_finq (k := 256) (p := 13) hdk_256 dLb_3.2.2.2.2.2.2.2.2.2.1
theorem dL_law_270 : decode cL_law 270 = .ok (.iadd, 1) := dl_finq (k := 256) (p := 14) hdk_256 dLb_3.2.2.2.2.2.2.2.2.2.2.1
theorem dL_law_271 : decode cL_law 271 = .ok (.iaload, 1) := dl_finq (k := 256) (p := 15) hdk_256 dLb_3.2.2.2.2.2.2.2.2.2.2.2.1
theorem dL_law_272 : decode cL_law 272 = .ok (.invokevirtual 169, 3) := dl_finq (k := 256) (p := 16) hdk_256 dLb_3.2.2.2.2.2.2.2.2.2.2.2.2.1
theorem dL_law_275 : decode cL_law 275 = .ok (.istore 6, 2) := dl_finq (k := 256) (p := 19) hdk_256 dLb_3.2.2.2.2.2.2.2.2.2.2.2.2.2.1
theorem dL_law_277 : decode cL_law 277 = .ok (.goto 1807, 3) := dl_finq (k := 256) (p := 21) hdk_256 dLb_3.2.2.2.2.2.2.2.2.2.2.2.2.2.2.1
theorem dL_law_280 : decode cL_law 280 = .ok (.aload_n 1, 1) := dl_finq (k := 256) (p := 24) hdk_256 dLb_3.2.2.2.2.2.2.2.2.2.2.2.2.2.2.2
theorem dLb_4 : dlq dk_256 25 (.aload_n 0, 1) = true ∧ dlq dk_256 26 (.iload 4, 2) = true ∧ dlq dk_256 28 (.iconst 1, 1) = true ∧ dlq dk_256 29 (.iadd, 1) = true ∧ dlq dk_256 30 (.iaload, 1) = true ∧ dlq dk_256 31 (.aload_n 0, 1) = true ∧ dlq dk_256 32 (.iload 4, 2) = true ∧ dlq dk_256 34 (.iconst 2, 1) = true ∧ dlq dk_256 35 (.iadd, 1) = true ∧ dlq dk_256 36 (.iaload, 1) = true ∧ dlq dk_256 37 (.aload_n 0, 1) = true ∧ dlq dk_256 38 (.iload 4, 2) = true ∧ dlq dk_256 40 (.iconst 3, 1) = true ∧ dlq dk_256 41 (.iadd, 1) = true ∧ dlq dk_256 42 (.iaload, 1) = true ∧ dlq dk_256 43 (.aload_n 3, 1) = true := by decide +kernel
theorem dL_law_281 : decode cL_law 281 = .ok (.aload_n 0, 1) := dl_finq (k := 256) (p := 25) hdk_256 dLb_4.1
theorem dL_law_282 : decode cL_law 282 = .ok (.iload 4, 2) := dl_finq (k := 256) (p := 26) hdk_256 dLb_4.2.1
theorem dL_law_284 : decode cL_law 284 = .ok (.iconst 1, 1) := dl_finq (k := 256) (p := 28) hdk_256 dLb_4.2.2.1
theorem dL_law_285 : decode cL_law 285 = .ok (.iadd, 1) := dl_finq (k := 256) (p := 29) hdk_256 dLb_4.2.2.2.1
theorem dL_law_286 : decode cL_law 286 = .ok (.iaload, 1) := dl_finq (k := 256) (p := 30) hdk_256 dLb_4.2.2.2.2.1
theorem dL_law_287 : decode cL_law 287 = .ok (.aload_n 0, 1) := dl_finq (k := 256) (p := 31) hdk_256 dLb_4.2.2.2.2.2.1
theorem dL_law_288 : decode cL_law 288 = .ok (.iload 4, 2) := dl_finq (k := 256) (p := 32) hdk_256 dLb_4.2.2.2.2.2.2.1
theorem dL_law_290 : decode cL_law 290 = .ok (.iconst 2, 1) := dl_finq (k := 256) (p := 34) hdk_256 dLb_4.2.2.2.2.2.2.2.1
theorem dL_law_291 : decode cL_law 291 = .ok (.iadd, 1) := dl_finq (k := 256) (p := 35) hdk_256 dLb_4.2.2.2.2.2.2.2.2.1
theorem dL_law_292 : decode cL_law 292 = .ok (.iaload, 1) := dl_finq (k := 256) (p := 36) hdk_256 dLb_4.2.2.2.2.2.2.2.2.2.1
theorem dL_law_293 : decode cL_law 293 = .ok (.aload_n 0, 1) := dl_finq (k := 256) (p := 37) hdk_256 dLb_4.2.2.2.2.2.2.2.2.2.2.1
theorem dL_law_294 : decode cL_law 294 = .ok (.iload 4, 2) := dl_finq (k := 256) (p := 38) hdk_256 dLb_4.2.2.2.2.2.2.2.2.2.2.2.1
theorem dL_law_296 : decode cL_law 296 = .ok (.iconst 3, 1) := dl_finq (k := 256) (p := 40) hdk_256 dLb_4.2.2.2.2.2.2.2.2.2.2.2.2.1
theorem dL_law_297 : decode cL_law 297 = .ok (.iadd, 1) := dl_finq (k := 256) (p := 41) hdk_256 dLb_4.2.2.2.2.2.2.2.2.2.2.2.2.2.1
theorem dL_law_298 : decode cL_law 298 = .ok (.iaload, 1) := dl_finq (k := 256) (p := 42) hdk_256 dLb_4.2.2.2.2.2.2.2.2.2.2.2.2.2.2.1
theorem dL_law_299 : decode cL_law 299 = .ok (.aload_n 3, 1) := dl_finq (k := 256) (p := 43) hdk_256 dLb_4.2.2.2.2.2.2.2.2.2.2.2.2.2.2.2
theorem dLb_5 : dlq dk_256 44 (.invokestatic 170, 3) = true ∧ dlq dk_256 47 (.istore 5, 2) = true ∧ dlq dk_256 49 (.aload_n 2, 1) = true ∧ dlq dk_256 50 (.aload_n 0, 1) = true ∧ dlq dk_256 51 (.iload 4, 2) = true ∧ dlq dk_256 53 (.iconst 1, 1) = true ∧ dlq dk_256 54 (.iadd, 1) = true ∧ dlq dk_256 55 (.iaload, 1) = true ∧ dlq dk_256 56 (.aload_n 0, 1) = true ∧ dlq dk_256 57 (.iload 4, 2) = true ∧ dlq dk_256 59 (.iconst 2, 1) = true ∧ dlq dk_256 60 (.iadd, 1) = true ∧ dlq dk_256 61 (.iaload, 1) = true ∧ dlq dk_256 62 (.aload_n 0, 1) = true ∧ dlq dk_256 63 (.iload 4, 2) = true ∧ dlq dk_256 65 (.iconst 3, 1) = true := by decide +kernel
theorem dL_law_300 : decode cL_law 300 = .ok (.invokestatic 170, 3) := dl_finq (k := 256) (p := 44) hdk_256 dLb_5.1
theorem dL_law_303 : decode cL_law 303 = .ok (.istore 5, 2) := dl_finq (k := 256) (p := 47) hdk_256 dLb_5.2.1
theorem dL_law_305 : decode cL_law 305 = .ok (.aload_n 2, 1) := dl_finq (k := 256) (p := 49) hdk_256 dLb_5.2.2.1
theorem dL_law_306 : decode cL_law 306 = .ok (.aload_n 0, 1) := dl_finq (k := 256) (p := 50) hdk_256 dLb_5.2.2.2.1
theorem dL_law_307 : decode cL_law 307 = .ok (.iload 4, 2) := dl_finq (k := 256) (p := 51) hdk_256 dLb_5.2.2.2.2.1
theorem dL_law_309 : decode cL_law 309 = .ok (.iconst 1, 1) := dl_finq (k := 256) (p := 53) hdk_256 dLb_5.2.2.2.2.2.1
theorem dL_law_310 : decode cL_law 310 = .ok (.iadd, 1) := dl_finq (k := 256) (p := 54) hdk_256 dLb_5.2.2.2.2.2.2.1
theorem dL_law_311 : decode cL_law 311 = .ok (.iaload, 1) := dl_finq (k := 256) (p := 55) hdk_256 dLb_5.2.2.2.2.2.2.2.1
theorem dL_law_312 : decode cL_law 312 = .ok (.aload_n 0, 1) := dl_finq (k := 256) (p := 56) hdk_256 dLb_5.2.2.2.2.2.2.2.2.1
theorem dL_law_313 : decode cL_law 313 = .ok (.iload 4, 2) := dl_finq (k := 256) (p := 57) hdk_256 dLb_5.2.2.2.2.2.2.2.2.2.1
theorem dL_law_315 : decode cL_law 315 = .ok (.iconst 2, 1) := dl_finq (k := 256) (p := 59) hdk_256 dLb_5.2.2.2.2.2.2.2.2.2.2.1
theorem dL_law_316 : decode cL_law 316 = .ok (.iadd, 1) := dl_finq (k := 256) (p := 60) hdk_256 dLb_5.2.2.2.2.2.2.2.2.2.2.2.1
theorem dL_law_317 : decode cL_law 317 = .ok (.iaload, 1) := dl_finq (k := 256) (p := 61) hdk_256 dLb_5.2.2.2.2.2.2.2.2.2.2.2.2.1
theorem dL_law_318 : decode cL_law 318 = .ok (.aload_n 0, 1) := dl_finq (k := 256) (p := 62) hdk_256 dLb_5.2.2.2.2.2.2.2.2.2.2.2.2.2.1
theorem dL_law_319 : decode cL_law 319 = .ok (.iload 4, 2) := dl_finq (k := 256) (p := 63) hdk_256 dLb_5.2.2.2.2.2.2.2.2.2.2.2.2.2.2.1
theorem dL_law_321 : decode cL_law 321 = .ok (.iconst 3, 1) := dl_finq (k := 256) (p := 65) hdk_256 dLb_5.2.2.2.2.2.2.2.2.2.2.2.2.2.2.2
theorem dLb_6 : dlq dk_256 66 (.iadd, 1) = true ∧ dlq dk_256 67 (.iaload, 1) = true ∧ dlq dk_256 68 (.invokevirtual 173, 3) = true ∧ dlq dk_256 71 (.istore 6, 2) = true ∧ dlq dk_256 73 (.aload_n 2, 1) = true ∧ dlq dk_256 74 (.invokevirtual 174, 3) = true ∧ dlq dk_256 77 (.iload 5, 2) = true ∧ dlq dk_256 79 (.if_icmp .eq 5, 3) = true ∧ dlq dk_256 82 (.iconst 0, 1) = true ∧ dlq dk_256 83 (.ireturn, 1) = true ∧ dlq dk_256 84 (.iload 5, 2) = true ∧ dlq dk_256 86 (.ifCond .ne 16, 3) = true ∧ dlq dk_256 89 (.aload_n 3, 1) = true ∧ dlq dk_256 90 (.getfield 13, 3) = true ∧ dlq dk_256 93 (.iload 6, 2) = true ∧ dlq dk_256 95 (.i2l, 1) = true := by decide +kernel
theorem dL_law_322 : decode cL_law 322 = .ok (.iadd, 1) := dl_finq (k := 256) (p := 66) hdk_256 dLb_6.1
theorem dL_law_323 : decode cL_law 323 = .ok (.iaload, 1) := dl_finq (k := 256) (p := 67) hdk_256 dLb_6.2.1
theorem dL_law_324 : decode cL_law 324 = .ok (.invokevirtual 173, 3) := dl_finq (k := 256) (p := 68) hdk_256 dLb_6.2.2.1
theorem dL_law_327 : decode cL_law 327 = .ok (.istore 6, 2) := dl_finq (k := 256) (p := 71) hdk_256 dLb_6.2.2.2.1
theorem dL_law_329 : decode cL_law 329 = .ok (.aload_n 2, 1) := dl_finq (k := 256) (p := 73) hdk_256 dLb_6.2.2.2.2.1
theorem dL_law_330 : decode cL_law 330 = .ok (.invokevirtual 174, 3) := dl_finq (k := 256) (p := 74) hdk_256 dLb_6.2.2.2.2.2.1
theorem dL_law_333 : decode cL_law 333 = .ok (.iload 5, 2) := dl_finq (k := 256) (p := 77) hdk_256 dLb_6.2.2.2.2.2.2.1
theorem dL_law_335 : decode cL_law 335 = .ok (.if_icmp .eq 5, 3) := dl_finq (k := 256) (p := 79) hdk_256 dLb_6.2.2.2.2.2.2.2.1
theorem dL_law_338 : decode cL_law 338 = .ok (.iconst 0, 1) := dl_finq (k := 256) (p := 82) hdk_256 dLb_6.2.2.2.2.2.2.2.2.1
theorem dL_law_339 : decode cL_law 339 = .ok (.ireturn, 1) := dl_finq (k := 256) (p := 83) hdk_256 dLb_6.2.2.2.2.2.2.2.2.2.1
theorem dL_law_340 : decode cL_law 340 = .ok (.iload 5, 2) := dl_finq (k := 256) (p := 84) hdk_256 dLb_6.2.2.2.2.2.2.2.2.2.2.1
theorem dL_law_342 : decode cL_law 342 = .ok (.ifCond .ne 16, 3) := dl_finq (k := 256) (p := 86) hdk_256 dLb_6.2.2.2.2.2.2.2.2.2.2.2.1
theorem dL_law_345 : decode cL_law 345 = .ok (.aload_n 3, 1) := dl_finq (k := 256) (p := 89) hdk_256 dLb_6.2.2.2.2.2.2.2.2.2.2.2.2.1
theorem dL_law_346 : decode cL_law 346 = .ok (.getfield 13, 3) := dl_finq (k := 256) (p := 90) hdk_256 dLb_6.2.2.2.2.2.2.2.2.2.2.2.2.2.1
theorem dL_law_349 : decode cL_law 349 = .ok (.iload 6, 2) := dl_finq (k := 256) (p := 93) hdk_256 dLb_6.2.2.2.2.2.2.2.2.2.2.2.2.2.2.1
theorem dL_law_351 : decode cL_law 351 = .ok (.i2l, 1) := dl_finq (k := 256) (p := 95) hdk_256 dLb_6.2.2.2.2.2.2.2.2.2.2.2.2.2.2.2
theorem dLb_7 : dlq dk_256 96 (.lcmp, 1) = true ∧ dlq dk_256 97 (.ifCond .eq 5, 3) = true ∧ dlq dk_256 100 (.iconst 0, 1) = true ∧ dlq dk_256 101 (.ireturn, 1) = true ∧ dlq dk_256 102 (.goto 1726, 3) = true ∧ dlq dk_256 105 (.aload_n 1, 1) = true ∧ dlq dk_256 106 (.aload_n 0, 1) = true ∧ dlq dk_256 107 (.iload 4, 2) = true ∧ dlq dk_256 109 (.iconst 1, 1) = true ∧ dlq dk_256 110 (.iadd, 1) = true ∧ dlq dk_256 111 (.iaload, 1) = true ∧ dlq dk_256 112 (.aload_n 0, 1) = true ∧ dlq dk_256 113 (.iload 4, 2) = true ∧ dlq dk_256 115 (.iconst 2, 1) = true ∧ dlq dk_256 116 (.iadd, 1) = true ∧ dlq dk_256 117 (.iaload, 1) = true := by decide +kernel
theorem dL_law_352 : decode cL_law 352 = .ok (.lcmp, 1) := dl_finq (k := 256) (p := 96) hdk_256 dLb_7.1
theorem dL_law_353 : decode cL_law 353 = .ok (.ifCond .eq 5, 3) := dl_finq (k := 256) (p := 97) hdk_256 dLb_7.2.1
theorem dL_law_356 : decode cL_law 356 = .ok (.iconst 0, 1) := dl_finq (k := 256) (p := 100) hdk_256 dLb_7.2.2.1
theorem dL_law_357 : decode cL_law 357 = .ok (.ireturn, 1) := dl_finq (k := 256) (p := 101) hdk_256 dLb_7.2.2.2.1
theorem dL_law_358 : decode cL_law 358 = .ok (.goto 1726, 3) := dl_finq (k := 256) (p := 102) hdk_256 dLb_7.2.2.2.2.1
theorem dL_law_361 : decode cL_law 361 = .ok (.aload_n 1, 1) := dl_finq (k := 256) (p := 105) hdk_256 dLb_7.2.2.2.2.2.1
theorem dL_law_362 : decode cL_law 362 = .ok (.aload_n 0, 1) := dl_finq (k := 256) (p := 106) hdk_256 dLb_7.2.2.2.2.2.2.1
theorem dL_law_363 : decode cL_law 363 = .ok (.iload 4, 2) := dl_finq (k := 256) (p := 107) hdk_256 dLb_7.2.2.2.2.2.2.2.1
theorem dL_law_365 : decode cL_law 365 = .ok (.iconst 1, 1) := dl_finq (k := 256) (p := 109) hdk_256 dLb_7.2.2.2.2.2.2.2.2.1
theorem dL_law_366 : decode cL_law 366 = .ok (.iadd, 1) := dl_finq (k := 256) (p := 110) hdk_256 dLb_7.2.2.2.2.2.2.2.2.2.1
theorem dL_law_367 : decode cL_law 367 = .ok (.iaload, 1) := dl_finq (k := 256) (p := 111) hdk_256 dLb_7.2.2.2.2.2.2.2.2.2.2.1
theorem dL_law_368 : decode cL_law 368 = .ok (.aload_n 0, 1) := dl_finq (k := 256) (p := 112) hdk_256 dLb_7.2.2.2.2.2.2.2.2.2.2.2.1
theorem dL_law_369 : decode cL_law 369 = .ok (.iload 4, 2) := dl_finq (k := 256) (p := 113) hdk_256 dLb_7.2.2.2.2.2.2.2.2.2.2.2.2.1
theorem dL_law_371 : decode cL_law 371 = .ok (.iconst 2, 1) := dl_finq (k := 256) (p := 115) hdk_256 dLb_7.2.2.2.2.2.2.2.2.2.2.2.2.2.1
theorem dL_law_372 : decode cL_law 372 = .ok (.iadd, 1) := dl_finq (k := 256) (p := 116) hdk_256 dLb_7.2.2.2.2.2.2.2.2.2.2.2.2.2.2.1
theorem dL_law_373 : decode cL_law 373 = .ok (.iaload, 1) := dl_finq (k := 256) (p := 117) hdk_256 dLb_7.2.2.2.2.2.2.2.2.2.2.2.2.2.2.2
theorem dLb_8 : dlq dk_256 118 (.aload_n 3, 1) = true ∧ dlq dk_256 119 (.invokestatic 178, 3) = true ∧ dlq dk_256 122 (.istore 5, 2) = true ∧ dlq dk_256 124 (.aload_n 2, 1) = true ∧ dlq dk_256 125 (.aload_n 0, 1) = true ∧ dlq dk_256 126 (.iload 4, 2) = true := by decide +kernel
theorem dL_law_374 : decode cL_law 374 = .ok (.aload_n 3, 1) := dl_finq (k := 256) (p := 118) hdk_256 dLb_8.1
theorem dL_law_375 : decode cL_law 375 = .ok (.invokestatic 178, 3) := dl_finq (k := 256) (p := 119) hdk_256 dLb_8.2.1
theorem dL_law_378 : decode cL_law 378 = .ok (.istore 5, 2) := dl_finq (k := 256) (p := 122) hdk_256 dLb_8.2.2.1
theorem dL_law_380 : decode cL_law 380 = .ok (.aload_n 2, 1) := dl_finq (k := 256) (p := 124) hdk_256 dLb_8.2.2.2.1
theorem dL_law_381 : decode cL_law 381 = .ok (.aload_n 0, 1) := dl_finq (k := 256) (p := 125) hdk_256 dLb_8.2.2.2.2.1
theorem dL_law_382 : decode cL_law 382 = .ok (.iload 4, 2) := dl_finq (k := 256) (p := 126) hdk_256 dLb_8.2.2.2.2.2
theorem dLb_9 : dlq dk_384 0 (.iconst 1, 1) = true ∧ dlq dk_384 1 (.iadd, 1) = true ∧ dlq dk_384 2 (.iaload, 1) = true ∧ dlq dk_384 3 (.aload_n 0, 1) = true ∧ dlq dk_384 4 (.iload 4, 2) = true ∧ dlq dk_384 6 (.iconst 2, 1) = true ∧ dlq dk_384 7 (.iadd, 1) = true ∧ dlq dk_384 8 (.iaload, 1) = true ∧ dlq dk_384 9 (.invokevirtual 180, 3) = true ∧ dlq dk_384 12 (.istore 6, 2) = true ∧ dlq dk_384 14 (.goto 1686, 3) = true ∧ dlq dk_384 17 (.aload_n 1, 1) = true ∧ dlq dk_384 18 (.aload_n 0, 1) = true ∧ dlq dk_384 19 (.iload 4, 2) = true ∧ dlq dk_384 21 (.iconst 1, 1) = true ∧ dlq dk_384 22 (.iadd, 1) = true := by decide +kernel
theorem dL_law_384 : decode cL_law 384 = .ok (.iconst 1, 1) := dl_finq (k := 384) (p := 0) hdk_384 dLb_9.1
theorem dL_law_385 : decode cL_law 385 = .ok (.iadd, 1) := dl_finq (k := 384) (p := 1) hdk_384 dLb_9.2.1
theorem dL_law_386 : decode cL_law 386 = .ok (.iaload, 1) := dl_finq (k := 384) (p := 2) hdk_384 dLb_9.2.2.1
theorem dL_law_387 : decode cL_law 387 = .ok (.aload_n 0, 1) := dl_finq (k := 384) (p := 3) hdk_384 dLb_9.2.2.2.1
theorem dL_law_388 : decode cL_law 388 = .ok (.iload 4, 2) := dl_finq (k := 384) (p := 4) hdk_384 dLb_9.2.2.2.2.1
theorem dL_law_390 : decode cL_law 390 = .ok (.iconst 2, 1) := dl_finq (k := 384) (p := 6) hdk_384 dLb_9.2.2.2.2.2.1
theorem dL_law_391 : decode cL_law 391 = .ok (.iadd, 1) := dl_finq (k := 384) (p := 7) hdk_384 dLb_9.2.2.2.2.2.2.1
theorem dL_law_392 : decode cL_law 392 = .ok (.iaload, 1) := dl_finq (k := 384) (p := 8) hdk_384 dLb_9.2.2.2.2.2.2.2.1
theorem dL_law_393 : decode cL_law 393 = .ok (.invokevirtual 180, 3) := dl_finq (k := 384) (p := 9) hdk_384 dLb_9.2.2.2.2.2.2.2.2.1
theorem dL_law_396 : decode cL_law 396 = .ok (.istore 6, 2) := dl_finq (k := 384) (p := 12) hdk_384 dLb_9.2.2.2.2.2.2.2.2.2.1
theorem dL_law_398 : decode cL_law 398 = .ok (.goto 1686, 3) := dl_finq (k := 384) (p := 14) hdk_384 dLb_9.2.2.2.2.2.2.2.2.2.2.1
theorem dL_law_401 : decode cL_law 401 = .ok (.aload_n 1, 1) := dl_finq (k := 384) (p := 17) hdk_384 dLb_9.2.2.2.2.2.2.2.2.2.2.2.1
theorem dL_law_402 : decode cL_law 402 = .ok (.aload_n 0, 1) := dl_finq (k := 384) (p := 18) hdk_384 dLb_9.2.2.2.2.2.2.2.2.2.2.2.2.1
theorem dL_law_403 : decode cL_law 403 = .ok (.iload 4, 2) := dl_finq (k := 384) (p := 19) hdk_384 dLb_9.2.2.2.2.2.2.2.2.2.2.2.2.2.1
theorem dL_law_405 : decode cL_law 405 = .ok (.iconst 1, 1) := dl_finq (k := 384) (p := 21) hdk_384 dLb_9.2.2.2.2.2.2.2.2.2.2.2.2.2.2.1
theorem dL_law_406 : decode cL_law 406 = .ok (.iadd, 1) := dl_finq (k := 384) (p := 22) hdk_384 dLb_9.2.2.2.2.2.2.2.2.2.2.2.2.2.2.2
theorem dLb_10 : dlq dk_384 23 (.iaload, 1) = true ∧ dlq dk_384 24 (.aload_n 0, 1) = true ∧ dlq dk_384 25 (.iload 4, 2) = true ∧ dlq dk_384 27 (.iconst 2, 1) = true ∧ dlq dk_384 28 (.iadd, 1) = true ∧ dlq dk_384 29 (.iaload, 1) = true ∧ dlq dk_384 30 (.aload_n 0, 1) = true ∧ dlq dk_384 31 (.iload 4, 2) = true ∧ dlq dk_384 33 (.iconst 3, 1) = true ∧ dlq dk_384 34 (.iadd, 1) = true ∧ dlq dk_384 35 (.iaload, 1) = true ∧ dlq dk_384 36 (.aload_n 0, 1) = true ∧ dlq dk_384 37 (.iload 4, 2) = true ∧ dlq dk_384 39 (.iconst 4, 1) = true ∧ dlq dk_384 40 (.iadd, 1) = true ∧ dlq dk_384 41 (.iaload, 1) = true := by decide +kernel
theorem dL_law_407 : decode cL_law 407 = .ok (.iaload, 1) := dl_finq (k := 384) (p := 23) hdk_384 dLb_10.1
theorem dL_law_408 : decode cL_law 408 = .ok (.aload_n 0, 1) := dl_finq (k := 384) (p := 24) hdk_384 dLb_10.2.1
theorem dL_law_409 : decode cL_law 409 = .ok (.iload 4, 2) := dl_finq (k := 384) (p := 25) hdk_384 dLb_10.2.2.1
theorem dL_law_411 : decode cL_law 411 = .ok (.iconst 2, 1) := dl_finq (k := 384) (p := 27) hdk_384 dLb_10.2.2.2.1
theorem dL_law_412 : decode cL_law 412 = .ok (.iadd, 1) := dl_finq (k := 384) (p := 28) hdk_384 dLb_10.2.2.2.2.1
theorem dL_law_413 : decode cL_law 413 = .ok (.iaload, 1) := dl_finq (k := 384) (p := 29) hdk_384 dLb_10.2.2.2.2.2.1
theorem dL_law_414 : decode cL_law 414 = .ok (.aload_n 0, 1) := dl_finq (k := 384) (p := 30) hdk_384 dLb_10.2.2.2.2.2.2.1
theorem dL_law_415 : decode cL_law 415 = .ok (.iload 4, 2) := dl_finq (k := 384) (p := 31) hdk_384 dLb_10.2.2.2.2.2.2.2.1
theorem dL_law_417 : decode cL_law 417 = .ok (.iconst 3, 1) := dl_finq (k := 384) (p := 33) hdk_384 dLb_10.2.2.2.2.2.2.2.2.1
theorem dL_law_418 : decode cL_law 418 = .ok (.iadd, 1) := dl_finq (k := 384) (p := 34) hdk_384 dLb_10.2.2.2.2.2.2.2.2.2.1
theorem dL_law_419 : decode cL_law 419 = .ok (.iaload, 1) := dl_finq (k := 384) (p := 35) hdk_384 dLb_10.2.2.2.2.2.2.2.2.2.2.1
theorem dL_law_420 : decode cL_law 420 = .ok (.aload_n 0, 1) := dl_finq (k := 384) (p := 36) hdk_384 dLb_10.2.2.2.2.2.2.2.2.2.2.2.1
theorem dL_law_421 : decode cL_law 421 = .ok (.iload 4, 2) := dl_finq (k := 384) (p := 37) hdk_384 dLb_10.2.2.2.2.2.2.2.2.2.2.2.2.1
theorem dL_law_423 : decode cL_law 423 = .ok (.iconst 4, 1) := dl_finq (k := 384) (p := 39) hdk_384 dLb_10.2.2.2.2.2.2.2.2.2.2.2.2.2.1
theorem dL_law_424 : decode cL_law 424 = .ok (.iadd, 1) := dl_finq (k := 384) (p := 40) hdk_384 dLb_10.2.2.2.2.2.2.2.2.2.2.2.2.2.2.1
theorem dL_law_425 : decode cL_law 425 = .ok (.iaload, 1) := dl_finq (k := 384) (p := 41) hdk_384 dLb_10.2.2.2.2.2.2.2.2.2.2.2.2.2.2.2
theorem dLb_11 : dlq dk_384 42 (.aload_n 3, 1) = true ∧ dlq dk_384 43 (.invokestatic 181, 3) = true ∧ dlq dk_384 46 (.istore 5, 2) = true ∧ dlq dk_384 48 (.aload_n 2, 1) = true ∧ dlq dk_384 49 (.aload_n 0, 1) = true ∧ dlq dk_384 50 (.iload 4, 2) = true ∧ dlq dk_384 52 (.iconst 1, 1) = true ∧ dlq dk_384 53 (.iadd, 1) = true ∧ dlq dk_384 54 (.iaload, 1) = true ∧ dlq dk_384 55 (.aload_n 0, 1) = true ∧ dlq dk_384 56 (.iload 4, 2) = true ∧ dlq dk_384 58 (.iconst 2, 1) = true ∧ dlq dk_384 59 (.iadd, 1) = true ∧ dlq dk_384 60 (.iaload, 1) = true ∧ dlq dk_384 61 (.aload_n 0, 1) = true ∧ dlq dk_384 62 (.iload 4, 2) = true := by decide +kernel
theorem dL_law_426 : decode cL_law 426 = .ok (.aload_n 3, 1) := dl_finq (k := 384) (p := 42) hdk_384 dLb_11.1
theorem dL_law_427 : decode cL_law 427 = .ok (.invokestatic 181, 3) := dl_finq (k := 384) (p := 43) hdk_384 dLb_11.2.1
theorem dL_law_430 : decode cL_law 430 = .ok (.istore 5, 2) := dl_finq (k := 384) (p := 46) hdk_384 dLb_11.2.2.1
theorem dL_law_432 : decode cL_law 432 = .ok (.aload_n 2, 1) := dl_finq (k := 384) (p := 48) hdk_384 dLb_11.2.2.2.1
theorem dL_law_433 : decode cL_law 433 = .ok (.aload_n 0, 1) := dl_finq (k := 384) (p := 49) hdk_384 dLb_11.2.2.2.2.1
theorem dL_law_434 : decode cL_law 434 = .ok (.iload 4, 2) := dl_finq (k := 384) (p := 50) hdk_384 dLb_11.2.2.2.2.2.1
theorem dL_law_436 : decode cL_law 436 = .ok (.iconst 1, 1) := dl_finq (k := 384) (p := 52) hdk_384 dLb_11.2.2.2.2.2.2.1
theorem dL_law_437 : decode cL_law 437 = .ok (.iadd, 1) := dl_finq (k := 384) (p := 53) hdk_384 dLb_11.2.2.2.2.2.2.2.1
theorem dL_law_438 : decode cL_law 438 = .ok (.iaload, 1) := dl_finq (k := 384) (p := 54) hdk_384 dLb_11.2.2.2.2.2.2.2.2.1
theorem dL_law_439 : decode cL_law 439 = .ok (.aload_n 0, 1) := dl_finq (k := 384) (p := 55) hdk_384 dLb_11.2.2.2.2.2.2.2.2.2.1
theorem dL_law_440 : decode cL_law 440 = .ok (.iload 4, 2) := dl_finq (k := 384) (p := 56) hdk_384 dLb_11.2.2.2.2.2.2.2.2.2.2.1
theorem dL_law_442 : decode cL_law 442 = .ok (.iconst 2, 1) := dl_finq (k := 384) (p := 58) hdk_384 dLb_11.2.2.2.2.2.2.2.2.2.2.2.1
theorem dL_law_443 : decode cL_law 443 = .ok (.iadd, 1) := dl_finq (k := 384) (p := 59) hdk_384 dLb_11.2.2.2.2.2.2.2.2.2.2.2.2.1
theorem dL_law_444 : decode cL_law 444 = .ok (.iaload, 1) := dl_finq (k := 384) (p := 60) hdk_384 dLb_11.2.2.2.2.2.2.2.2.2.2.2.2.2.1
theorem dL_law_445 : decode cL_law 445 = .ok (.aload_n 0, 1) := dl_finq (k := 384) (p := 61) hdk_384 dLb_11.2.2.2.2.2.2.2.2.2.2.2.2.2.2.1
theorem dL_law_446 : decode cL_law 446 = .ok (.iload 4, 2) := dl_finq (k := 384) (p := 62) hdk_384 dLb_11.2.2.2.2.2.2.2.2.2.2.2.2.2.2.2
theorem dLb_12 : dlq dk_384 64 (.iconst 3, 1) = true ∧ dlq dk_384 65 (.iadd, 1) = true ∧ dlq dk_384 66 (.iaload, 1) = true ∧ dlq dk_384 67 (.aload_n 0, 1) = true ∧ dlq dk_384 68 (.iload 4, 2) = true ∧ dlq dk_384 70 (.iconst 4, 1) = true ∧ dlq dk_384 71 (.iadd, 1) = true ∧ dlq dk_384 72 (.iaload, 1) = true ∧ dlq dk_384 73 (.invokevirtual 184, 3) = true ∧ dlq dk_384 76 (.istore 6, 2) = true ∧ dlq dk_384 78 (.goto 1622, 3) = true ∧ dlq dk_384 81 (.aload_n 1, 1) = true ∧ dlq dk_384 82 (.aload_n 0, 1) = true ∧ dlq dk_384 83 (.iload 4, 2) = true ∧ dlq dk_384 85 (.iconst 1, 1) = true ∧ dlq dk_384 86 (.iadd, 1) = true := by decide +kernel
theorem dL_law_448 : decode cL_law 448 = .ok (.iconst 3, 1) := dl_finq (k := 384) (p := 64) hdk_384 dLb_12.1
theorem dL_law_449 : decode cL_law 449 = .ok (.iadd, 1) := dl_finq (k := 384) (p := 65) hdk_384 dLb_12.2.1
theorem dL_law_450 : decode cL_law 450 = .ok (.iaload, 1) := dl_finq (k := 384) (p := 66) hdk_384 dLb_12.2.2.1
theorem dL_law_451 : decode cL_law 451 = .ok (.aload_n 0, 1) := dl_finq (k := 384) (p := 67) hdk_384 dLb_12.2.2.2.1
theorem dL_law_452 : decode cL_law 452 = .ok (.iload 4, 2) := dl_finq (k := 384) (p := 68) hdk_384 dLb_12.2.2.2.2.1
theorem dL_law_454 : decode cL_law 454 = .ok (.iconst 4, 1) := dl_finq (k := 384) (p := 70) hdk_384 dLb_12.2.2.2.2.2.1
theorem dL_law_455 : decode cL_law 455 = .ok (.iadd, 1) := dl_finq (k := 384) (p := 71) hdk_384 dLb_12.2.2.2.2.2.2.1
theorem dL_law_456 : decode cL_law 456 = .ok (.iaload, 1) := dl_finq (k := 384) (p := 72) hdk_384 dLb_12.2.2.2.2.2.2.2.1
theorem dL_law_457 : decode cL_law 457 = .ok (.invokevirtual 184, 3) := dl_finq (k := 384) (p := 73) hdk_384 dLb_12.2.2.2.2.2.2.2.2.1
theorem dL_law_460 : decode cL_law 460 = .ok (.istore 6, 2) := dl_finq (k := 384) (p := 76) hdk_384 dLb_12.2.2.2.2.2.2.2.2.2.1
theorem dL_law_462 : decode cL_law 462 = .ok (.goto 1622, 3) := dl_finq (k := 384) (p := 78) hdk_384 dLb_12.2.2.2.2.2.2.2.2.2.2.1
theorem dL_law_465 : decode cL_law 465 = .ok (.aload_n 1, 1) := dl_finq (k := 384) (p := 81) hdk_384 dLb_12.2.2.2.2.2.2.2.2.2.2.2.1
theorem dL_law_466 : decode cL_law 466 = .ok (.aload_n 0, 1) := dl_finq (k := 384) (p := 82) hdk_384 dLb_12.2.2.2.2.2.2.2.2.2.2.2.2.1
theorem dL_law_467 : decode cL_law 467 = .ok (.iload 4, 2) := dl_finq (k := 384) (p := 83) hdk_384 dLb_12.2.2.2.2.2.2.2.2.2.2.2.2.2.1
theorem dL_law_469 : decode cL_law 469 = .ok (.iconst 1, 1) := dl_finq (k := 384) (p := 85) hdk_384 dLb_12.2.2.2.2.2.2.2.2.2.2.2.2.2.2.1
theorem dL_law_470 : decode cL_law 470 = .ok (.iadd, 1) := dl_finq (k := 384) (p := 86) hdk_384 dLb_12.2.2.2.2.2.2.2.2.2.2.2.2.2.2.2
theorem dLb_13 : dlq dk_384 87 (.iaload, 1) = true ∧ dlq dk_384 88 (.aload_n 0, 1) = true ∧ dlq dk_384 89 (.iload 4, 2) = true ∧ dlq dk_384 91 (.iconst 2, 1) = true ∧ dlq dk_384 92 (.iadd, 1) = true ∧ dlq dk_384 93 (.iaload, 1) = true ∧ dlq dk_384 94 (.aload_n 0, 1) = true ∧ dlq dk_384 95 (.iload 4, 2) = true ∧ dlq dk_384 97 (.iconst 3, 1) = true ∧ dlq dk_384 98 (.iadd, 1) = true ∧ dlq dk_384 99 (.iaload, 1) = true ∧ dlq dk_384 100 (.aload_n 3, 1) = true ∧ dlq dk_384 101 (.invokestatic 185, 3) = true ∧ dlq dk_384 104 (.istore 5, 2) = true ∧ dlq dk_384 106 (.aload_n 2, 1) = true ∧ dlq dk_384 107 (.aload_n 0, 1) = true := by decide +kernel
theorem dL_law_471 : decode cL_law 471 = .ok (.iaload, 1) := dl_finq (k := 384) (p := 87) hdk_384 dLb_13.1
theorem dL_law_472 : decode cL_law 472 = .ok (.aload_n 0, 1) := dl_finq (k := 384) (p := 88) hdk_384 dLb_13.2.1
theorem dL_law_473 : decode cL_law 473 = .ok (.iload 4, 2) := dl_finq (k := 384) (p := 89) hdk_384 dLb_13.2.2.1
theorem dL_law_475 : decode cL_law 475 = .ok (.iconst 2, 1) := dl_finq (k := 384) (p := 91) hdk_384 dLb_13.2.2.2.1
theorem dL_law_476 : decode cL_law 476 = .ok (.iadd, 1) := dl_finq (k := 384) (p := 92) hdk_384 dLb_13.2.2.2.2.1
theorem dL_law_477 : decode cL_law 477 = .ok (.iaload, 1) := dl_finq (k := 384) (p := 93) hdk_384 dLb_13.2.2.2.2.2.1
theorem dL_law_478 : decode cL_law 478 = .ok (.aload_n 0, 1) := dl_finq (k := 384) (p := 94) hdk_384 dLb_13.2.2.2.2.2.2.1
theorem dL_law_479 : decode cL_law 479 = .ok (.iload 4, 2) := dl_finq (k := 384) (p := 95) hdk_384 dLb_13.2.2.2.2.2.2.2.1
theorem dL_law_481 : decode cL_law 481 = .ok (.iconst 3, 1) := dl_finq (k := 384) (p := 97) hdk_384 dLb_13.2.2.2.2.2.2.2.2.1
theorem dL_law_482 : decode cL_law 482 = .ok (.iadd, 1) := dl_finq (k := 384) (p := 98) hdk_384 dLb_13.2.2.2.2.2.2.2.2.2.1
theorem dL_law_483 : decode cL_law 483 = .ok (.iaload, 1) := dl_finq (k := 384) (p := 99) hdk_384 dLb_13.2.2.2.2.2.2.2.2.2.2.1
theorem dL_law_484 : decode cL_law 484 = .ok (.aload_n 3, 1) := dl_finq (k := 384) (p := 100) hdk_384 dLb_13.2.2.2.2.2.2.2.2.2.2.2.1
theorem dL_law_485 : decode cL_law 485 = .ok (.invokestatic 185, 3) := dl_finq (k := 384) (p := 101) hdk_384 dLb_13.2.2.2.2.2.2.2.2.2.2.2.2.1
theorem dL_law_488 : decode cL_law 488 = .ok (.istore 5, 2) := dl_finq (k := 384) (p := 104) hdk_384 dLb_13.2.2.2.2.2.2.2.2.2.2.2.2.2.1
theorem dL_law_490 : decode cL_law 490 = .ok (.aload_n 2, 1) := dl_finq (k := 384) (p := 106) hdk_384 dLb_13.2.2.2.2.2.2.2.2.2.2.2.2.2.2.1
theorem dL_law_491 : decode cL_law 491 = .ok (.aload_n 0, 1) := dl_finq (k := 384) (p := 107) hdk_384 dLb_13.2.2.2.2.2.2.2.2.2.2.2.2.2.2.2
theorem dLb_14 : dlq dk_384 108 (.iload 4, 2) = true ∧ dlq dk_384 110 (.iconst 1, 1) = true ∧ dlq dk_384 111 (.iadd, 1) = true ∧ dlq dk_384 112 (.iaload, 1) = true ∧ dlq dk_384 113 (.aload_n 0, 1) = true ∧ dlq dk_384 114 (.iload 4, 2) = true ∧ dlq dk_384 116 (.iconst 2, 1) = true ∧ dlq dk_384 117 (.iadd, 1) = true ∧ dlq dk_384 118 (.iaload, 1) = true ∧ dlq dk_384 119 (.aload_n 0, 1) = true ∧ dlq dk_384 120 (.iload 4, 2) = true ∧ dlq dk_384 122 (.iconst 3, 1) = true ∧ dlq dk_384 123 (.iadd, 1) = true ∧ dlq dk_384 124 (.iaload, 1) = true ∧ dlq dk_384 125 (.invokevirtual 187, 3) = true := by decide +kernel
theorem dL_law_492 : decode cL_law 492 = .ok (.iload 4, 2) := dl_finq (k := 384) (p := 108) hdk_384 dLb_14.1
theorem dL_law_494 : decode cL_law 494 = .ok (.iconst 1, 1) := dl_finq (k := 384) (p := 110) hdk_384 dLb_14.2.1
theorem dL_law_495 : decode cL_law 495 = .ok (.iadd, 1) := dl_finq (k := 384) (p := 111) hdk_384 dLb_14.2.2.1
theorem dL_law_496 : decode cL_law 496 = .ok (.iaload, 1) := dl_finq (k := 384) (p := 112) hdk_384 dLb_14.2.2.2.1
theorem dL_law_497 : decode cL_law 497 = .ok (.aload_n 0, 1) := dl_finq (k := 384) (p := 113) hdk_384 dLb_14.2.2.2.2.1
theorem dL_law_498 : decode cL_law 498 = .ok (.iload 4, 2) := dl_finq (k := 384) (p := 114) hdk_384 dLb_14.2.2.2.2.2.1
theorem dL_law_500 : decode cL_law 500 = .ok (.iconst 2, 1) := dl_finq (k := 384) (p := 116) hdk_384 dLb_14.2.2.2.2.2.2.1
theorem dL_law_501 : decode cL_law 501 = .ok (.iadd, 1) := dl_finq (k := 384) (p := 117) hdk_384 dLb_14.2.2.2.2.2.2.2.1
theorem dL_law_502 : decode cL_law 502 = .ok (.iaload, 1) := dl_finq (k := 384) (p := 118) hdk_384 dLb_14.2.2.2.2.2.2.2.2.1
theorem dL_law_503 : decode cL_law 503 = .ok (.aload_n 0, 1) := dl_finq (k := 384) (p := 119) hdk_384 dLb_14.2.2.2.2.2.2.2.2.2.1
theorem dL_law_504 : decode cL_law 504 = .ok (.iload 4, 2) := dl_finq (k := 384) (p := 120) hdk_384 dLb_14.2.2.2.2.2.2.2.2.2.2.1
theorem dL_law_506 : decode cL_law 506 = .ok (.iconst 3, 1) := dl_finq (k := 384) (p := 122) hdk_384 dLb_14.2.2.2.2.2.2.2.2.2.2.2.1
theorem dL_law_507 : decode cL_law 507 = .ok (.iadd, 1) := dl_finq (k := 384) (p := 123) hdk_384 dLb_14.2.2.2.2.2.2.2.2.2.2.2.2.1
theorem dL_law_508 : decode cL_law 508 = .ok (.iaload, 1) := dl_finq (k := 384) (p := 124) hdk_384 dLb_14.2.2.2.2.2.2.2.2.2.2.2.2.2.1
theorem dL_law_509 : decode cL_law 509 = .ok (.invokevirtual 187, 3) := dl_finq (k := 384) (p := 125) hdk_384 dLb_14.2.2.2.2.2.2.2.2.2.2.2.2.2.2
theorem dLb_15 : dlq dk_512 0 (.istore 6, 2) = true ∧ dlq dk_512 2 (.goto 1570, 3) = true ∧ dlq dk_512 5 (.aload_n 1, 1) = true ∧ dlq dk_512 6 (.aload_n 0, 1) = true ∧ dlq dk_512 7 (.iload 4, 2) = true ∧ dlq dk_512 9 (.iconst 1, 1) = true ∧ dlq dk_512 10 (.iadd, 1) = true ∧ dlq dk_512 11 (.iaload, 1) = true ∧ dlq dk_512 12 (.aload_n 0, 1) = true ∧ dlq dk_512 13 (.iload 4, 2) = true ∧ dlq dk_512 15 (.iconst 2, 1) = true ∧ dlq dk_512 16 (.iadd, 1) = true ∧ dlq dk_512 17 (.iaload, 1) = true ∧ dlq dk_512 18 (.aload_n 3, 1) = true ∧ dlq dk_512 19 (.invokestatic 188, 3) = true ∧ dlq dk_512 22 (.istore 5, 2) = true := by decide +kernel
theorem dL_law_512 : decode cL_law 512 = .ok (.istore 6, 2) := dl_finq (k := 512) (p := 0) hdk_512 dLb_15.1
theorem dL_law_514 : decode cL_law 514 = .ok (.goto 1570, 3) := dl_finq (k := 512) (p := 2) hdk_512 dLb_15.2.1
theorem dL_law_517 : decode cL_law 517 = .ok (.aload_n 1, 1) := dl_finq (k := 512) (p := 5) hdk_512 dLb_15.2.2.1
theorem dL_law_518 : decode cL_law 518 = .ok (.aload_n 0, 1) := dl_finq (k := 512) (p := 6) hdk_512 dLb_15.2.2.2.1
theorem dL_law_519 : decode cL_law 519 = .ok (.iload 4, 2) := dl_finq (k := 512) (p := 7) hdk_512 dLb_15.2.2.2.2.1
theorem dL_law_521 : decode cL_law 521 = .ok (.iconst 1, 1) := dl_finq (k := 512) (p := 9) hdk_512 dLb_15.2.2.2.2.2.1
theorem dL_law_522 : decode cL_law 522 = .ok (.iadd, 1) := dl_finq (k := 512) (p := 10) hdk_512 dLb_15.2.2.2.2.2.2.1
theorem dL_law_523 : decode cL_law 523 = .ok (.iaload, 1) := dl_finq (k := 512) (p := 11) hdk_512 dLb_15.2.2.2.2.2.2.2.1
theorem dL_law_524 : decode cL_law 524 = .ok (.aload_n 0, 1) := dl_finq (k := 512) (p := 12) hdk_512 dLb_15.2.2.2.2.2.2.2.2.1
theorem dL_law_525 : decode cL_law 525 = .ok (.iload 4, 2) := dl_finq (k := 512) (p := 13) hdk_512 dLb_15.2.2.2.2.2.2.2.2.2.1
theorem dL_law_527 : decode cL_law 527 = .ok (.iconst 2, 1) := dl_finq (k := 512) (p := 15) hdk_512 dLb_15.2.2.2.2.2.2.2.2.2.2.1
theorem dL_law_528 : decode cL_law 528 = .ok (.iadd, 1) := dl_finq (k := 512) (p := 16) hdk_512 dLb_15.2.2.2.2.2.2.2.2.2.2.2.1
theorem dL_law_529 : decode cL_law 529 = .ok (.iaload, 1) := dl_finq (k := 512) (p := 17) hdk_512 dLb_15.2.2.2.2.2.2.2.2.2.2.2.2.1
theorem dL_law_530 : decode cL_law 530 = .ok (.aload_n 3, 1) := dl_finq (k := 512) (p := 18) hdk_512 dLb_15.2.2.2.2.2.2.2.2.2.2.2.2.2.1
theorem dL_law_531 : decode cL_law 531 = .ok (.invokestatic 188, 3) := dl_finq (k := 512) (p := 19) hdk_512 dLb_15.2.2.2.2.2.2.2.2.2.2.2.2.2.2.1
theorem dL_law_534 : decode cL_law 534 = .ok (.istore 5, 2) := dl_finq (k := 512) (p := 22) hdk_512 dLb_15.2.2.2.2.2.2.2.2.2.2.2.2.2.2.2
theorem dLb_16 : dlq dk_512 24 (.aload_n 2, 1) = true ∧ dlq dk_512 25 (.aload_n 0, 1) = true ∧ dlq dk_512 26 (.iload 4, 2) = true ∧ dlq dk_512 28 (.iconst 1, 1) = true ∧ dlq dk_512 29 (.iadd, 1) = true ∧ dlq dk_512 30 (.iaload, 1) = true ∧ dlq dk_512 31 (.aload_n 0, 1) = true ∧ dlq dk_512 32 (.iload 4, 2) = true ∧ dlq dk_512 34 (.iconst 2, 1) = true ∧ dlq dk_512 35 (.iadd, 1) = true ∧ dlq dk_512 36 (.iaload, 1) = true ∧ dlq dk_512 37 (.invokevirtual 190, 3) = true ∧ dlq dk_512 40 (.istore 6, 2) = true ∧ dlq dk_512 42 (.goto 1530, 3) = true ∧ dlq dk_512 45 (.aload_n 1, 1) = true ∧ dlq dk_512 46 (.aload_n 0, 1) = true := by decide +kernel
theorem dL_law_536 : decode cL_law 536 = .ok (.aload_n 2, 1) := dl_finq (k := 512) (p := 24) hdk_512 dLb_16.1
theorem dL_law_537 : decode cL_law 537 = .ok (.aload_n 0, 1) := dl_finq (k := 512) (p := 25) hdk_512 dLb_16.2.1
theorem dL_law_538 : decode cL_law 538 = .ok (.iload 4, 2) := dl_finq (k := 512) (p := 26) hdk_512 dLb_16.2.2.1
theorem dL_law_540 : decode cL_law 540 = .ok (.iconst 1, 1) := dl_finq (k := 512) (p := 28) hdk_512 dLb_16.2.2.2.1
theorem dL_law_541 : decode cL_law 541 = .ok (.iadd, 1) := dl_finq (k := 512) (p := 29) hdk_512 dLb_16.2.2.2.2.1
theorem dL_law_542 : decode cL_law 542 = .ok (.iaload, 1) := dl_finq (k := 512) (p := 30) hdk_512 dLb_16.2.2.2.2.2.1
theorem dL_law_543 : decode cL_law 543 = .ok (.aload_n 0, 1) := dl_finq (k := 512) (p := 31) hdk_512 dLb_16.2.2.2.2.2.2.1
theorem dL_law_544 : decode cL_law 544 = .ok (.iload 4, 2) := dl_finq (k := 512) (p := 32) hdk_512 dLb_16.2.2.2.2.2.2.2.1
theorem dL_law_546 : decode cL_law 546 = .ok (.iconst 2, 1) := dl_finq (k := 512) (p := 34) hdk_512 dLb_16.2.2.2.2.2.2.2.2.1
theorem dL_law_547 : decode cL_law 547 = .ok (.iadd, 1) := dl_finq (k := 512) (p := 35) hdk_512 dLb_16.2.2.2.2.2.2.2.2.2.1
theorem dL_law_548 : decode cL_law 548 = .ok (.iaload, 1) := dl_finq (k := 512) (p := 36) hdk_512 dLb_16.2.2.2.2.2.2.2.2.2.2.1
theorem dL_law_549 : decode cL_law 549 = .ok (.invokevirtual 190, 3) := dl_finq (k := 512) (p := 37) hdk_512 dLb_16.2.2.2.2.2.2.2.2.2.2.2.1
theorem dL_law_552 : decode cL_law 552 = .ok (.istore 6, 2) := dl_finq (k := 512) (p := 40) hdk_512 dLb_16.2.2.2.2.2.2.2.2.2.2.2.2.1
theorem dL_law_554 : decode cL_law 554 = .ok (.goto 1530, 3) := dl_finq (k := 512) (p := 42) hdk_512 dLb_16.2.2.2.2.2.2.2.2.2.2.2.2.2.1
theorem dL_law_557 : decode cL_law 557 = .ok (.aload_n 1, 1) := dl_finq (k := 512) (p := 45) hdk_512 dLb_16.2.2.2.2.2.2.2.2.2.2.2.2.2.2.1
theorem dL_law_558 : decode cL_law 558 = .ok (.aload_n 0, 1) := dl_finq (k := 512) (p := 46) hdk_512 dLb_16.2.2.2.2.2.2.2.2.2.2.2.2.2.2.2
theorem dLb_17 : dlq dk_512 47 (.iload 4, 2) = true ∧ dlq dk_512 49 (.iconst 1, 1) = true ∧ dlq dk_512 50 (.iadd, 1) = true ∧ dlq dk_512 51 (.iaload, 1) = true ∧ dlq dk_512 52 (.aload_n 3, 1) = true ∧ dlq dk_512 53 (.invokestatic 191, 3) = true ∧ dlq dk_512 56 (.istore 5, 2) = true ∧ dlq dk_512 58 (.aload_n 2, 1) = true ∧ dlq dk_512 59 (.aload_n 0, 1) = true ∧ dlq dk_512 60 (.iload 4, 2) = true ∧ dlq dk_512 62 (.iconst 1, 1) = true ∧ dlq dk_512 63 (.iadd, 1) = true ∧ dlq dk_512 64 (.iaload, 1) = true ∧ dlq dk_512 65 (.invokevirtual 194, 3) = true ∧ dlq dk_512 68 (.istore 6, 2) = true ∧ dlq dk_512 70 (.goto 1502, 3) = true := by decide +kernel
theorem dL_law_559 : decode cL_law 559 = .ok (.iload 4, 2) := dl_finq (k := 512) (p := 47) hdk_512 dLb_17.1
theorem dL_law_561 : decode cL_law 561 = .ok (.iconst 1, 1) := dl_finq (k := 512) (p := 49) hdk_512 dLb_17.2.1
theorem dL_law_562 : decode cL_law 562 = .ok (.iadd, 1) := dl_finq (k := 512) (p := 50) hdk_512 dLb_17.2.2.1
theorem dL_law_563 : decode cL_law 563 = .ok (.iaload, 1) := dl_finq (k := 512) (p := 51) hdk_512 dLb_17.2.2.2.1
theorem dL_law_564 : decode cL_law 564 = .ok (.aload_n 3, 1) := dl_finq (k := 512) (p := 52) hdk_512 dLb_17.2.2.2.2.1
theorem dL_law_565 : decode cL_law 565 = .ok (.invokestatic 191, 3) := dl_finq (k := 512) (p := 53) hdk_512 dLb_17.2.2.2.2.2.1
theorem dL_law_568 : decode cL_law 568 = .ok (.istore 5, 2) := dl_finq (k := 512) (p := 56) hdk_512 dLb_17.2.2.2.2.2.2.1
theorem dL_law_570 : decode cL_law 570 = .ok (.aload_n 2, 1) := dl_finq (k := 512) (p := 58) hdk_512 dLb_17.2.2.2.2.2.2.2.1
theorem dL_law_571 : decode cL_law 571 = .ok (.aload_n 0, 1) := dl_finq (k := 512) (p := 59) hdk_512 dLb_17.2.2.2.2.2.2.2.2.1
theorem dL_law_572 : decode cL_law 572 = .ok (.iload 4, 2) := dl_finq (k := 512) (p := 60) hdk_512 dLb_17.2.2.2.2.2.2.2.2.2.1
theorem dL_law_574 : decode cL_law 574 = .ok (.iconst 1, 1) := dl_finq (k := 512) (p := 62) hdk_512 dLb_17.2.2.2.2.2.2.2.2.2.2.1
theorem dL_law_575 : decode cL_law 575 = .ok (.iadd, 1) := dl_finq (k := 512) (p := 63) hdk_512 dLb_17.2.2.2.2.2.2.2.2.2.2.2.1
theorem dL_law_576 : decode cL_law 576 = .ok (.iaload, 1) := dl_finq (k := 512) (p := 64) hdk_512 dLb_17.2.2.2.2.2.2.2.2.2.2.2.2.1
theorem dL_law_577 : decode cL_law 577 = .ok (.invokevirtual 194, 3) := dl_finq (k := 512) (p := 65) hdk_512 dLb_17.2.2.2.2.2.2.2.2.2.2.2.2.2.1
theorem dL_law_580 : decode cL_law 580 = .ok (.istore 6, 2) := dl_finq (k := 512) (p := 68) hdk_512 dLb_17.2.2.2.2.2.2.2.2.2.2.2.2.2.2.1
theorem dL_law_582 : decode cL_law 582 = .ok (.goto 1502, 3) := dl_finq (k := 512) (p := 70) hdk_512 dLb_17.2.2.2.2.2.2.2.2.2.2.2.2.2.2.2
theorem dLb_18 : dlq dk_512 73 (.aload_n 1, 1) = true ∧ dlq dk_512 74 (.aload_n 0, 1) = true ∧ dlq dk_512 75 (.iload 4, 2) = true ∧ dlq dk_512 77 (.iconst 1, 1) = true ∧ dlq dk_512 78 (.iadd, 1) = true ∧ dlq dk_512 79 (.iaload, 1) = true ∧ dlq dk_512 80 (.aload_n 3, 1) = true ∧ dlq dk_512 81 (.invokestatic 195, 3) = true ∧ dlq dk_512 84 (.istore 5, 2) = true ∧ dlq dk_512 86 (.aload_n 2, 1) = true ∧ dlq dk_512 87 (.aload_n 0, 1) = true ∧ dlq dk_512 88 (.iload 4, 2) = true ∧ dlq dk_512 90 (.iconst 1, 1) = true ∧ dlq dk_512 91 (.iadd, 1) = true ∧ dlq dk_512 92 (.iaload, 1) = true ∧ dlq dk_512 93 (.invokevirtual 197, 3) = true := by decide +kernel
theorem dL_law_585 : decode cL_law 585 = .ok (.aload_n 1, 1) := dl_finq (k := 512) (p := 73) hdk_512 dLb_18.1
theorem dL_law_586 : decode cL_law 586 = .ok (.aload_n 0, 1) := dl_finq (k := 512) (p := 74) hdk_512 dLb_18.2.1
theorem dL_law_587 : decode cL_law 587 = .ok (.iload 4, 2) := dl_finq (k := 512) (p := 75) hdk_512 dLb_18.2.2.1
theorem dL_law_589 : decode cL_law 589 = .ok (.iconst 1, 1) := dl_finq (k := 512) (p := 77) hdk_512 dLb_18.2.2.2.1
theorem dL_law_590 : decode cL_law 590 = .ok (.iadd, 1) := dl_finq (k := 512) (p := 78) hdk_512 dLb_18.2.2.2.2.1
theorem dL_law_591 : decode cL_law 591 = .ok (.iaload, 1) := dl_finq (k := 512) (p := 79) hdk_512 dLb_18.2.2.2.2.2.1
theorem dL_law_592 : decode cL_law 592 = .ok (.aload_n 3, 1) := dl_finq (k := 512) (p := 80) hdk_512 dLb_18.2.2.2.2.2.2.1
theorem dL_law_593 : decode cL_law 593 = .ok (.invokestatic 195, 3) := dl_finq (k := 512) (p := 81) hdk_512 dLb_18.2.2.2.2.2.2.2.1
theorem dL_law_596 : decode cL_law 596 = .ok (.istore 5, 2) := dl_finq (k := 512) (p := 84) hdk_512 dLb_18.2.2.2.2.2.2.2.2.1
theorem dL_law_598 : decode cL_law 598 = .ok (.aload_n 2, 1) := dl_finq (k := 512) (p := 86) hdk_512 dLb_18.2.2.2.2.2.2.2.2.2.1
theorem dL_law_599 : decode cL_law 599 = .ok (.aload_n 0, 1) := dl_finq (k := 512) (p := 87) hdk_512 dLb_18.2.2.2.2.2.2.2.2.2.2.1
theorem dL_law_600 : decode cL_law 600 = .ok (.iload 4, 2) := dl_finq (k := 512) (p := 88) hdk_512 dLb_18.2.2.2.2.2.2.2.2.2.2.2.1
theorem dL_law_602 : decode cL_law 602 = .ok (.iconst 1, 1) := dl_finq (k := 512) (p := 90) hdk_512 dLb_18.2.2.2.2.2.2.2.2.2.2.2.2.1
theorem dL_law_603 : decode cL_law 603 = .ok (.iadd, 1) := dl_finq (k := 512) (p := 91) hdk_512 dLb_18.2.2.2.2.2.2.2.2.2.2.2.2.2.1
theorem dL_law_604 : decode cL_law 604 = .ok (.iaload, 1) := dl_finq (k := 512) (p := 92) hdk_512 dLb_18.2.2.2.2.2.2.2.2.2.2.2.2.2.2.1
theorem dL_law_605 : decode cL_law 605 = .ok (.invokevirtual 197, 3) := dl_finq (k := 512) (p := 93) hdk_512 dLb_18.2.2.2.2.2.2.2.2.2.2.2.2.2.2.2
theorem dLb_19 : dlq dk_512 96 (.istore 6, 2) = true ∧ dlq dk_512 98 (.goto 1474, 3) = true ∧ dlq dk_512 101 (.aload_n 1, 1) = true ∧ dlq dk_512 102 (.aload_n 0, 1) = true ∧ dlq dk_512 103 (.iload 4, 2) = true ∧ dlq dk_512 105 (.iconst 1, 1) = true ∧ dlq dk_512 106 (.iadd, 1) = true ∧ dlq dk_512 107 (.iaload, 1) = true ∧ dlq dk_512 108 (.aload_n 3, 1) = true ∧ dlq dk_512 109 (.invokestatic 198, 3) = true ∧ dlq dk_512 112 (.istore 5, 2) = true ∧ dlq dk_512 114 (.aload_n 2, 1) = true ∧ dlq dk_512 115 (.aload_n 0, 1) = true ∧ dlq dk_512 116 (.iload 4, 2) = true ∧ dlq dk_512 118 (.iconst 1, 1) = true ∧ dlq dk_512 119 (.iadd, 1) = true := by decide +kernel
theorem dL_law_608 : decode cL_law 608 = .ok (.istore 6, 2) := dl_finq (k := 512) (p := 96) hdk_512 dLb_19.1
theorem dL_law_610 : decode cL_law 610 = .ok (.goto 1474, 3) := dl_finq (k := 512) (p := 98) hdk_512 dLb_19.2.1
theorem dL_law_613 : decode cL_law 613 = .ok (.aload_n 1, 1) := dl_finq (k := 512) (p := 101) hdk_512 dLb_19.2.2.1
theorem dL_law_614 : decode cL_law 614 = .ok (.aload_n 0, 1) := dl_finq (k := 512) (p := 102) hdk_512 dLb_19.2.2.2.1
theorem dL_law_615 : decode cL_law 615 = .ok (.iload 4, 2) := dl_finq (k := 512) (p := 103) hdk_512 dLb_19.2.2.2.2.1
theorem dL_law_617 : decode cL_law 617 = .ok (.iconst 1, 1) := dl_finq (k := 512) (p := 105) hdk_512 dLb_19.2.2.2.2.2.1
theorem dL_law_618 : decode cL_law 618 = .ok (.iadd, 1) := dl_finq (k := 512) (p := 106) hdk_512 dLb_19.2.2.2.2.2.2.1
theorem dL_law_619 : decode cL_law 619 = .ok (.iaload, 1) := dl_finq (k := 512) (p := 107) hdk_512 dLb_19.2.2.2.2.2.2.2.1
theorem dL_law_620 : decode cL_law 620 = .ok (.aload_n 3, 1) := dl_finq (k := 512) (p := 108) hdk_512 dLb_19.2.2.2.2.2.2.2.2.1
theorem dL_law_621 : decode cL_law 621 = .ok (.invokestatic 198, 3) := dl_finq (k := 512) (p := 109) hdk_512 dLb_19.2.2.2.2.2.2.2.2.2.1
theorem dL_law_624 : decode cL_law 624 = .ok (.istore 5, 2) := dl_finq (k := 512) (p := 112) hdk_512 dLb_19.2.2.2.2.2.2.2.2.2.2.1
theorem dL_law_626 : decode cL_law 626 = .ok (.aload_n 2, 1) := dl_finq (k := 512) (p := 114) hdk_512 dLb_19.2.2.2.2.2.2.2.2.2.2.2.1
theorem dL_law_627 : decode cL_law 627 = .ok (.aload_n 0, 1) := dl_finq (k := 512) (p := 115) hdk_512 dLb_19.2.2.2.2.2.2.2.2.2.2.2.2.1
theorem dL_law_628 : decode cL_law 628 = .ok (.iload 4, 2) := dl_finq (k := 512) (p := 116) hdk_512 dLb_19.2.2.2.2.2.2.2.2.2.2.2.2.2.1
theorem dL_law_630 : decode cL_law 630 = .ok (.iconst 1, 1) := dl_finq (k := 512) (p := 118) hdk_512 dLb_19.2.2.2.2.2.2.2.2.2.2.2.2.2.2.1
theorem dL_law_631 : decode cL_law 631 = .ok (.iadd, 1) := dl_finq (k := 512) (p := 119) hdk_512 dLb_19.2.2.2.2.2.2.2.2.2.2.2.2.2.2.2
theorem dLb_20 : dlq dk_512 120 (.iaload, 1) = true ∧ dlq dk_512 121 (.invokevirtual 200, 3) = true ∧ dlq dk_512 124 (.astore 6, 2) = true ∧ dlq dk_512 126 (.goto 1446, 3) = true := by decide +kernel
theorem dL_law_632 : decode cL_law 632 = .ok (.iaload, 1) := dl_finq (k := 512) (p := 120) hdk_512 dLb_20.1
theorem dL_law_633 : decode cL_law 633 = .ok (.invokevirtual 200, 3) := dl_finq (k := 512) (p := 121) hdk_512 dLb_20.2.1
theorem dL_law_636 : decode cL_law 636 = .ok (.astore 6, 2) := dl_finq (k := 512) (p := 124) hdk_512 dLb_20.2.2.1
theorem dL_law_638 : decode cL_law 638 = .ok (.goto 1446, 3) := dl_finq (k := 512) (p := 126) hdk_512 dLb_20.2.2.2
theorem dLb_21 : dlq dk_640 1 (.aload_n 1, 1) = true ∧ dlq dk_640 2 (.aload_n 0, 1) = true ∧ dlq dk_640 3 (.iload 4, 2) = true ∧ dlq dk_640 5 (.iconst 1, 1) = true ∧ dlq dk_640 6 (.iadd, 1) = true ∧ dlq dk_640 7 (.iaload, 1) = true ∧ dlq dk_640 8 (.aload_n 3, 1) = true ∧ dlq dk_640 9 (.invokestatic 201, 3) = true ∧ dlq dk_640 12 (.istore 5, 2) = true ∧ dlq dk_640 14 (.aload_n 2, 1) = true ∧ dlq dk_640 15 (.aload_n 0, 1) = true ∧ dlq dk_640 16 (.iload 4, 2) = true ∧ dlq dk_640 18 (.iconst 1, 1) = true ∧ dlq dk_640 19 (.iadd, 1) = true ∧ dlq dk_640 20 (.iaload, 1) = true ∧ dlq dk_640 21 (.invokevirtual 203, 3) = true := by decide +kernel
theorem dL_law_641 : decode cL_law 641 = .ok (.aload_n 1, 1) := dl_finq (k := 640) (p := 1) hdk_640 dLb_21.1
theorem dL_law_642 : decode cL_law 642 = .ok (.aload_n 0, 1) := dl_finq (k := 640) (p := 2) hdk_640 dLb_21.2.1
theorem dL_law_643 : decode cL_law 643 = .ok (.iload 4, 2) := dl_finq (k := 640) (p := 3) hdk_640 dLb_21.2.2.1
theorem dL_law_645 : decode cL_law 645 = .ok (.iconst 1, 1) := dl_finq (k := 640) (p := 5) hdk_640 dLb_21.2.2.2.1
theorem dL_law_646 : decode cL_law 646 = .ok (.iadd, 1) := dl_finq (k := 640) (p := 6) hdk_640 dLb_21.2.2.2.2.1
theorem dL_law_647 : decode cL_law 647 = .ok (.iaload, 1) := dl_finq (k := 640) (p := 7) hdk_640 dLb_21.2.2.2.2.2.1
theorem dL_law_648 : decode cL_law 648 = .ok (.aload_n 3, 1) := dl_finq (k := 640) (p := 8) hdk_640 dLb_21.2.2.2.2.2.2.1
theorem dL_law_649 : decode cL_law 649 = .ok (.invokestatic 201, 3) := dl_finq (k := 640) (p := 9) hdk_640 dLb_21.2.2.2.2.2.2.2.1
theorem dL_law_652 : decode cL_law 652 = .ok (.istore 5, 2) := dl_finq (k := 640) (p := 12) hdk_640 dLb_21.2.2.2.2.2.2.2.2.1
theorem dL_law_654 : decode cL_law 654 = .ok (.aload_n 2, 1) := dl_finq (k := 640) (p := 14) hdk_640 dLb_21.2.2.2.2.2.2.2.2.2.1
theorem dL_law_655 : decode cL_law 655 = .ok (.aload_n 0, 1) := dl_finq (k := 640) (p := 15) hdk_640 dLb_21.2.2.2.2.2.2.2.2.2.2.1
theorem dL_law_656 : decode cL_law 656 = .ok (.iload 4, 2) := dl_finq (k := 640) (p := 16) hdk_640 dLb_21.2.2.2.2.2.2.2.2.2.2.2.1
theorem dL_law_658 : decode cL_law 658 = .ok (.iconst 1, 1) := dl_finq (k := 640) (p := 18) hdk_640 dLb_21.2.2.2.2.2.2.2.2.2.2.2.2.1
theorem dL_law_659 : decode cL_law 659 = .ok (.iadd, 1) := dl_finq (k := 640) (p := 19) hdk_640 dLb_21.2.2.2.2.2.2.2.2.2.2.2.2.2.1
theorem dL_law_660 : decode cL_law 660 = .ok (.iaload, 1) := dl_finq (k := 640) (p := 20) hdk_640 dLb_21.2.2.2.2.2.2.2.2.2.2.2.2.2.2.1
theorem dL_law_661 : decode cL_law 661 = .ok (.invokevirtual 203, 3) := dl_finq (k := 640) (p := 21) hdk_640 dLb_21.2.2.2.2.2.2.2.2.2.2.2.2.2.2.2
theorem dLb_22 : dlq dk_640 24 (.astore 6, 2) = true ∧ dlq dk_640 26 (.goto 1418, 3) = true ∧ dlq dk_640 29 (.aload_n 1, 1) = true ∧ dlq dk_640 30 (.aload_n 0, 1) = true ∧ dlq dk_640 31 (.iload 4, 2) = true ∧ dlq dk_640 33 (.iconst 1, 1) = true ∧ dlq dk_640 34 (.iadd, 1) = true ∧ dlq dk_640 35 (.iaload, 1) = true ∧ dlq dk_640 36 (.aload_n 0, 1) = true ∧ dlq dk_640 37 (.iload 4, 2) = true ∧ dlq dk_640 39 (.iconst 2, 1) = true ∧ dlq dk_640 40 (.iadd, 1) = true ∧ dlq dk_640 41 (.iaload, 1) = true ∧ dlq dk_640 42 (.aload_n 3, 1) = true ∧ dlq dk_640 43 (.invokestatic 204, 3) = true ∧ dlq dk_640 46 (.istore 5, 2) = true := by decide +kernel
theorem dL_law_664 : decode cL_law 664 = .ok (.astore 6, 2) := dl_finq (k := 640) (p := 24) hdk_640 dLb_22.1
theorem dL_law_666 : decode cL_law 666 = .ok (.goto 1418, 3) := dl_finq (k := 640) (p := 26) hdk_640 dLb_22.2.1
theorem dL_law_669 : decode cL_law 669 = .ok (.aload_n 1, 1) := dl_finq (k := 640) (p := 29) hdk_640 dLb_22.2.2.1
theorem dL_law_670 : decode cL_law 670 = .ok (.aload_n 0, 1) := dl_finq (k := 640) (p := 30) hdk_640 dLb_22.2.2.2.1
theorem dL_law_671 : decode cL_law 671 = .ok (.iload 4, 2) := dl_finq (k := 640) (p := 31) hdk_640 dLb_22.2.2.2.2.1
theorem dL_law_673 : decode cL_law 673 = .ok (.iconst 1, 1) := dl_finq (k := 640) (p := 33) hdk_640 dLb_22.2.2.2.2.2.1
theorem dL_law_674 : decode cL_law 674 = .ok (.iadd, 1) := dl_finq (k := 640) (p := 34) hdk_640 dLb_22.2.2.2.2.2.2.1
theorem dL_law_675 : decode cL_law 675 = .ok (.iaload, 1) := dl_finq (k := 640) (p := 35) hdk_640 dLb_22.2.2.2.2.2.2.2.1
theorem dL_law_676 : decode cL_law 676 = .ok (.aload_n 0, 1) := dl_finq (k := 640) (p := 36) hdk_640 dLb_22.2.2.2.2.2.2.2.2.1
theorem dL_law_677 : decode cL_law 677 = .ok (.iload 4, 2) := dl_finq (k := 640) (p := 37) hdk_640 dLb_22.2.2.2.2.2.2.2.2.2.1
theorem dL_law_679 : decode cL_law 679 = .ok (.iconst 2, 1) := dl_finq (k := 640) (p := 39) hdk_640 dLb_22.2.2.2.2.2.2.2.2.2.2.1
theorem dL_law_680 : decode cL_law 680 = .ok (.iadd, 1) := dl_finq (k := 640) (p := 40) hdk_640 dLb_22.2.2.2.2.2.2.2.2.2.2.2.1
theorem dL_law_681 : decode cL_law 681 = .ok (.iaload, 1) := dl_finq (k := 640) (p := 41) hdk_640 dLb_22.2.2.2.2.2.2.2.2.2.2.2.2.1
theorem dL_law_682 : decode cL_law 682 = .ok (.aload_n 3, 1) := dl_finq (k := 640) (p := 42) hdk_640 dLb_22.2.2.2.2.2.2.2.2.2.2.2.2.2.1
theorem dL_law_683 : decode cL_law 683 = .ok (.invokestatic 204, 3) := dl_finq (k := 640) (p := 43) hdk_640 dLb_22.2.2.2.2.2.2.2.2.2.2.2.2.2.2.1
theorem dL_law_686 : decode cL_law 686 = .ok (.istore 5, 2) := dl_finq (k := 640) (p := 46) hdk_640 dLb_22.2.2.2.2.2.2.2.2.2.2.2.2.2.2.2
theorem dLb_23 : dlq dk_640 48 (.aload_n 2, 1) = true ∧ dlq dk_640 49 (.aload_n 0, 1) = true ∧ dlq dk_640 50 (.iload 4, 2) = true ∧ dlq dk_640 52 (.iconst 1, 1) = true ∧ dlq dk_640 53 (.iadd, 1) = true ∧ dlq dk_640 54 (.iaload, 1) = true ∧ dlq dk_640 55 (.aload_n 0, 1) = true ∧ dlq dk_640 56 (.iload 4, 2) = true ∧ dlq dk_640 58 (.iconst 2, 1) = true ∧ dlq dk_640 59 (.iadd, 1) = true ∧ dlq dk_640 60 (.iaload, 1) = true ∧ dlq dk_640 61 (.invokevirtual 206, 3) = true ∧ dlq dk_640 64 (.istore 6, 2) = true ∧ dlq dk_640 66 (.goto 1378, 3) = true ∧ dlq dk_640 69 (.aload_n 1, 1) = true ∧ dlq dk_640 70 (.aload_n 0, 1) = true := by decide +kernel
theorem dL_law_688 : decode cL_law 688 = .ok (.aload_n 2, 1) := dl_finq (k := 640) (p := 48) hdk_640 dLb_23.1
theorem dL_law_689 : decode cL_law 689 = .ok (.aload_n 0, 1) := dl_finq (k := 640) (p := 49) hdk_640 dLb_23.2.1
theorem dL_law_690 : decode cL_law 690 = .ok (.iload 4, 2) := dl_finq (k := 640) (p := 50) hdk_640 dLb_23.2.2.1
theorem dL_law_692 : decode cL_law 692 = .ok (.iconst 1, 1) := dl_finq (k := 640) (p := 52) hdk_640 dLb_23.2.2.2.1
theorem dL_law_693 : decode cL_law 693 = .ok (.iadd, 1) := dl_finq (k := 640) (p := 53) hdk_640 dLb_23.2.2.2.2.1
theorem dL_law_694 : decode cL_law 694 = .ok (.iaload, 1) := dl_finq (k := 640) (p := 54) hdk_640 dLb_23.2.2.2.2.2.1
theorem dL_law_695 : decode cL_law 695 = .ok (.aload_n 0, 1) := dl_finq (k := 640) (p := 55) hdk_640 dLb_23.2.2.2.2.2.2.1
theorem dL_law_696 : decode cL_law 696 = .ok (.iload 4, 2) := dl_finq (k := 640) (p := 56) hdk_640 dLb_23.2.2.2.2.2.2.2.1
theorem dL_law_698 : decode cL_law 698 = .ok (.iconst 2, 1) := dl_finq (k := 640) (p := 58) hdk_640 dLb_23.2.2.2.2.2.2.2.2.1
theorem dL_law_699 : decode cL_law 699 = .ok (.iadd, 1) := dl_finq (k := 640) (p := 59) hdk_640 dLb_23.2.2.2.2.2.2.2.2.2.1
theorem dL_law_700 : decode cL_law 700 = .ok (.iaload, 1) := dl_finq (k := 640) (p := 60) hdk_640 dLb_23.2.2.2.2.2.2.2.2.2.2.1
theorem dL_law_701 : decode cL_law 701 = .ok (.invokevirtual 206, 3) := dl_finq (k := 640) (p := 61) hdk_640 dLb_23.2.2.2.2.2.2.2.2.2.2.2.1
theorem dL_law_704 : decode cL_law 704 = .ok (.istore 6, 2) := dl_finq (k := 640) (p := 64) hdk_640 dLb_23.2.2.2.2.2.2.2.2.2.2.2.2.1
theorem dL_law_706 : decode cL_law 706 = .ok (.goto 1378, 3) := dl_finq (k := 640) (p := 66) hdk_640 dLb_23.2.2.2.2.2.2.2.2.2.2.2.2.2.1
theorem dL_law_709 : decode cL_law 709 = .ok (.aload_n 1, 1) := dl_finq (k := 640) (p := 69) hdk_640 dLb_23.2.2.2.2.2.2.2.2.2.2.2.2.2.2.1
theorem dL_law_710 : decode cL_law 710 = .ok (.aload_n 0, 1) := dl_finq (k := 640) (p := 70) hdk_640 dLb_23.2.2.2.2.2.2.2.2.2.2.2.2.2.2.2
theorem dLb_24 : dlq dk_640 71 (.iload 4, 2) = true ∧ dlq dk_640 73 (.iconst 1, 1) = true ∧ dlq dk_640 74 (.iadd, 1) = true ∧ dlq dk_640 75 (.iaload, 1) = true ∧ dlq dk_640 76 (.aload_n 0, 1) = true ∧ dlq dk_640 77 (.iload 4, 2) = true ∧ dlq dk_640 79 (.iconst 2, 1) = true ∧ dlq dk_640 80 (.iadd, 1) = true ∧ dlq dk_640 81 (.iaload, 1) = true ∧ dlq dk_640 82 (.aload_n 3, 1) = true ∧ dlq dk_640 83 (.invokestatic 207, 3) = true ∧ dlq dk_640 86 (.istore 5, 2) = true ∧ dlq dk_640 88 (.aload_n 2, 1) = true ∧ dlq dk_640 89 (.aload_n 0, 1) = true ∧ dlq dk_640 90 (.iload 4, 2) = true ∧ dlq dk_640 92 (.iconst 1, 1) = true := by decide +kernel
theorem dL_law_711 : decode cL_law 711 = .ok (.iload 4, 2) := dl_finq (k := 640) (p := 71) hdk_640 dLb_24.1
theorem dL_law_713 : decode cL_law 713 = .ok (.iconst 1, 1) := dl_finq (k := 640) (p := 73) hdk_640 dLb_24.2.1
theorem dL_law_714 : decode cL_law 714 = .ok (.iadd, 1) := dl_finq (k := 640) (p := 74) hdk_640 dLb_24.2.2.1
theorem dL_law_715 : decode cL_law 715 = .ok (.iaload, 1) := dl_finq (k := 640) (p := 75) hdk_640 dLb_24.2.2.2.1
theorem dL_law_716 : decode cL_law 716 = .ok (.aload_n 0, 1) := dl_finq (k := 640) (p := 76) hdk_640 dLb_24.2.2.2.2.1
theorem dL_law_717 : decode cL_law 717 = .ok (.iload 4, 2) := dl_finq (k := 640) (p := 77) hdk_640 dLb_24.2.2.2.2.2.1
theorem dL_law_719 : decode cL_law 719 = .ok (.iconst 2, 1) := dl_finq (k := 640) (p := 79) hdk_640 dLb_24.2.2.2.2.2.2.1
theorem dL_law_720 : decode cL_law 720 = .ok (.iadd, 1) := dl_finq (k := 640) (p := 80) hdk_640 dLb_24.2.2.2.2.2.2.2.1
theorem dL_law_721 : decode cL_law 721 = .ok (.iaload, 1) := dl_finq (k := 640) (p := 81) hdk_640 dLb_24.2.2.2.2.2.2.2.2.1
theorem dL_law_722 : decode cL_law 722 = .ok (.aload_n 3, 1) := dl_finq (k := 640) (p := 82) hdk_640 dLb_24.2.2.2.2.2.2.2.2.2.1
theorem dL_law_723 : decode cL_law 723 = .ok (.invokestatic 207, 3) := dl_finq (k := 640) (p := 83) hdk_640 dLb_24.2.2.2.2.2.2.2.2.2.2.1
theorem dL_law_726 : decode cL_law 726 = .ok (.istore 5, 2) := dl_finq (k := 640) (p := 86) hdk_640 dLb_24.2.2.2.2.2.2.2.2.2.2.2.1
theorem dL_law_728 : decode cL_law 728 = .ok (.aload_n 2, 1) := dl_finq (k := 640) (p := 88) hdk_640 dLb_24.2.2.2.2.2.2.2.2.2.2.2.2.1
theorem dL_law_729 : decode cL_law 729 = .ok (.aload_n 0, 1) := dl_finq (k := 640) (p := 89) hdk_640 dLb_24.2.2.2.2.2.2.2.2.2.2.2.2.2.1
theorem dL_law_730 : decode cL_law 730 = .ok (.iload 4, 2) := dl_finq (k := 640) (p := 90) hdk_640 dLb_24.2.2.2.2.2.2.2.2.2.2.2.2.2.2.1
theorem dL_law_732 : decode cL_law 732 = .ok (.iconst 1, 1) := dl_finq (k := 640) (p := 92) hdk_640 dLb_24.2.2.2.2.2.2.2.2.2.2.2.2.2.2.2
theorem dLb_25 : dlq dk_640 93 (.iadd, 1) = true ∧ dlq dk_640 94 (.iaload, 1) = true ∧ dlq dk_640 95 (.aload_n 0, 1) = true ∧ dlq dk_640 96 (.iload 4, 2) = true ∧ dlq dk_640 98 (.iconst 2, 1) = true ∧ dlq dk_640 99 (.iadd, 1) = true ∧ dlq dk_640 100 (.iaload, 1) = true ∧ dlq dk_640 101 (.invokevirtual 209, 3) = true ∧ dlq dk_640 104 (.istore 6, 2) = true ∧ dlq dk_640 106 (.goto 1338, 3) = true ∧ dlq dk_640 109 (.aload_n 1, 1) = true ∧ dlq dk_640 110 (.aload_n 0, 1) = true ∧ dlq dk_640 111 (.iload 4, 2) = true ∧ dlq dk_640 113 (.iconst 1, 1) = true ∧ dlq dk_640 114 (.iadd, 1) = true ∧ dlq dk_640 115 (.iaload, 1) = true := by decide +kernel
theorem dL_law_733 : decode cL_law 733 = .ok (.iadd, 1) := dl_finq (k := 640) (p := 93) hdk_640 dLb_25.1
theorem dL_law_734 : decode cL_law 734 = .ok (.iaload, 1) := dl_finq (k := 640) (p := 94) hdk_640 dLb_25.2.1
theorem dL_law_735 : decode cL_law 735 = .ok (.aload_n 0, 1) := dl_finq (k := 640) (p := 95) hdk_640 dLb_25.2.2.1
theorem dL_law_736 : decode cL_law 736 = .ok (.iload 4, 2) := dl_finq (k := 640) (p := 96) hdk_640 dLb_25.2.2.2.1
theorem dL_law_738 : decode cL_law 738 = .ok (.iconst 2, 1) := dl_finq (k := 640) (p := 98) hdk_640 dLb_25.2.2.2.2.1
theorem dL_law_739 : decode cL_law 739 = .ok (.iadd, 1) := dl_finq (k := 640) (p := 99) hdk_640 dLb_25.2.2.2.2.2.1
theorem dL_law_740 : decode cL_law 740 = .ok (.iaload, 1) := dl_finq (k := 640) (p := 100) hdk_640 dLb_25.2.2.2.2.2.2.1
theorem dL_law_741 : decode cL_law 741 = .ok (.invokevirtual 209, 3) := dl_finq (k := 640) (p := 101) hdk_640 dLb_25.2.2.2.2.2.2.2.1
theorem dL_law_744 : decode cL_law 744 = .ok (.istore 6, 2) := dl_finq (k := 640) (p := 104) hdk_640 dLb_25.2.2.2.2.2.2.2.2.1
theorem dL_law_746 : decode cL_law 746 = .ok (.goto 1338, 3) := dl_finq (k := 640) (p := 106) hdk_640 dLb_25.2.2.2.2.2.2.2.2.2.1
theorem dL_law_749 : decode cL_law 749 = .ok (.aload_n 1, 1) := dl_finq (k := 640) (p := 109) hdk_640 dLb_25.2.2.2.2.2.2.2.2.2.2.1
theorem dL_law_750 : decode cL_law 750 = .ok (.aload_n 0, 1) := dl_finq (k := 640) (p := 110) hdk_640 dLb_25.2.2.2.2.2.2.2.2.2.2.2.1
theorem dL_law_751 : decode cL_law 751 = .ok (.iload 4, 2) := dl_finq (k := 640) (p := 111) hdk_640 dLb_25.2.2.2.2.2.2.2.2.2.2.2.2.1
theorem dL_law_753 : decode cL_law 753 = .ok (.iconst 1, 1) := dl_finq (k := 640) (p := 113) hdk_640 dLb_25.2.2.2.2.2.2.2.2.2.2.2.2.2.1
theorem dL_law_754 : decode cL_law 754 = .ok (.iadd, 1) := dl_finq (k := 640) (p := 114) hdk_640 dLb_25.2.2.2.2.2.2.2.2.2.2.2.2.2.2.1
theorem dL_law_755 : decode cL_law 755 = .ok (.iaload, 1) := dl_finq (k := 640) (p := 115) hdk_640 dLb_25.2.2.2.2.2.2.2.2.2.2.2.2.2.2.2
theorem dLb_26 : dlq dk_640 116 (.aload_n 0, 1) = true ∧ dlq dk_640 117 (.iload 4, 2) = true ∧ dlq dk_640 119 (.iconst 2, 1) = true ∧ dlq dk_640 120 (.iadd, 1) = true ∧ dlq dk_640 121 (.iaload, 1) = true ∧ dlq dk_640 122 (.aload_n 3, 1) = true ∧ dlq dk_640 123 (.invokestatic 210, 3) = true ∧ dlq dk_640 126 (.istore 5, 2) = true := by decide +kernel
theorem dL_law_756 : decode cL_law 756 = .ok (.aload_n 0, 1) := dl_finq (k := 640) (p := 116) hdk_640 dLb_26.1
theorem dL_law_757 : decode cL_law 757 = .ok (.iload 4, 2) := dl_finq (k := 640) (p := 117) hdk_640 dLb_26.2.1
theorem dL_law_759 : decode cL_law 759 = .ok (.iconst 2, 1) := dl_finq (k := 640) (p := 119) hdk_640 dLb_26.2.2.1
theorem dL_law_760 : decode cL_law 760 = .ok (.iadd, 1) := dl_finq (k := 640) (p := 120) hdk_640 dLb_26.2.2.2.1
theorem dL_law_761 : decode cL_law 761 = .ok (.iaload, 1) := dl_finq (k := 640) (p := 121) hdk_640 dLb_26.2.2.2.2.1
theorem dL_law_762 : decode cL_law 762 = .ok (.aload_n 3, 1) := dl_finq (k := 640) (p := 122) hdk_640 dLb_26.2.2.2.2.2.1
theorem dL_law_763 : decode cL_law 763 = .ok (.invokestatic 210, 3) := dl_finq (k := 640) (p := 123) hdk_640 dLb_26.2.2.2.2.2.2.1
theorem dL_law_766 : decode cL_law 766 = .ok (.istore 5, 2) := dl_finq (k := 640) (p := 126) hdk_640 dLb_26.2.2.2.2.2.2.2
theorem dLb_27 : dlq dk_768 0 (.aload_n 2, 1) = true ∧ dlq dk_768 1 (.aload_n 0, 1) = true ∧ dlq dk_768 2 (.iload 4, 2) = true ∧ dlq dk_768 4 (.iconst 1, 1) = true ∧ dlq dk_768 5 (.iadd, 1) = true ∧ dlq dk_768 6 (.iaload, 1) = true ∧ dlq dk_768 7 (.aload_n 0, 1) = true ∧ dlq dk_768 8 (.iload 4, 2) = true ∧ dlq dk_768 10 (.iconst 2, 1) = true ∧ dlq dk_768 11 (.iadd, 1) = true ∧ dlq dk_768 12 (.iaload, 1) = true ∧ dlq dk_768 13 (.invokevirtual 212, 3) = true ∧ dlq dk_768 16 (.istore 6, 2) = true ∧ dlq dk_768 18 (.goto 1298, 3) = true ∧ dlq dk_768 21 (.aload_n 1, 1) = true ∧ dlq dk_768 22 (.aload_n 0, 1) = true := by decide +kernel
theorem dL_law_768 : decode cL_law 768 = .ok (.aload_n 2, 1) := dl_finq (k := 768) (p := 0) hdk_768 dLb_27.1
theorem dL_law_769 : decode cL_law 769 = .ok (.aload_n 0, 1) := dl_finq (k := 768) (p := 1) hdk_768 dLb_27.2.1
theorem dL_law_770 : decode cL_law 770 = .ok (.iload 4, 2) := dl_finq (k := 768) (p := 2) hdk_768 dLb_27.2.2.1
theorem dL_law_772 : decode cL_law 772 = .ok (.iconst 1, 1) := dl_finq (k := 768) (p := 4) hdk_768 dLb_27.2.2.2.1
theorem dL_law_773 : decode cL_law 773 = .ok (.iadd, 1) := dl_finq (k := 768) (p := 5) hdk_768 dLb_27.2.2.2.2.1
theorem dL_law_774 : decode cL_law 774 = .ok (.iaload, 1) := dl_finq (k := 768) (p := 6) hdk_768 dLb_27.2.2.2.2.2.1
theorem dL_law_775 : decode cL_law 775 = .ok (.aload_n 0, 1) := dl_finq (k := 768) (p := 7) hdk_768 dLb_27.2.2.2.2.2.2.1
theorem dL_law_776 : decode cL_law 776 = .ok (.iload 4, 2) := dl_finq (k := 768) (p := 8) hdk_768 dLb_27.2.2.2.2.2.2.2.1
theorem dL_law_778 : decode cL_law 778 = .ok (.iconst 2, 1) := dl_finq (k := 768) (p := 10) hdk_768 dLb_27.2.2.2.2.2.2.2.2.1
theorem dL_law_779 : decode cL_law 779 = .ok (.iadd, 1) := dl_finq (k := 768) (p := 11) hdk_768 dLb_27.2.2.2.2.2.2.2.2.2.1
theorem dL_law_780 : decode cL_law 780 = .ok (.iaload, 1) := dl_finq (k := 768) (p := 12) hdk_768 dLb_27.2.2.2.2.2.2.2.2.2.2.1
theorem dL_law_781 : decode cL_law 781 = .ok (.invokevirtual 212, 3) := dl_finq (k := 768) (p := 13) hdk_768 dLb_27.2.2.2.2.2.2.2.2.2.2.2.1
theorem dL_law_784 : decode cL_law 784 = .ok (.istore 6, 2) := dl_finq (k := 768) (p := 16) hdk_768 dLb_27.2.2.2.2.2.2.2.2.2.2.2.2.1
theorem dL_law_786 : decode cL_law 786 = .ok (.goto 1298, 3) := dl_finq (k := 768) (p := 18) hdk_768 dLb_27.2.2.2.2.2.2.2.2.2.2.2.2.2.1
theorem dL_law_789 : decode cL_law 789 = .ok (.aload_n 1, 1) := dl_finq (k := 768) (p := 21) hdk_768 dLb_27.2.2.2.2.2.2.2.2.2.2.2.2.2.2.1
theorem dL_law_790 : decode cL_law 790 = .ok (.aload_n 0, 1) := dl_finq (k := 768) (p := 22) hdk_768 dLb_27.2.2.2.2.2.2.2.2.2.2.2.2.2.2.2
theorem dLb_28 : dlq dk_768 23 (.iload 4, 2) = true ∧ dlq dk_768 25 (.iconst 1, 1) = true ∧ dlq dk_768 26 (.iadd, 1) = true ∧ dlq dk_768 27 (.iaload, 1) = true ∧ dlq dk_768 28 (.aload_n 0, 1) = true ∧ dlq dk_768 29 (.iload 4, 2) = true ∧ dlq dk_768 31 (.iconst 2, 1) = true ∧ dlq dk_768 32 (.iadd, 1) = true ∧ dlq dk_768 33 (.iaload, 1) = true ∧ dlq dk_768 34 (.aload_n 3, 1) = true ∧ dlq dk_768 35 (.invokestatic 213, 3) = true ∧ dlq dk_768 38 (.istore 5, 2) = true ∧ dlq dk_768 40 (.aload_n 2, 1) = true ∧ dlq dk_768 41 (.aload_n 0, 1) = true ∧ dlq dk_768 42 (.iload 4, 2) = true ∧ dlq dk_768 44 (.iconst 1, 1) = true := by decide +kernel
theorem dL_law_791 : decode cL_law 791 = .ok (.iload 4, 2) := dl_finq (k := 768) (p := 23) hdk_768 dLb_28.1
theorem dL_law_793 : decode cL_law 793 = .ok (.iconst 1, 1) := dl_finq (k := 768) (p := 25) hdk_768 dLb_28.2.1
theorem dL_law_794 : decode cL_law 794 = .ok (.iadd, 1) := dl_finq (k := 768) (p := 26) hdk_768 dLb_28.2.2.1
theorem dL_law_795 : decode cL_law 795 = .ok (.iaload, 1) := dl_finq (k := 768) (p := 27) hdk_768 dLb_28.2.2.2.1
theorem dL_law_796 : decode cL_law 796 = .ok (.aload_n 0, 1) := dl_finq (k := 768) (p := 28) hdk_768 dLb_28.2.2.2.2.1
theorem dL_law_797 : decode cL_law 797 = .ok (.iload 4, 2) := dl_finq (k := 768) (p := 29) hdk_768 dLb_28.2.2.2.2.2.1
theorem dL_law_799 : decode cL_law 799 = .ok (.iconst 2, 1) := dl_finq (k := 768) (p := 31) hdk_768 dLb_28.2.2.2.2.2.2.1
theorem dL_law_800 : decode cL_law 800 = .ok (.iadd, 1) := dl_finq (k := 768) (p := 32) hdk_768 dLb_28.2.2.2.2.2.2.2.1
theorem dL_law_801 : decode cL_law 801 = .ok (.iaload, 1) := dl_finq (k := 768) (p := 33) hdk_768 dLb_28.2.2.2.2.2.2.2.2.1
theorem dL_law_802 : decode cL_law 802 = .ok (.aload_n 3, 1) := dl_finq (k := 768) (p := 34) hdk_768 dLb_28.2.2.2.2.2.2.2.2.2.1
theorem dL_law_803 : decode cL_law 803 = .ok (.invokestatic 213, 3) := dl_finq (k := 768) (p := 35) hdk_768 dLb_28.2.2.2.2.2.2.2.2.2.2.1
theorem dL_law_806 : decode cL_law 806 = .ok (.istore 5, 2) := dl_finq (k := 768) (p := 38) hdk_768 dLb_28.2.2.2.2.2.2.2.2.2.2.2.1
theorem dL_law_808 : decode cL_law 808 = .ok (.aload_n 2, 1) := dl_finq (k := 768) (p := 40) hdk_768 dLb_28.2.2.2.2.2.2.2.2.2.2.2.2.1
theorem dL_law_809 : decode cL_law 809 = .ok (.aload_n 0, 1) := dl_finq (k := 768) (p := 41) hdk_768 dLb_28.2.2.2.2.2.2.2.2.2.2.2.2.2.1
theorem dL_law_810 : decode cL_law 810 = .ok (.iload 4, 2) := dl_finq (k := 768) (p := 42) hdk_768 dLb_28.2.2.2.2.2.2.2.2.2.2.2.2.2.2.1
theorem dL_law_812 : decode cL_law 812 = .ok (.iconst 1, 1) := dl_finq (k := 768) (p := 44) hdk_768 dLb_28.2.2.2.2.2.2.2.2.2.2.2.2.2.2.2
theorem dLb_29 : dlq dk_768 45 (.iadd, 1) = true ∧ dlq dk_768 46 (.iaload, 1) = true ∧ dlq dk_768 47 (.aload_n 0, 1) = true ∧ dlq dk_768 48 (.iload 4, 2) = true ∧ dlq dk_768 50 (.iconst 2, 1) = true ∧ dlq dk_768 51 (.iadd, 1) = true ∧ dlq dk_768 52 (.iaload, 1) = true ∧ dlq dk_768 53 (.invokevirtual 215, 3) = true ∧ dlq dk_768 56 (.istore 6, 2) = true ∧ dlq dk_768 58 (.goto 1258, 3) = true ∧ dlq dk_768 61 (.aload_n 1, 1) = true ∧ dlq dk_768 62 (.aload_n 0, 1) = true ∧ dlq dk_768 63 (.iload 4, 2) = true ∧ dlq dk_768 65 (.iconst 1, 1) = true ∧ dlq dk_768 66 (.iadd, 1) = true ∧ dlq dk_768 67 (.iaload, 1) = true := by decide +kernel
theorem dL_law_813 : decode cL_law 813 = .ok (.iadd, 1) := dl_finq (k := 768) (p := 45) hdk_768 dLb_29.1
theorem dL_law_814 : decode cL_law 814 = .ok (.iaload, 1) := dl_finq (k := 768) (p := 46) hdk_768 dLb_29.2.1
theorem dL_law_815 : decode cL_law 815 = .ok (.aload_n 0, 1) := dl_finq (k := 768) (p := 47) hdk_768 dLb_29.2.2.1
theorem dL_law_816 : decode cL_law 816 = .ok (.iload 4, 2) := dl_finq (k := 768) (p := 48) hdk_768 dLb_29.2.2.2.1
theorem dL_law_818 : decode cL_law 818 = .ok (.iconst 2, 1) := dl_finq (k := 768) (p := 50) hdk_768 dLb_29.2.2.2.2.1
theorem dL_law_819 : decode cL_law 819 = .ok (.iadd, 1) := dl_finq (k := 768) (p := 51) hdk_768 dLb_29.2.2.2.2.2.1
theorem dL_law_820 : decode cL_law 820 = .ok (.iaload, 1) := dl_finq (k := 768) (p := 52) hdk_768 dLb_29.2.2.2.2.2.2.1
theorem dL_law_821 : decode cL_law 821 = .ok (.invokevirtual 215, 3) := dl_finq (k := 768) (p := 53) hdk_768 dLb_29.2.2.2.2.2.2.2.1
theorem dL_law_824 : decode cL_law 824 = .ok (.istore 6, 2) := dl_finq (k := 768) (p := 56) hdk_768 dLb_29.2.2.2.2.2.2.2.2.1
theorem dL_law_826 : decode cL_law 826 = .ok (.goto 1258, 3) := dl_finq (k := 768) (p := 58) hdk_768 dLb_29.2.2.2.2.2.2.2.2.2.1
theorem dL_law_829 : decode cL_law 829 = .ok (.aload_n 1, 1) := dl_finq (k := 768) (p := 61) hdk_768 dLb_29.2.2.2.2.2.2.2.2.2.2.1
theorem dL_law_830 : decode cL_law 830 = .ok (.aload_n 0, 1) := dl_finq (k := 768) (p := 62) hdk_768 dLb_29.2.2.2.2.2.2.2.2.2.2.2.1
theorem dL_law_831 : decode cL_law 831 = .ok (.iload 4, 2) := dl_finq (k := 768) (p := 63) hdk_768 dLb_29.2.2.2.2.2.2.2.2.2.2.2.2.1
theorem dL_law_833 : decode cL_law 833 = .ok (.iconst 1, 1) := dl_finq (k := 768) (p := 65) hdk_768 dLb_29.2.2.2.2.2.2.2.2.2.2.2.2.2.1
theorem dL_law_834 : decode cL_law 834 = .ok (.iadd, 1) := dl_finq (k := 768) (p := 66) hdk_768 dLb_29.2.2.2.2.2.2.2.2.2.2.2.2.2.2.1
theorem dL_law_835 : decode cL_law 835 = .ok (.iaload, 1) := dl_finq (k := 768) (p := 67) hdk_768 dLb_29.2.2.2.2.2.2.2.2.2.2.2.2.2.2.2
theorem dLb_30 : dlq dk_768 68 (.aload_n 0, 1) = true ∧ dlq dk_768 69 (.iload 4, 2) = true ∧ dlq dk_768 71 (.iconst 2, 1) = true ∧ dlq dk_768 72 (.iadd, 1) = true ∧ dlq dk_768 73 (.iaload, 1) = true ∧ dlq dk_768 74 (.aload_n 3, 1) = true ∧ dlq dk_768 75 (.invokestatic 216, 3) = true ∧ dlq dk_768 78 (.istore 5, 2) = true ∧ dlq dk_768 80 (.aload_n 2, 1) = true ∧ dlq dk_768 81 (.aload_n 0, 1) = true ∧ dlq dk_768 82 (.iload 4, 2) = true ∧ dlq dk_768 84 (.iconst 1, 1) = true ∧ dlq dk_768 85 (.iadd, 1) = true ∧ dlq dk_768 86 (.iaload, 1) = true ∧ dlq dk_768 87 (.aload_n 0, 1) = true ∧ dlq dk_768 88 (.iload 4, 2) = true := by decide +kernel
theorem dL_law_836 : decode cL_law 836 = .ok (.aload_n 0, 1) := dl_finq (k := 768) (p := 68) hdk_768 dLb_30.1
theorem dL_law_837 : decode cL_law 837 = .ok (.iload 4, 2) := dl_finq (k := 768) (p := 69) hdk_768 dLb_30.2.1
theorem dL_law_839 : decode cL_law 839 = .ok (.iconst 2, 1) := dl_finq (k := 768) (p := 71) hdk_768 dLb_30.2.2.1
theorem dL_law_840 : decode cL_law 840 = .ok (.iadd, 1) := dl_finq (k := 768) (p := 72) hdk_768 dLb_30.2.2.2.1
theorem dL_law_841 : decode cL_law 841 = .ok (.iaload, 1) := dl_finq (k := 768) (p := 73) hdk_768 dLb_30.2.2.2.2.1
theorem dL_law_842 : decode cL_law 842 = .ok (.aload_n 3, 1) := dl_finq (k := 768) (p := 74) hdk_768 dLb_30.2.2.2.2.2.1
theorem dL_law_843 : decode cL_law 843 = .ok (.invokestatic 216, 3) := dl_finq (k := 768) (p := 75) hdk_768 dLb_30.2.2.2.2.2.2.1
theorem dL_law_846 : decode cL_law 846 = .ok (.istore 5, 2) := dl_finq (k := 768) (p := 78) hdk_768 dLb_30.2.2.2.2.2.2.2.1
theorem dL_law_848 : decode cL_law 848 = .ok (.aload_n 2, 1) := dl_finq (k := 768) (p := 80) hdk_768 dLb_30.2.2.2.2.2.2.2.2.1
theorem dL_law_849 : decode cL_law 849 = .ok (.aload_n 0, 1) := dl_finq (k := 768) (p := 81) hdk_768 dLb_30.2.2.2.2.2.2.2.2.2.1
theorem dL_law_850 : decode cL_law 850 = .ok (.iload 4, 2) := dl_finq (k := 768) (p := 82) hdk_768 dLb_30.2.2.2.2.2.2.2.2.2.2.1
theorem dL_law_852 : decode cL_law 852 = .ok (.iconst 1, 1) := dl_finq (k := 768) (p := 84) hdk_768 dLb_30.2.2.2.2.2.2.2.2.2.2.2.1
theorem dL_law_853 : decode cL_law 853 = .ok (.iadd, 1) := dl_finq (k := 768) (p := 85) hdk_768 dLb_30.2.2.2.2.2.2.2.2.2.2.2.2.1
theorem dL_law_854 : decode cL_law 854 = .ok (.iaload, 1) := dl_finq (k := 768) (p := 86) hdk_768 dLb_30.2.2.2.2.2.2.2.2.2.2.2.2.2.1
theorem dL_law_855 : decode cL_law 855 = .ok (.aload_n 0, 1) := dl_finq (k := 768) (p := 87) hdk_768 dLb_30.2.2.2.2.2.2.2.2.2.2.2.2.2.2.1
theorem dL_law_856 : decode cL_law 856 = .ok (.iload 4, 2) := dl_finq (k := 768) (p := 88) hdk_768 dLb_30.2.2.2.2.2.2.2.2.2.2.2.2.2.2.2
theorem dLb_31 : dlq dk_768 90 (.iconst 2, 1) = true ∧ dlq dk_768 91 (.iadd, 1) = true ∧ dlq dk_768 92 (.iaload, 1) = true ∧ dlq dk_768 93 (.invokevirtual 218, 3) = true ∧ dlq dk_768 96 (.istore 6, 2) = true ∧ dlq dk_768 98 (.goto 1218, 3) = true ∧ dlq dk_768 101 (.aload_n 1, 1) = true ∧ dlq dk_768 102 (.aload_n 0, 1) = true ∧ dlq dk_768 103 (.iload 4, 2) = true ∧ dlq dk_768 105 (.iconst 1, 1) = true ∧ dlq dk_768 106 (.iadd, 1) = true ∧ dlq dk_768 107 (.iaload, 1) = true ∧ dlq dk_768 108 (.aload_n 0, 1) = true ∧ dlq dk_768 109 (.iload 4, 2) = true ∧ dlq dk_768 111 (.iconst 2, 1) = true ∧ dlq dk_768 112 (.iadd, 1) = true := by decide +kernel
theorem dL_law_858 : decode cL_law 858 = .ok (.iconst 2, 1) := dl_finq (k := 768) (p := 90) hdk_768 dLb_31.1
theorem dL_law_859 : decode cL_law 859 = .ok (.iadd, 1) := dl_finq (k := 768) (p := 91) hdk_768 dLb_31.2.1
theorem dL_law_860 : decode cL_law 860 = .ok (.iaload, 1) := dl_finq (k := 768) (p := 92) hdk_768 dLb_31.2.2.1
theorem dL_law_861 : decode cL_law 861 = .ok (.invokevirtual 218, 3) := dl_finq (k := 768) (p := 93) hdk_768 dLb_31.2.2.2.1
theorem dL_law_864 : decode cL_law 864 = .ok (.istore 6, 2) := dl_finq (k := 768) (p := 96) hdk_768 dLb_31.2.2.2.2.1
theorem dL_law_866 : decode cL_law 866 = .ok (.goto 1218, 3) := dl_finq (k := 768) (p := 98) hdk_768 dLb_31.2.2.2.2.2.1
theorem dL_law_869 : decode cL_law 869 = .ok (.aload_n 1, 1) := dl_finq (k := 768) (p := 101) hdk_768 dLb_31.2.2.2.2.2.2.1
theorem dL_law_870 : decode cL_law 870 = .ok (.aload_n 0, 1) := dl_finq (k := 768) (p := 102) hdk_768 dLb_31.2.2.2.2.2.2.2.1
theorem dL_law_871 : decode cL_law 871 = .ok (.iload 4, 2) := dl_finq (k := 768) (p := 103) hdk_768 dLb_31.2.2.2.2.2.2.2.2.1
theorem dL_law_873 : decode cL_law 873 = .ok (.iconst 1, 1) := dl_finq (k := 768) (p := 105) hdk_768 dLb_31.2.2.2.2.2.2.2.2.2.1
theorem dL_law_874 : decode cL_law 874 = .ok (.iadd, 1) := dl_finq (k := 768) (p := 106) hdk_768 dLb_31.2.2.2.2.2.2.2.2.2.2.1
theorem dL_law_875 : decode cL_law 875 = .ok (.iaload, 1) := dl_finq (k := 768) (p := 107) hdk_768 dLb_31.2.2.2.2.2.2.2.2.2.2.2.1
theorem dL_law_876 : decode cL_law 876 = .ok (.aload_n 0, 1) := dl_finq (k := 768) (p := 108) hdk_768 dLb_31.2.2.2.2.2.2.2.2.2.2.2.2.1
theorem dL_law_877 : decode cL_law 877 = .ok (.iload 4, 2) := dl_finq (k := 768) (p := 109) hdk_768 dLb_31.2.2.2.2.2.2.2.2.2.2.2.2.2.1
theorem dL_law_879 : decode cL_law 879 = .ok (.iconst 2, 1) := dl_finq (k := 768) (p := 111) hdk_768 dLb_31.2.2.2.2.2.2.2.2.2.2.2.2.2.2.1
theorem dL_law_880 : decode cL_law 880 = .ok (.iadd, 1) := dl_finq (k := 768) (p := 112) hdk_768 dLb_31.2.2.2.2.2.2.2.2.2.2.2.2.2.2.2
theorem dLb_32 : dlq dk_768 113 (.iaload, 1) = true ∧ dlq dk_768 114 (.aload_n 3, 1) = true ∧ dlq dk_768 115 (.invokestatic 219, 3) = true ∧ dlq dk_768 118 (.istore 5, 2) = true ∧ dlq dk_768 120 (.aload_n 2, 1) = true ∧ dlq dk_768 121 (.aload_n 0, 1) = true ∧ dlq dk_768 122 (.iload 4, 2) = true ∧ dlq dk_768 124 (.iconst 1, 1) = true ∧ dlq dk_768 125 (.iadd, 1) = true ∧ dlq dk_768 126 (.iaload, 1) = true ∧ dlq dk_768 127 (.aload_n 0, 1) = true := by decide +kernel
theorem dL_law_881 : decode cL_law 881 = .ok (.iaload, 1) := dl_finq (k := 768) (p := 113) hdk_768 dLb_32.1
theorem dL_law_882 : decode cL_law 882 = .ok (.aload_n 3, 1) := dl_finq (k := 768) (p := 114) hdk_768 dLb_32.2.1
theorem dL_law_883 : decode cL_law 883 = .ok (.invokestatic 219, 3) := dl_finq (k := 768) (p := 115) hdk_768 dLb_32.2.2.1
theorem dL_law_886 : decode cL_law 886 = .ok (.istore 5, 2) := dl_finq (k := 768) (p := 118) hdk_768 dLb_32.2.2.2.1
theorem dL_law_888 : decode cL_law 888 = .ok (.aload_n 2, 1) := dl_finq (k := 768) (p := 120) hdk_768 dLb_32.2.2.2.2.1
theorem dL_law_889 : decode cL_law 889 = .ok (.aload_n 0, 1) := dl_finq (k := 768) (p := 121) hdk_768 dLb_32.2.2.2.2.2.1
theorem dL_law_890 : decode cL_law 890 = .ok (.iload 4, 2) := dl_finq (k := 768) (p := 122) hdk_768 dLb_32.2.2.2.2.2.2.1
theorem dL_law_892 : decode cL_law 892 = .ok (.iconst 1, 1) := dl_finq (k := 768) (p := 124) hdk_768 dLb_32.2.2.2.2.2.2.2.1
theorem dL_law_893 : decode cL_law 893 = .ok (.iadd, 1) := dl_finq (k := 768) (p := 125) hdk_768 dLb_32.2.2.2.2.2.2.2.2.1
theorem dL_law_894 : decode cL_law 894 = .ok (.iaload, 1) := dl_finq (k := 768) (p := 126) hdk_768 dLb_32.2.2.2.2.2.2.2.2.2.1
theorem dL_law_895 : decode cL_law 895 = .ok (.aload_n 0, 1) := dl_finq (k := 768) (p := 127) hdk_768 dLb_32.2.2.2.2.2.2.2.2.2.2
theorem dLb_33 : dlq dk_896 0 (.iload 4, 2) = true ∧ dlq dk_896 2 (.iconst 2, 1) = true ∧ dlq dk_896 3 (.iadd, 1) = true ∧ dlq dk_896 4 (.iaload, 1) = true ∧ dlq dk_896 5 (.invokevirtual 221, 3) = true ∧ dlq dk_896 8 (.istore 6, 2) = true ∧ dlq dk_896 10 (.goto 1178, 3) = true ∧ dlq dk_896 13 (.aload_n 1, 1) = true ∧ dlq dk_896 14 (.aload_n 0, 1) = true ∧ dlq dk_896 15 (.iload 4, 2) = true ∧ dlq dk_896 17 (.iconst 1, 1) = true ∧ dlq dk_896 18 (.iadd, 1) = true ∧ dlq dk_896 19 (.iaload, 1) = true ∧ dlq dk_896 20 (.aload_n 0, 1) = true ∧ dlq dk_896 21 (.iload 4, 2) = true ∧ dlq dk_896 23 (.iconst 2, 1) = true := by decide +kernel
theorem dL_law_896 : decode cL_law 896 = .ok (.iload 4, 2) := dl_finq (k := 896) (p := 0) hdk_896 dLb_33.1
theorem dL_law_898 : decode cL_law 898 = .ok (.iconst 2, 1) := dl_finq (k := 896) (p := 2) hdk_896 dLb_33.2.1
theorem dL_law_899 : decode cL_law 899 = .ok (.iadd, 1) := dl_finq (k := 896) (p := 3) hdk_896 dLb_33.2.2.1
theorem dL_law_900 : decode cL_law 900 = .ok (.iaload, 1) := dl_finq (k := 896) (p := 4) hdk_896 dLb_33.2.2.2.1
theorem dL_law_901 : decode cL_law 901 = .ok (.invokevirtual 221, 3) := dl_finq (k := 896) (p := 5) hdk_896 dLb_33.2.2.2.2.1
theorem dL_law_904 : decode cL_law 904 = .ok (.istore 6, 2) := dl_finq (k := 896) (p := 8) hdk_896 dLb_33.2.2.2.2.2.1
theorem dL_law_906 : decode cL_law 906 = .ok (.goto 1178, 3) := dl_finq (k := 896) (p := 10) hdk_896 dLb_33.2.2.2.2.2.2.1
theorem dL_law_909 : decode cL_law 909 = .ok (.aload_n 1, 1) := dl_finq (k := 896) (p := 13) hdk_896 dLb_33.2.2.2.2.2.2.2.1
theorem dL_law_910 : decode cL_law 910 = .ok (.aload_n 0, 1) := dl_finq (k := 896) (p := 14) hdk_896 dLb_33.2.2.2.2.2.2.2.2.1
theorem dL_law_911 : decode cL_law 911 = .ok (.iload 4, 2) := dl_finq (k := 896) (p := 15) hdk_896 dLb_33.2.2.2.2.2.2.2.2.2.1
theorem dL_law_913 : decode cL_law 913 = .ok (.iconst 1, 1) := dl_finq (k := 896) (p := 17) hdk_896 dLb_33.2.2.2.2.2.2.2.2.2.2.1
theorem dL_law_914 : decode cL_law 914 = .ok (.iadd, 1) := dl_finq (k := 896) (p := 18) hdk_896 dLb_33.2.2.2.2.2.2.2.2.2.2.2.1
theorem dL_law_915 : decode cL_law 915 = .ok (.iaload, 1) := dl_finq (k := 896) (p := 19) hdk_896 dLb_33.2.2.2.2.2.2.2.2.2.2.2.2.1
theorem dL_law_916 : decode cL_law 916 = .ok (.aload_n 0, 1) := dl_finq (k := 896) (p := 20) hdk_896 dLb_33.2.2.2.2.2.2.2.2.2.2.2.2.2.1
theorem dL_law_917 : decode cL_law 917 = .ok (.iload 4, 2) := dl_finq (k := 896) (p := 21) hdk_896 dLb_33.2.2.2.2.2.2.2.2.2.2.2.2.2.2.1
theorem dL_law_919 : decode cL_law 919 = .ok (.iconst 2, 1) := dl_finq (k := 896) (p := 23) hdk_896 dLb_33.2.2.2.2.2.2.2.2.2.2.2.2.2.2.2
theorem dLb_34 : dlq dk_896 24 (.iadd, 1) = true ∧ dlq dk_896 25 (.iaload, 1) = true ∧ dlq dk_896 26 (.aload_n 3, 1) = true ∧ dlq dk_896 27 (.invokestatic 222, 3) = true ∧ dlq dk_896 30 (.istore 5, 2) = true ∧ dlq dk_896 32 (.aload_n 2, 1) = true ∧ dlq dk_896 33 (.aload_n 0, 1) = true ∧ dlq dk_896 34 (.iload 4, 2) = true ∧ dlq dk_896 36 (.iconst 1, 1) = true ∧ dlq dk_896 37 (.iadd, 1) = true ∧ dlq dk_896 38 (.iaload, 1) = true ∧ dlq dk_896 39 (.aload_n 0, 1) = true ∧ dlq dk_896 40 (.iload 4, 2) = true ∧ dlq dk_896 42 (.iconst 2, 1) = true ∧ dlq dk_896 43 (.iadd, 1) = true ∧ dlq dk_896 44 (.iaload, 1) = true := by decide +kernel
theorem dL_law_920 : decode cL_law 920 = .ok (.iadd, 1) := dl_finq (k := 896) (p := 24) hdk_896 dLb_34.1
theorem dL_law_921 : decode cL_law 921 = .ok (.iaload, 1) := dl_finq (k := 896) (p := 25) hdk_896 dLb_34.2.1
theorem dL_law_922 : decode cL_law 922 = .ok (.aload_n 3, 1) := dl_finq (k := 896) (p := 26) hdk_896 dLb_34.2.2.1
theorem dL_law_923 : decode cL_law 923 = .ok (.invokestatic 222, 3) := dl_finq (k := 896) (p := 27) hdk_896 dLb_34.2.2.2.1
theorem dL_law_926 : decode cL_law 926 = .ok (.istore 5, 2) := dl_finq (k := 896) (p := 30) hdk_896 dLb_34.2.2.2.2.1
theorem dL_law_928 : decode cL_law 928 = .ok (.aload_n 2, 1) := dl_finq (k := 896) (p := 32) hdk_896 dLb_34.2.2.2.2.2.1
theorem dL_law_929 : decode cL_law 929 = .ok (.aload_n 0, 1) := dl_finq (k := 896) (p := 33) hdk_896 dLb_34.2.2.2.2.2.2.1
theorem dL_law_930 : decode cL_law 930 = .ok (.iload 4, 2) := dl_finq (k := 896) (p := 34) hdk_896 dLb_34.2.2.2.2.2.2.2.1
theorem dL_law_932 : decode cL_law 932 = .ok (.iconst 1, 1) := dl_finq (k := 896) (p := 36) hdk_896 dLb_34.2.2.2.2.2.2.2.2.1
theorem dL_law_933 : decode cL_law 933 = .ok (.iadd, 1) := dl_finq (k := 896) (p := 37) hdk_896 dLb_34.2.2.2.2.2.2.2.2.2.1
theorem dL_law_934 : decode cL_law 934 = .ok (.iaload, 1) := dl_finq (k := 896) (p := 38) hdk_896 dLb_34.2.2.2.2.2.2.2.2.2.2.1
theorem dL_law_935 : decode cL_law 935 = .ok (.aload_n 0, 1) := dl_finq (k := 896) (p := 39) hdk_896 dLb_34.2.2.2.2.2.2.2.2.2.2.2.1
theorem dL_law_936 : decode cL_law 936 = .ok (.iload 4, 2) := dl_finq (k := 896) (p := 40) hdk_896 dLb_34.2.2.2.2.2.2.2.2.2.2.2.2.1
theorem dL_law_938 : decode cL_law 938 = .ok (.iconst 2, 1) := dl_finq (k := 896) (p := 42) hdk_896 dLb_34.2.2.2.2.2.2.2.2.2.2.2.2.2.1
theorem dL_law_939 : decode cL_law 939 = .ok (.iadd, 1) := dl_finq (k := 896) (p := 43) hdk_896 dLb_34.2.2.2.2.2.2.2.2.2.2.2.2.2.2.1
theorem dL_law_940 : decode cL_law 940 = .ok (.iaload, 1) := dl_finq (k := 896) (p := 44) hdk_896 dLb_34.2.2.2.2.2.2.2.2.2.2.2.2.2.2.2
theorem dLb_35 : dlq dk_896 45 (.invokevirtual 224, 3) = true ∧ dlq dk_896 48 (.istore 6, 2) = true ∧ dlq dk_896 50 (.goto 1138, 3) = true ∧ dlq dk_896 53 (.aload_n 1, 1) = true ∧ dlq dk_896 54 (.aload_n 0, 1) = true ∧ dlq dk_896 55 (.iload 4, 2) = true ∧ dlq dk_896 57 (.iconst 1, 1) = true ∧ dlq dk_896 58 (.iadd, 1) = true ∧ dlq dk_896 59 (.iaload, 1) = true ∧ dlq dk_896 60 (.aload_n 0, 1) = true ∧ dlq dk_896 61 (.iload 4, 2) = true ∧ dlq dk_896 63 (.iconst 2, 1) = true ∧ dlq dk_896 64 (.iadd, 1) = true ∧ dlq dk_896 65 (.iaload, 1) = true ∧ dlq dk_896 66 (.aload_n 3, 1) = true ∧ dlq dk_896 67 (.invokestatic 225, 3) = true := by decide +kernel
theorem dL_law_941 : decode cL_law 941 = .ok (.invokevirtual 224, 3) := dl_finq (k := 896) (p := 45) hdk_896 dLb_35.1
theorem dL_law_944 : decode cL_law 944 = .ok (.istore 6, 2) := dl_finq (k := 896) (p := 48) hdk_896 dLb_35.2.1
theorem dL_law_946 : decode cL_law 946 = .ok (.goto 1138, 3) := dl_finq (k := 896) (p := 50) hdk_896 dLb_35.2.2.1
theorem dL_law_949 : decode cL_law 949 = .ok (.aload_n 1, 1) := dl_finq (k := 896) (p := 53) hdk_896 dLb_35.2.2.2.1
theorem dL_law_950 : decode cL_law 950 = .ok (.aload_n 0, 1) := dl_finq (k := 896) (p := 54) hdk_896 dLb_35.2.2.2.2.1
theorem dL_law_951 : decode cL_law 951 = .ok (.iload 4, 2) := dl_finq (k := 896) (p := 55) hdk_896 dLb_35.2.2.2.2.2.1
theorem dL_law_953 : decode cL_law 953 = .ok (.iconst 1, 1) := dl_finq (k := 896) (p := 57) hdk_896 dLb_35.2.2.2.2.2.2.1
theorem dL_law_954 : decode cL_law 954 = .ok (.iadd, 1) := dl_finq (k := 896) (p := 58) hdk_896 dLb_35.2.2.2.2.2.2.2.1
theorem dL_law_955 : decode cL_law 955 = .ok (.iaload, 1) := dl_finq (k := 896) (p := 59) hdk_896 dLb_35.2.2.2.2.2.2.2.2.1
theorem dL_law_956 : decode cL_law 956 = .ok (.aload_n 0, 1) := dl_finq (k := 896) (p := 60) hdk_896 dLb_35.2.2.2.2.2.2.2.2.2.1
theorem dL_law_957 : decode cL_law 957 = .ok (.iload 4, 2) := dl_finq (k := 896) (p := 61) hdk_896 dLb_35.2.2.2.2.2.2.2.2.2.2.1
theorem dL_law_959 : decode cL_law 959 = .ok (.iconst 2, 1) := dl_finq (k := 896) (p := 63) hdk_896 dLb_35.2.2.2.2.2.2.2.2.2.2.2.1
theorem dL_law_960 : decode cL_law 960 = .ok (.iadd, 1) := dl_finq (k := 896) (p := 64) hdk_896 dLb_35.2.2.2.2.2.2.2.2.2.2.2.2.1
theorem dL_law_961 : decode cL_law 961 = .ok (.iaload, 1) := dl_finq (k := 896) (p := 65) hdk_896 dLb_35.2.2.2.2.2.2.2.2.2.2.2.2.2.1
theorem dL_law_962 : decode cL_law 962 = .ok (.aload_n 3, 1) := dl_finq (k := 896) (p := 66) hdk_896 dLb_35.2.2.2.2.2.2.2.2.2.2.2.2.2.2.1
theorem dL_law_963 : decode cL_law 963 = .ok (.invokestatic 225, 3) := dl_finq (k := 896) (p := 67) hdk_896 dLb_35.2.2.2.2.2.2.2.2.2.2.2.2.2.2.2
theorem dLb_36 : dlq dk_896 70 (.istore 5, 2) = true ∧ dlq dk_896 72 (.aload_n 2, 1) = true ∧ dlq dk_896 73 (.aload_n 0, 1) = true ∧ dlq dk_896 74 (.iload 4, 2) = true ∧ dlq dk_896 76 (.iconst 1, 1) = true ∧ dlq dk_896 77 (.iadd, 1) = true ∧ dlq dk_896 78 (.iaload, 1) = true ∧ dlq dk_896 79 (.aload_n 0, 1) = true ∧ dlq dk_896 80 (.iload 4, 2) = true ∧ dlq dk_896 82 (.iconst 2, 1) = true ∧ dlq dk_896 83 (.iadd, 1) = true ∧ dlq dk_896 84 (.iaload, 1) = true ∧ dlq dk_896 85 (.invokevirtual 227, 3) = true ∧ dlq dk_896 88 (.istore 6, 2) = true ∧ dlq dk_896 90 (.goto 1098, 3) = true ∧ dlq dk_896 93 (.aload_n 1, 1) = true := by decide +kernel
theorem dL_law_966 : decode cL_law 966 = .ok (.istore 5, 2) := dl_finq (k := 896) (p := 70) hdk_896 dLb_36.1
theorem dL_law_968 : decode cL_law 968 = .ok (.aload_n 2, 1) := dl_finq (k := 896) (p := 72) hdk_896 dLb_36.2.1
theorem dL_law_969 : decode cL_law 969 = .ok (.aload_n 0, 1) := dl_finq (k := 896) (p := 73) hdk_896 dLb_36.2.2.1
theorem dL_law_970 : decode cL_law 970 = .ok (.iload 4, 2) := dl_finq (k := 896) (p := 74) hdk_896 dLb_36.2.2.2.1
theorem dL_law_972 : decode cL_law 972 = .ok (.iconst 1, 1) := dl_finq (k := 896) (p := 76) hdk_896 dLb_36.2.2.2.2.1
theorem dL_law_973 : decode cL_law 973 = .ok (.iadd, 1) := dl_finq (k := 896) (p := 77) hdk_896 dLb_36.2.2.2.2.2.1
theorem dL_law_974 : decode cL_law 974 = .ok (.iaload, 1) := dl_finq (k := 896) (p := 78) hdk_896 dLb_36.2.2.2.2.2.2.1
theorem dL_law_975 : decode cL_law 975 = .ok (.aload_n 0, 1) := dl_finq (k := 896) (p := 79) hdk_896 dLb_36.2.2.2.2.2.2.2.1
theorem dL_law_976 : decode cL_law 976 = .ok (.iload 4, 2) := dl_finq (k := 896) (p := 80) hdk_896 dLb_36.2.2.2.2.2.2.2.2.1
theorem dL_law_978 : decode cL_law 978 = .ok (.iconst 2, 1) := dl_finq (k := 896) (p := 82) hdk_896 dLb_36.2.2.2.2.2.2.2.2.2.1
theorem dL_law_979 : decode cL_law 979 = .ok (.iadd, 1) := dl_finq (k := 896) (p := 83) hdk_896 dLb_36.2.2.2.2.2.2.2.2.2.2.1
theorem dL_law_980 : decode cL_law 980 = .ok (.iaload, 1) := dl_finq (k := 896) (p := 84) hdk_896 dLb_36.2.2.2.2.2.2.2.2.2.2.2.1
theorem dL_law_981 : decode cL_law 981 = .ok (.invokevirtual 227, 3) := dl_finq (k := 896) (p := 85) hdk_896 dLb_36.2.2.2.2.2.2.2.2.2.2.2.2.1
theorem dL_law_984 : decode cL_law 984 = .ok (.istore 6, 2) := dl_finq (k := 896) (p := 88) hdk_896 dLb_36.2.2.2.2.2.2.2.2.2.2.2.2.2.1
theorem dL_law_986 : decode cL_law 986 = .ok (.goto 1098, 3) := dl_finq (k := 896) (p := 90) hdk_896 dLb_36.2.2.2.2.2.2.2.2.2.2.2.2.2.2.1
theorem dL_law_989 : decode cL_law 989 = .ok (.aload_n 1, 1) := dl_finq (k := 896) (p := 93) hdk_896 dLb_36.2.2.2.2.2.2.2.2.2.2.2.2.2.2.2
theorem dLb_37 : dlq dk_896 94 (.aload_n 0, 1) = true ∧ dlq dk_896 95 (.iload 4, 2) = true ∧ dlq dk_896 97 (.iconst 1, 1) = true ∧ dlq dk_896 98 (.iadd, 1) = true ∧ dlq dk_896 99 (.iaload, 1) = true ∧ dlq dk_896 100 (.aload_n 3, 1) = true ∧ dlq dk_896 101 (.invokestatic 228, 3) = true ∧ dlq dk_896 104 (.istore 5, 2) = true ∧ dlq dk_896 106 (.aload_n 2, 1) = true ∧ dlq dk_896 107 (.aload_n 0, 1) = true ∧ dlq dk_896 108 (.iload 4, 2) = true ∧ dlq dk_896 110 (.iconst 1, 1) = true ∧ dlq dk_896 111 (.iadd, 1) = true ∧ dlq dk_896 112 (.iaload, 1) = true ∧ dlq dk_896 113 (.invokevirtual 230, 3) = true ∧ dlq dk_896 116 (.istore 6, 2) = true := by decide +kernel
theorem dL_law_990 : decode cL_law 990 = .ok (.aload_n 0, 1) := dl_finq (k := 896) (p := 94) hdk_896 dLb_37.1
theorem dL_law_991 : decode cL_law 991 = .ok (.iload 4, 2) := dl_finq (k := 896) (p := 95) hdk_896 dLb_37.2.1
theorem dL_law_993 : decode cL_law 993 = .ok (.iconst 1, 1) := dl_finq (k := 896) (p := 97) hdk_896 dLb_37.2.2.1
theorem dL_law_994 : decode cL_law 994 = .ok (.iadd, 1) := dl_finq (k := 896) (p := 98) hdk_896 dLb_37.2.2.2.1
theorem dL_law_995 : decode cL_law 995 = .ok (.iaload, 1) := dl_finq (k := 896) (p := 99) hdk_896 dLb_37.2.2.2.2.1
theorem dL_law_996 : decode cL_law 996 = .ok (.aload_n 3, 1) := dl_finq (k := 896) (p := 100) hdk_896 dLb_37.2.2.2.2.2.1
theorem dL_law_997 : decode cL_law 997 = .ok (.invokestatic 228, 3) := dl_finq (k := 896) (p := 101) hdk_896 dLb_37.2.2.2.2.2.2.1
theorem dL_law_1000 : decode cL_law 1000 = .ok (.istore 5, 2) := dl_finq (k := 896) (p := 104) hdk_896 dLb_37.2.2.2.2.2.2.2.1
theorem dL_law_1002 : decode cL_law 1002 = .ok (.aload_n 2, 1) := dl_finq (k := 896) (p := 106) hdk_896 dLb_37.2.2.2.2.2.2.2.2.1
theorem dL_law_1003 : decode cL_law 1003 = .ok (.aload_n 0, 1) := dl_finq (k := 896) (p := 107) hdk_896 dLb_37.2.2.2.2.2.2.2.2.2.1
theorem dL_law_1004 : decode cL_law 1004 = .ok (.iload 4, 2) := dl_finq (k := 896) (p := 108) hdk_896 dLb_37.2.2.2.2.2.2.2.2.2.2.1
theorem dL_law_1006 : decode cL_law 1006 = .ok (.iconst 1, 1) := dl_finq (k := 896) (p := 110) hdk_896 dLb_37.2.2.2.2.2.2.2.2.2.2.2.1
theorem dL_law_1007 : decode cL_law 1007 = .ok (.iadd, 1) := dl_finq (k := 896) (p := 111) hdk_896 dLb_37.2.2.2.2.2.2.2.2.2.2.2.2.1
theorem dL_law_1008 : decode cL_law 1008 = .ok (.iaload, 1) := dl_finq (k := 896) (p := 112) hdk_896 dLb_37.2.2.2.2.2.2.2.2.2.2.2.2.2.1
theorem dL_law_1009 : decode cL_law 1009 = .ok (.invokevirtual 230, 3) := dl_finq (k := 896) (p := 113) hdk_896 dLb_37.2.2.2.2.2.2.2.2.2.2.2.2.2.2.1
theorem dL_law_1012 : decode cL_law 1012 = .ok (.istore 6, 2) := dl_finq (k := 896) (p := 116) hdk_896 dLb_37.2.2.2.2.2.2.2.2.2.2.2.2.2.2.2
theorem dLb_38 : dlq dk_896 118 (.goto 1070, 3) = true ∧ dlq dk_896 121 (.aload_n 1, 1) = true ∧ dlq dk_896 122 (.aload_n 0, 1) = true ∧ dlq dk_896 123 (.iload 4, 2) = true ∧ dlq dk_896 125 (.iconst 1, 1) = true ∧ dlq dk_896 126 (.iadd, 1) = true ∧ dlq dk_896 127 (.iaload, 1) = true := by decide +kernel
theorem dL_law_1014 : decode cL_law 1014 = .ok (.goto 1070, 3) := dl_finq (k := 896) (p := 118) hdk_896 dLb_38.1
theorem dL_law_1017 : decode cL_law 1017 = .ok (.aload_n 1, 1) := dl_finq (k := 896) (p := 121) hdk_896 dLb_38.2.1
theorem dL_law_1018 : decode cL_law 1018 = .ok (.aload_n 0, 1) := dl_finq (k := 896) (p := 122) hdk_896 dLb_38.2.2.1
theorem dL_law_1019 : decode cL_law 1019 = .ok (.iload 4, 2) := dl_finq (k := 896) (p := 123) hdk_896 dLb_38.2.2.2.1
theorem dL_law_1021 : decode cL_law 1021 = .ok (.iconst 1, 1) := dl_finq (k := 896) (p := 125) hdk_896 dLb_38.2.2.2.2.1
theorem dL_law_1022 : decode cL_law 1022 = .ok (.iadd, 1) := dl_finq (k := 896) (p := 126) hdk_896 dLb_38.2.2.2.2.2.1
theorem dL_law_1023 : decode cL_law 1023 = .ok (.iaload, 1) := dl_finq (k := 896) (p := 127) hdk_896 dLb_38.2.2.2.2.2.2
theorem dLb_39 : dlq dk_1024 0 (.aload_n 0, 1) = true ∧ dlq dk_1024 1 (.iload 4, 2) = true ∧ dlq dk_1024 3 (.iconst 2, 1) = true ∧ dlq dk_1024 4 (.iadd, 1) = true ∧ dlq dk_1024 5 (.iaload, 1) = true ∧ dlq dk_1024 6 (.aload_n 0, 1) = true ∧ dlq dk_1024 7 (.iload 4, 2) = true ∧ dlq dk_1024 9 (.iconst 3, 1) = true ∧ dlq dk_1024 10 (.iadd, 1) = true ∧ dlq dk_1024 11 (.iaload, 1) = true ∧ dlq dk_1024 12 (.aload_n 0, 1) = true ∧ dlq dk_1024 13 (.iload 4, 2) = true ∧ dlq dk_1024 15 (.iconst 4, 1) = true ∧ dlq dk_1024 16 (.iadd, 1) = true ∧ dlq dk_1024 17 (.iaload, 1) = true ∧ dlq dk_1024 18 (.ifCond .eq 7, 3) = true := by decide +kernel
theorem dL_law_1024 : decode cL_law 1024 = .ok (.aload_n 0, 1) := dl_finq (k := 1024) (p := 0) hdk_1024 dLb_39.1
theorem dL_law_1025 : decode cL_law 1025 = .ok (.iload 4, 2) := dl_finq (k := 1024) (p := 1) hdk_1024 dLb_39.2.1
theorem dL_law_1027 : decode cL_law 1027 = .ok (.iconst 2, 1) := dl_finq (k := 1024) (p := 3) hdk_1024 dLb_39.2.2.1
theorem dL_law_1028 : decode cL_law 1028 = .ok (.iadd, 1) := dl_finq (k := 1024) (p := 4) hdk_1024 dLb_39.2.2.2.1
theorem dL_law_1029 : decode cL_law 1029 = .ok (.iaload, 1) := dl_finq (k := 1024) (p := 5) hdk_1024 dLb_39.2.2.2.2.1
theorem dL_law_1030 : decode cL_law 1030 = .ok (.aload_n 0, 1) := dl_finq (k := 1024) (p := 6) hdk_1024 dLb_39.2.2.2.2.2.1
theorem dL_law_1031 : decode cL_law 1031 = .ok (.iload 4, 2) := dl_finq (k := 1024) (p := 7) hdk_1024 dLb_39.2.2.2.2.2.2.1
theorem dL_law_1033 : decode cL_law 1033 = .ok (.iconst 3, 1) := dl_finq (k := 1024) (p := 9) hdk_1024 dLb_39.2.2.2.2.2.2.2.1
theorem dL_law_1034 : decode cL_law 1034 = .ok (.iadd, 1) := dl_finq (k := 1024) (p := 10) hdk_1024 dLb_39.2.2.2.2.2.2.2.2.1
theorem dL_law_1035 : decode cL_law 1035 = .ok (.iaload, 1) := dl_finq (k := 1024) (p := 11) hdk_1024 dLb_39.2.2.2.2.2.2.2.2.2.1
theorem dL_law_1036 : decode cL_law 1036 = .ok (.aload_n 0, 1) := dl_finq (k := 1024) (p := 12) hdk_1024 dLb_39.2.2.2.2.2.2.2.2.2.2.1
theorem dL_law_1037 : decode cL_law 1037 = .ok (.iload 4, 2) := dl_finq (k := 1024) (p := 13) hdk_1024 dLb_39.2.2.2.2.2.2.2.2.2.2.2.1
theorem dL_law_1039 : decode cL_law 1039 = .ok (.iconst 4, 1) := dl_finq (k := 1024) (p := 15) hdk_1024 dLb_39.2.2.2.2.2.2.2.2.2.2.2.2.1
theorem dL_law_1040 : decode cL_law 1040 = .ok (.iadd, 1) := dl_finq (k := 1024) (p := 16) hdk_1024 dLb_39.2.2.2.2.2.2.2.2.2.2.2.2.2.1
theorem dL_law_1041 : decode cL_law 1041 = .ok (.iaload, 1) := dl_finq (k := 1024) (p := 17) hdk_1024 dLb_39.2.2.2.2.2.2.2.2.2.2.2.2.2.2.1
theorem dL_law_1042 : decode cL_law 1042 = .ok (.ifCond .eq 7, 3) := dl_finq (k := 1024) (p := 18) hdk_1024 dLb_39.2.2.2.2.2.2.2.2.2.2.2.2.2.2.2
theorem dLb_40 : dlq dk_1024 21 (.iconst 1, 1) = true ∧ dlq dk_1024 22 (.goto 4, 3) = true ∧ dlq dk_1024 25 (.iconst 0, 1) = true ∧ dlq dk_1024 26 (.aload_n 3, 1) = true ∧ dlq dk_1024 27 (.invokestatic 231, 3) = true ∧ dlq dk_1024 30 (.istore 5, 2) = true ∧ dlq dk_1024 32 (.aload_n 2, 1) = true ∧ dlq dk_1024 33 (.aload_n 0, 1) = true ∧ dlq dk_1024 34 (.iload 4, 2) = true ∧ dlq dk_1024 36 (.iconst 1, 1) = true ∧ dlq dk_1024 37 (.iadd, 1) = true ∧ dlq dk_1024 38 (.iaload, 1) = true ∧ dlq dk_1024 39 (.aload_n 0, 1) = true ∧ dlq dk_1024 40 (.iload 4, 2) = true ∧ dlq dk_1024 42 (.iconst 2, 1) = true ∧ dlq dk_1024 43 (.iadd, 1) = true := by decide +kernel
theorem dL_law_1045 : decode cL_law 1045 = .ok (.iconst 1, 1) := dl_finq (k := 1024) (p := 21) hdk_1024 dLb_40.1
theorem dL_law_1046 : decode cL_law 1046 = .ok (.goto 4, 3) := dl_finq (k := 1024) (p := 22) hdk_1024 dLb_40.2.1
theorem dL_law_1049 : decode cL_law 1049 = .ok (.iconst 0, 1) := dl_finq (k := 1024) (p := 25) hdk_1024 dLb_40.2.2.1
theorem dL_law_1050 : decode cL_law 1050 = .ok (.aload_n 3, 1) := dl_finq (k := 1024) (p := 26) hdk_1024 dLb_40.2.2.2.1
theorem dL_law_1051 : decode cL_law 1051 = .ok (.invokestatic 231, 3) := dl_finq (k := 1024) (p := 27) hdk_1024 dLb_40.2.2.2.2.1
theorem dL_law_1054 : decode cL_law 1054 = .ok (.istore 5, 2) := dl_finq (k := 1024) (p := 30) hdk_1024 dLb_40.2.2.2.2.2.1
theorem dL_law_1056 : decode cL_law 1056 = .ok (.aload_n 2, 1) := dl_finq (k := 1024) (p := 32) hdk_1024 dLb_40.2.2.2.2.2.2.1
theorem dL_law_1057 : decode cL_law 1057 = .ok (.aload_n 0, 1) := dl_finq (k := 1024) (p := 33) hdk_1024 dLb_40.2.2.2.2.2.2.2.1
theorem dL_law_1058 : decode cL_law 1058 = .ok (.iload 4, 2) := dl_finq (k := 1024) (p := 34) hdk_1024 dLb_40.2.2.2.2.2.2.2.2.1
theorem dL_law_1060 : decode cL_law 1060 = .ok (.iconst 1, 1) := dl_finq (k := 1024) (p := 36) hdk_1024 dLb_40.2.2.2.2.2.2.2.2.2.1
theorem dL_law_1061 : decode cL_law 1061 = .ok (.iadd, 1) := dl_finq (k := 1024) (p := 37) hdk_1024 dLb_40.2.2.2.2.2.2.2.2.2.2.1
theorem dL_law_1062 : decode cL_law 1062 = .ok (.iaload, 1) := dl_finq (k := 1024) (p := 38) hdk_1024 dLb_40.2.2.2.2.2.2.2.2.2.2.2.1
theorem dL_law_1063 : decode cL_law 1063 = .ok (.aload_n 0, 1) := dl_finq (k := 1024) (p := 39) hdk_1024 dLb_40.2.2.2.2.2.2.2.2.2.2.2.2.1
theorem dL_law_1064 : decode cL_law 1064 = .ok (.iload 4, 2) := dl_finq (k := 1024) (p := 40) hdk_1024 dLb_40.2.2.2.2.2.2.2.2.2.2.2.2.2.1
theorem dL_law_1066 : decode cL_law 1066 = .ok (.iconst 2, 1) := dl_finq (k := 1024) (p := 42) hdk_1024 dLb_40.2.2.2.2.2.2.2.2.2.2.2.2.2.2.1
theorem dL_law_1067 : decode cL_law 1067 = .ok (.iadd, 1) := dl_finq (k := 1024) (p := 43) hdk_1024 dLb_40.2.2.2.2.2.2.2.2.2.2.2.2.2.2.2
theorem dLb_41 : dlq dk_1024 44 (.iaload, 1) = true ∧ dlq dk_1024 45 (.aload_n 0, 1) = true ∧ dlq dk_1024 46 (.iload 4, 2) = true ∧ dlq dk_1024 48 (.iconst 3, 1) = true ∧ dlq dk_1024 49 (.iadd, 1) = true ∧ dlq dk_1024 50 (.iaload, 1) = true ∧ dlq dk_1024 51 (.aload_n 0, 1) = true ∧ dlq dk_1024 52 (.iload 4, 2) = true ∧ dlq dk_1024 54 (.iconst 4, 1) = true ∧ dlq dk_1024 55 (.iadd, 1) = true ∧ dlq dk_1024 56 (.iaload, 1) = true ∧ dlq dk_1024 57 (.ifCond .eq 7, 3) = true ∧ dlq dk_1024 60 (.iconst 1, 1) = true ∧ dlq dk_1024 61 (.goto 4, 3) = true ∧ dlq dk_1024 64 (.iconst 0, 1) = true ∧ dlq dk_1024 65 (.invokevirtual 234, 3) = true := by decide +kernel
theorem dL_law_1068 : decode cL_law 1068 = .ok (.iaload, 1) := dl_finq (k := 1024) (p := 44) hdk_1024 dLb_41.1
theorem dL_law_1069 : decode cL_law 1069 = .ok (.aload_n 0, 1) := dl_finq (k := 1024) (p := 45) hdk_1024 dLb_41.2.1
theorem dL_law_1070 : decode cL_law 1070 = .ok (.iload 4, 2) := dl_finq (k := 1024) (p := 46) hdk_1024 dLb_41.2.2.1
theorem dL_law_1072 : decode cL_law 1072 = .ok (.iconst 3, 1) := dl_finq (k := 1024) (p := 48) hdk_1024 dLb_41.2.2.2.1
theorem dL_law_1073 : decode cL_law 1073 = .ok (.iadd, 1) := dl_finq (k := 1024) (p := 49) hdk_1024 dLb_41.2.2.2.2.1
theorem dL_law_1074 : decode cL_law 1074 = .ok (.iaload, 1) := dl_finq (k := 1024) (p := 50) hdk_1024 dLb_41.2.2.2.2.2.1
theorem dL_law_1075 : decode cL_law 1075 = .ok (.aload_n 0, 1) := dl_finq (k := 1024) (p := 51) hdk_1024 dLb_41.2.2.2.2.2.2.1
theorem dL_law_1076 : decode cL_law 1076 = .ok (.iload 4, 2) := dl_finq (k := 1024) (p := 52) hdk_1024 dLb_41.2.2.2.2.2.2.2.1
theorem dL_law_1078 : decode cL_law 1078 = .ok (.iconst 4, 1) := dl_finq (k := 1024) (p := 54) hdk_1024 dLb_41.2.2.2.2.2.2.2.2.1
theorem dL_law_1079 : decode cL_law 1079 = .ok (.iadd, 1) := dl_finq (k := 1024) (p := 55) hdk_1024 dLb_41.2.2.2.2.2.2.2.2.2.1
theorem dL_law_1080 : decode cL_law 1080 = .ok (.iaload, 1) := dl_finq (k := 1024) (p := 56) hdk_1024 dLb_41.2.2.2.2.2.2.2.2.2.2.1
theorem dL_law_1081 : decode cL_law 1081 = .ok (.ifCond .eq 7, 3) := dl_finq (k := 1024) (p := 57) hdk_1024 dLb_41.2.2.2.2.2.2.2.2.2.2.2.1
theorem dL_law_1084 : decode cL_law 1084 = .ok (.iconst 1, 1) := dl_finq (k := 1024) (p := 60) hdk_1024 dLb_41.2.2.2.2.2.2.2.2.2.2.2.2.1
theorem dL_law_1085 : decode cL_law 1085 = .ok (.goto 4, 3) := dl_finq (k := 1024) (p := 61) hdk_1024 dLb_41.2.2.2.2.2.2.2.2.2.2.2.2.2.1
theorem dL_law_1088 : decode cL_law 1088 = .ok (.iconst 0, 1) := dl_finq (k := 1024) (p := 64) hdk_1024 dLb_41.2.2.2.2.2.2.2.2.2.2.2.2.2.2.1
theorem dL_law_1089 : decode cL_law 1089 = .ok (.invokevirtual 234, 3) := dl_finq (k := 1024) (p := 65) hdk_1024 dLb_41.2.2.2.2.2.2.2.2.2.2.2.2.2.2.2
theorem dLb_42 : dlq dk_1024 68 (.astore 6, 2) = true ∧ dlq dk_1024 70 (.goto 990, 3) = true ∧ dlq dk_1024 73 (.aload_n 1, 1) = true ∧ dlq dk_1024 74 (.aload_n 0, 1) = true ∧ dlq dk_1024 75 (.iload 4, 2) = true ∧ dlq dk_1024 77 (.iconst 1, 1) = true ∧ dlq dk_1024 78 (.iadd, 1) = true ∧ dlq dk_1024 79 (.iaload, 1) = true ∧ dlq dk_1024 80 (.aload_n 3, 1) = true ∧ dlq dk_1024 81 (.invokestatic 235, 3) = true ∧ dlq dk_1024 84 (.istore 5, 2) = true ∧ dlq dk_1024 86 (.aload_n 2, 1) = true ∧ dlq dk_1024 87 (.aload_n 0, 1) = true ∧ dlq dk_1024 88 (.iload 4, 2) = true ∧ dlq dk_1024 90 (.iconst 1, 1) = true ∧ dlq dk_1024 91 (.iadd, 1) = true := by decide +kernel
theorem dL_law_1092 : decode cL_law 1092 = .ok (.astore 6, 2) := dl_finq (k := 1024) (p := 68) hdk_1024 dLb_42.1
theorem dL_law_1094 : decode cL_law 1094 = .ok (.goto 990, 3) := dl_finq (k := 1024) (p := 70) hdk_1024 dLb_42.2.1
theorem dL_law_1097 : decode cL_law 1097 = .ok (.aload_n 1, 1) := dl_finq (k := 1024) (p := 73) hdk_1024 dLb_42.2.2.1
theorem dL_law_1098 : decode cL_law 1098 = .ok (.aload_n 0, 1) := dl_finq (k := 1024) (p := 74) hdk_1024 dLb_42.2.2.2.1
theorem dL_law_1099 : decode cL_law 1099 = .ok (.iload 4, 2) := dl_finq (k := 1024) (p := 75) hdk_1024 dLb_42.2.2.2.2.1
theorem dL_law_1101 : decode cL_law 1101 = .ok (.iconst 1, 1) := dl_finq (k := 1024) (p := 77) hdk_1024 dLb_42.2.2.2.2.2.1
theorem dL_law_1102 : decode cL_law 1102 = .ok (.iadd, 1) := dl_finq (k := 1024) (p := 78) hdk_1024 dLb_42.2.2.2.2.2.2.1
theorem dL_law_1103 : decode cL_law 1103 = .ok (.iaload, 1) := dl_finq (k := 1024) (p := 79) hdk_1024 dLb_42.2.2.2.2.2.2.2.1
theorem dL_law_1104 : decode cL_law 1104 = .ok (.aload_n 3, 1) := dl_finq (k := 1024) (p := 80) hdk_1024 dLb_42.2.2.2.2.2.2.2.2.1
theorem dL_law_1105 : decode cL_law 1105 = .ok (.invokestatic 235, 3) := dl_finq (k := 1024) (p := 81) hdk_1024 dLb_42.2.2.2.2.2.2.2.2.2.1
theorem dL_law_1108 : decode cL_law 1108 = .ok (.istore 5, 2) := dl_finq (k := 1024) (p := 84) hdk_1024 dLb_42.2.2.2.2.2.2.2.2.2.2.1
theorem dL_law_1110 : decode cL_law 1110 = .ok (.aload_n 2, 1) := dl_finq (k := 1024) (p := 86) hdk_1024 dLb_42.2.2.2.2.2.2.2.2.2.2.2.1
theorem dL_law_1111 : decode cL_law 1111 = .ok (.aload_n 0, 1) := dl_finq (k := 1024) (p := 87) hdk_1024 dLb_42.2.2.2.2.2.2.2.2.2.2.2.2.1
theorem dL_law_1112 : decode cL_law 1112 = .ok (.iload 4, 2) := dl_finq (k := 1024) (p := 88) hdk_1024 dLb_42.2.2.2.2.2.2.2.2.2.2.2.2.2.1
theorem dL_law_1114 : decode cL_law 1114 = .ok (.iconst 1, 1) := dl_finq (k := 1024) (p := 90) hdk_1024 dLb_42.2.2.2.2.2.2.2.2.2.2.2.2.2.2.1
theorem dL_law_1115 : decode cL_law 1115 = .ok (.iadd, 1) := dl_finq (k := 1024) (p := 91) hdk_1024 dLb_42.2.2.2.2.2.2.2.2.2.2.2.2.2.2.2
theorem dLb_43 : dlq dk_1024 92 (.iaload, 1) = true ∧ dlq dk_1024 93 (.invokevirtual 237, 3) = true ∧ dlq dk_1024 96 (.istore 6, 2) = true ∧ dlq dk_1024 98 (.goto 962, 3) = true ∧ dlq dk_1024 101 (.aload_n 1, 1) = true ∧ dlq dk_1024 102 (.aload_n 0, 1) = true ∧ dlq dk_1024 103 (.iload 4, 2) = true ∧ dlq dk_1024 105 (.iconst 1, 1) = true ∧ dlq dk_1024 106 (.iadd, 1) = true ∧ dlq dk_1024 107 (.iaload, 1) = true ∧ dlq dk_1024 108 (.aload_n 0, 1) = true ∧ dlq dk_1024 109 (.iload 4, 2) = true ∧ dlq dk_1024 111 (.iconst 2, 1) = true ∧ dlq dk_1024 112 (.iadd, 1) = true ∧ dlq dk_1024 113 (.iaload, 1) = true ∧ dlq dk_1024 114 (.aload_n 0, 1) = true := by decide +kernel
theorem dL_law_1116 : decode cL_law 1116 = .ok (.iaload, 1) := dl_finq (k := 1024) (p := 92) hdk_1024 dLb_43.1
theorem dL_law_1117 : decode cL_law 1117 = .ok (.invokevirtual 237, 3) := dl_finq (k := 1024) (p := 93) hdk_1024 dLb_43.2.1
theorem dL_law_1120 : decode cL_law 1120 = .ok (.istore 6, 2) := dl_finq (k := 1024) (p := 96) hdk_1024 dLb_43.2.2.1
theorem dL_law_1122 : decode cL_law 1122 = .ok (.goto 962, 3) := dl_finq (k := 1024) (p := 98) hdk_1024 dLb_43.2.2.2.1
theorem dL_law_1125 : decode cL_law 1125 = .ok (.aload_n 1, 1) := dl_finq (k := 1024) (p := 101) hdk_1024 dLb_43.2.2.2.2.1
theorem dL_law_1126 : decode cL_law 1126 = .ok (.aload_n 0, 1) := dl_finq (k := 1024) (p := 102) hdk_1024 dLb_43.2.2.2.2.2.1
theorem dL_law_1127 : decode cL_law 1127 = .ok (.iload 4, 2) := dl_finq (k := 1024) (p := 103) hdk_1024 dLb_43.2.2.2.2.2.2.1
theorem dL_law_1129 : decode cL_law 1129 = .ok (.iconst 1, 1) := dl_finq (k := 1024) (p := 105) hdk_1024 dLb_43.2.2.2.2.2.2.2.1
theorem dL_law_1130 : decode cL_law 1130 = .ok (.iadd, 1) := dl_finq (k := 1024) (p := 106) hdk_1024 dLb_43.2.2.2.2.2.2.2.2.1
theorem dL_law_1131 : decode cL_law 1131 = .ok (.iaload, 1) := dl_finq (k := 1024) (p := 107) hdk_1024 dLb_43.2.2.2.2.2.2.2.2.2.1
theorem dL_law_1132 : decode cL_law 1132 = .ok (.aload_n 0, 1) := dl_finq (k := 1024) (p := 108) hdk_1024 dLb_43.2.2.2.2.2.2.2.2.2.2.1
theorem dL_law_1133 : decode cL_law 1133 = .ok (.iload 4, 2) := dl_finq (k := 1024) (p := 109) hdk_1024 dLb_43.2.2.2.2.2.2.2.2.2.2.2.1
theorem dL_law_1135 : decode cL_law 1135 = .ok (.iconst 2, 1) := dl_finq (k := 1024) (p := 111) hdk_1024 dLb_43.2.2.2.2.2.2.2.2.2.2.2.2.1
theorem dL_law_1136 : decode cL_law 1136 = .ok (.iadd, 1) := dl_finq (k := 1024) (p := 112) hdk_1024 dLb_43.2.2.2.2.2.2.2.2.2.2.2.2.2.1
theorem dL_law_1137 : decode cL_law 1137 = .ok (.iaload, 1) := dl_finq (k := 1024) (p := 113) hdk_1024 dLb_43.2.2.2.2.2.2.2.2.2.2.2.2.2.2.1
theorem dL_law_1138 : decode cL_law 1138 = .ok (.aload_n 0, 1) := dl_finq (k := 1024) (p := 114) hdk_1024 dLb_43.2.2.2.2.2.2.2.2.2.2.2.2.2.2.2
theorem dLb_44 : dlq dk_1024 115 (.iload 4, 2) = true ∧ dlq dk_1024 117 (.iconst 3, 1) = true ∧ dlq dk_1024 118 (.iadd, 1) = true ∧ dlq dk_1024 119 (.iaload, 1) = true ∧ dlq dk_1024 120 (.aload_n 0, 1) = true ∧ dlq dk_1024 121 (.iload 4, 2) = true ∧ dlq dk_1024 123 (.iconst 4, 1) = true ∧ dlq dk_1024 124 (.iadd, 1) = true ∧ dlq dk_1024 125 (.iaload, 1) = true ∧ dlq dk_1024 126 (.aload_n 0, 1) = true ∧ dlq dk_1024 127 (.iload 4, 2) = true := by decide +kernel
theorem dL_law_1139 : decode cL_law 1139 = .ok (.iload 4, 2) := dl_finq (k := 1024) (p := 115) hdk_1024 dLb_44.1
theorem dL_law_1141 : decode cL_law 1141 = .ok (.iconst 3, 1) := dl_finq (k := 1024) (p := 117) hdk_1024 dLb_44.2.1
theorem dL_law_1142 : decode cL_law 1142 = .ok (.iadd, 1) := dl_finq (k := 1024) (p := 118) hdk_1024 dLb_44.2.2.1
theorem dL_law_1143 : decode cL_law 1143 = .ok (.iaload, 1) := dl_finq (k := 1024) (p := 119) hdk_1024 dLb_44.2.2.2.1
theorem dL_law_1144 : decode cL_law 1144 = .ok (.aload_n 0, 1) := dl_finq (k := 1024) (p := 120) hdk_1024 dLb_44.2.2.2.2.1
theorem dL_law_1145 : decode cL_law 1145 = .ok (.iload 4, 2) := dl_finq (k := 1024) (p := 121) hdk_1024 dLb_44.2.2.2.2.2.1
theorem dL_law_1147 : decode cL_law 1147 = .ok (.iconst 4, 1) := dl_finq (k := 1024) (p := 123) hdk_1024 dLb_44.2.2.2.2.2.2.1
theorem dL_law_1148 : decode cL_law 1148 = .ok (.iadd, 1) := dl_finq (k := 1024) (p := 124) hdk_1024 dLb_44.2.2.2.2.2.2.2.1
theorem dL_law_1149 : decode cL_law 1149 = .ok (.iaload, 1) := dl_finq (k := 1024) (p := 125) hdk_1024 dLb_44.2.2.2.2.2.2.2.2.1
theorem dL_law_1150 : decode cL_law 1150 = .ok (.aload_n 0, 1) := dl_finq (k := 1024) (p := 126) hdk_1024 dLb_44.2.2.2.2.2.2.2.2.2.1
theorem dL_law_1151 : decode cL_law 1151 = .ok (.iload 4, 2) := dl_finq (k := 1024) (p := 127) hdk_1024 dLb_44.2.2.2.2.2.2.2.2.2.2
theorem dLb_45 : dlq dk_1152 1 (.iconst 5, 1) = true ∧ dlq dk_1152 2 (.iadd, 1) = true ∧ dlq dk_1152 3 (.iaload, 1) = true ∧ dlq dk_1152 4 (.ifCond .eq 7, 3) = true ∧ dlq dk_1152 7 (.iconst 1, 1) = true ∧ dlq dk_1152 8 (.goto 4, 3) = true ∧ dlq dk_1152 11 (.iconst 0, 1) = true ∧ dlq dk_1152 12 (.aload_n 3, 1) = true ∧ dlq dk_1152 13 (.invokestatic 238, 3) = true ∧ dlq dk_1152 16 (.istore 5, 2) = true ∧ dlq dk_1152 18 (.aload_n 2, 1) = true ∧ dlq dk_1152 19 (.aload_n 0, 1) = true ∧ dlq dk_1152 20 (.iload 4, 2) = true ∧ dlq dk_1152 22 (.iconst 1, 1) = true ∧ dlq dk_1152 23 (.iadd, 1) = true ∧ dlq dk_1152 24 (.iaload, 1) = true := by decide +kernel
theorem dL_law_1153 : decode cL_law 1153 = .ok (.iconst 5, 1) := dl_finq (k := 1152) (p := 1) hdk_1152 dLb_45.1
theorem dL_law_1154 : decode cL_law 1154 = .ok (.iadd, 1) := dl_finq (k := 1152) (p := 2) hdk_1152 dLb_45.2.1
theorem dL_law_1155 : decode cL_law 1155 = .ok (.iaload, 1) := dl_finq (k := 1152) (p := 3) hdk_1152 dLb_45.2.2.1
theorem dL_law_1156 : decode cL_law 1156 = .ok (.ifCond .eq 7, 3) := dl_finq (k := 1152) (p := 4) hdk_1152 dLb_45.2.2.2.1
theorem dL_law_1159 : decode cL_law 1159 = .ok (.iconst 1, 1) := dl_finq (k := 1152) (p := 7) hdk_1152 dLb_45.2.2.2.2.1
theorem dL_law_1160 : decode cL_law 1160 = .ok (.goto 4, 3) := dl_finq (k := 1152) (p := 8) hdk_1152 dLb_45.2.2.2.2.2.1
theorem dL_law_1163 : decode cL_law 1163 = .ok (.iconst 0, 1) := dl_finq (k := 1152) (p := 11) hdk_1152 dLb_45.2.2.2.2.2.2.1
theorem dL_law_1164 : decode cL_law 1164 = .ok (.aload_n 3, 1) := dl_finq (k := 1152) (p := 12) hdk_1152 dLb_45.2.2.2.2.2.2.2.1
theorem dL_law_1165 : decode cL_law 1165 = .ok (.invokestatic 238, 3) := dl_finq (k := 1152) (p := 13) hdk_1152 dLb_45.2.2.2.2.2.2.2.2.1
theorem dL_law_1168 : decode cL_law 1168 = .ok (.istore 5, 2) := dl_finq (k := 1152) (p := 16) hdk_1152 dLb_45.2.2.2.2.2.2.2.2.2.1
theorem dL_law_1170 : decode cL_law 1170 = .ok (.aload_n 2, 1) := dl_finq (k := 1152) (p := 18) hdk_1152 dLb_45.2.2.2.2.2.2.2.2.2.2.1
theorem dL_law_1171 : decode cL_law 1171 = .ok (.aload_n 0, 1) := dl_finq (k := 1152) (p := 19) hdk_1152 dLb_45.2.2.2.2.2.2.2.2.2.2.2.1
theorem dL_law_1172 : decode cL_law 1172 = .ok (.iload 4, 2) := dl_finq (k := 1152) (p := 20) hdk_1152 dLb_45.2.2.2.2.2.2.2.2.2.2.2.2.1
theorem dL_law_1174 : decode cL_law 1174 = .ok (.iconst 1, 1) := dl_finq (k := 1152) (p := 22) hdk_1152 dLb_45.2.2.2.2.2.2.2.2.2.2.2.2.2.1
theorem dL_law_1175 : decode cL_law 1175 = .ok (.iadd, 1) := dl_finq (k := 1152) (p := 23) hdk_1152 dLb_45.2.2.2.2.2.2.2.2.2.2.2.2.2.2.1
theorem dL_law_1176 : decode cL_law 1176 = .ok (.iaload, 1) := dl_finq (k := 1152) (p := 24) hdk_1152 dLb_45.2.2.2.2.2.2.2.2.2.2.2.2.2.2.2
theorem dLb_46 : dlq dk_1152 25 (.aload_n 0, 1) = true ∧ dlq dk_1152 26 (.iload 4, 2) = true ∧ dlq dk_1152 28 (.iconst 2, 1) = true ∧ dlq dk_1152 29 (.iadd, 1) = true ∧ dlq dk_1152 30 (.iaload, 1) = true ∧ dlq dk_1152 31 (.aload_n 0, 1) = true ∧ dlq dk_1152 32 (.iload 4, 2) = true ∧ dlq dk_1152 34 (.iconst 3, 1) = true ∧ dlq dk_1152 35 (.iadd, 1) = true ∧ dlq dk_1152 36 (.iaload, 1) = true ∧ dlq dk_1152 37 (.aload_n 0, 1) = true ∧ dlq dk_1152 38 (.iload 4, 2) = true ∧ dlq dk_1152 40 (.iconst 4, 1) = true ∧ dlq dk_1152 41 (.iadd, 1) = true ∧ dlq dk_1152 42 (.iaload, 1) = true ∧ dlq dk_1152 43 (.aload_n 0, 1) = true := by decide +kernel
theorem dL_law_1177 : decode cL_law 1177 = .ok (.aload_n 0, 1) := dl_finq (k := 1152) (p := 25) hdk_1152 dLb_46.1
theorem dL_law_1178 : decode cL_law 1178 = .ok (.iload 4, 2) := dl_finq (k := 1152) (p := 26) hdk_1152 dLb_46.2.1
theorem dL_law_1180 : decode cL_law 1180 = .ok (.iconst 2, 1) := dl_finq (k := 1152) (p := 28) hdk_1152 dLb_46.2.2.1
theorem dL_law_1181 : decode cL_law 1181 = .ok (.iadd, 1) := dl_finq (k := 1152) (p := 29) hdk_1152 dLb_46.2.2.2.1
theorem dL_law_1182 : decode cL_law 1182 = .ok (.iaload, 1) := dl_finq (k := 1152) (p := 30) hdk_1152 dLb_46.2.2.2.2.1
theorem dL_law_1183 : decode cL_law 1183 = .ok (.aload_n 0, 1) := dl_finq (k := 1152) (p := 31) hdk_1152 dLb_46.2.2.2.2.2.1
theorem dL_law_1184 : decode cL_law 1184 = .ok (.iload 4, 2) := dl_finq (k := 1152) (p := 32) hdk_1152 dLb_46.2.2.2.2.2.2.1
theorem dL_law_1186 : decode cL_law 1186 = .ok (.iconst 3, 1) := dl_finq (k := 1152) (p := 34) hdk_1152 dLb_46.2.2.2.2.2.2.2.1
theorem dL_law_1187 : decode cL_law 1187 = .ok (.iadd, 1) := dl_finq (k := 1152) (p := 35) hdk_1152 dLb_46.2.2.2.2.2.2.2.2.1
theorem dL_law_1188 : decode cL_law 1188 = .ok (.iaload, 1) := dl_finq (k := 1152) (p := 36) hdk_1152 dLb_46.2.2.2.2.2.2.2.2.2.1
theorem dL_law_1189 : decode cL_law 1189 = .ok (.aload_n 0, 1) := dl_finq (k := 1152) (p := 37) hdk_1152 dLb_46.2.2.2.2.2.2.2.2.2.2.1
theorem dL_law_1190 : decode cL_law 1190 = .ok (.iload 4, 2) := dl_finq (k := 1152) (p := 38) hdk_1152 dLb_46.2.2.2.2.2.2.2.2.2.2.2.1
theorem dL_law_1192 : decode cL_law 1192 = .ok (.iconst 4, 1) := dl_finq (k := 1152) (p := 40) hdk_1152 dLb_46.2.2.2.2.2.2.2.2.2.2.2.2.1
theorem dL_law_1193 : decode cL_law 1193 = .ok (.iadd, 1) := dl_finq (k := 1152) (p := 41) hdk_1152 dLb_46.2.2.2.2.2.2.2.2.2.2.2.2.2.1
theorem dL_law_1194 : decode cL_law 1194 = .ok (.iaload, 1) := dl_finq (k := 1152) (p := 42) hdk_1152 dLb_46.2.2.2.2.2.2.2.2.2.2.2.2.2.2.1
theorem dL_law_1195 : decode cL_law 1195 = .ok (.aload_n 0, 1) := dl_finq (k := 1152) (p := 43) hdk_1152 dLb_46.2.2.2.2.2.2.2.2.2.2.2.2.2.2.2
theorem dLb_47 : dlq dk_1152 44 (.iload 4, 2) = true ∧ dlq dk_1152 46 (.iconst 5, 1) = true ∧ dlq dk_1152 47 (.iadd, 1) = true ∧ dlq dk_1152 48 (.iaload, 1) = true ∧ dlq dk_1152 49 (.ifCond .eq 7, 3) = true ∧ dlq dk_1152 52 (.iconst 1, 1) = true ∧ dlq dk_1152 53 (.goto 4, 3) = true ∧ dlq dk_1152 56 (.iconst 0, 1) = true ∧ dlq dk_1152 57 (.invokevirtual 241, 3) = true ∧ dlq dk_1152 60 (.istore 6, 2) = true ∧ dlq dk_1152 62 (.goto 870, 3) = true ∧ dlq dk_1152 65 (.aload_n 1, 1) = true ∧ dlq dk_1152 66 (.aload_n 0, 1) = true ∧ dlq dk_1152 67 (.iload 4, 2) = true ∧ dlq dk_1152 69 (.iconst 1, 1) = true ∧ dlq dk_1152 70 (.iadd, 1) = true := by decide +kernel
theorem dL_law_1196 : decode cL_law 1196 = .ok (.iload 4, 2) := dl_finq (k := 1152) (p := 44) hdk_1152 dLb_47.1
theorem dL_law_1198 : decode cL_law 1198 = .ok (.iconst 5, 1) := dl_finq (k := 1152) (p := 46) hdk_1152 dLb_47.2.1
theorem dL_law_1199 : decode cL_law 1199 = .ok (.iadd, 1) := dl_finq (k := 1152) (p := 47) hdk_1152 dLb_47.2.2.1
theorem dL_law_1200 : decode cL_law 1200 = .ok (.iaload, 1) := dl_finq (k := 1152) (p := 48) hdk_1152 dLb_47.2.2.2.1
theorem dL_law_1201 : decode cL_law 1201 = .ok (.ifCond .eq 7, 3) := dl_finq (k := 1152) (p := 49) hdk_1152 dLb_47.2.2.2.2.1
theorem dL_law_1204 : decode cL_law 1204 = .ok (.iconst 1, 1) := dl_finq (k := 1152) (p := 52) hdk_1152 dLb_47.2.2.2.2.2.1
theorem dL_law_1205 : decode cL_law 1205 = .ok (.goto 4, 3) := dl_finq (k := 1152) (p := 53) hdk_1152 dLb_47.2.2.2.2.2.2.1
theorem dL_law_1208 : decode cL_law 1208 = .ok (.iconst 0, 1) := dl_finq (k := 1152) (p := 56) hdk_1152 dLb_47.2.2.2.2.2.2.2.1
theorem dL_law_1209 : decode cL_law 1209 = .ok (.invokevirtual 241, 3) := dl_finq (k := 1152) (p := 57) hdk_1152 dLb_47.2.2.2.2.2.2.2.2.1
theorem dL_law_1212 : decode cL_law 1212 = .ok (.istore 6, 2) := dl_finq (k := 1152) (p := 60) hdk_1152 dLb_47.2.2.2.2.2.2.2.2.2.1
theorem dL_law_1214 : decode cL_law 1214 = .ok (.goto 870, 3) := dl_finq (k := 1152) (p := 62) hdk_1152 dLb_47.2.2.2.2.2.2.2.2.2.2.1
theorem dL_law_1217 : decode cL_law 1217 = .ok (.aload_n 1, 1) := dl_finq (k := 1152) (p := 65) hdk_1152 dLb_47.2.2.2.2.2.2.2.2.2.2.2.1
theorem dL_law_1218 : decode cL_law 1218 = .ok (.aload_n 0, 1) := dl_finq (k := 1152) (p := 66) hdk_1152 dLb_47.2.2.2.2.2.2.2.2.2.2.2.2.1
theorem dL_law_1219 : decode cL_law 1219 = .ok (.iload 4, 2) := dl_finq (k := 1152) (p := 67) hdk_1152 dLb_47.2.2.2.2.2.2.2.2.2.2.2.2.2.1
theorem dL_law_1221 : decode cL_law 1221 = .ok (.iconst 1, 1) := dl_finq (k := 1152) (p := 69) hdk_1152 dLb_47.2.2.2.2.2.2.2.2.2.2.2.2.2.2.1
theorem dL_law_1222 : decode cL_law 1222 = .ok (.iadd, 1) := dl_finq (k := 1152) (p := 70) hdk_1152 dLb_47.2.2.2.2.2.2.2.2.2.2.2.2.2.2.2
theorem dLb_48 : dlq dk_1152 71 (.iaload, 1) = true ∧ dlq dk_1152 72 (.aload_n 0, 1) = true ∧ dlq dk_1152 73 (.iload 4, 2) = true ∧ dlq dk_1152 75 (.iconst 2, 1) = true ∧ dlq dk_1152 76 (.iadd, 1) = true ∧ dlq dk_1152 77 (.iaload, 1) = true ∧ dlq dk_1152 78 (.aload_n 0, 1) = true ∧ dlq dk_1152 79 (.iload 4, 2) = true ∧ dlq dk_1152 81 (.iconst 3, 1) = true ∧ dlq dk_1152 82 (.iadd, 1) = true ∧ dlq dk_1152 83 (.iaload, 1) = true ∧ dlq dk_1152 84 (.aload_n 3, 1) = true ∧ dlq dk_1152 85 (.invokestatic 242, 3) = true ∧ dlq dk_1152 88 (.istore 5, 2) = true ∧ dlq dk_1152 90 (.aload_n 2, 1) = true ∧ dlq dk_1152 91 (.aload_n 0, 1) = true := by decide +kernel
theorem dL_law_1223 : decode cL_law 1223 = .ok (.iaload, 1) := dl_finq (k := 1152) (p := 71) hdk_1152 dLb_48.1
theorem dL_law_1224 : decode cL_law 1224 = .ok (.aload_n 0, 1) := dl_finq (k := 1152) (p := 72) hdk_1152 dLb_48.2.1
theorem dL_law_1225 : decode cL_law 1225 = .ok (.iload 4, 2) := dl_finq (k := 1152) (p := 73) hdk_1152 dLb_48.2.2.1
theorem dL_law_1227 : decode cL_law 1227 = .ok (.iconst 2, 1) := dl_finq (k := 1152) (p := 75) hdk_1152 dLb_48.2.2.2.1
theorem dL_law_1228 : decode cL_law 1228 = .ok (.iadd, 1) := dl_finq (k := 1152) (p := 76) hdk_1152 dLb_48.2.2.2.2.1
theorem dL_law_1229 : decode cL_law 1229 = .ok (.iaload, 1) := dl_finq (k := 1152) (p := 77) hdk_1152 dLb_48.2.2.2.2.2.1
theorem dL_law_1230 : decode cL_law 1230 = .ok (.aload_n 0, 1) := dl_finq (k := 1152) (p := 78) hdk_1152 dLb_48.2.2.2.2.2.2.1
theorem dL_law_1231 : decode cL_law 1231 = .ok (.iload 4, 2) := dl_finq (k := 1152) (p := 79) hdk_1152 dLb_48.2.2.2.2.2.2.2.1
theorem dL_law_1233 : decode cL_law 1233 = .ok (.iconst 3, 1) := dl_finq (k := 1152) (p := 81) hdk_1152 dLb_48.2.2.2.2.2.2.2.2.1
theorem dL_law_1234 : decode cL_law 1234 = .ok (.iadd, 1) := dl_finq (k := 1152) (p := 82) hdk_1152 dLb_48.2.2.2.2.2.2.2.2.2.1
theorem dL_law_1235 : decode cL_law 1235 = .ok (.iaload, 1) := dl_finq (k := 1152) (p := 83) hdk_1152 dLb_48.2.2.2.2.2.2.2.2.2.2.1
theorem dL_law_1236 : decode cL_law 1236 = .ok (.aload_n 3, 1) := dl_finq (k := 1152) (p := 84) hdk_1152 dLb_48.2.2.2.2.2.2.2.2.2.2.2.1
theorem dL_law_1237 : decode cL_law 1237 = .ok (.invokestatic 242, 3) := dl_finq (k := 1152) (p := 85) hdk_1152 dLb_48.2.2.2.2.2.2.2.2.2.2.2.2.1
theorem dL_law_1240 : decode cL_law 1240 = .ok (.istore 5, 2) := dl_finq (k := 1152) (p := 88) hdk_1152 dLb_48.2.2.2.2.2.2.2.2.2.2.2.2.2.1
theorem dL_law_1242 : decode cL_law 1242 = .ok (.aload_n 2, 1) := dl_finq (k := 1152) (p := 90) hdk_1152 dLb_48.2.2.2.2.2.2.2.2.2.2.2.2.2.2.1
theorem dL_law_1243 : decode cL_law 1243 = .ok (.aload_n 0, 1) := dl_finq (k := 1152) (p := 91) hdk_1152 dLb_48.2.2.2.2.2.2.2.2.2.2.2.2.2.2.2
theorem dLb_49 : dlq dk_1152 92 (.iload 4, 2) = true ∧ dlq dk_1152 94 (.iconst 1, 1) = true ∧ dlq dk_1152 95 (.iadd, 1) = true ∧ dlq dk_1152 96 (.iaload, 1) = true ∧ dlq dk_1152 97 (.aload_n 0, 1) = true ∧ dlq dk_1152 98 (.iload 4, 2) = true ∧ dlq dk_1152 100 (.iconst 2, 1) = true ∧ dlq dk_1152 101 (.iadd, 1) = true ∧ dlq dk_1152 102 (.iaload, 1) = true ∧ dlq dk_1152 103 (.aload_n 0, 1) = true ∧ dlq dk_1152 104 (.iload 4, 2) = true ∧ dlq dk_1152 106 (.iconst 3, 1) = true ∧ dlq dk_1152 107 (.iadd, 1) = true ∧ dlq dk_1152 108 (.iaload, 1) = true ∧ dlq dk_1152 109 (.invokevirtual 244, 3) = true ∧ dlq dk_1152 112 (.istore 6, 2) = true := by decide +kernel
theorem dL_law_1244 : decode cL_law 1244 = .ok (.iload 4, 2) := dl_finq (k := 1152) (p := 92) hdk_1152 dLb_49.1
theorem dL_law_1246 : decode cL_law 1246 = .ok (.iconst 1, 1) := dl_finq (k := 1152) (p := 94) hdk_1152 dLb_49.2.1
theorem dL_law_1247 : decode cL_law 1247 = .ok (.iadd, 1) := dl_finq (k := 1152) (p := 95) hdk_1152 dLb_49.2.2.1
theorem dL_law_1248 : decode cL_law 1248 = .ok (.iaload, 1) := dl_finq (k := 1152) (p := 96) hdk_1152 dLb_49.2.2.2.1
theorem dL_law_1249 : decode cL_law 1249 = .ok (.aload_n 0, 1) := dl_finq (k := 1152) (p := 97) hdk_1152 dLb_49.2.2.2.2.1
theorem dL_law_1250 : decode cL_law 1250 = .ok (.iload 4, 2) := dl_finq (k := 1152) (p := 98) hdk_1152 dLb_49.2.2.2.2.2.1
theorem dL_law_1252 : decode cL_law 1252 = .ok (.iconst 2, 1) := dl_finq (k := 1152) (p := 100) hdk_1152 dLb_49.2.2.2.2.2.2.1
theorem dL_law_1253 : decode cL_law 1253 = .ok (.iadd, 1) := dl_finq (k := 1152) (p := 101) hdk_1152 dLb_49.2.2.2.2.2.2.2.1
theorem dL_law_1254 : decode cL_law 1254 = .ok (.iaload, 1) := dl_finq (k := 1152) (p := 102) hdk_1152 dLb_49.2.2.2.2.2.2.2.2.1
theorem dL_law_1255 : decode cL_law 1255 = .ok (.aload_n 0, 1) := dl_finq (k := 1152) (p := 103) hdk_1152 dLb_49.2.2.2.2.2.2.2.2.2.1
theorem dL_law_1256 : decode cL_law 1256 = .ok (.iload 4, 2) := dl_finq (k := 1152) (p := 104) hdk_1152 dLb_49.2.2.2.2.2.2.2.2.2.2.1
theorem dL_law_1258 : decode cL_law 1258 = .ok (.iconst 3, 1) := dl_finq (k := 1152) (p := 106) hdk_1152 dLb_49.2.2.2.2.2.2.2.2.2.2.2.1
theorem dL_law_1259 : decode cL_law 1259 = .ok (.iadd, 1) := dl_finq (k := 1152) (p := 107) hdk_1152 dLb_49.2.2.2.2.2.2.2.2.2.2.2.2.1
theorem dL_law_1260 : decode cL_law 1260 = .ok (.iaload, 1) := dl_finq (k := 1152) (p := 108) hdk_1152 dLb_49.2.2.2.2.2.2.2.2.2.2.2.2.2.1
theorem dL_law_1261 : decode cL_law 1261 = .ok (.invokevirtual 244, 3) := dl_finq (k := 1152) (p := 109) hdk_1152 dLb_49.2.2.2.2.2.2.2.2.2.2.2.2.2.2.1
theorem dL_law_1264 : decode cL_law 1264 = .ok (.istore 6, 2) := dl_finq (k := 1152) (p := 112) hdk_1152 dLb_49.2.2.2.2.2.2.2.2.2.2.2.2.2.2.2
theorem dLb_50 : dlq dk_1152 114 (.goto 818, 3) = true ∧ dlq dk_1152 117 (.aload_n 1, 1) = true ∧ dlq dk_1152 118 (.aload_n 0, 1) = true ∧ dlq dk_1152 119 (.iload 4, 2) = true ∧ dlq dk_1152 121 (.iconst 1, 1) = true ∧ dlq dk_1152 122 (.iadd, 1) = true ∧ dlq dk_1152 123 (.iaload, 1) = true ∧ dlq dk_1152 124 (.aload_n 0, 1) = true ∧ dlq dk_1152 125 (.iload 4, 2) = true ∧ dlq dk_1152 127 (.iconst 2, 1) = true := by decide +kernel
theorem dL_law_1266 : decode cL_law 1266 = .ok (.goto 818, 3) := dl_finq (k := 1152) (p := 114) hdk_1152 dLb_50.1
theorem dL_law_1269 : decode cL_law 1269 = .ok (.aload_n 1, 1) := dl_finq (k := 1152) (p := 117) hdk_1152 dLb_50.2.1
theorem dL_law_1270 : decode cL_law 1270 = .ok (.aload_n 0, 1) := dl_finq (k := 1152) (p := 118) hdk_1152 dLb_50.2.2.1
theorem dL_law_1271 : decode cL_law 1271 = .ok (.iload 4, 2) := dl_finq (k := 1152) (p := 119) hdk_1152 dLb_50.2.2.2.1
theorem dL_law_1273 : decode cL_law 1273 = .ok (.iconst 1, 1) := dl_finq (k := 1152) (p := 121) hdk_1152 dLb_50.2.2.2.2.1
theorem dL_law_1274 : decode cL_law 1274 = .ok (.iadd, 1) := dl_finq (k := 1152) (p := 122) hdk_1152 dLb_50.2.2.2.2.2.1
theorem dL_law_1275 : decode cL_law 1275 = .ok (.iaload, 1) := dl_finq (k := 1152) (p := 123) hdk_1152 dLb_50.2.2.2.2.2.2.1
theorem dL_law_1276 : decode cL_law 1276 = .ok (.aload_n 0, 1) := dl_finq (k := 1152) (p := 124) hdk_1152 dLb_50.2.2.2.2.2.2.2.1
theorem dL_law_1277 : decode cL_law 1277 = .ok (.iload 4, 2) := dl_finq (k := 1152) (p := 125) hdk_1152 dLb_50.2.2.2.2.2.2.2.2.1
theorem dL_law_1279 : decode cL_law 1279 = .ok (.iconst 2, 1) := dl_finq (k := 1152) (p := 127) hdk_1152 dLb_50.2.2.2.2.2.2.2.2.2
theorem dLb_51 : dlq dk_1280 0 (.iadd, 1) = true ∧ dlq dk_1280 1 (.iaload, 1) = true ∧ dlq dk_1280 2 (.aload_n 0, 1) = true ∧ dlq dk_1280 3 (.iload 4, 2) = true ∧ dlq dk_1280 5 (.iconst 3, 1) = true ∧ dlq dk_1280 6 (.iadd, 1) = true ∧ dlq dk_1280 7 (.iaload, 1) = true ∧ dlq dk_1280 8 (.aload_n 3, 1) = true ∧ dlq dk_1280 9 (.invokestatic 245, 3) = true ∧ dlq dk_1280 12 (.istore 5, 2) = true ∧ dlq dk_1280 14 (.aload_n 2, 1) = true ∧ dlq dk_1280 15 (.aload_n 0, 1) = true ∧ dlq dk_1280 16 (.iload 4, 2) = true ∧ dlq dk_1280 18 (.iconst 1, 1) = true ∧ dlq dk_1280 19 (.iadd, 1) = true ∧ dlq dk_1280 20 (.iaload, 1) = true := by decide +kernel
theorem dL_law_1280 : decode cL_law 1280 = .ok (.iadd, 1) := dl_finq (k := 1280) (p := 0) hdk_1280 dLb_51.1
theorem dL_law_1281 : decode cL_law 1281 = .ok (.iaload, 1) := dl_finq (k := 1280) (p := 1) hdk_1280 dLb_51.2.1
theorem dL_law_1282 : decode cL_law 1282 = .ok (.aload_n 0, 1) := dl_finq (k := 1280) (p := 2) hdk_1280 dLb_51.2.2.1
theorem dL_law_1283 : decode cL_law 1283 = .ok (.iload 4, 2) := dl_finq (k := 1280) (p := 3) hdk_1280 dLb_51.2.2.2.1
theorem dL_law_1285 : decode cL_law 1285 = .ok (.iconst 3, 1) := dl_finq (k := 1280) (p := 5) hdk_1280 dLb_51.2.2.2.2.1
theorem dL_law_1286 : decode cL_law 1286 = .ok (.iadd, 1) := dl_finq (k := 1280) (p := 6) hdk_1280 dLb_51.2.2.2.2.2.1
theorem dL_law_1287 : decode cL_law 1287 = .ok (.iaload, 1) := dl_finq (k := 1280) (p := 7) hdk_1280 dLb_51.2.2.2.2.2.2.1
theorem dL_law_1288 : decode cL_law 1288 = .ok (.aload_n 3, 1) := dl_finq (k := 1280) (p := 8) hdk_1280 dLb_51.2.2.2.2.2.2.2.1
theorem dL_law_1289 : decode cL_law 1289 = .ok (.invokestatic 245, 3) := dl_finq (k := 1280) (p := 9) hdk_1280 dLb_51.2.2.2.2.2.2.2.2.1
theorem dL_law_1292 : decode cL_law 1292 = .ok (.istore 5, 2) := dl_finq (k := 1280) (p := 12) hdk_1280 dLb_51.2.2.2.2.2.2.2.2.2.1
theorem dL_law_1294 : decode cL_law 1294 = .ok (.aload_n 2, 1) := dl_finq (k := 1280) (p := 14) hdk_1280 dLb_51.2.2.2.2.2.2.2.2.2.2.1
theorem dL_law_1295 : decode cL_law 1295 = .ok (.aload_n 0, 1) := dl_finq (k := 1280) (p := 15) hdk_1280 dLb_51.2.2.2.2.2.2.2.2.2.2.2.1
theorem dL_law_1296 : decode cL_law 1296 = .ok (.iload 4, 2) := dl_finq (k := 1280) (p := 16) hdk_1280 dLb_51.2.2.2.2.2.2.2.2.2.2.2.2.1
theorem dL_law_1298 : decode cL_law 1298 = .ok (.iconst 1, 1) := dl_finq (k := 1280) (p := 18) hdk_1280 dLb_51.2.2.2.2.2.2.2.2.2.2.2.2.2.1
theorem dL_law_1299 : decode cL_law 1299 = .ok (.iadd, 1) := dl_finq (k := 1280) (p := 19) hdk_1280 dLb_51.2.2.2.2.2.2.2.2.2.2.2.2.2.2.1
theorem dL_law_1300 : decode cL_law 1300 = .ok (.iaload, 1) := dl_finq (k := 1280) (p := 20) hdk_1280 dLb_51.2.2.2.2.2.2.2.2.2.2.2.2.2.2.2
theorem dLb_52 : dlq dk_1280 21 (.aload_n 0, 1) = true ∧ dlq dk_1280 22 (.iload 4, 2) = true ∧ dlq dk_1280 24 (.iconst 2, 1) = true ∧ dlq dk_1280 25 (.iadd, 1) = true ∧ dlq dk_1280 26 (.iaload, 1) = true ∧ dlq dk_1280 27 (.aload_n 0, 1) = true ∧ dlq dk_1280 28 (.iload 4, 2) = true ∧ dlq dk_1280 30 (.iconst 3, 1) = true ∧ dlq dk_1280 31 (.iadd, 1) = true ∧ dlq dk_1280 32 (.iaload, 1) = true ∧ dlq dk_1280 33 (.invokevirtual 247, 3) = true ∧ dlq dk_1280 36 (.istore 6, 2) = true ∧ dlq dk_1280 38 (.goto 766, 3) = true ∧ dlq dk_1280 41 (.aload_n 1, 1) = true ∧ dlq dk_1280 42 (.aload_n 0, 1) = true ∧ dlq dk_1280 43 (.iload 4, 2) = true := by decide +kernel
theorem dL_law_1301 : decode cL_law 1301 = .ok (.aload_n 0, 1) := dl_finq (k := 1280) (p := 21) hdk_1280 dLb_52.1
theorem dL_law_1302 : decode cL_law 1302 = .ok (.iload 4, 2) := dl_finq (k := 1280) (p := 22) hdk_1280 dLb_52.2.1
theorem dL_law_1304 : decode cL_law 1304 = .ok (.iconst 2, 1) := dl_finq (k := 1280) (p := 24) hdk_1280 dLb_52.2.2.1
theorem dL_law_1305 : decode cL_law 1305 = .ok (.iadd, 1) := dl_finq (k := 1280) (p := 25) hdk_1280 dLb_52.2.2.2.1
theorem dL_law_1306 : decode cL_law 1306 = .ok (.iaload, 1) := dl_finq (k := 1280) (p := 26) hdk_1280 dLb_52.2.2.2.2.1
theorem dL_law_1307 : decode cL_law 1307 = .ok (.aload_n 0, 1) := dl_finq (k := 1280) (p := 27) hdk_1280 dLb_52.2.2.2.2.2.1
theorem dL_law_1308 : decode cL_law 1308 = .ok (.iload 4, 2) := dl_finq (k := 1280) (p := 28) hdk_1280 dLb_52.2.2.2.2.2.2.1
theorem dL_law_1310 : decode cL_law 1310 = .ok (.iconst 3, 1) := dl_finq (k := 1280) (p := 30) hdk_1280 dLb_52.2.2.2.2.2.2.2.1
theorem dL_law_1311 : decode cL_law 1311 = .ok (.iadd, 1) := dl_finq (k := 1280) (p := 31) hdk_1280 dLb_52.2.2.2.2.2.2.2.2.1
theorem dL_law_1312 : decode cL_law 1312 = .ok (.iaload, 1) := dl_finq (k := 1280) (p := 32) hdk_1280 dLb_52.2.2.2.2.2.2.2.2.2.1
theorem dL_law_1313 : decode cL_law 1313 = .ok (.invokevirtual 247, 3) := dl_finq (k := 1280) (p := 33) hdk_1280 dLb_52.2.2.2.2.2.2.2.2.2.2.1
theorem dL_law_1316 : decode cL_law 1316 = .ok (.istore 6, 2) := dl_finq (k := 1280) (p := 36) hdk_1280 dLb_52.2.2.2.2.2.2.2.2.2.2.2.1
theorem dL_law_1318 : decode cL_law 1318 = .ok (.goto 766, 3) := dl_finq (k := 1280) (p := 38) hdk_1280 dLb_52.2.2.2.2.2.2.2.2.2.2.2.2.1
theorem dL_law_1321 : decode cL_law 1321 = .ok (.aload_n 1, 1) := dl_finq (k := 1280) (p := 41) hdk_1280 dLb_52.2.2.2.2.2.2.2.2.2.2.2.2.2.1
theorem dL_law_1322 : decode cL_law 1322 = .ok (.aload_n 0, 1) := dl_finq (k := 1280) (p := 42) hdk_1280 dLb_52.2.2.2.2.2.2.2.2.2.2.2.2.2.2.1
theorem dL_law_1323 : decode cL_law 1323 = .ok (.iload 4, 2) := dl_finq (k := 1280) (p := 43) hdk_1280 dLb_52.2.2.2.2.2.2.2.2.2.2.2.2.2.2.2
theorem dLb_53 : dlq dk_1280 45 (.iconst 1, 1) = true ∧ dlq dk_1280 46 (.iadd, 1) = true ∧ dlq dk_1280 47 (.iaload, 1) = true ∧ dlq dk_1280 48 (.aload_n 0, 1) = true ∧ dlq dk_1280 49 (.iload 4, 2) = true ∧ dlq dk_1280 51 (.iconst 2, 1) = true ∧ dlq dk_1280 52 (.iadd, 1) = true ∧ dlq dk_1280 53 (.iaload, 1) = true ∧ dlq dk_1280 54 (.aload_n 3, 1) = true ∧ dlq dk_1280 55 (.invokestatic 248, 3) = true ∧ dlq dk_1280 58 (.istore 5, 2) = true ∧ dlq dk_1280 60 (.aload_n 2, 1) = true ∧ dlq dk_1280 61 (.aload_n 0, 1) = true ∧ dlq dk_1280 62 (.iload 4, 2) = true ∧ dlq dk_1280 64 (.iconst 1, 1) = true ∧ dlq dk_1280 65 (.iadd, 1) = true := by decide +kernel
theorem dL_law_1325 : decode cL_law 1325 = .ok (.iconst 1, 1) := dl_finq (k := 1280) (p := 45) hdk_1280 dLb_53.1
theorem dL_law_1326 : decode cL_law 1326 = .ok (.iadd, 1) := dl_finq (k := 1280) (p := 46) hdk_1280 dLb_53.2.1
theorem dL_law_1327 : decode cL_law 1327 = .ok (.iaload, 1) := dl_finq (k := 1280) (p := 47) hdk_1280 dLb_53.2.2.1
theorem dL_law_1328 : decode cL_law 1328 = .ok (.aload_n 0, 1) := dl_finq (k := 1280) (p := 48) hdk_1280 dLb_53.2.2.2.1
theorem dL_law_1329 : decode cL_law 1329 = .ok (.iload 4, 2) := dl_finq (k := 1280) (p := 49) hdk_1280 dLb_53.2.2.2.2.1
theorem dL_law_1331 : decode cL_law 1331 = .ok (.iconst 2, 1) := dl_finq (k := 1280) (p := 51) hdk_1280 dLb_53.2.2.2.2.2.1
theorem dL_law_1332 : decode cL_law 1332 = .ok (.iadd, 1) := dl_finq (k := 1280) (p := 52) hdk_1280 dLb_53.2.2.2.2.2.2.1
theorem dL_law_1333 : decode cL_law 1333 = .ok (.iaload, 1) := dl_finq (k := 1280) (p := 53) hdk_1280 dLb_53.2.2.2.2.2.2.2.1
theorem dL_law_1334 : decode cL_law 1334 = .ok (.aload_n 3, 1) := dl_finq (k := 1280) (p := 54) hdk_1280 dLb_53.2.2.2.2.2.2.2.2.1
theorem dL_law_1335 : decode cL_law 1335 = .ok (.invokestatic 248, 3) := dl_finq (k := 1280) (p := 55) hdk_1280 dLb_53.2.2.2.2.2.2.2.2.2.1
theorem dL_law_1338 : decode cL_law 1338 = .ok (.istore 5, 2) := dl_finq (k := 1280) (p := 58) hdk_1280 dLb_53.2.2.2.2.2.2.2.2.2.2.1
theorem dL_law_1340 : decode cL_law 1340 = .ok (.aload_n 2, 1) := dl_finq (k := 1280) (p := 60) hdk_1280 dLb_53.2.2.2.2.2.2.2.2.2.2.2.1
theorem dL_law_1341 : decode cL_law 1341 = .ok (.aload_n 0, 1) := dl_finq (k := 1280) (p := 61) hdk_1280 dLb_53.2.2.2.2.2.2.2.2.2.2.2.2.1
theorem dL_law_1342 : decode cL_law 1342 = .ok (.iload 4, 2) := dl_finq (k := 1280) (p := 62) hdk_1280 dLb_53.2.2.2.2.2.2.2.2.2.2.2.2.2.1
theorem dL_law_1344 : decode cL_law 1344 = .ok (.iconst 1, 1) := dl_finq (k := 1280) (p := 64) hdk_1280 dLb_53.2.2.2.2.2.2.2.2.2.2.2.2.2.2.1
theorem dL_law_1345 : decode cL_law 1345 = .ok (.iadd, 1) := dl_finq (k := 1280) (p := 65) hdk_1280 dLb_53.2.2.2.2.2.2.2.2.2.2.2.2.2.2.2
theorem dLb_54 : dlq dk_1280 66 (.iaload, 1) = true ∧ dlq dk_1280 67 (.aload_n 0, 1) = true ∧ dlq dk_1280 68 (.iload 4, 2) = true ∧ dlq dk_1280 70 (.iconst 2, 1) = true ∧ dlq dk_1280 71 (.iadd, 1) = true ∧ dlq dk_1280 72 (.iaload, 1) = true ∧ dlq dk_1280 73 (.invokevirtual 250, 3) = true ∧ dlq dk_1280 76 (.istore 6, 2) = true ∧ dlq dk_1280 78 (.goto 726, 3) = true ∧ dlq dk_1280 81 (.aload_n 1, 1) = true ∧ dlq dk_1280 82 (.aload_n 0, 1) = true ∧ dlq dk_1280 83 (.iload 4, 2) = true ∧ dlq dk_1280 85 (.iconst 1, 1) = true ∧ dlq dk_1280 86 (.iadd, 1) = true ∧ dlq dk_1280 87 (.iaload, 1) = true ∧ dlq dk_1280 88 (.aload_n 0, 1) = true := by decide +kernel
theorem dL_law_1346 : decode cL_law 1346 = .ok (.iaload, 1) := dl_finq (k := 1280) (p := 66) hdk_1280 dLb_54.1
theorem dL_law_1347 : decode cL_law 1347 = .ok (.aload_n 0, 1) := dl_finq (k := 1280) (p := 67) hdk_1280 dLb_54.2.1
theorem dL_law_1348 : decode cL_law 1348 = .ok (.iload 4, 2) := dl_finq (k := 1280) (p := 68) hdk_1280 dLb_54.2.2.1
theorem dL_law_1350 : decode cL_law 1350 = .ok (.iconst 2, 1) := dl_finq (k := 1280) (p := 70) hdk_1280 dLb_54.2.2.2.1
theorem dL_law_1351 : decode cL_law 1351 = .ok (.iadd, 1) := dl_finq (k := 1280) (p := 71) hdk_1280 dLb_54.2.2.2.2.1
theorem dL_law_1352 : decode cL_law 1352 = .ok (.iaload, 1) := dl_finq (k := 1280) (p := 72) hdk_1280 dLb_54.2.2.2.2.2.1
theorem dL_law_1353 : decode cL_law 1353 = .ok (.invokevirtual 250, 3) := dl_finq (k := 1280) (p := 73) hdk_1280 dLb_54.2.2.2.2.2.2.1
theorem dL_law_1356 : decode cL_law 1356 = .ok (.istore 6, 2) := dl_finq (k := 1280) (p := 76) hdk_1280 dLb_54.2.2.2.2.2.2.2.1
theorem dL_law_1358 : decode cL_law 1358 = .ok (.goto 726, 3) := dl_finq (k := 1280) (p := 78) hdk_1280 dLb_54.2.2.2.2.2.2.2.2.1
theorem dL_law_1361 : decode cL_law 1361 = .ok (.aload_n 1, 1) := dl_finq (k := 1280) (p := 81) hdk_1280 dLb_54.2.2.2.2.2.2.2.2.2.1
theorem dL_law_1362 : decode cL_law 1362 = .ok (.aload_n 0, 1) := dl_finq (k := 1280) (p := 82) hdk_1280 dLb_54.2.2.2.2.2.2.2.2.2.2.1
theorem dL_law_1363 : decode cL_law 1363 = .ok (.iload 4, 2) := dl_finq (k := 1280) (p := 83) hdk_1280 dLb_54.2.2.2.2.2.2.2.2.2.2.2.1
theorem dL_law_1365 : decode cL_law 1365 = .ok (.iconst 1, 1) := dl_finq (k := 1280) (p := 85) hdk_1280 dLb_54.2.2.2.2.2.2.2.2.2.2.2.2.1
theorem dL_law_1366 : decode cL_law 1366 = .ok (.iadd, 1) := dl_finq (k := 1280) (p := 86) hdk_1280 dLb_54.2.2.2.2.2.2.2.2.2.2.2.2.2.1
theorem dL_law_1367 : decode cL_law 1367 = .ok (.iaload, 1) := dl_finq (k := 1280) (p := 87) hdk_1280 dLb_54.2.2.2.2.2.2.2.2.2.2.2.2.2.2.1
theorem dL_law_1368 : decode cL_law 1368 = .ok (.aload_n 0, 1) := dl_finq (k := 1280) (p := 88) hdk_1280 dLb_54.2.2.2.2.2.2.2.2.2.2.2.2.2.2.2
theorem dLb_55 : dlq dk_1280 89 (.iload 4, 2) = true ∧ dlq dk_1280 91 (.iconst 2, 1) = true ∧ dlq dk_1280 92 (.iadd, 1) = true ∧ dlq dk_1280 93 (.iaload, 1) = true ∧ dlq dk_1280 94 (.ifCond .eq 7, 3) = true ∧ dlq dk_1280 97 (.iconst 1, 1) = true ∧ dlq dk_1280 98 (.goto 4, 3) = true ∧ dlq dk_1280 101 (.iconst 0, 1) = true ∧ dlq dk_1280 102 (.aload_n 3, 1) = true ∧ dlq dk_1280 103 (.invokestatic 251, 3) = true ∧ dlq dk_1280 106 (.istore 5, 2) = true ∧ dlq dk_1280 108 (.aload_n 2, 1) = true ∧ dlq dk_1280 109 (.aload_n 0, 1) = true ∧ dlq dk_1280 110 (.iload 4, 2) = true ∧ dlq dk_1280 112 (.iconst 1, 1) = true ∧ dlq dk_1280 113 (.iadd, 1) = true := by decide +kernel
theorem dL_law_1369 : decode cL_law 1369 = .ok (.iload 4, 2) := dl_finq (k := 1280) (p := 89) hdk_1280 dLb_55.1
theorem dL_law_1371 : decode cL_law 1371 = .ok (.iconst 2, 1) := dl_finq (k := 1280) (p := 91) hdk_1280 dLb_55.2.1
theorem dL_law_1372 : decode cL_law 1372 = .ok (.iadd, 1) := dl_finq (k := 1280) (p := 92) hdk_1280 dLb_55.2.2.1
theorem dL_law_1373 : decode cL_law 1373 = .ok (.iaload, 1) := dl_finq (k := 1280) (p := 93) hdk_1280 dLb_55.2.2.2.1
theorem dL_law_1374 : decode cL_law 1374 = .ok (.ifCond .eq 7, 3) := dl_finq (k := 1280) (p := 94) hdk_1280 dLb_55.2.2.2.2.1
theorem dL_law_1377 : decode cL_law 1377 = .ok (.iconst 1, 1) := dl_finq (k := 1280) (p := 97) hdk_1280 dLb_55.2.2.2.2.2.1
theorem dL_law_1378 : decode cL_law 1378 = .ok (.goto 4, 3) := dl_finq (k := 1280) (p := 98) hdk_1280 dLb_55.2.2.2.2.2.2.1
theorem dL_law_1381 : decode cL_law 1381 = .ok (.iconst 0, 1) := dl_finq (k := 1280) (p := 101) hdk_1280 dLb_55.2.2.2.2.2.2.2.1
theorem dL_law_1382 : decode cL_law 1382 = .ok (.aload_n 3, 1) := dl_finq (k := 1280) (p := 102) hdk_1280 dLb_55.2.2.2.2.2.2.2.2.1
theorem dL_law_1383 : decode cL_law 1383 = .ok (.invokestatic 251, 3) := dl_finq (k := 1280) (p := 103) hdk_1280 dLb_55.2.2.2.2.2.2.2.2.2.1
theorem dL_law_1386 : decode cL_law 1386 = .ok (.istore 5, 2) := dl_finq (k := 1280) (p := 106) hdk_1280 dLb_55.2.2.2.2.2.2.2.2.2.2.1
theorem dL_law_1388 : decode cL_law 1388 = .ok (.aload_n 2, 1) := dl_finq (k := 1280) (p := 108) hdk_1280 dLb_55.2.2.2.2.2.2.2.2.2.2.2.1
theorem dL_law_1389 : decode cL_law 1389 = .ok (.aload_n 0, 1) := dl_finq (k := 1280) (p := 109) hdk_1280 dLb_55.2.2.2.2.2.2.2.2.2.2.2.2.1
theorem dL_law_1390 : decode cL_law 1390 = .ok (.iload 4, 2) := dl_finq (k := 1280) (p := 110) hdk_1280 dLb_55.2.2.2.2.2.2.2.2.2.2.2.2.2.1
theorem dL_law_1392 : decode cL_law 1392 = .ok (.iconst 1, 1) := dl_finq (k := 1280) (p := 112) hdk_1280 dLb_55.2.2.2.2.2.2.2.2.2.2.2.2.2.2.1
theorem dL_law_1393 : decode cL_law 1393 = .ok (.iadd, 1) := dl_finq (k := 1280) (p := 113) hdk_1280 dLb_55.2.2.2.2.2.2.2.2.2.2.2.2.2.2.2
theorem dLb_56 : dlq dk_1280 114 (.iaload, 1) = true ∧ dlq dk_1280 115 (.aload_n 0, 1) = true ∧ dlq dk_1280 116 (.iload 4, 2) = true ∧ dlq dk_1280 118 (.iconst 2, 1) = true ∧ dlq dk_1280 119 (.iadd, 1) = true ∧ dlq dk_1280 120 (.iaload, 1) = true ∧ dlq dk_1280 121 (.ifCond .eq 7, 3) = true ∧ dlq dk_1280 124 (.iconst 1, 1) = true ∧ dlq dk_1280 125 (.goto 4, 3) = true := by decide +kernel
theorem dL_law_1394 : decode cL_law 1394 = .ok (.iaload, 1) := dl_finq (k := 1280) (p := 114) hdk_1280 dLb_56.1
theorem dL_law_1395 : decode cL_law 1395 = .ok (.aload_n 0, 1) := dl_finq (k := 1280) (p := 115) hdk_1280 dLb_56.2.1
theorem dL_law_1396 : decode cL_law 1396 = .ok (.iload 4, 2) := dl_finq (k := 1280) (p := 116) hdk_1280 dLb_56.2.2.1
theorem dL_law_1398 : decode cL_law 1398 = .ok (.iconst 2, 1) := dl_finq (k := 1280) (p := 118) hdk_1280 dLb_56.2.2.2.1
theorem dL_law_1399 : decode cL_law 1399 = .ok (.iadd, 1) := dl_finq (k := 1280) (p := 119) hdk_1280 dLb_56.2.2.2.2.1
theorem dL_law_1400 : decode cL_law 1400 = .ok (.iaload, 1) := dl_finq (k := 1280) (p := 120) hdk_1280 dLb_56.2.2.2.2.2.1
theorem dL_law_1401 : decode cL_law 1401 = .ok (.ifCond .eq 7, 3) := dl_finq (k := 1280) (p := 121) hdk_1280 dLb_56.2.2.2.2.2.2.1
theorem dL_law_1404 : decode cL_law 1404 = .ok (.iconst 1, 1) := dl_finq (k := 1280) (p := 124) hdk_1280 dLb_56.2.2.2.2.2.2.2.1
theorem dL_law_1405 : decode cL_law 1405 = .ok (.goto 4, 3) := dl_finq (k := 1280) (p := 125) hdk_1280 dLb_56.2.2.2.2.2.2.2.2
theorem dLb_57 : dlq dk_1408 0 (.iconst 0, 1) = true ∧ dlq dk_1408 1 (.invokevirtual 254, 3) = true ∧ dlq dk_1408 4 (.istore 6, 2) = true ∧ dlq dk_1408 6 (.goto 670, 3) = true ∧ dlq dk_1408 9 (.aload_n 1, 1) = true ∧ dlq dk_1408 10 (.aload_n 0, 1) = true ∧ dlq dk_1408 11 (.iload 4, 2) = true ∧ dlq dk_1408 13 (.iconst 1, 1) = true ∧ dlq dk_1408 14 (.iadd, 1) = true ∧ dlq dk_1408 15 (.iaload, 1) = true ∧ dlq dk_1408 16 (.aload_n 3, 1) = true ∧ dlq dk_1408 17 (.invokestatic 255, 3) = true ∧ dlq dk_1408 20 (.istore 5, 2) = true ∧ dlq dk_1408 22 (.aload_n 2, 1) = true ∧ dlq dk_1408 23 (.aload_n 0, 1) = true ∧ dlq dk_1408 24 (.iload 4, 2) = true := by decide +kernel
theorem dL_law_1408 : decode cL_law 1408 = .ok (.iconst 0, 1) := dl_finq (k := 1408) (p := 0) hdk_1408 dLb_57.1
theorem dL_law_1409 : decode cL_law 1409 = .ok (.invokevirtual 254, 3) := dl_finq (k := 1408) (p := 1) hdk_1408 dLb_57.2.1
theorem dL_law_1412 : decode cL_law 1412 = .ok (.istore 6, 2) := dl_finq (k := 1408) (p := 4) hdk_1408 dLb_57.2.2.1
theorem dL_law_1414 : decode cL_law 1414 = .ok (.goto 670, 3) := dl_finq (k := 1408) (p := 6) hdk_1408 dLb_57.2.2.2.1
theorem dL_law_1417 : decode cL_law 1417 = .ok (.aload_n 1, 1) := dl_finq (k := 1408) (p := 9) hdk_1408 dLb_57.2.2.2.2.1
theorem dL_law_1418 : decode cL_law 1418 = .ok (.aload_n 0, 1) := dl_finq (k := 1408) (p := 10) hdk_1408 dLb_57.2.2.2.2.2.1
theorem dL_law_1419 : decode cL_law 1419 = .ok (.iload 4, 2) := dl_finq (k := 1408) (p := 11) hdk_1408 dLb_57.2.2.2.2.2.2.1
theorem dL_law_1421 : decode cL_law 1421 = .ok (.iconst 1, 1) := dl_finq (k := 1408) (p := 13) hdk_1408 dLb_57.2.2.2.2.2.2.2.1
theorem dL_law_1422 : decode cL_law 1422 = .ok (.iadd, 1) := dl_finq (k := 1408) (p := 14) hdk_1408 dLb_57.2.2.2.2.2.2.2.2.1
theorem dL_law_1423 : decode cL_law 1423 = .ok (.iaload, 1) := dl_finq (k := 1408) (p := 15) hdk_1408 dLb_57.2.2.2.2.2.2.2.2.2.1
theorem dL_law_1424 : decode cL_law 1424 = .ok (.aload_n 3, 1) := dl_finq (k := 1408) (p := 16) hdk_1408 dLb_57.2.2.2.2.2.2.2.2.2.2.1
theorem dL_law_1425 : decode cL_law 1425 = .ok (.invokestatic 255, 3) := dl_finq (k := 1408) (p := 17) hdk_1408 dLb_57.2.2.2.2.2.2.2.2.2.2.2.1
theorem dL_law_1428 : decode cL_law 1428 = .ok (.istore 5, 2) := dl_finq (k := 1408) (p := 20) hdk_1408 dLb_57.2.2.2.2.2.2.2.2.2.2.2.2.1
theorem dL_law_1430 : decode cL_law 1430 = .ok (.aload_n 2, 1) := dl_finq (k := 1408) (p := 22) hdk_1408 dLb_57.2.2.2.2.2.2.2.2.2.2.2.2.2.1
theorem dL_law_1431 : decode cL_law 1431 = .ok (.aload_n 0, 1) := dl_finq (k := 1408) (p := 23) hdk_1408 dLb_57.2.2.2.2.2.2.2.2.2.2.2.2.2.2.1
theorem dL_law_1432 : decode cL_law 1432 = .ok (.iload 4, 2) := dl_finq (k := 1408) (p := 24) hdk_1408 dLb_57.2.2.2.2.2.2.2.2.2.2.2.2.2.2.2
theorem dLb_58 : dlq dk_1408 26 (.iconst 1, 1) = true ∧ dlq dk_1408 27 (.iadd, 1) = true ∧ dlq dk_1408 28 (.iaload, 1) = true ∧ dlq dk_1408 29 (.invokevirtual 257, 3) = true ∧ dlq dk_1408 32 (.istore 6, 2) = true ∧ dlq dk_1408 34 (.goto 642, 3) = true ∧ dlq dk_1408 37 (.aload_n 1, 1) = true ∧ dlq dk_1408 38 (.aload_n 0, 1) = true ∧ dlq dk_1408 39 (.iload 4, 2) = true ∧ dlq dk_1408 41 (.iconst 1, 1) = true ∧ dlq dk_1408 42 (.iadd, 1) = true ∧ dlq dk_1408 43 (.iaload, 1) = true ∧ dlq dk_1408 44 (.aload_n 0, 1) = true ∧ dlq dk_1408 45 (.iload 4, 2) = true ∧ dlq dk_1408 47 (.iconst 2, 1) = true ∧ dlq dk_1408 48 (.iadd, 1) = true := by decide +kernel
theorem dL_law_1434 : decode cL_law 1434 = .ok (.iconst 1, 1) := dl_finq (k := 1408) (p := 26) hdk_1408 dLb_58.1
theorem dL_law_1435 : decode cL_law 1435 = .ok (.iadd, 1) := dl_finq (k := 1408) (p := 27) hdk_1408 dLb_58.2.1
theorem dL_law_1436 : decode cL_law 1436 = .ok (.iaload, 1) := dl_finq (k := 1408) (p := 28) hdk_1408 dLb_58.2.2.1
theorem dL_law_1437 : decode cL_law 1437 = .ok (.invokevirtual 257, 3) := dl_finq (k := 1408) (p := 29) hdk_1408 dLb_58.2.2.2.1
theorem dL_law_1440 : decode cL_law 1440 = .ok (.istore 6, 2) := dl_finq (k := 1408) (p := 32) hdk_1408 dLb_58.2.2.2.2.1
theorem dL_law_1442 : decode cL_law 1442 = .ok (.goto 642, 3) := dl_finq (k := 1408) (p := 34) hdk_1408 dLb_58.2.2.2.2.2.1
theorem dL_law_1445 : decode cL_law 1445 = .ok (.aload_n 1, 1) := dl_finq (k := 1408) (p := 37) hdk_1408 dLb_58.2.2.2.2.2.2.1
theorem dL_law_1446 : decode cL_law 1446 = .ok (.aload_n 0, 1) := dl_finq (k := 1408) (p := 38) hdk_1408 dLb_58.2.2.2.2.2.2.2.1
theorem dL_law_1447 : decode cL_law 1447 = .ok (.iload 4, 2) := dl_finq (k := 1408) (p := 39) hdk_1408 dLb_58.2.2.2.2.2.2.2.2.1
theorem dL_law_1449 : decode cL_law 1449 = .ok (.iconst 1, 1) := dl_finq (k := 1408) (p := 41) hdk_1408 dLb_58.2.2.2.2.2.2.2.2.2.1
theorem dL_law_1450 : decode cL_law 1450 = .ok (.iadd, 1) := dl_finq (k := 1408) (p := 42) hdk_1408 dLb_58.2.2.2.2.2.2.2.2.2.2.1
theorem dL_law_1451 : decode cL_law 1451 = .ok (.iaload, 1) := dl_finq (k := 1408) (p := 43) hdk_1408 dLb_58.2.2.2.2.2.2.2.2.2.2.2.1
theorem dL_law_1452 : decode cL_law 1452 = .ok (.aload_n 0, 1) := dl_finq (k := 1408) (p := 44) hdk_1408 dLb_58.2.2.2.2.2.2.2.2.2.2.2.2.1
theorem dL_law_1453 : decode cL_law 1453 = .ok (.iload 4, 2) := dl_finq (k := 1408) (p := 45) hdk_1408 dLb_58.2.2.2.2.2.2.2.2.2.2.2.2.2.1
theorem dL_law_1455 : decode cL_law 1455 = .ok (.iconst 2, 1) := dl_finq (k := 1408) (p := 47) hdk_1408 dLb_58.2.2.2.2.2.2.2.2.2.2.2.2.2.2.1
theorem dL_law_1456 : decode cL_law 1456 = .ok (.iadd, 1) := dl_finq (k := 1408) (p := 48) hdk_1408 dLb_58.2.2.2.2.2.2.2.2.2.2.2.2.2.2.2
theorem dLb_59 : dlq dk_1408 49 (.iaload, 1) = true ∧ dlq dk_1408 50 (.aload_n 3, 1) = true ∧ dlq dk_1408 51 (.invokestatic 258, 3) = true ∧ dlq dk_1408 54 (.istore 5, 2) = true ∧ dlq dk_1408 56 (.aload_n 2, 1) = true ∧ dlq dk_1408 57 (.aload_n 0, 1) = true ∧ dlq dk_1408 58 (.iload 4, 2) = true ∧ dlq dk_1408 60 (.iconst 1, 1) = true ∧ dlq dk_1408 61 (.iadd, 1) = true ∧ dlq dk_1408 62 (.iaload, 1) = true ∧ dlq dk_1408 63 (.aload_n 0, 1) = true ∧ dlq dk_1408 64 (.iload 4, 2) = true ∧ dlq dk_1408 66 (.iconst 2, 1) = true ∧ dlq dk_1408 67 (.iadd, 1) = true ∧ dlq dk_1408 68 (.iaload, 1) = true ∧ dlq dk_1408 69 (.invokevirtual 260, 3) = true := by decide +kernel
theorem dL_law_1457 : decode cL_law 1457 = .ok (.iaload, 1) := dl_finq (k := 1408) (p := 49) hdk_1408 dLb_59.1
theorem dL_law_1458 : decode cL_law 1458 = .ok (.aload_n 3, 1) := dl_finq (k := 1408) (p := 50) hdk_1408 dLb_59.2.1
theorem dL_law_1459 : decode cL_law 1459 = .ok (.invokestatic 258, 3) := dl_finq (k := 1408) (p := 51) hdk_1408 dLb_59.2.2.1
theorem dL_law_1462 : decode cL_law 1462 = .ok (.istore 5, 2) := dl_finq (k := 1408) (p := 54) hdk_1408 dLb_59.2.2.2.1
theorem dL_law_1464 : decode cL_law 1464 = .ok (.aload_n 2, 1) := dl_finq (k := 1408) (p := 56) hdk_1408 dLb_59.2.2.2.2.1
theorem dL_law_1465 : decode cL_law 1465 = .ok (.aload_n 0, 1) := dl_finq (k := 1408) (p := 57) hdk_1408 dLb_59.2.2.2.2.2.1
theorem dL_law_1466 : decode cL_law 1466 = .ok (.iload 4, 2) := dl_finq (k := 1408) (p := 58) hdk_1408 dLb_59.2.2.2.2.2.2.1
theorem dL_law_1468 : decode cL_law 1468 = .ok (.iconst 1, 1) := dl_finq (k := 1408) (p := 60) hdk_1408 dLb_59.2.2.2.2.2.2.2.1
theorem dL_law_1469 : decode cL_law 1469 = .ok (.iadd, 1) := dl_finq (k := 1408) (p := 61) hdk_1408 dLb_59.2.2.2.2.2.2.2.2.1
theorem dL_law_1470 : decode cL_law 1470 = .ok (.iaload, 1) := dl_finq (k := 1408) (p := 62) hdk_1408 dLb_59.2.2.2.2.2.2.2.2.2.1
theorem dL_law_1471 : decode cL_law 1471 = .ok (.aload_n 0, 1) := dl_finq (k := 1408) (p := 63) hdk_1408 dLb_59.2.2.2.2.2.2.2.2.2.2.1
theorem dL_law_1472 : decode cL_law 1472 = .ok (.iload 4, 2) := dl_finq (k := 1408) (p := 64) hdk_1408 dLb_59.2.2.2.2.2.2.2.2.2.2.2.1
theorem dL_law_1474 : decode cL_law 1474 = .ok (.iconst 2, 1) := dl_finq (k := 1408) (p := 66) hdk_1408 dLb_59.2.2.2.2.2.2.2.2.2.2.2.2.1
theorem dL_law_1475 : decode cL_law 1475 = .ok (.iadd, 1) := dl_finq (k := 1408) (p := 67) hdk_1408 dLb_59.2.2.2.2.2.2.2.2.2.2.2.2.2.1
theorem dL_law_1476 : decode cL_law 1476 = .ok (.iaload, 1) := dl_finq (k := 1408) (p := 68) hdk_1408 dLb_59.2.2.2.2.2.2.2.2.2.2.2.2.2.2.1
theorem dL_law_1477 : decode cL_law 1477 = .ok (.invokevirtual 260, 3) := dl_finq (k := 1408) (p := 69) hdk_1408 dLb_59.2.2.2.2.2.2.2.2.2.2.2.2.2.2.2
theorem dLb_60 : dlq dk_1408 72 (.istore 6, 2) = true ∧ dlq dk_1408 74 (.goto 602, 3) = true ∧ dlq dk_1408 77 (.aload_n 1, 1) = true ∧ dlq dk_1408 78 (.aload_n 0, 1) = true ∧ dlq dk_1408 79 (.iload 4, 2) = true ∧ dlq dk_1408 81 (.iconst 1, 1) = true ∧ dlq dk_1408 82 (.iadd, 1) = true ∧ dlq dk_1408 83 (.iaload, 1) = true ∧ dlq dk_1408 84 (.aload_n 0, 1) = true ∧ dlq dk_1408 85 (.iload 4, 2) = true ∧ dlq dk_1408 87 (.iconst 2, 1) = true ∧ dlq dk_1408 88 (.iadd, 1) = true ∧ dlq dk_1408 89 (.iaload, 1) = true ∧ dlq dk_1408 90 (.aload_n 0, 1) = true ∧ dlq dk_1408 91 (.iload 4, 2) = true ∧ dlq dk_1408 93 (.iconst 3, 1) = true := by decide +kernel
theorem dL_law_1480 : decode cL_law 1480 = .ok (.istore 6, 2) := dl_finq (k := 1408) (p := 72) hdk_1408 dLb_60.1
theorem dL_law_1482 : decode cL_law 1482 = .ok (.goto 602, 3) := dl_finq (k := 1408) (p := 74) hdk_1408 dLb_60.2.1
theorem dL_law_1485 : decode cL_law 1485 = .ok (.aload_n 1, 1) := dl_finq (k := 1408) (p := 77) hdk_1408 dLb_60.2.2.1
theorem dL_law_1486 : decode cL_law 1486 = .ok (.aload_n 0, 1) := dl_finq (k := 1408) (p := 78) hdk_1408 dLb_60.2.2.2.1
theorem dL_law_1487 : decode cL_law 1487 = .ok (.iload 4, 2) := dl_finq (k := 1408) (p := 79) hdk_1408 dLb_60.2.2.2.2.1
theorem dL_law_1489 : decode cL_law 1489 = .ok (.iconst 1, 1) := dl_finq (k := 1408) (p := 81) hdk_1408 dLb_60.2.2.2.2.2.1
theorem dL_law_1490 : decode cL_law 1490 = .ok (.iadd, 1) := dl_finq (k := 1408) (p := 82) hdk_1408 dLb_60.2.2.2.2.2.2.1
theorem dL_law_1491 : decode cL_law 1491 = .ok (.iaload, 1) := dl_finq (k := 1408) (p := 83) hdk_1408 dLb_60.2.2.2.2.2.2.2.1
theorem dL_law_1492 : decode cL_law 1492 = .ok (.aload_n 0, 1) := dl_finq (k := 1408) (p := 84) hdk_1408 dLb_60.2.2.2.2.2.2.2.2.1
theorem dL_law_1493 : decode cL_law 1493 = .ok (.iload 4, 2) := dl_finq (k := 1408) (p := 85) hdk_1408 dLb_60.2.2.2.2.2.2.2.2.2.1
theorem dL_law_1495 : decode cL_law 1495 = .ok (.iconst 2, 1) := dl_finq (k := 1408) (p := 87) hdk_1408 dLb_60.2.2.2.2.2.2.2.2.2.2.1
theorem dL_law_1496 : decode cL_law 1496 = .ok (.iadd, 1) := dl_finq (k := 1408) (p := 88) hdk_1408 dLb_60.2.2.2.2.2.2.2.2.2.2.2.1
theorem dL_law_1497 : decode cL_law 1497 = .ok (.iaload, 1) := dl_finq (k := 1408) (p := 89) hdk_1408 dLb_60.2.2.2.2.2.2.2.2.2.2.2.2.1
theorem dL_law_1498 : decode cL_law 1498 = .ok (.aload_n 0, 1) := dl_finq (k := 1408) (p := 90) hdk_1408 dLb_60.2.2.2.2.2.2.2.2.2.2.2.2.2.1
theorem dL_law_1499 : decode cL_law 1499 = .ok (.iload 4, 2) := dl_finq (k := 1408) (p := 91) hdk_1408 dLb_60.2.2.2.2.2.2.2.2.2.2.2.2.2.2.1
theorem dL_law_1501 : decode cL_law 1501 = .ok (.iconst 3, 1) := dl_finq (k := 1408) (p := 93) hdk_1408 dLb_60.2.2.2.2.2.2.2.2.2.2.2.2.2.2.2
theorem dLb_61 : dlq dk_1408 94 (.iadd, 1) = true ∧ dlq dk_1408 95 (.iaload, 1) = true ∧ dlq dk_1408 96 (.aload_n 3, 1) = true ∧ dlq dk_1408 97 (.invokestatic 261, 3) = true ∧ dlq dk_1408 100 (.istore 5, 2) = true ∧ dlq dk_1408 102 (.aload_n 2, 1) = true ∧ dlq dk_1408 103 (.aload_n 0, 1) = true ∧ dlq dk_1408 104 (.iload 4, 2) = true ∧ dlq dk_1408 106 (.iconst 1, 1) = true ∧ dlq dk_1408 107 (.iadd, 1) = true ∧ dlq dk_1408 108 (.iaload, 1) = true ∧ dlq dk_1408 109 (.aload_n 0, 1) = true ∧ dlq dk_1408 110 (.iload 4, 2) = true ∧ dlq dk_1408 112 (.iconst 2, 1) = true ∧ dlq dk_1408 113 (.iadd, 1) = true ∧ dlq dk_1408 114 (.iaload, 1) = true := by decide +kernel
theorem dL_law_1502 : decode cL_law 1502 = .ok (.iadd, 1) := dl_finq (k := 1408) (p := 94) hdk_1408 dLb_61.1
theorem dL_law_1503 : decode cL_law 1503 = .ok (.iaload, 1) := dl_finq (k := 1408) (p := 95) hdk_1408 dLb_61.2.1
theorem dL_law_1504 : decode cL_law 1504 = .ok (.aload_n 3, 1) := dl_finq (k := 1408) (p := 96) hdk_1408 dLb_61.2.2.1
theorem dL_law_1505 : decode cL_law 1505 = .ok (.invokestatic 261, 3) := dl_finq (k := 1408) (p := 97) hdk_1408 dLb_61.2.2.2.1
theorem dL_law_1508 : decode cL_law 1508 = .ok (.istore 5, 2) := dl_finq (k := 1408) (p := 100) hdk_1408 dLb_61.2.2.2.2.1
theorem dL_law_1510 : decode cL_law 1510 = .ok (.aload_n 2, 1) := dl_finq (k := 1408) (p := 102) hdk_1408 dLb_61.2.2.2.2.2.1
theorem dL_law_1511 : decode cL_law 1511 = .ok (.aload_n 0, 1) := dl_finq (k := 1408) (p := 103) hdk_1408 dLb_61.2.2.2.2.2.2.1
theorem dL_law_1512 : decode cL_law 1512 = .ok (.iload 4, 2) := dl_finq (k := 1408) (p := 104) hdk_1408 dLb_61.2.2.2.2.2.2.2.1
theorem dL_law_1514 : decode cL_law 1514 = .ok (.iconst 1, 1) := dl_finq (k := 1408) (p := 106) hdk_1408 dLb_61.2.2.2.2.2.2.2.2.1
theorem dL_law_1515 : decode cL_law 1515 = .ok (.iadd, 1) := dl_finq (k := 1408) (p := 107) hdk_1408 dLb_61.2.2.2.2.2.2.2.2.2.1
theorem dL_law_1516 : decode cL_law 1516 = .ok (.iaload, 1) := dl_finq (k := 1408) (p := 108) hdk_1408 dLb_61.2.2.2.2.2.2.2.2.2.2.1
theorem dL_law_1517 : decode cL_law 1517 = .ok (.aload_n 0, 1) := dl_finq (k := 1408) (p := 109) hdk_1408 dLb_61.2.2.2.2.2.2.2.2.2.2.2.1
theorem dL_law_1518 : decode cL_law 1518 = .ok (.iload 4, 2) := dl_finq (k := 1408) (p := 110) hdk_1408 dLb_61.2.2.2.2.2.2.2.2.2.2.2.2.1
theorem dL_law_1520 : decode cL_law 1520 = .ok (.iconst 2, 1) := dl_finq (k := 1408) (p := 112) hdk_1408 dLb_61.2.2.2.2.2.2.2.2.2.2.2.2.2.1
theorem dL_law_1521 : decode cL_law 1521 = .ok (.iadd, 1) := dl_finq (k := 1408) (p := 113) hdk_1408 dLb_61.2.2.2.2.2.2.2.2.2.2.2.2.2.2.1
theorem dL_law_1522 : decode cL_law 1522 = .ok (.iaload, 1) := dl_finq (k := 1408) (p := 114) hdk_1408 dLb_61.2.2.2.2.2.2.2.2.2.2.2.2.2.2.2
theorem dLb_62 : dlq dk_1408 115 (.aload_n 0, 1) = true ∧ dlq dk_1408 116 (.iload 4, 2) = true ∧ dlq dk_1408 118 (.iconst 3, 1) = true ∧ dlq dk_1408 119 (.iadd, 1) = true ∧ dlq dk_1408 120 (.iaload, 1) = true ∧ dlq dk_1408 121 (.invokevirtual 263, 3) = true ∧ dlq dk_1408 124 (.istore 6, 2) = true ∧ dlq dk_1408 126 (.goto 550, 3) = true := by decide +kernel
theorem dL_law_1523 : decode cL_law 1523 = .ok (.aload_n 0, 1) := dl_finq (k := 1408) (p := 115) hdk_1408 dLb_62.1
theorem dL_law_1524 : decode cL_law 1524 = .ok (.iload 4, 2) := dl_finq (k := 1408) (p := 116) hdk_1408 dLb_62.2.1
theorem dL_law_1526 : decode cL_law 1526 = .ok (.iconst 3, 1) := dl_finq (k := 1408) (p := 118) hdk_1408 dLb_62.2.2.1
theorem dL_law_1527 : decode cL_law 1527 = .ok (.iadd, 1) := dl_finq (k := 1408) (p := 119) hdk_1408 dLb_62.2.2.2.1
theorem dL_law_1528 : decode cL_law 1528 = .ok (.iaload, 1) := dl_finq (k := 1408) (p := 120) hdk_1408 dLb_62.2.2.2.2.1
theorem dL_law_1529 : decode cL_law 1529 = .ok (.invokevirtual 263, 3) := dl_finq (k := 1408) (p := 121) hdk_1408 dLb_62.2.2.2.2.2.1
theorem dL_law_1532 : decode cL_law 1532 = .ok (.istore 6, 2) := dl_finq (k := 1408) (p := 124) hdk_1408 dLb_62.2.2.2.2.2.2.1
theorem dL_law_1534 : decode cL_law 1534 = .ok (.goto 550, 3) := dl_finq (k := 1408) (p := 126) hdk_1408 dLb_62.2.2.2.2.2.2.2
theorem dLb_63 : dlq dk_1536 1 (.aload_n 1, 1) = true ∧ dlq dk_1536 2 (.aload_n 0, 1) = true ∧ dlq dk_1536 3 (.iload 4, 2) = true ∧ dlq dk_1536 5 (.iconst 1, 1) = true ∧ dlq dk_1536 6 (.iadd, 1) = true ∧ dlq dk_1536 7 (.iaload, 1) = true ∧ dlq dk_1536 8 (.aload_n 0, 1) = true ∧ dlq dk_1536 9 (.iload 4, 2) = true ∧ dlq dk_1536 11 (.iconst 2, 1) = true ∧ dlq dk_1536 12 (.iadd, 1) = true ∧ dlq dk_1536 13 (.iaload, 1) = true ∧ dlq dk_1536 14 (.aload_n 3, 1) = true ∧ dlq dk_1536 15 (.invokestatic 264, 3) = true ∧ dlq dk_1536 18 (.istore 5, 2) = true ∧ dlq dk_1536 20 (.aload_n 2, 1) = true ∧ dlq dk_1536 21 (.aload_n 0, 1) = true := by decide +kernel
theorem dL_law_1537 : decode cL_law 1537 = .ok (.aload_n 1, 1) := dl_finq (k := 1536) (p := 1) hdk_1536 dLb_63.1
theorem dL_law_1538 : decode cL_law 1538 = .ok (.aload_n 0, 1) := dl_finq (k := 1536) (p := 2) hdk_1536 dLb_63.2.1
theorem dL_law_1539 : decode cL_law 1539 = .ok (.iload 4, 2) := dl_finq (k := 1536) (p := 3) hdk_1536 dLb_63.2.2.1
theorem dL_law_1541 : decode cL_law 1541 = .ok (.iconst 1, 1) := dl_finq (k := 1536) (p := 5) hdk_1536 dLb_63.2.2.2.1
theorem dL_law_1542 : decode cL_law 1542 = .ok (.iadd, 1) := dl_finq (k := 1536) (p := 6) hdk_1536 dLb_63.2.2.2.2.1
theorem dL_law_1543 : decode cL_law 1543 = .ok (.iaload, 1) := dl_finq (k := 1536) (p := 7) hdk_1536 dLb_63.2.2.2.2.2.1
theorem dL_law_1544 : decode cL_law 1544 = .ok (.aload_n 0, 1) := dl_finq (k := 1536) (p := 8) hdk_1536 dLb_63.2.2.2.2.2.2.1
theorem dL_law_1545 : decode cL_law 1545 = .ok (.iload 4, 2) := dl_finq (k := 1536) (p := 9) hdk_1536 dLb_63.2.2.2.2.2.2.2.1
theorem dL_law_1547 : decode cL_law 1547 = .ok (.iconst 2, 1) := dl_finq (k := 1536) (p := 11) hdk_1536 dLb_63.2.2.2.2.2.2.2.2.1
theorem dL_law_1548 : decode cL_law 1548 = .ok (.iadd, 1) := dl_finq (k := 1536) (p := 12) hdk_1536 dLb_63.2.2.2.2.2.2.2.2.2.1
theorem dL_law_1549 : decode cL_law 1549 = .ok (.iaload, 1) := dl_finq (k := 1536) (p := 13) hdk_1536 dLb_63.2.2.2.2.2.2.2.2.2.2.1
theorem dL_law_1550 : decode cL_law 1550 = .ok (.aload_n 3, 1) := dl_finq (k := 1536) (p := 14) hdk_1536 dLb_63.2.2.2.2.2.2.2.2.2.2.2.1
theorem dL_law_1551 : decode cL_law 1551 = .ok (.invokestatic 264, 3) := dl_finq (k := 1536) (p := 15) hdk_1536 dLb_63.2.2.2.2.2.2.2.2.2.2.2.2.1
theorem dL_law_1554 : decode cL_law 1554 = .ok (.istore 5, 2) := dl_finq (k := 1536) (p := 18) hdk_1536 dLb_63.2.2.2.2.2.2.2.2.2.2.2.2.2.1
theorem dL_law_1556 : decode cL_law 1556 = .ok (.aload_n 2, 1) := dl_finq (k := 1536) (p := 20) hdk_1536 dLb_63.2.2.2.2.2.2.2.2.2.2.2.2.2.2.1
theorem dL_law_1557 : decode cL_law 1557 = .ok (.aload_n 0, 1) := dl_finq (k := 1536) (p := 21) hdk_1536 dLb_63.2.2.2.2.2.2.2.2.2.2.2.2.2.2.2
theorem dLb_64 : dlq dk_1536 22 (.iload 4, 2) = true ∧ dlq dk_1536 24 (.iconst 1, 1) = true ∧ dlq dk_1536 25 (.iadd, 1) = true ∧ dlq dk_1536 26 (.iaload, 1) = true ∧ dlq dk_1536 27 (.aload_n 0, 1) = true ∧ dlq dk_1536 28 (.iload 4, 2) = true ∧ dlq dk_1536 30 (.iconst 2, 1) = true ∧ dlq dk_1536 31 (.iadd, 1) = true ∧ dlq dk_1536 32 (.iaload, 1) = true ∧ dlq dk_1536 33 (.invokevirtual 266, 3) = true ∧ dlq dk_1536 36 (.istore 6, 2) = true ∧ dlq dk_1536 38 (.goto 510, 3) = true ∧ dlq dk_1536 41 (.aload_n 1, 1) = true ∧ dlq dk_1536 42 (.aload_n 0, 1) = true ∧ dlq dk_1536 43 (.iload 4, 2) = true ∧ dlq dk_1536 45 (.iconst 1, 1) = true := by decide +kernel
theorem dL_law_1558 : decode cL_law 1558 = .ok (.iload 4, 2) := dl_finq (k := 1536) (p := 22) hdk_1536 dLb_64.1
theorem dL_law_1560 : decode cL_law 1560 = .ok (.iconst 1, 1) := dl_finq (k := 1536) (p := 24) hdk_1536 dLb_64.2.1
theorem dL_law_1561 : decode cL_law 1561 = .ok (.iadd, 1) := dl_finq (k := 1536) (p := 25) hdk_1536 dLb_64.2.2.1
theorem dL_law_1562 : decode cL_law 1562 = .ok (.iaload, 1) := dl_finq (k := 1536) (p := 26) hdk_1536 dLb_64.2.2.2.1
theorem dL_law_1563 : decode cL_law 1563 = .ok (.aload_n 0, 1) := dl_finq (k := 1536) (p := 27) hdk_1536 dLb_64.2.2.2.2.1
theorem dL_law_1564 : decode cL_law 1564 = .ok (.iload 4, 2) := dl_finq (k := 1536) (p := 28) hdk_1536 dLb_64.2.2.2.2.2.1
theorem dL_law_1566 : decode cL_law 1566 = .ok (.iconst 2, 1) := dl_finq (k := 1536) (p := 30) hdk_1536 dLb_64.2.2.2.2.2.2.1
theorem dL_law_1567 : decode cL_law 1567 = .ok (.iadd, 1) := dl_finq (k := 1536) (p := 31) hdk_1536 dLb_64.2.2.2.2.2.2.2.1
theorem dL_law_1568 : decode cL_law 1568 = .ok (.iaload, 1) := dl_finq (k := 1536) (p := 32) hdk_1536 dLb_64.2.2.2.2.2.2.2.2.1
theorem dL_law_1569 : decode cL_law 1569 = .ok (.invokevirtual 266, 3) := dl_finq (k := 1536) (p := 33) hdk_1536 dLb_64.2.2.2.2.2.2.2.2.2.1
theorem dL_law_1572 : decode cL_law 1572 = .ok (.istore 6, 2) := dl_finq (k := 1536) (p := 36) hdk_1536 dLb_64.2.2.2.2.2.2.2.2.2.2.1
theorem dL_law_1574 : decode cL_law 1574 = .ok (.goto 510, 3) := dl_finq (k := 1536) (p := 38) hdk_1536 dLb_64.2.2.2.2.2.2.2.2.2.2.2.1
theorem dL_law_1577 : decode cL_law 1577 = .ok (.aload_n 1, 1) := dl_finq (k := 1536) (p := 41) hdk_1536 dLb_64.2.2.2.2.2.2.2.2.2.2.2.2.1
theorem dL_law_1578 : decode cL_law 1578 = .ok (.aload_n 0, 1) := dl_finq (k := 1536) (p := 42) hdk_1536 dLb_64.2.2.2.2.2.2.2.2.2.2.2.2.2.1
theorem dL_law_1579 : decode cL_law 1579 = .ok (.iload 4, 2) := dl_finq (k := 1536) (p := 43) hdk_1536 dLb_64.2.2.2.2.2.2.2.2.2.2.2.2.2.2.1
theorem dL_law_1581 : decode cL_law 1581 = .ok (.iconst 1, 1) := dl_finq (k := 1536) (p := 45) hdk_1536 dLb_64.2.2.2.2.2.2.2.2.2.2.2.2.2.2.2
theorem dLb_65 : dlq dk_1536 46 (.iadd, 1) = true ∧ dlq dk_1536 47 (.iaload, 1) = true ∧ dlq dk_1536 48 (.aload_n 0, 1) = true ∧ dlq dk_1536 49 (.iload 4, 2) = true ∧ dlq dk_1536 51 (.iconst 2, 1) = true ∧ dlq dk_1536 52 (.iadd, 1) = true ∧ dlq dk_1536 53 (.iaload, 1) = true ∧ dlq dk_1536 54 (.aload_n 0, 1) = true ∧ dlq dk_1536 55 (.iload 4, 2) = true ∧ dlq dk_1536 57 (.iconst 3, 1) = true ∧ dlq dk_1536 58 (.iadd, 1) = true ∧ dlq dk_1536 59 (.iaload, 1) = true ∧ dlq dk_1536 60 (.aload_n 3, 1) = true ∧ dlq dk_1536 61 (.invokestatic 267, 3) = true ∧ dlq dk_1536 64 (.istore 5, 2) = true ∧ dlq dk_1536 66 (.aload_n 2, 1) = true := by decide +kernel
theorem dL_law_1582 : decode cL_law 1582 = .ok (.iadd, 1) := dl_finq (k := 1536) (p := 46) hdk_1536 dLb_65.1
theorem dL_law_1583 : decode cL_law 1583 = .ok (.iaload, 1) := dl_finq (k := 1536) (p := 47) hdk_1536 dLb_65.2.1
theorem dL_law_1584 : decode cL_law 1584 = .ok (.aload_n 0, 1) := dl_finq (k := 1536) (p := 48) hdk_1536 dLb_65.2.2.1
theorem dL_law_1585 : decode cL_law 1585 = .ok (.iload 4, 2) := dl_finq (k := 1536) (p := 49) hdk_1536 dLb_65.2.2.2.1
theorem dL_law_1587 : decode cL_law 1587 = .ok (.iconst 2, 1) := dl_finq (k := 1536) (p := 51) hdk_1536 dLb_65.2.2.2.2.1
theorem dL_law_1588 : decode cL_law 1588 = .ok (.iadd, 1) := dl_finq (k := 1536) (p := 52) hdk_1536 dLb_65.2.2.2.2.2.1
theorem dL_law_1589 : decode cL_law 1589 = .ok (.iaload, 1) := dl_finq (k := 1536) (p := 53) hdk_1536 dLb_65.2.2.2.2.2.2.1
theorem dL_law_1590 : decode cL_law 1590 = .ok (.aload_n 0, 1) := dl_finq (k := 1536) (p := 54) hdk_1536 dLb_65.2.2.2.2.2.2.2.1
theorem dL_law_1591 : decode cL_law 1591 = .ok (.iload 4, 2) := dl_finq (k := 1536) (p := 55) hdk_1536 dLb_65.2.2.2.2.2.2.2.2.1
theorem dL_law_1593 : decode cL_law 1593 = .ok (.iconst 3, 1) := dl_finq (k := 1536) (p := 57) hdk_1536 dLb_65.2.2.2.2.2.2.2.2.2.1
theorem dL_law_1594 : decode cL_law 1594 = .ok (.iadd, 1) := dl_finq (k := 1536) (p := 58) hdk_1536 dLb_65.2.2.2.2.2.2.2.2.2.2.1
theorem dL_law_1595 : decode cL_law 1595 = .ok (.iaload, 1) := dl_finq (k := 1536) (p := 59) hdk_1536 dLb_65.2.2.2.2.2.2.2.2.2.2.2.1
theorem dL_law_1596 : decode cL_law 1596 = .ok (.aload_n 3, 1) := dl_finq (k := 1536) (p := 60) hdk_1536 dLb_65.2.2.2.2.2.2.2.2.2.2.2.2.1
theorem dL_law_1597 : decode cL_law 1597 = .ok (.invokestatic 267, 3) := dl_finq (k := 1536) (p := 61) hdk_1536 dLb_65.2.2.2.2.2.2.2.2.2.2.2.2.2.1
theorem dL_law_1600 : decode cL_law 1600 = .ok (.istore 5, 2) := dl_finq (k := 1536) (p := 64) hdk_1536 dLb_65.2.2.2.2.2.2.2.2.2.2.2.2.2.2.1
theorem dL_law_1602 : decode cL_law 1602 = .ok (.aload_n 2, 1) := dl_finq (k := 1536) (p := 66) hdk_1536 dLb_65.2.2.2.2.2.2.2.2.2.2.2.2.2.2.2
theorem dLb_66 : dlq dk_1536 67 (.aload_n 0, 1) = true ∧ dlq dk_1536 68 (.iload 4, 2) = true ∧ dlq dk_1536 70 (.iconst 1, 1) = true ∧ dlq dk_1536 71 (.iadd, 1) = true ∧ dlq dk_1536 72 (.iaload, 1) = true ∧ dlq dk_1536 73 (.aload_n 0, 1) = true ∧ dlq dk_1536 74 (.iload 4, 2) = true ∧ dlq dk_1536 76 (.iconst 2, 1) = true ∧ dlq dk_1536 77 (.iadd, 1) = true ∧ dlq dk_1536 78 (.iaload, 1) = true ∧ dlq dk_1536 79 (.aload_n 0, 1) = true ∧ dlq dk_1536 80 (.iload 4, 2) = true ∧ dlq dk_1536 82 (.iconst 3, 1) = true ∧ dlq dk_1536 83 (.iadd, 1) = true ∧ dlq dk_1536 84 (.iaload, 1) = true ∧ dlq dk_1536 85 (.invokevirtual 269, 3) = true := by decide +kernel
theorem dL_law_1603 : decode cL_law 1603 = .ok (.aload_n 0, 1) := dl_finq (k := 1536) (p := 67) hdk_1536 dLb_66.1
theorem dL_law_1604 : decode cL_law 1604 = .ok (.iload 4, 2) := dl_finq (k := 1536) (p := 68) hdk_1536 dLb_66.2.1
theorem dL_law_1606 : decode cL_law 1606 = .ok (.iconst 1, 1) := dl_finq (k := 1536) (p := 70) hdk_1536 dLb_66.2.2.1
theorem dL_law_1607 : decode cL_law 1607 = .ok (.iadd, 1) := dl_finq (k := 1536) (p := 71) hdk_1536 dLb_66.2.2.2.1
theorem dL_law_1608 : decode cL_law 1608 = .ok (.iaload, 1) := dl_finq (k := 1536) (p := 72) hdk_1536 dLb_66.2.2.2.2.1
theorem dL_law_1609 : decode cL_law 1609 = .ok (.aload_n 0, 1) := dl_finq (k := 1536) (p := 73) hdk_1536 dLb_66.2.2.2.2.2.1
theorem dL_law_1610 : decode cL_law 1610 = .ok (.iload 4, 2) := dl_finq (k := 1536) (p := 74) hdk_1536 dLb_66.2.2.2.2.2.2.1
theorem dL_law_1612 : decode cL_law 1612 = .ok (.iconst 2, 1) := dl_finq (k := 1536) (p := 76) hdk_1536 dLb_66.2.2.2.2.2.2.2.1
theorem dL_law_1613 : decode cL_law 1613 = .ok (.iadd, 1) := dl_finq (k := 1536) (p := 77) hdk_1536 dLb_66.2.2.2.2.2.2.2.2.1
theorem dL_law_1614 : decode cL_law 1614 = .ok (.iaload, 1) := dl_finq (k := 1536) (p := 78) hdk_1536 dLb_66.2.2.2.2.2.2.2.2.2.1
theorem dL_law_1615 : decode cL_law 1615 = .ok (.aload_n 0, 1) := dl_finq (k := 1536) (p := 79) hdk_1536 dLb_66.2.2.2.2.2.2.2.2.2.2.1
theorem dL_law_1616 : decode cL_law 1616 = .ok (.iload 4, 2) := dl_finq (k := 1536) (p := 80) hdk_1536 dLb_66.2.2.2.2.2.2.2.2.2.2.2.1
theorem dL_law_1618 : decode cL_law 1618 = .ok (.iconst 3, 1) := dl_finq (k := 1536) (p := 82) hdk_1536 dLb_66.2.2.2.2.2.2.2.2.2.2.2.2.1
theorem dL_law_1619 : decode cL_law 1619 = .ok (.iadd, 1) := dl_finq (k := 1536) (p := 83) hdk_1536 dLb_66.2.2.2.2.2.2.2.2.2.2.2.2.2.1
theorem dL_law_1620 : decode cL_law 1620 = .ok (.iaload, 1) := dl_finq (k := 1536) (p := 84) hdk_1536 dLb_66.2.2.2.2.2.2.2.2.2.2.2.2.2.2.1
theorem dL_law_1621 : decode cL_law 1621 = .ok (.invokevirtual 269, 3) := dl_finq (k := 1536) (p := 85) hdk_1536 dLb_66.2.2.2.2.2.2.2.2.2.2.2.2.2.2.2
theorem dLb_67 : dlq dk_1536 88 (.istore 6, 2) = true ∧ dlq dk_1536 90 (.goto 458, 3) = true ∧ dlq dk_1536 93 (.aload_n 1, 1) = true ∧ dlq dk_1536 94 (.aload_n 0, 1) = true ∧ dlq dk_1536 95 (.iload 4, 2) = true ∧ dlq dk_1536 97 (.iconst 1, 1) = true ∧ dlq dk_1536 98 (.iadd, 1) = true ∧ dlq dk_1536 99 (.iaload, 1) = true ∧ dlq dk_1536 100 (.aload_n 0, 1) = true ∧ dlq dk_1536 101 (.iload 4, 2) = true ∧ dlq dk_1536 103 (.iconst 2, 1) = true ∧ dlq dk_1536 104 (.iadd, 1) = true ∧ dlq dk_1536 105 (.iaload, 1) = true ∧ dlq dk_1536 106 (.aload_n 3, 1) = true ∧ dlq dk_1536 107 (.invokestatic 270, 3) = true ∧ dlq dk_1536 110 (.istore 5, 2) = true := by decide +kernel
theorem dL_law_1624 : decode cL_law 1624 = .ok (.istore 6, 2) := dl_finq (k := 1536) (p := 88) hdk_1536 dLb_67.1
theorem dL_law_1626 : decode cL_law 1626 = .ok (.goto 458, 3) := dl_finq (k := 1536) (p := 90) hdk_1536 dLb_67.2.1
theorem dL_law_1629 : decode cL_law 1629 = .ok (.aload_n 1, 1) := dl_finq (k := 1536) (p := 93) hdk_1536 dLb_67.2.2.1
theorem dL_law_1630 : decode cL_law 1630 = .ok (.aload_n 0, 1) := dl_finq (k := 1536) (p := 94) hdk_1536 dLb_67.2.2.2.1
theorem dL_law_1631 : decode cL_law 1631 = .ok (.iload 4, 2) := dl_finq (k := 1536) (p := 95) hdk_1536 dLb_67.2.2.2.2.1
theorem dL_law_1633 : decode cL_law 1633 = .ok (.iconst 1, 1) := dl_finq (k := 1536) (p := 97) hdk_1536 dLb_67.2.2.2.2.2.1
theorem dL_law_1634 : decode cL_law 1634 = .ok (.iadd, 1) := dl_finq (k := 1536) (p := 98) hdk_1536 dLb_67.2.2.2.2.2.2.1
theorem dL_law_1635 : decode cL_law 1635 = .ok (.iaload, 1) := dl_finq (k := 1536) (p := 99) hdk_1536 dLb_67.2.2.2.2.2.2.2.1
theorem dL_law_1636 : decode cL_law 1636 = .ok (.aload_n 0, 1) := dl_finq (k := 1536) (p := 100) hdk_1536 dLb_67.2.2.2.2.2.2.2.2.1
theorem dL_law_1637 : decode cL_law 1637 = .ok (.iload 4, 2) := dl_finq (k := 1536) (p := 101) hdk_1536 dLb_67.2.2.2.2.2.2.2.2.2.1
theorem dL_law_1639 : decode cL_law 1639 = .ok (.iconst 2, 1) := dl_finq (k := 1536) (p := 103) hdk_1536 dLb_67.2.2.2.2.2.2.2.2.2.2.1
theorem dL_law_1640 : decode cL_law 1640 = .ok (.iadd, 1) := dl_finq (k := 1536) (p := 104) hdk_1536 dLb_67.2.2.2.2.2.2.2.2.2.2.2.1
theorem dL_law_1641 : decode cL_law 1641 = .ok (.iaload, 1) := dl_finq (k := 1536) (p := 105) hdk_1536 dLb_67.2.2.2.2.2.2.2.2.2.2.2.2.1
theorem dL_law_1642 : decode cL_law 1642 = .ok (.aload_n 3, 1) := dl_finq (k := 1536) (p := 106) hdk_1536 dLb_67.2.2.2.2.2.2.2.2.2.2.2.2.2.1
theorem dL_law_1643 : decode cL_law 1643 = .ok (.invokestatic 270, 3) := dl_finq (k := 1536) (p := 107) hdk_1536 dLb_67.2.2.2.2.2.2.2.2.2.2.2.2.2.2.1
theorem dL_law_1646 : decode cL_law 1646 = .ok (.istore 5, 2) := dl_finq (k := 1536) (p := 110) hdk_1536 dLb_67.2.2.2.2.2.2.2.2.2.2.2.2.2.2.2
theorem dLb_68 : dlq dk_1536 112 (.aload_n 2, 1) = true ∧ dlq dk_1536 113 (.aload_n 0, 1) = true ∧ dlq dk_1536 114 (.iload 4, 2) = true ∧ dlq dk_1536 116 (.iconst 1, 1) = true ∧ dlq dk_1536 117 (.iadd, 1) = true ∧ dlq dk_1536 118 (.iaload, 1) = true ∧ dlq dk_1536 119 (.aload_n 0, 1) = true ∧ dlq dk_1536 120 (.iload 4, 2) = true ∧ dlq dk_1536 122 (.iconst 2, 1) = true ∧ dlq dk_1536 123 (.iadd, 1) = true ∧ dlq dk_1536 124 (.iaload, 1) = true ∧ dlq dk_1536 125 (.invokevirtual 272, 3) = true := by decide +kernel
theorem dL_law_1648 : decode cL_law 1648 = .ok (.aload_n 2, 1) := dl_finq (k := 1536) (p := 112) hdk_1536 dLb_68.1
theorem dL_law_1649 : decode cL_law 1649 = .ok (.aload_n 0, 1) := dl_finq (k := 1536) (p := 113) hdk_1536 dLb_68.2.1
theorem dL_law_1650 : decode cL_law 1650 = .ok (.iload 4, 2) := dl_finq (k := 1536) (p := 114) hdk_1536 dLb_68.2.2.1
theorem dL_law_1652 : decode cL_law 1652 = .ok (.iconst 1, 1) := dl_finq (k := 1536) (p := 116) hdk_1536 dLb_68.2.2.2.1
theorem dL_law_1653 : decode cL_law 1653 = .ok (.iadd, 1) := dl_finq (k := 1536) (p := 117) hdk_1536 dLb_68.2.2.2.2.1
theorem dL_law_1654 : decode cL_law 1654 = .ok (.iaload, 1) := dl_finq (k := 1536) (p := 118) hdk_1536 dLb_68.2.2.2.2.2.1
theorem dL_law_1655 : decode cL_law 1655 = .ok (.aload_n 0, 1) := dl_finq (k := 1536) (p := 119) hdk_1536 dLb_68.2.2.2.2.2.2.1
theorem dL_law_1656 : decode cL_law 1656 = .ok (.iload 4, 2) := dl_finq (k := 1536) (p := 120) hdk_1536 dLb_68.2.2.2.2.2.2.2.1
theorem dL_law_1658 : decode cL_law 1658 = .ok (.iconst 2, 1) := dl_finq (k := 1536) (p := 122) hdk_1536 dLb_68.2.2.2.2.2.2.2.2.1
theorem dL_law_1659 : decode cL_law 1659 = .ok (.iadd, 1) := dl_finq (k := 1536) (p := 123) hdk_1536 dLb_68.2.2.2.2.2.2.2.2.2.1
theorem dL_law_1660 : decode cL_law 1660 = .ok (.iaload, 1) := dl_finq (k := 1536) (p := 124) hdk_1536 dLb_68.2.2.2.2.2.2.2.2.2.2.1
theorem dL_law_1661 : decode cL_law 1661 = .ok (.invokevirtual 272, 3) := dl_finq (k := 1536) (p := 125) hdk_1536 dLb_68.2.2.2.2.2.2.2.2.2.2.2
theorem dLb_69 : dlq dk_1664 0 (.istore 6, 2) = true ∧ dlq dk_1664 2 (.goto 418, 3) = true ∧ dlq dk_1664 5 (.aload_n 1, 1) = true ∧ dlq dk_1664 6 (.aload_n 0, 1) = true ∧ dlq dk_1664 7 (.iload 4, 2) = true ∧ dlq dk_1664 9 (.iconst 1, 1) = true ∧ dlq dk_1664 10 (.iadd, 1) = true ∧ dlq dk_1664 11 (.iaload, 1) = true ∧ dlq dk_1664 12 (.aload_n 0, 1) = true ∧ dlq dk_1664 13 (.iload 4, 2) = true ∧ dlq dk_1664 15 (.iconst 2, 1) = true ∧ dlq dk_1664 16 (.iadd, 1) = true ∧ dlq dk_1664 17 (.iaload, 1) = true ∧ dlq dk_1664 18 (.aload_n 3, 1) = true ∧ dlq dk_1664 19 (.invokestatic 273, 3) = true ∧ dlq dk_1664 22 (.istore 5, 2) = true := by decide +kernel
theorem dL_law_1664 : decode cL_law 1664 = .ok (.istore 6, 2) := dl_finq (k := 1664) (p := 0) hdk_1664 dLb_69.1
theorem dL_law_1666 : decode cL_law 1666 = .ok (.goto 418, 3) := dl_finq (k := 1664) (p := 2) hdk_1664 dLb_69.2.1
theorem dL_law_1669 : decode cL_law 1669 = .ok (.aload_n 1, 1) := dl_finq (k := 1664) (p := 5) hdk_1664 dLb_69.2.2.1
theorem dL_law_1670 : decode cL_law 1670 = .ok (.aload_n 0, 1) := dl_finq (k := 1664) (p := 6) hdk_1664 dLb_69.2.2.2.1
theorem dL_law_1671 : decode cL_law 1671 = .ok (.iload 4, 2) := dl_finq (k := 1664) (p := 7) hdk_1664 dLb_69.2.2.2.2.1
theorem dL_law_1673 : decode cL_law 1673 = .ok (.iconst 1, 1) := dl_finq (k := 1664) (p := 9) hdk_1664 dLb_69.2.2.2.2.2.1
theorem dL_law_1674 : decode cL_law 1674 = .ok (.iadd, 1) := dl_finq (k := 1664) (p := 10) hdk_1664 dLb_69.2.2.2.2.2.2.1
theorem dL_law_1675 : decode cL_law 1675 = .ok (.iaload, 1) := dl_finq (k := 1664) (p := 11) hdk_1664 dLb_69.2.2.2.2.2.2.2.1
theorem dL_law_1676 : decode cL_law 1676 = .ok (.aload_n 0, 1) := dl_finq (k := 1664) (p := 12) hdk_1664 dLb_69.2.2.2.2.2.2.2.2.1
theorem dL_law_1677 : decode cL_law 1677 = .ok (.iload 4, 2) := dl_finq (k := 1664) (p := 13) hdk_1664 dLb_69.2.2.2.2.2.2.2.2.2.1
theorem dL_law_1679 : decode cL_law 1679 = .ok (.iconst 2, 1) := dl_finq (k := 1664) (p := 15) hdk_1664 dLb_69.2.2.2.2.2.2.2.2.2.2.1
theorem dL_law_1680 : decode cL_law 1680 = .ok (.iadd, 1) := dl_finq (k := 1664) (p := 16) hdk_1664 dLb_69.2.2.2.2.2.2.2.2.2.2.2.1
theorem dL_law_1681 : decode cL_law 1681 = .ok (.iaload, 1) := dl_finq (k := 1664) (p := 17) hdk_1664 dLb_69.2.2.2.2.2.2.2.2.2.2.2.2.1
theorem dL_law_1682 : decode cL_law 1682 = .ok (.aload_n 3, 1) := dl_finq (k := 1664) (p := 18) hdk_1664 dLb_69.2.2.2.2.2.2.2.2.2.2.2.2.2.1
theorem dL_law_1683 : decode cL_law 1683 = .ok (.invokestatic 273, 3) := dl_finq (k := 1664) (p := 19) hdk_1664 dLb_69.2.2.2.2.2.2.2.2.2.2.2.2.2.2.1
theorem dL_law_1686 : decode cL_law 1686 = .ok (.istore 5, 2) := dl_finq (k := 1664) (p := 22) hdk_1664 dLb_69.2.2.2.2.2.2.2.2.2.2.2.2.2.2.2
theorem dLb_70 : dlq dk_1664 24 (.aload_n 2, 1) = true ∧ dlq dk_1664 25 (.aload_n 0, 1) = true ∧ dlq dk_1664 26 (.iload 4, 2) = true ∧ dlq dk_1664 28 (.iconst 1, 1) = true ∧ dlq dk_1664 29 (.iadd, 1) = true ∧ dlq dk_1664 30 (.iaload, 1) = true ∧ dlq dk_1664 31 (.aload_n 0, 1) = true ∧ dlq dk_1664 32 (.iload 4, 2) = true ∧ dlq dk_1664 34 (.iconst 2, 1) = true ∧ dlq dk_1664 35 (.iadd, 1) = true ∧ dlq dk_1664 36 (.iaload, 1) = true ∧ dlq dk_1664 37 (.invokevirtual 275, 3) = true ∧ dlq dk_1664 40 (.istore 6, 2) = true ∧ dlq dk_1664 42 (.goto 378, 3) = true ∧ dlq dk_1664 45 (.aload_n 1, 1) = true ∧ dlq dk_1664 46 (.aload_n 0, 1) = true := by decide +kernel
theorem dL_law_1688 : decode cL_law 1688 = .ok (.aload_n 2, 1) := dl_finq (k := 1664) (p := 24) hdk_1664 dLb_70.1
theorem dL_law_1689 : decode cL_law 1689 = .ok (.aload_n 0, 1) := dl_finq (k := 1664) (p := 25) hdk_1664 dLb_70.2.1
theorem dL_law_1690 : decode cL_law 1690 = .ok (.iload 4, 2) := dl_finq (k := 1664) (p := 26) hdk_1664 dLb_70.2.2.1
theorem dL_law_1692 : decode cL_law 1692 = .ok (.iconst 1, 1) := dl_finq (k := 1664) (p := 28) hdk_1664 dLb_70.2.2.2.1
theorem dL_law_1693 : decode cL_law 1693 = .ok (.iadd, 1) := dl_finq (k := 1664) (p := 29) hdk_1664 dLb_70.2.2.2.2.1
theorem dL_law_1694 : decode cL_law 1694 = .ok (.iaload, 1) := dl_finq (k := 1664) (p := 30) hdk_1664 dLb_70.2.2.2.2.2.1
theorem dL_law_1695 : decode cL_law 1695 = .ok (.aload_n 0, 1) := dl_finq (k := 1664) (p := 31) hdk_1664 dLb_70.2.2.2.2.2.2.1
theorem dL_law_1696 : decode cL_law 1696 = .ok (.iload 4, 2) := dl_finq (k := 1664) (p := 32) hdk_1664 dLb_70.2.2.2.2.2.2.2.1
theorem dL_law_1698 : decode cL_law 1698 = .ok (.iconst 2, 1) := dl_finq (k := 1664) (p := 34) hdk_1664 dLb_70.2.2.2.2.2.2.2.2.1
theorem dL_law_1699 : decode cL_law 1699 = .ok (.iadd, 1) := dl_finq (k := 1664) (p := 35) hdk_1664 dLb_70.2.2.2.2.2.2.2.2.2.1
theorem dL_law_1700 : decode cL_law 1700 = .ok (.iaload, 1) := dl_finq (k := 1664) (p := 36) hdk_1664 dLb_70.2.2.2.2.2.2.2.2.2.2.1
theorem dL_law_1701 : decode cL_law 1701 = .ok (.invokevirtual 275, 3) := dl_finq (k := 1664) (p := 37) hdk_1664 dLb_70.2.2.2.2.2.2.2.2.2.2.2.1
theorem dL_law_1704 : decode cL_law 1704 = .ok (.istore 6, 2) := dl_finq (k := 1664) (p := 40) hdk_1664 dLb_70.2.2.2.2.2.2.2.2.2.2.2.2.1
theorem dL_law_1706 : decode cL_law 1706 = .ok (.goto 378, 3) := dl_finq (k := 1664) (p := 42) hdk_1664 dLb_70.2.2.2.2.2.2.2.2.2.2.2.2.2.1
theorem dL_law_1709 : decode cL_law 1709 = .ok (.aload_n 1, 1) := dl_finq (k := 1664) (p := 45) hdk_1664 dLb_70.2.2.2.2.2.2.2.2.2.2.2.2.2.2.1
theorem dL_law_1710 : decode cL_law 1710 = .ok (.aload_n 0, 1) := dl_finq (k := 1664) (p := 46) hdk_1664 dLb_70.2.2.2.2.2.2.2.2.2.2.2.2.2.2.2
theorem dLb_71 : dlq dk_1664 47 (.iload 4, 2) = true ∧ dlq dk_1664 49 (.iconst 1, 1) = true ∧ dlq dk_1664 50 (.iadd, 1) = true ∧ dlq dk_1664 51 (.iaload, 1) = true ∧ dlq dk_1664 52 (.aload_n 0, 1) = true ∧ dlq dk_1664 53 (.iload 4, 2) = true ∧ dlq dk_1664 55 (.iconst 2, 1) = true ∧ dlq dk_1664 56 (.iadd, 1) = true ∧ dlq dk_1664 57 (.iaload, 1) = true ∧ dlq dk_1664 58 (.aload_n 3, 1) = true ∧ dlq dk_1664 59 (.invokestatic 276, 3) = true ∧ dlq dk_1664 62 (.istore 5, 2) = true ∧ dlq dk_1664 64 (.aload_n 2, 1) = true ∧ dlq dk_1664 65 (.aload_n 0, 1) = true ∧ dlq dk_1664 66 (.iload 4, 2) = true ∧ dlq dk_1664 68 (.iconst 1, 1) = true := by decide +kernel
theorem dL_law_1711 : decode cL_law 1711 = .ok (.iload 4, 2) := dl_finq (k := 1664) (p := 47) hdk_1664 dLb_71.1
theorem dL_law_1713 : decode cL_law 1713 = .ok (.iconst 1, 1) := dl_finq (k := 1664) (p := 49) hdk_1664 dLb_71.2.1
theorem dL_law_1714 : decode cL_law 1714 = .ok (.iadd, 1) := dl_finq (k := 1664) (p := 50) hdk_1664 dLb_71.2.2.1
theorem dL_law_1715 : decode cL_law 1715 = .ok (.iaload, 1) := dl_finq (k := 1664) (p := 51) hdk_1664 dLb_71.2.2.2.1
theorem dL_law_1716 : decode cL_law 1716 = .ok (.aload_n 0, 1) := dl_finq (k := 1664) (p := 52) hdk_1664 dLb_71.2.2.2.2.1
theorem dL_law_1717 : decode cL_law 1717 = .ok (.iload 4, 2) := dl_finq (k := 1664) (p := 53) hdk_1664 dLb_71.2.2.2.2.2.1
theorem dL_law_1719 : decode cL_law 1719 = .ok (.iconst 2, 1) := dl_finq (k := 1664) (p := 55) hdk_1664 dLb_71.2.2.2.2.2.2.1
theorem dL_law_1720 : decode cL_law 1720 = .ok (.iadd, 1) := dl_finq (k := 1664) (p := 56) hdk_1664 dLb_71.2.2.2.2.2.2.2.1
theorem dL_law_1721 : decode cL_law 1721 = .ok (.iaload, 1) := dl_finq (k := 1664) (p := 57) hdk_1664 dLb_71.2.2.2.2.2.2.2.2.1
theorem dL_law_1722 : decode cL_law 1722 = .ok (.aload_n 3, 1) := dl_finq (k := 1664) (p := 58) hdk_1664 dLb_71.2.2.2.2.2.2.2.2.2.1
theorem dL_law_1723 : decode cL_law 1723 = .ok (.invokestatic 276, 3) := dl_finq (k := 1664) (p := 59) hdk_1664 dLb_71.2.2.2.2.2.2.2.2.2.2.1
theorem dL_law_1726 : decode cL_law 1726 = .ok (.istore 5, 2) := dl_finq (k := 1664) (p := 62) hdk_1664 dLb_71.2.2.2.2.2.2.2.2.2.2.2.1
theorem dL_law_1728 : decode cL_law 1728 = .ok (.aload_n 2, 1) := dl_finq (k := 1664) (p := 64) hdk_1664 dLb_71.2.2.2.2.2.2.2.2.2.2.2.2.1
theorem dL_law_1729 : decode cL_law 1729 = .ok (.aload_n 0, 1) := dl_finq (k := 1664) (p := 65) hdk_1664 dLb_71.2.2.2.2.2.2.2.2.2.2.2.2.2.1
theorem dL_law_1730 : decode cL_law 1730 = .ok (.iload 4, 2) := dl_finq (k := 1664) (p := 66) hdk_1664 dLb_71.2.2.2.2.2.2.2.2.2.2.2.2.2.2.1
theorem dL_law_1732 : decode cL_law 1732 = .ok (.iconst 1, 1) := dl_finq (k := 1664) (p := 68) hdk_1664 dLb_71.2.2.2.2.2.2.2.2.2.2.2.2.2.2.2
theorem dLb_72 : dlq dk_1664 69 (.iadd, 1) = true ∧ dlq dk_1664 70 (.iaload, 1) = true ∧ dlq dk_1664 71 (.aload_n 0, 1) = true ∧ dlq dk_1664 72 (.iload 4, 2) = true ∧ dlq dk_1664 74 (.iconst 2, 1) = true ∧ dlq dk_1664 75 (.iadd, 1) = true ∧ dlq dk_1664 76 (.iaload, 1) = true ∧ dlq dk_1664 77 (.invokevirtual 278, 3) = true ∧ dlq dk_1664 80 (.istore 6, 2) = true ∧ dlq dk_1664 82 (.goto 338, 3) = true ∧ dlq dk_1664 85 (.aload_n 1, 1) = true ∧ dlq dk_1664 86 (.aload_n 0, 1) = true ∧ dlq dk_1664 87 (.iload 4, 2) = true ∧ dlq dk_1664 89 (.iconst 1, 1) = true ∧ dlq dk_1664 90 (.iadd, 1) = true ∧ dlq dk_1664 91 (.iaload, 1) = true := by decide +kernel
theorem dL_law_1733 : decode cL_law 1733 = .ok (.iadd, 1) := dl_finq (k := 1664) (p := 69) hdk_1664 dLb_72.1
theorem dL_law_1734 : decode cL_law 1734 = .ok (.iaload, 1) := dl_finq (k := 1664) (p := 70) hdk_1664 dLb_72.2.1
theorem dL_law_1735 : decode cL_law 1735 = .ok (.aload_n 0, 1) := dl_finq (k := 1664) (p := 71) hdk_1664 dLb_72.2.2.1
theorem dL_law_1736 : decode cL_law 1736 = .ok (.iload 4, 2) := dl_finq (k := 1664) (p := 72) hdk_1664 dLb_72.2.2.2.1
theorem dL_law_1738 : decode cL_law 1738 = .ok (.iconst 2, 1) := dl_finq (k := 1664) (p := 74) hdk_1664 dLb_72.2.2.2.2.1
theorem dL_law_1739 : decode cL_law 1739 = .ok (.iadd, 1) := dl_finq (k := 1664) (p := 75) hdk_1664 dLb_72.2.2.2.2.2.1
theorem dL_law_1740 : decode cL_law 1740 = .ok (.iaload, 1) := dl_finq (k := 1664) (p := 76) hdk_1664 dLb_72.2.2.2.2.2.2.1
theorem dL_law_1741 : decode cL_law 1741 = .ok (.invokevirtual 278, 3) := dl_finq (k := 1664) (p := 77) hdk_1664 dLb_72.2.2.2.2.2.2.2.1
theorem dL_law_1744 : decode cL_law 1744 = .ok (.istore 6, 2) := dl_finq (k := 1664) (p := 80) hdk_1664 dLb_72.2.2.2.2.2.2.2.2.1
theorem dL_law_1746 : decode cL_law 1746 = .ok (.goto 338, 3) := dl_finq (k := 1664) (p := 82) hdk_1664 dLb_72.2.2.2.2.2.2.2.2.2.1
theorem dL_law_1749 : decode cL_law 1749 = .ok (.aload_n 1, 1) := dl_finq (k := 1664) (p := 85) hdk_1664 dLb_72.2.2.2.2.2.2.2.2.2.2.1
theorem dL_law_1750 : decode cL_law 1750 = .ok (.aload_n 0, 1) := dl_finq (k := 1664) (p := 86) hdk_1664 dLb_72.2.2.2.2.2.2.2.2.2.2.2.1
theorem dL_law_1751 : decode cL_law 1751 = .ok (.iload 4, 2) := dl_finq (k := 1664) (p := 87) hdk_1664 dLb_72.2.2.2.2.2.2.2.2.2.2.2.2.1
theorem dL_law_1753 : decode cL_law 1753 = .ok (.iconst 1, 1) := dl_finq (k := 1664) (p := 89) hdk_1664 dLb_72.2.2.2.2.2.2.2.2.2.2.2.2.2.1
theorem dL_law_1754 : decode cL_law 1754 = .ok (.iadd, 1) := dl_finq (k := 1664) (p := 90) hdk_1664 dLb_72.2.2.2.2.2.2.2.2.2.2.2.2.2.2.1
theorem dL_law_1755 : decode cL_law 1755 = .ok (.iaload, 1) := dl_finq (k := 1664) (p := 91) hdk_1664 dLb_72.2.2.2.2.2.2.2.2.2.2.2.2.2.2.2
theorem dLb_73 : dlq dk_1664 92 (.aload_n 0, 1) = true ∧ dlq dk_1664 93 (.iload 4, 2) = true ∧ dlq dk_1664 95 (.iconst 2, 1) = true ∧ dlq dk_1664 96 (.iadd, 1) = true ∧ dlq dk_1664 97 (.iaload, 1) = true ∧ dlq dk_1664 98 (.aload_n 3, 1) = true ∧ dlq dk_1664 99 (.invokestatic 279, 3) = true ∧ dlq dk_1664 102 (.istore 5, 2) = true ∧ dlq dk_1664 104 (.aload_n 2, 1) = true ∧ dlq dk_1664 105 (.aload_n 0, 1) = true ∧ dlq dk_1664 106 (.iload 4, 2) = true ∧ dlq dk_1664 108 (.iconst 1, 1) = true ∧ dlq dk_1664 109 (.iadd, 1) = true ∧ dlq dk_1664 110 (.iaload, 1) = true ∧ dlq dk_1664 111 (.aload_n 0, 1) = true ∧ dlq dk_1664 112 (.iload 4, 2) = true := by decide +kernel
theorem dL_law_1756 : decode cL_law 1756 = .ok (.aload_n 0, 1) := dl_finq (k := 1664) (p := 92) hdk_1664 dLb_73.1
theorem dL_law_1757 : decode cL_law 1757 = .ok (.iload 4, 2) := dl_finq (k := 1664) (p := 93) hdk_1664 dLb_73.2.1
theorem dL_law_1759 : decode cL_law 1759 = .ok (.iconst 2, 1) := dl_finq (k := 1664) (p := 95) hdk_1664 dLb_73.2.2.1
theorem dL_law_1760 : decode cL_law 1760 = .ok (.iadd, 1) := dl_finq (k := 1664) (p := 96) hdk_1664 dLb_73.2.2.2.1
theorem dL_law_1761 : decode cL_law 1761 = .ok (.iaload, 1) := dl_finq (k := 1664) (p := 97) hdk_1664 dLb_73.2.2.2.2.1
theorem dL_law_1762 : decode cL_law 1762 = .ok (.aload_n 3, 1) := dl_finq (k := 1664) (p := 98) hdk_1664 dLb_73.2.2.2.2.2.1
theorem dL_law_1763 : decode cL_law 1763 = .ok (.invokestatic 279, 3) := dl_finq (k := 1664) (p := 99) hdk_1664 dLb_73.2.2.2.2.2.2.1
theorem dL_law_1766 : decode cL_law 1766 = .ok (.istore 5, 2) := dl_finq (k := 1664) (p := 102) hdk_1664 dLb_73.2.2.2.2.2.2.2.1
theorem dL_law_1768 : decode cL_law 1768 = .ok (.aload_n 2, 1) := dl_finq (k := 1664) (p := 104) hdk_1664 dLb_73.2.2.2.2.2.2.2.2.1
theorem dL_law_1769 : decode cL_law 1769 = .ok (.aload_n 0, 1) := dl_finq (k := 1664) (p := 105) hdk_1664 dLb_73.2.2.2.2.2.2.2.2.2.1
theorem dL_law_1770 : decode cL_law 1770 = .ok (.iload 4, 2) := dl_finq (k := 1664) (p := 106) hdk_1664 dLb_73.2.2.2.2.2.2.2.2.2.2.1
theorem dL_law_1772 : decode cL_law 1772 = .ok (.iconst 1, 1) := dl_finq (k := 1664) (p := 108) hdk_1664 dLb_73.2.2.2.2.2.2.2.2.2.2.2.1
theorem dL_law_1773 : decode cL_law 1773 = .ok (.iadd, 1) := dl_finq (k := 1664) (p := 109) hdk_1664 dLb_73.2.2.2.2.2.2.2.2.2.2.2.2.1
theorem dL_law_1774 : decode cL_law 1774 = .ok (.iaload, 1) := dl_finq (k := 1664) (p := 110) hdk_1664 dLb_73.2.2.2.2.2.2.2.2.2.2.2.2.2.1
theorem dL_law_1775 : decode cL_law 1775 = .ok (.aload_n 0, 1) := dl_finq (k := 1664) (p := 111) hdk_1664 dLb_73.2.2.2.2.2.2.2.2.2.2.2.2.2.2.1
theorem dL_law_1776 : decode cL_law 1776 = .ok (.iload 4, 2) := dl_finq (k := 1664) (p := 112) hdk_1664 dLb_73.2.2.2.2.2.2.2.2.2.2.2.2.2.2.2
theorem dLb_74 : dlq dk_1664 114 (.iconst 2, 1) = true ∧ dlq dk_1664 115 (.iadd, 1) = true ∧ dlq dk_1664 116 (.iaload, 1) = true ∧ dlq dk_1664 117 (.invokevirtual 281, 3) = true ∧ dlq dk_1664 120 (.istore 6, 2) = true ∧ dlq dk_1664 122 (.goto 298, 3) = true ∧ dlq dk_1664 125 (.aload_n 1, 1) = true ∧ dlq dk_1664 126 (.aload_n 0, 1) = true ∧ dlq dk_1664 127 (.iload 4, 2) = true := by decide +kernel
theorem dL_law_1778 : decode cL_law 1778 = .ok (.iconst 2, 1) := dl_finq (k := 1664) (p := 114) hdk_1664 dLb_74.1
theorem dL_law_1779 : decode cL_law 1779 = .ok (.iadd, 1) := dl_finq (k := 1664) (p := 115) hdk_1664 dLb_74.2.1
theorem dL_law_1780 : decode cL_law 1780 = .ok (.iaload, 1) := dl_finq (k := 1664) (p := 116) hdk_1664 dLb_74.2.2.1
theorem dL_law_1781 : decode cL_law 1781 = .ok (.invokevirtual 281, 3) := dl_finq (k := 1664) (p := 117) hdk_1664 dLb_74.2.2.2.1
theorem dL_law_1784 : decode cL_law 1784 = .ok (.istore 6, 2) := dl_finq (k := 1664) (p := 120) hdk_1664 dLb_74.2.2.2.2.1
theorem dL_law_1786 : decode cL_law 1786 = .ok (.goto 298, 3) := dl_finq (k := 1664) (p := 122) hdk_1664 dLb_74.2.2.2.2.2.1
theorem dL_law_1789 : decode cL_law 1789 = .ok (.aload_n 1, 1) := dl_finq (k := 1664) (p := 125) hdk_1664 dLb_74.2.2.2.2.2.2.1
theorem dL_law_1790 : decode cL_law 1790 = .ok (.aload_n 0, 1) := dl_finq (k := 1664) (p := 126) hdk_1664 dLb_74.2.2.2.2.2.2.2.1
theorem dL_law_1791 : decode cL_law 1791 = .ok (.iload 4, 2) := dl_finq (k := 1664) (p := 127) hdk_1664 dLb_74.2.2.2.2.2.2.2.2
theorem dLb_75 : dlq dk_1792 1 (.iconst 1, 1) = true ∧ dlq dk_1792 2 (.iadd, 1) = true ∧ dlq dk_1792 3 (.iaload, 1) = true ∧ dlq dk_1792 4 (.aload_n 0, 1) = true ∧ dlq dk_1792 5 (.iload 4, 2) = true ∧ dlq dk_1792 7 (.iconst 2, 1) = true ∧ dlq dk_1792 8 (.iadd, 1) = true ∧ dlq dk_1792 9 (.iaload, 1) = true ∧ dlq dk_1792 10 (.aload_n 3, 1) = true ∧ dlq dk_1792 11 (.invokestatic 282, 3) = true ∧ dlq dk_1792 14 (.istore 5, 2) = true ∧ dlq dk_1792 16 (.aload_n 2, 1) = true ∧ dlq dk_1792 17 (.aload_n 0, 1) = true ∧ dlq dk_1792 18 (.iload 4, 2) = true ∧ dlq dk_1792 20 (.iconst 1, 1) = true ∧ dlq dk_1792 21 (.iadd, 1) = true := by decide +kernel
theorem dL_law_1793 : decode cL_law 1793 = .ok (.iconst 1, 1) := dl_finq (k := 1792) (p := 1) hdk_1792 dLb_75.1
theorem dL_law_1794 : decode cL_law 1794 = .ok (.iadd, 1) := dl_finq (k := 1792) (p := 2) hdk_1792 dLb_75.2.1
theorem dL_law_1795 : decode cL_law 1795 = .ok (.iaload, 1) := dl_finq (k := 1792) (p := 3) hdk_1792 dLb_75.2.2.1
theorem dL_law_1796 : decode cL_law 1796 = .ok (.aload_n 0, 1) := dl_finq (k := 1792) (p := 4) hdk_1792 dLb_75.2.2.2.1
theorem dL_law_1797 : decode cL_law 1797 = .ok (.iload 4, 2) := dl_finq (k := 1792) (p := 5) hdk_1792 dLb_75.2.2.2.2.1
theorem dL_law_1799 : decode cL_law 1799 = .ok (.iconst 2, 1) := dl_finq (k := 1792) (p := 7) hdk_1792 dLb_75.2.2.2.2.2.1
theorem dL_law_1800 : decode cL_law 1800 = .ok (.iadd, 1) := dl_finq (k := 1792) (p := 8) hdk_1792 dLb_75.2.2.2.2.2.2.1
theorem dL_law_1801 : decode cL_law 1801 = .ok (.iaload, 1) := dl_finq (k := 1792) (p := 9) hdk_1792 dLb_75.2.2.2.2.2.2.2.1
theorem dL_law_1802 : decode cL_law 1802 = .ok (.aload_n 3, 1) := dl_finq (k := 1792) (p := 10) hdk_1792 dLb_75.2.2.2.2.2.2.2.2.1
theorem dL_law_1803 : decode cL_law 1803 = .ok (.invokestatic 282, 3) := dl_finq (k := 1792) (p := 11) hdk_1792 dLb_75.2.2.2.2.2.2.2.2.2.1
theorem dL_law_1806 : decode cL_law 1806 = .ok (.istore 5, 2) := dl_finq (k := 1792) (p := 14) hdk_1792 dLb_75.2.2.2.2.2.2.2.2.2.2.1
theorem dL_law_1808 : decode cL_law 1808 = .ok (.aload_n 2, 1) := dl_finq (k := 1792) (p := 16) hdk_1792 dLb_75.2.2.2.2.2.2.2.2.2.2.2.1
theorem dL_law_1809 : decode cL_law 1809 = .ok (.aload_n 0, 1) := dl_finq (k := 1792) (p := 17) hdk_1792 dLb_75.2.2.2.2.2.2.2.2.2.2.2.2.1
theorem dL_law_1810 : decode cL_law 1810 = .ok (.iload 4, 2) := dl_finq (k := 1792) (p := 18) hdk_1792 dLb_75.2.2.2.2.2.2.2.2.2.2.2.2.2.1
theorem dL_law_1812 : decode cL_law 1812 = .ok (.iconst 1, 1) := dl_finq (k := 1792) (p := 20) hdk_1792 dLb_75.2.2.2.2.2.2.2.2.2.2.2.2.2.2.1
theorem dL_law_1813 : decode cL_law 1813 = .ok (.iadd, 1) := dl_finq (k := 1792) (p := 21) hdk_1792 dLb_75.2.2.2.2.2.2.2.2.2.2.2.2.2.2.2
theorem dLb_76 : dlq dk_1792 22 (.iaload, 1) = true ∧ dlq dk_1792 23 (.aload_n 0, 1) = true ∧ dlq dk_1792 24 (.iload 4, 2) = true ∧ dlq dk_1792 26 (.iconst 2, 1) = true ∧ dlq dk_1792 27 (.iadd, 1) = true ∧ dlq dk_1792 28 (.iaload, 1) = true ∧ dlq dk_1792 29 (.invokevirtual 284, 3) = true ∧ dlq dk_1792 32 (.istore 6, 2) = true ∧ dlq dk_1792 34 (.goto 258, 3) = true ∧ dlq dk_1792 37 (.aload_n 1, 1) = true ∧ dlq dk_1792 38 (.aload_n 0, 1) = true ∧ dlq dk_1792 39 (.iload 4, 2) = true ∧ dlq dk_1792 41 (.iconst 1, 1) = true ∧ dlq dk_1792 42 (.iadd, 1) = true ∧ dlq dk_1792 43 (.iaload, 1) = true ∧ dlq dk_1792 44 (.aload_n 0, 1) = true := by decide +kernel
theorem dL_law_1814 : decode cL_law 1814 = .ok (.iaload, 1) := dl_finq (k := 1792) (p := 22) hdk_1792 dLb_76.1
theorem dL_law_1815 : decode cL_law 1815 = .ok (.aload_n 0, 1) := dl_finq (k := 1792) (p := 23) hdk_1792 dLb_76.2.1
theorem dL_law_1816 : decode cL_law 1816 = .ok (.iload 4, 2) := dl_finq (k := 1792) (p := 24) hdk_1792 dLb_76.2.2.1
theorem dL_law_1818 : decode cL_law 1818 = .ok (.iconst 2, 1) := dl_finq (k := 1792) (p := 26) hdk_1792 dLb_76.2.2.2.1
theorem dL_law_1819 : decode cL_law 1819 = .ok (.iadd, 1) := dl_finq (k := 1792) (p := 27) hdk_1792 dLb_76.2.2.2.2.1
theorem dL_law_1820 : decode cL_law 1820 = .ok (.iaload, 1) := dl_finq (k := 1792) (p := 28) hdk_1792 dLb_76.2.2.2.2.2.1
theorem dL_law_1821 : decode cL_law 1821 = .ok (.invokevirtual 284, 3) := dl_finq (k := 1792) (p := 29) hdk_1792 dLb_76.2.2.2.2.2.2.1
theorem dL_law_1824 : decode cL_law 1824 = .ok (.istore 6, 2) := dl_finq (k := 1792) (p := 32) hdk_1792 dLb_76.2.2.2.2.2.2.2.1
theorem dL_law_1826 : decode cL_law 1826 = .ok (.goto 258, 3) := dl_finq (k := 1792) (p := 34) hdk_1792 dLb_76.2.2.2.2.2.2.2.2.1
theorem dL_law_1829 : decode cL_law 1829 = .ok (.aload_n 1, 1) := dl_finq (k := 1792) (p := 37) hdk_1792 dLb_76.2.2.2.2.2.2.2.2.2.1
theorem dL_law_1830 : decode cL_law 1830 = .ok (.aload_n 0, 1) := dl_finq (k := 1792) (p := 38) hdk_1792 dLb_76.2.2.2.2.2.2.2.2.2.2.1
theorem dL_law_1831 : decode cL_law 1831 = .ok (.iload 4, 2) := dl_finq (k := 1792) (p := 39) hdk_1792 dLb_76.2.2.2.2.2.2.2.2.2.2.2.1
theorem dL_law_1833 : decode cL_law 1833 = .ok (.iconst 1, 1) := dl_finq (k := 1792) (p := 41) hdk_1792 dLb_76.2.2.2.2.2.2.2.2.2.2.2.2.1
theorem dL_law_1834 : decode cL_law 1834 = .ok (.iadd, 1) := dl_finq (k := 1792) (p := 42) hdk_1792 dLb_76.2.2.2.2.2.2.2.2.2.2.2.2.2.1
theorem dL_law_1835 : decode cL_law 1835 = .ok (.iaload, 1) := dl_finq (k := 1792) (p := 43) hdk_1792 dLb_76.2.2.2.2.2.2.2.2.2.2.2.2.2.2.1
theorem dL_law_1836 : decode cL_law 1836 = .ok (.aload_n 0, 1) := dl_finq (k := 1792) (p := 44) hdk_1792 dLb_76.2.2.2.2.2.2.2.2.2.2.2.2.2.2.2
theorem dLb_77 : dlq dk_1792 45 (.iload 4, 2) = true ∧ dlq dk_1792 47 (.iconst 2, 1) = true ∧ dlq dk_1792 48 (.iadd, 1) = true ∧ dlq dk_1792 49 (.iaload, 1) = true ∧ dlq dk_1792 50 (.aload_n 0, 1) = true ∧ dlq dk_1792 51 (.iload 4, 2) = true ∧ dlq dk_1792 53 (.iconst 3, 1) = true ∧ dlq dk_1792 54 (.iadd, 1) = true ∧ dlq dk_1792 55 (.iaload, 1) = true ∧ dlq dk_1792 56 (.aload_n 3, 1) = true ∧ dlq dk_1792 57 (.invokestatic 285, 3) = true ∧ dlq dk_1792 60 (.istore 5, 2) = true ∧ dlq dk_1792 62 (.aload_n 2, 1) = true ∧ dlq dk_1792 63 (.aload_n 0, 1) = true ∧ dlq dk_1792 64 (.iload 4, 2) = true ∧ dlq dk_1792 66 (.iconst 1, 1) = true := by decide +kernel
theorem dL_law_1837 : decode cL_law 1837 = .ok (.iload 4, 2) := dl_finq (k := 1792) (p := 45) hdk_1792 dLb_77.1
theorem dL_law_1839 : decode cL_law 1839 = .ok (.iconst 2, 1) := dl_finq (k := 1792) (p := 47) hdk_1792 dLb_77.2.1
theorem dL_law_1840 : decode cL_law 1840 = .ok (.iadd, 1) := dl_finq (k := 1792) (p := 48) hdk_1792 dLb_77.2.2.1
theorem dL_law_1841 : decode cL_law 1841 = .ok (.iaload, 1) := dl_finq (k := 1792) (p := 49) hdk_1792 dLb_77.2.2.2.1
theorem dL_law_1842 : decode cL_law 1842 = .ok (.aload_n 0, 1) := dl_finq (k := 1792) (p := 50) hdk_1792 dLb_77.2.2.2.2.1
theorem dL_law_1843 : decode cL_law 1843 = .ok (.iload 4, 2) := dl_finq (k := 1792) (p := 51) hdk_1792 dLb_77.2.2.2.2.2.1
theorem dL_law_1845 : decode cL_law 1845 = .ok (.iconst 3, 1) := dl_finq (k := 1792) (p := 53) hdk_1792 dLb_77.2.2.2.2.2.2.1
theorem dL_law_1846 : decode cL_law 1846 = .ok (.iadd, 1) := dl_finq (k := 1792) (p := 54) hdk_1792 dLb_77.2.2.2.2.2.2.2.1
theorem dL_law_1847 : decode cL_law 1847 = .ok (.iaload, 1) := dl_finq (k := 1792) (p := 55) hdk_1792 dLb_77.2.2.2.2.2.2.2.2.1
theorem dL_law_1848 : decode cL_law 1848 = .ok (.aload_n 3, 1) := dl_finq (k := 1792) (p := 56) hdk_1792 dLb_77.2.2.2.2.2.2.2.2.2.1
theorem dL_law_1849 : decode cL_law 1849 = .ok (.invokestatic 285, 3) := dl_finq (k := 1792) (p := 57) hdk_1792 dLb_77.2.2.2.2.2.2.2.2.2.2.1
theorem dL_law_1852 : decode cL_law 1852 = .ok (.istore 5, 2) := dl_finq (k := 1792) (p := 60) hdk_1792 dLb_77.2.2.2.2.2.2.2.2.2.2.2.1
theorem dL_law_1854 : decode cL_law 1854 = .ok (.aload_n 2, 1) := dl_finq (k := 1792) (p := 62) hdk_1792 dLb_77.2.2.2.2.2.2.2.2.2.2.2.2.1
theorem dL_law_1855 : decode cL_law 1855 = .ok (.aload_n 0, 1) := dl_finq (k := 1792) (p := 63) hdk_1792 dLb_77.2.2.2.2.2.2.2.2.2.2.2.2.2.1
theorem dL_law_1856 : decode cL_law 1856 = .ok (.iload 4, 2) := dl_finq (k := 1792) (p := 64) hdk_1792 dLb_77.2.2.2.2.2.2.2.2.2.2.2.2.2.2.1
theorem dL_law_1858 : decode cL_law 1858 = .ok (.iconst 1, 1) := dl_finq (k := 1792) (p := 66) hdk_1792 dLb_77.2.2.2.2.2.2.2.2.2.2.2.2.2.2.2
theorem dLb_78 : dlq dk_1792 67 (.iadd, 1) = true ∧ dlq dk_1792 68 (.iaload, 1) = true ∧ dlq dk_1792 69 (.aload_n 0, 1) = true ∧ dlq dk_1792 70 (.iload 4, 2) = true ∧ dlq dk_1792 72 (.iconst 2, 1) = true ∧ dlq dk_1792 73 (.iadd, 1) = true ∧ dlq dk_1792 74 (.iaload, 1) = true ∧ dlq dk_1792 75 (.aload_n 0, 1) = true ∧ dlq dk_1792 76 (.iload 4, 2) = true ∧ dlq dk_1792 78 (.iconst 3, 1) = true ∧ dlq dk_1792 79 (.iadd, 1) = true ∧ dlq dk_1792 80 (.iaload, 1) = true ∧ dlq dk_1792 81 (.invokevirtual 287, 3) = true ∧ dlq dk_1792 84 (.istore 6, 2) = true ∧ dlq dk_1792 86 (.goto 206, 3) = true ∧ dlq dk_1792 89 (.aload_n 1, 1) = true := by decide +kernel
theorem dL_law_1859 : decode cL_law 1859 = .ok (.iadd, 1) := dl_finq (k := 1792) (p := 67) hdk_1792 dLb_78.1
theorem dL_law_1860 : decode cL_law 1860 = .ok (.iaload, 1) := dl_finq (k := 1792) (p := 68) hdk_1792 dLb_78.2.1
theorem dL_law_1861 : decode cL_law 1861 = .ok (.aload_n 0, 1) := dl_finq (k := 1792) (p := 69) hdk_1792 dLb_78.2.2.1
theorem dL_law_1862 : decode cL_law 1862 = .ok (.iload 4, 2) := dl_finq (k := 1792) (p := 70) hdk_1792 dLb_78.2.2.2.1
theorem dL_law_1864 : decode cL_law 1864 = .ok (.iconst 2, 1) := dl_finq (k := 1792) (p := 72) hdk_1792 dLb_78.2.2.2.2.1
theorem dL_law_1865 : decode cL_law 1865 = .ok (.iadd, 1) := dl_finq (k := 1792) (p := 73) hdk_1792 dLb_78.2.2.2.2.2.1
theorem dL_law_1866 : decode cL_law 1866 = .ok (.iaload, 1) := dl_finq (k := 1792) (p := 74) hdk_1792 dLb_78.2.2.2.2.2.2.1
theorem dL_law_1867 : decode cL_law 1867 = .ok (.aload_n 0, 1) := dl_finq (k := 1792) (p := 75) hdk_1792 dLb_78.2.2.2.2.2.2.2.1
theorem dL_law_1868 : decode cL_law 1868 = .ok (.iload 4, 2) := dl_finq (k := 1792) (p := 76) hdk_1792 dLb_78.2.2.2.2.2.2.2.2.1
theorem dL_law_1870 : decode cL_law 1870 = .ok (.iconst 3, 1) := dl_finq (k := 1792) (p := 78) hdk_1792 dLb_78.2.2.2.2.2.2.2.2.2.1
theorem dL_law_1871 : decode cL_law 1871 = .ok (.iadd, 1) := dl_finq (k := 1792) (p := 79) hdk_1792 dLb_78.2.2.2.2.2.2.2.2.2.2.1
theorem dL_law_1872 : decode cL_law 1872 = .ok (.iaload, 1) := dl_finq (k := 1792) (p := 80) hdk_1792 dLb_78.2.2.2.2.2.2.2.2.2.2.2.1
theorem dL_law_1873 : decode cL_law 1873 = .ok (.invokevirtual 287, 3) := dl_finq (k := 1792) (p := 81) hdk_1792 dLb_78.2.2.2.2.2.2.2.2.2.2.2.2.1
theorem dL_law_1876 : decode cL_law 1876 = .ok (.istore 6, 2) := dl_finq (k := 1792) (p := 84) hdk_1792 dLb_78.2.2.2.2.2.2.2.2.2.2.2.2.2.1
theorem dL_law_1878 : decode cL_law 1878 = .ok (.goto 206, 3) := dl_finq (k := 1792) (p := 86) hdk_1792 dLb_78.2.2.2.2.2.2.2.2.2.2.2.2.2.2.1
theorem dL_law_1881 : decode cL_law 1881 = .ok (.aload_n 1, 1) := dl_finq (k := 1792) (p := 89) hdk_1792 dLb_78.2.2.2.2.2.2.2.2.2.2.2.2.2.2.2
theorem dLb_79 : dlq dk_1792 90 (.aload_n 0, 1) = true ∧ dlq dk_1792 91 (.iload 4, 2) = true ∧ dlq dk_1792 93 (.iconst 1, 1) = true ∧ dlq dk_1792 94 (.iadd, 1) = true ∧ dlq dk_1792 95 (.iaload, 1) = true ∧ dlq dk_1792 96 (.aload_n 3, 1) = true ∧ dlq dk_1792 97 (.invokestatic 288, 3) = true ∧ dlq dk_1792 100 (.istore 5, 2) = true ∧ dlq dk_1792 102 (.aload_n 2, 1) = true ∧ dlq dk_1792 103 (.aload_n 0, 1) = true ∧ dlq dk_1792 104 (.iload 4, 2) = true ∧ dlq dk_1792 106 (.iconst 1, 1) = true ∧ dlq dk_1792 107 (.iadd, 1) = true ∧ dlq dk_1792 108 (.iaload, 1) = true ∧ dlq dk_1792 109 (.invokevirtual 290, 3) = true ∧ dlq dk_1792 112 (.istore 6, 2) = true := by decide +kernel
theorem dL_law_1882 : decode cL_law 1882 = .ok (.aload_n 0, 1) := dl_finq (k := 1792) (p := 90) hdk_1792 dLb_79.1
theorem dL_law_1883 : decode cL_law 1883 = .ok (.iload 4, 2) := dl_finq (k := 1792) (p := 91) hdk_1792 dLb_79.2.1
theorem dL_law_1885 : decode cL_law 1885 = .ok (.iconst 1, 1) := dl_finq (k := 1792) (p := 93) hdk_1792 dLb_79.2.2.1
theorem dL_law_1886 : decode cL_law 1886 = .ok (.iadd, 1) := dl_finq (k := 1792) (p := 94) hdk_1792 dLb_79.2.2.2.1
theorem dL_law_1887 : decode cL_law 1887 = .ok (.iaload, 1) := dl_finq (k := 1792) (p := 95) hdk_1792 dLb_79.2.2.2.2.1
theorem dL_law_1888 : decode cL_law 1888 = .ok (.aload_n 3, 1) := dl_finq (k := 1792) (p := 96) hdk_1792 dLb_79.2.2.2.2.2.1
theorem dL_law_1889 : decode cL_law 1889 = .ok (.invokestatic 288, 3) := dl_finq (k := 1792) (p := 97) hdk_1792 dLb_79.2.2.2.2.2.2.1
theorem dL_law_1892 : decode cL_law 1892 = .ok (.istore 5, 2) := dl_finq (k := 1792) (p := 100) hdk_1792 dLb_79.2.2.2.2.2.2.2.1
theorem dL_law_1894 : decode cL_law 1894 = .ok (.aload_n 2, 1) := dl_finq (k := 1792) (p := 102) hdk_1792 dLb_79.2.2.2.2.2.2.2.2.1
theorem dL_law_1895 : decode cL_law 1895 = .ok (.aload_n 0, 1) := dl_finq (k := 1792) (p := 103) hdk_1792 dLb_79.2.2.2.2.2.2.2.2.2.1
theorem dL_law_1896 : decode cL_law 1896 = .ok (.iload 4, 2) := dl_finq (k := 1792) (p := 104) hdk_1792 dLb_79.2.2.2.2.2.2.2.2.2.2.1
theorem dL_law_1898 : decode cL_law 1898 = .ok (.iconst 1, 1) := dl_finq (k := 1792) (p := 106) hdk_1792 dLb_79.2.2.2.2.2.2.2.2.2.2.2.1
theorem dL_law_1899 : decode cL_law 1899 = .ok (.iadd, 1) := dl_finq (k := 1792) (p := 107) hdk_1792 dLb_79.2.2.2.2.2.2.2.2.2.2.2.2.1
theorem dL_law_1900 : decode cL_law 1900 = .ok (.iaload, 1) := dl_finq (k := 1792) (p := 108) hdk_1792 dLb_79.2.2.2.2.2.2.2.2.2.2.2.2.2.1
theorem dL_law_1901 : decode cL_law 1901 = .ok (.invokevirtual 290, 3) := dl_finq (k := 1792) (p := 109) hdk_1792 dLb_79.2.2.2.2.2.2.2.2.2.2.2.2.2.2.1
theorem dL_law_1904 : decode cL_law 1904 = .ok (.istore 6, 2) := dl_finq (k := 1792) (p := 112) hdk_1792 dLb_79.2.2.2.2.2.2.2.2.2.2.2.2.2.2.2
theorem dLb_80 : dlq dk_1792 114 (.goto 178, 3) = true ∧ dlq dk_1792 117 (.aload_n 1, 1) = true ∧ dlq dk_1792 118 (.aload_n 0, 1) = true ∧ dlq dk_1792 119 (.iload 4, 2) = true ∧ dlq dk_1792 121 (.iconst 1, 1) = true ∧ dlq dk_1792 122 (.iadd, 1) = true ∧ dlq dk_1792 123 (.iaload, 1) = true ∧ dlq dk_1792 124 (.aload_n 0, 1) = true ∧ dlq dk_1792 125 (.iload 4, 2) = true ∧ dlq dk_1792 127 (.iconst 2, 1) = true := by decide +kernel
theorem dL_law_1906 : decode cL_law 1906 = .ok (.goto 178, 3) := dl_finq (k := 1792) (p := 114) hdk_1792 dLb_80.1
theorem dL_law_1909 : decode cL_law 1909 = .ok (.aload_n 1, 1) := dl_finq (k := 1792) (p := 117) hdk_1792 dLb_80.2.1
theorem dL_law_1910 : decode cL_law 1910 = .ok (.aload_n 0, 1) := dl_finq (k := 1792) (p := 118) hdk_1792 dLb_80.2.2.1
theorem dL_law_1911 : decode cL_law 1911 = .ok (.iload 4, 2) := dl_finq (k := 1792) (p := 119) hdk_1792 dLb_80.2.2.2.1
theorem dL_law_1913 : decode cL_law 1913 = .ok (.iconst 1, 1) := dl_finq (k := 1792) (p := 121) hdk_1792 dLb_80.2.2.2.2.1
theorem dL_law_1914 : decode cL_law 1914 = .ok (.iadd, 1) := dl_finq (k := 1792) (p := 122) hdk_1792 dLb_80.2.2.2.2.2.1
theorem dL_law_1915 : decode cL_law 1915 = .ok (.iaload, 1) := dl_finq (k := 1792) (p := 123) hdk_1792 dLb_80.2.2.2.2.2.2.1
theorem dL_law_1916 : decode cL_law 1916 = .ok (.aload_n 0, 1) := dl_finq (k := 1792) (p := 124) hdk_1792 dLb_80.2.2.2.2.2.2.2.1
theorem dL_law_1917 : decode cL_law 1917 = .ok (.iload 4, 2) := dl_finq (k := 1792) (p := 125) hdk_1792 dLb_80.2.2.2.2.2.2.2.2.1
theorem dL_law_1919 : decode cL_law 1919 = .ok (.iconst 2, 1) := dl_finq (k := 1792) (p := 127) hdk_1792 dLb_80.2.2.2.2.2.2.2.2.2
theorem dLb_81 : dlq dk_1920 0 (.iadd, 1) = true ∧ dlq dk_1920 1 (.iaload, 1) = true ∧ dlq dk_1920 2 (.aload_n 0, 1) = true ∧ dlq dk_1920 3 (.iload 4, 2) = true ∧ dlq dk_1920 5 (.iconst 3, 1) = true ∧ dlq dk_1920 6 (.iadd, 1) = true ∧ dlq dk_1920 7 (.iaload, 1) = true ∧ dlq dk_1920 8 (.aload_n 3, 1) = true ∧ dlq dk_1920 9 (.invokestatic 291, 3) = true ∧ dlq dk_1920 12 (.istore 5, 2) = true ∧ dlq dk_1920 14 (.aload_n 2, 1) = true ∧ dlq dk_1920 15 (.aload_n 0, 1) = true ∧ dlq dk_1920 16 (.iload 4, 2) = true ∧ dlq dk_1920 18 (.iconst 1, 1) = true ∧ dlq dk_1920 19 (.iadd, 1) = true ∧ dlq dk_1920 20 (.iaload, 1) = true := by decide +kernel
theorem dL_law_1920 : decode cL_law 1920 = .ok (.iadd, 1) := dl_finq (k := 1920) (p := 0) hdk_1920 dLb_81.1
theorem dL_law_1921 : decode cL_law 1921 = .ok (.iaload, 1) := dl_finq (k := 1920) (p := 1) hdk_1920 dLb_81.2.1
theorem dL_law_1922 : decode cL_law 1922 = .ok (.aload_n 0, 1) := dl_finq (k := 1920) (p := 2) hdk_1920 dLb_81.2.2.1
theorem dL_law_1923 : decode cL_law 1923 = .ok (.iload 4, 2) := dl_finq (k := 1920) (p := 3) hdk_1920 dLb_81.2.2.2.1
theorem dL_law_1925 : decode cL_law 1925 = .ok (.iconst 3, 1) := dl_finq (k := 1920) (p := 5) hdk_1920 dLb_81.2.2.2.2.1
theorem dL_law_1926 : decode cL_law 1926 = .ok (.iadd, 1) := dl_finq (k := 1920) (p := 6) hdk_1920 dLb_81.2.2.2.2.2.1
theorem dL_law_1927 : decode cL_law 1927 = .ok (.iaload, 1) := dl_finq (k := 1920) (p := 7) hdk_1920 dLb_81.2.2.2.2.2.2.1
theorem dL_law_1928 : decode cL_law 1928 = .ok (.aload_n 3, 1) := dl_finq (k := 1920) (p := 8) hdk_1920 dLb_81.2.2.2.2.2.2.2.1
theorem dL_law_1929 : decode cL_law 1929 = .ok (.invokestatic 291, 3) := dl_finq (k := 1920) (p := 9) hdk_1920 dLb_81.2.2.2.2.2.2.2.2.1
theorem dL_law_1932 : decode cL_law 1932 = .ok (.istore 5, 2) := dl_finq (k := 1920) (p := 12) hdk_1920 dLb_81.2.2.2.2.2.2.2.2.2.1
theorem dL_law_1934 : decode cL_law 1934 = .ok (.aload_n 2, 1) := dl_finq (k := 1920) (p := 14) hdk_1920 dLb_81.2.2.2.2.2.2.2.2.2.2.1
theorem dL_law_1935 : decode cL_law 1935 = .ok (.aload_n 0, 1) := dl_finq (k := 1920) (p := 15) hdk_1920 dLb_81.2.2.2.2.2.2.2.2.2.2.2.1
theorem dL_law_1936 : decode cL_law 1936 = .ok (.iload 4, 2) := dl_finq (k := 1920) (p := 16) hdk_1920 dLb_81.2.2.2.2.2.2.2.2.2.2.2.2.1
theorem dL_law_1938 : decode cL_law 1938 = .ok (.iconst 1, 1) := dl_finq (k := 1920) (p := 18) hdk_1920 dLb_81.2.2.2.2.2.2.2.2.2.2.2.2.2.1
theorem dL_law_1939 : decode cL_law 1939 = .ok (.iadd, 1) := dl_finq (k := 1920) (p := 19) hdk_1920 dLb_81.2.2.2.2.2.2.2.2.2.2.2.2.2.2.1
theorem dL_law_1940 : decode cL_law 1940 = .ok (.iaload, 1) := dl_finq (k := 1920) (p := 20) hdk_1920 dLb_81.2.2.2.2.2.2.2.2.2.2.2.2.2.2.2
theorem dLb_82 : dlq dk_1920 21 (.aload_n 0, 1) = true ∧ dlq dk_1920 22 (.iload 4, 2) = true ∧ dlq dk_1920 24 (.iconst 2, 1) = true ∧ dlq dk_1920 25 (.iadd, 1) = true ∧ dlq dk_1920 26 (.iaload, 1) = true ∧ dlq dk_1920 27 (.aload_n 0, 1) = true ∧ dlq dk_1920 28 (.iload 4, 2) = true ∧ dlq dk_1920 30 (.iconst 3, 1) = true ∧ dlq dk_1920 31 (.iadd, 1) = true ∧ dlq dk_1920 32 (.iaload, 1) = true ∧ dlq dk_1920 33 (.invokevirtual 293, 3) = true ∧ dlq dk_1920 36 (.istore 6, 2) = true ∧ dlq dk_1920 38 (.goto 126, 3) = true ∧ dlq dk_1920 41 (.aload_n 1, 1) = true ∧ dlq dk_1920 42 (.invokevirtual 294, 3) = true ∧ dlq dk_1920 45 (.pop, 1) = true := by decide +kernel
theorem dL_law_1941 : decode cL_law 1941 = .ok (.aload_n 0, 1) := dl_finq (k := 1920) (p := 21) hdk_1920 dLb_82.1
theorem dL_law_1942 : decode cL_law 1942 = .ok (.iload 4, 2) := dl_finq (k := 1920) (p := 22) hdk_1920 dLb_82.2.1
theorem dL_law_1944 : decode cL_law 1944 = .ok (.iconst 2, 1) := dl_finq (k := 1920) (p := 24) hdk_1920 dLb_82.2.2.1
theorem dL_law_1945 : decode cL_law 1945 = .ok (.iadd, 1) := dl_finq (k := 1920) (p := 25) hdk_1920 dLb_82.2.2.2.1
theorem dL_law_1946 : decode cL_law 1946 = .ok (.iaload, 1) := dl_finq (k := 1920) (p := 26) hdk_1920 dLb_82.2.2.2.2.1
theorem dL_law_1947 : decode cL_law 1947 = .ok (.aload_n 0, 1) := dl_finq (k := 1920) (p := 27) hdk_1920 dLb_82.2.2.2.2.2.1
theorem dL_law_1948 : decode cL_law 1948 = .ok (.iload 4, 2) := dl_finq (k := 1920) (p := 28) hdk_1920 dLb_82.2.2.2.2.2.2.1
theorem dL_law_1950 : decode cL_law 1950 = .ok (.iconst 3, 1) := dl_finq (k := 1920) (p := 30) hdk_1920 dLb_82.2.2.2.2.2.2.2.1
theorem dL_law_1951 : decode cL_law 1951 = .ok (.iadd, 1) := dl_finq (k := 1920) (p := 31) hdk_1920 dLb_82.2.2.2.2.2.2.2.2.1
theorem dL_law_1952 : decode cL_law 1952 = .ok (.iaload, 1) := dl_finq (k := 1920) (p := 32) hdk_1920 dLb_82.2.2.2.2.2.2.2.2.2.1
theorem dL_law_1953 : decode cL_law 1953 = .ok (.invokevirtual 293, 3) := dl_finq (k := 1920) (p := 33) hdk_1920 dLb_82.2.2.2.2.2.2.2.2.2.2.1
theorem dL_law_1956 : decode cL_law 1956 = .ok (.istore 6, 2) := dl_finq (k := 1920) (p := 36) hdk_1920 dLb_82.2.2.2.2.2.2.2.2.2.2.2.1
theorem dL_law_1958 : decode cL_law 1958 = .ok (.goto 126, 3) := dl_finq (k := 1920) (p := 38) hdk_1920 dLb_82.2.2.2.2.2.2.2.2.2.2.2.2.1
theorem dL_law_1961 : decode cL_law 1961 = .ok (.aload_n 1, 1) := dl_finq (k := 1920) (p := 41) hdk_1920 dLb_82.2.2.2.2.2.2.2.2.2.2.2.2.2.1
theorem dL_law_1962 : decode cL_law 1962 = .ok (.invokevirtual 294, 3) := dl_finq (k := 1920) (p := 42) hdk_1920 dLb_82.2.2.2.2.2.2.2.2.2.2.2.2.2.2.1
theorem dL_law_1965 : decode cL_law 1965 = .ok (.pop, 1) := dl_finq (k := 1920) (p := 45) hdk_1920 dLb_82.2.2.2.2.2.2.2.2.2.2.2.2.2.2.2
theorem dLb_83 : dlq dk_1920 46 (.aload_n 2, 1) = true ∧ dlq dk_1920 47 (.invokevirtual 297, 3) = true ∧ dlq dk_1920 50 (.pop, 1) = true ∧ dlq dk_1920 51 (.goto 113, 3) = true ∧ dlq dk_1920 54 (.aload_n 1, 1) = true ∧ dlq dk_1920 55 (.aload_n 0, 1) = true ∧ dlq dk_1920 56 (.iload 4, 2) = true ∧ dlq dk_1920 58 (.iconst 1, 1) = true ∧ dlq dk_1920 59 (.iadd, 1) = true ∧ dlq dk_1920 60 (.iaload, 1) = true ∧ dlq dk_1920 61 (.aload_n 3, 1) = true ∧ dlq dk_1920 62 (.invokestatic 298, 3) = true ∧ dlq dk_1920 65 (.istore 5, 2) = true ∧ dlq dk_1920 67 (.aload_n 2, 1) = true ∧ dlq dk_1920 68 (.aload_n 0, 1) = true ∧ dlq dk_1920 69 (.iload 4, 2) = true := by decide +kernel
theorem dL_law_1966 : decode cL_law 1966 = .ok (.aload_n 2, 1) := dl_finq (k := 1920) (p := 46) hdk_1920 dLb_83.1
theorem dL_law_1967 : decode cL_law 1967 = .ok (.invokevirtual 297, 3) := dl_finq (k := 1920) (p := 47) hdk_1920 dLb_83.2.1
theorem dL_law_1970 : decode cL_law 1970 = .ok (.pop, 1) := dl_finq (k := 1920) (p := 50) hdk_1920 dLb_83.2.2.1
theorem dL_law_1971 : decode cL_law 1971 = .ok (.goto 113, 3) := dl_finq (k := 1920) (p := 51) hdk_1920 dLb_83.2.2.2.1
theorem dL_law_1974 : decode cL_law 1974 = .ok (.aload_n 1, 1) := dl_finq (k := 1920) (p := 54) hdk_1920 dLb_83.2.2.2.2.1
theorem dL_law_1975 : decode cL_law 1975 = .ok (.aload_n 0, 1) := dl_finq (k := 1920) (p := 55) hdk_1920 dLb_83.2.2.2.2.2.1
theorem dL_law_1976 : decode cL_law 1976 = .ok (.iload 4, 2) := dl_finq (k := 1920) (p := 56) hdk_1920 dLb_83.2.2.2.2.2.2.1
theorem dL_law_1978 : decode cL_law 1978 = .ok (.iconst 1, 1) := dl_finq (k := 1920) (p := 58) hdk_1920 dLb_83.2.2.2.2.2.2.2.1
theorem dL_law_1979 : decode cL_law 1979 = .ok (.iadd, 1) := dl_finq (k := 1920) (p := 59) hdk_1920 dLb_83.2.2.2.2.2.2.2.2.1
theorem dL_law_1980 : decode cL_law 1980 = .ok (.iaload, 1) := dl_finq (k := 1920) (p := 60) hdk_1920 dLb_83.2.2.2.2.2.2.2.2.2.1
theorem dL_law_1981 : decode cL_law 1981 = .ok (.aload_n 3, 1) := dl_finq (k := 1920) (p := 61) hdk_1920 dLb_83.2.2.2.2.2.2.2.2.2.2.1
theorem dL_law_1982 : decode cL_law 1982 = .ok (.invokestatic 298, 3) := dl_finq (k := 1920) (p := 62) hdk_1920 dLb_83.2.2.2.2.2.2.2.2.2.2.2.1
theorem dL_law_1985 : decode cL_law 1985 = .ok (.istore 5, 2) := dl_finq (k := 1920) (p := 65) hdk_1920 dLb_83.2.2.2.2.2.2.2.2.2.2.2.2.1
theorem dL_law_1987 : decode cL_law 1987 = .ok (.aload_n 2, 1) := dl_finq (k := 1920) (p := 67) hdk_1920 dLb_83.2.2.2.2.2.2.2.2.2.2.2.2.2.1
theorem dL_law_1988 : decode cL_law 1988 = .ok (.aload_n 0, 1) := dl_finq (k := 1920) (p := 68) hdk_1920 dLb_83.2.2.2.2.2.2.2.2.2.2.2.2.2.2.1
theorem dL_law_1989 : decode cL_law 1989 = .ok (.iload 4, 2) := dl_finq (k := 1920) (p := 69) hdk_1920 dLb_83.2.2.2.2.2.2.2.2.2.2.2.2.2.2.2
theorem dLb_84 : dlq dk_1920 71 (.iconst 1, 1) = true ∧ dlq dk_1920 72 (.iadd, 1) = true ∧ dlq dk_1920 73 (.iaload, 1) = true ∧ dlq dk_1920 74 (.invokevirtual 300, 3) = true ∧ dlq dk_1920 77 (.istore 6, 2) = true ∧ dlq dk_1920 79 (.goto 85, 3) = true ∧ dlq dk_1920 82 (.aload_n 1, 1) = true ∧ dlq dk_1920 83 (.aload_n 0, 1) = true ∧ dlq dk_1920 84 (.iload 4, 2) = true ∧ dlq dk_1920 86 (.iconst 1, 1) = true ∧ dlq dk_1920 87 (.iadd, 1) = true ∧ dlq dk_1920 88 (.iaload, 1) = true ∧ dlq dk_1920 89 (.aload_n 3, 1) = true ∧ dlq dk_1920 90 (.invokestatic 301, 3) = true ∧ dlq dk_1920 93 (.istore 5, 2) = true ∧ dlq dk_1920 95 (.aload_n 2, 1) = true := by decide +kernel
theorem dL_law_1991 : decode cL_law 1991 = .ok (.iconst 1, 1) := dl_finq (k := 1920) (p := 71) hdk_1920 dLb_84.1
theorem dL_law_1992 : decode cL_law 1992 = .ok (.iadd, 1) := dl_finq (k := 1920) (p := 72) hdk_1920 dLb_84.2.1
theorem dL_law_1993 : decode cL_law 1993 = .ok (.iaload, 1) := dl_finq (k := 1920) (p := 73) hdk_1920 dLb_84.2.2.1
theorem dL_law_1994 : decode cL_law 1994 = .ok (.invokevirtual 300, 3) := dl_finq (k := 1920) (p := 74) hdk_1920 dLb_84.2.2.2.1
theorem dL_law_1997 : decode cL_law 1997 = .ok (.istore 6, 2) := dl_finq (k := 1920) (p := 77) hdk_1920 dLb_84.2.2.2.2.1
theorem dL_law_1999 : decode cL_law 1999 = .ok (.goto 85, 3) := dl_finq (k := 1920) (p := 79) hdk_1920 dLb_84.2.2.2.2.2.1
theorem dL_law_2002 : decode cL_law 2002 = .ok (.aload_n 1, 1) := dl_finq (k := 1920) (p := 82) hdk_1920 dLb_84.2.2.2.2.2.2.1
theorem dL_law_2003 : decode cL_law 2003 = .ok (.aload_n 0, 1) := dl_finq (k := 1920) (p := 83) hdk_1920 dLb_84.2.2.2.2.2.2.2.1
theorem dL_law_2004 : decode cL_law 2004 = .ok (.iload 4, 2) := dl_finq (k := 1920) (p := 84) hdk_1920 dLb_84.2.2.2.2.2.2.2.2.1
theorem dL_law_2006 : decode cL_law 2006 = .ok (.iconst 1, 1) := dl_finq (k := 1920) (p := 86) hdk_1920 dLb_84.2.2.2.2.2.2.2.2.2.1
theorem dL_law_2007 : decode cL_law 2007 = .ok (.iadd, 1) := dl_finq (k := 1920) (p := 87) hdk_1920 dLb_84.2.2.2.2.2.2.2.2.2.2.1
theorem dL_law_2008 : decode cL_law 2008 = .ok (.iaload, 1) := dl_finq (k := 1920) (p := 88) hdk_1920 dLb_84.2.2.2.2.2.2.2.2.2.2.2.1
theorem dL_law_2009 : decode cL_law 2009 = .ok (.aload_n 3, 1) := dl_finq (k := 1920) (p := 89) hdk_1920 dLb_84.2.2.2.2.2.2.2.2.2.2.2.2.1
theorem dL_law_2010 : decode cL_law 2010 = .ok (.invokestatic 301, 3) := dl_finq (k := 1920) (p := 90) hdk_1920 dLb_84.2.2.2.2.2.2.2.2.2.2.2.2.2.1
theorem dL_law_2013 : decode cL_law 2013 = .ok (.istore 5, 2) := dl_finq (k := 1920) (p := 93) hdk_1920 dLb_84.2.2.2.2.2.2.2.2.2.2.2.2.2.2.1
theorem dL_law_2015 : decode cL_law 2015 = .ok (.aload_n 2, 1) := dl_finq (k := 1920) (p := 95) hdk_1920 dLb_84.2.2.2.2.2.2.2.2.2.2.2.2.2.2.2
theorem dLb_85 : dlq dk_1920 96 (.aload_n 0, 1) = true ∧ dlq dk_1920 97 (.iload 4, 2) = true ∧ dlq dk_1920 99 (.iconst 1, 1) = true ∧ dlq dk_1920 100 (.iadd, 1) = true ∧ dlq dk_1920 101 (.iaload, 1) = true ∧ dlq dk_1920 102 (.invokevirtual 303, 3) = true ∧ dlq dk_1920 105 (.istore 6, 2) = true ∧ dlq dk_1920 107 (.goto 57, 3) = true ∧ dlq dk_1920 110 (.aload_n 1, 1) = true ∧ dlq dk_1920 111 (.aload_n 0, 1) = true ∧ dlq dk_1920 112 (.iload 4, 2) = true ∧ dlq dk_1920 114 (.iconst 1, 1) = true ∧ dlq dk_1920 115 (.iadd, 1) = true ∧ dlq dk_1920 116 (.iaload, 1) = true ∧ dlq dk_1920 117 (.aload_n 3, 1) = true ∧ dlq dk_1920 118 (.invokestatic 304, 3) = true := by decide +kernel
theorem dL_law_2016 : decode cL_law 2016 = .ok (.aload_n 0, 1) := dl_finq (k := 1920) (p := 96) hdk_1920 dLb_85.1
theorem dL_law_2017 : decode cL_law 2017 = .ok (.iload 4, 2) := dl_finq (k := 1920) (p := 97) hdk_1920 dLb_85.2.1
theorem dL_law_2019 : decode cL_law 2019 = .ok (.iconst 1, 1) := dl_finq (k := 1920) (p := 99) hdk_1920 dLb_85.2.2.1
theorem dL_law_2020 : decode cL_law 2020 = .ok (.iadd, 1) := dl_finq (k := 1920) (p := 100) hdk_1920 dLb_85.2.2.2.1
theorem dL_law_2021 : decode cL_law 2021 = .ok (.iaload, 1) := dl_finq (k := 1920) (p := 101) hdk_1920 dLb_85.2.2.2.2.1
theorem dL_law_2022 : decode cL_law 2022 = .ok (.invokevirtual 303, 3) := dl_finq (k := 1920) (p := 102) hdk_1920 dLb_85.2.2.2.2.2.1
theorem dL_law_2025 : decode cL_law 2025 = .ok (.istore 6, 2) := dl_finq (k := 1920) (p := 105) hdk_1920 dLb_85.2.2.2.2.2.2.1
theorem dL_law_2027 : decode cL_law 2027 = .ok (.goto 57, 3) := dl_finq (k := 1920) (p := 107) hdk_1920 dLb_85.2.2.2.2.2.2.2.1
theorem dL_law_2030 : decode cL_law 2030 = .ok (.aload_n 1, 1) := dl_finq (k := 1920) (p := 110) hdk_1920 dLb_85.2.2.2.2.2.2.2.2.1
theorem dL_law_2031 : decode cL_law 2031 = .ok (.aload_n 0, 1) := dl_finq (k := 1920) (p := 111) hdk_1920 dLb_85.2.2.2.2.2.2.2.2.2.1
theorem dL_law_2032 : decode cL_law 2032 = .ok (.iload 4, 2) := dl_finq (k := 1920) (p := 112) hdk_1920 dLb_85.2.2.2.2.2.2.2.2.2.2.1
theorem dL_law_2034 : decode cL_law 2034 = .ok (.iconst 1, 1) := dl_finq (k := 1920) (p := 114) hdk_1920 dLb_85.2.2.2.2.2.2.2.2.2.2.2.1
theorem dL_law_2035 : decode cL_law 2035 = .ok (.iadd, 1) := dl_finq (k := 1920) (p := 115) hdk_1920 dLb_85.2.2.2.2.2.2.2.2.2.2.2.2.1
theorem dL_law_2036 : decode cL_law 2036 = .ok (.iaload, 1) := dl_finq (k := 1920) (p := 116) hdk_1920 dLb_85.2.2.2.2.2.2.2.2.2.2.2.2.2.1
theorem dL_law_2037 : decode cL_law 2037 = .ok (.aload_n 3, 1) := dl_finq (k := 1920) (p := 117) hdk_1920 dLb_85.2.2.2.2.2.2.2.2.2.2.2.2.2.2.1
theorem dL_law_2038 : decode cL_law 2038 = .ok (.invokestatic 304, 3) := dl_finq (k := 1920) (p := 118) hdk_1920 dLb_85.2.2.2.2.2.2.2.2.2.2.2.2.2.2.2
theorem dLb_86 : dlq dk_1920 121 (.istore 5, 2) = true ∧ dlq dk_1920 123 (.aload_n 2, 1) = true ∧ dlq dk_1920 124 (.aload_n 0, 1) = true ∧ dlq dk_1920 125 (.iload 4, 2) = true ∧ dlq dk_1920 127 (.iconst 1, 1) = true := by decide +kernel
theorem dL_law_2041 : decode cL_law 2041 = .ok (.istore 5, 2) := dl_finq (k := 1920) (p := 121) hdk_1920 dLb_86.1
theorem dL_law_2043 : decode cL_law 2043 = .ok (.aload_n 2, 1) := dl_finq (k := 1920) (p := 123) hdk_1920 dLb_86.2.1
theorem dL_law_2044 : decode cL_law 2044 = .ok (.aload_n 0, 1) := dl_finq (k := 1920) (p := 124) hdk_1920 dLb_86.2.2.1
theorem dL_law_2045 : decode cL_law 2045 = .ok (.iload 4, 2) := dl_finq (k := 1920) (p := 125) hdk_1920 dLb_86.2.2.2.1
theorem dL_law_2047 : decode cL_law 2047 = .ok (.iconst 1, 1) := dl_finq (k := 1920) (p := 127) hdk_1920 dLb_86.2.2.2.2
theorem dLb_87 : dlq dk_2048 0 (.iadd, 1) = true ∧ dlq dk_2048 1 (.iaload, 1) = true ∧ dlq dk_2048 2 (.invokevirtual 306, 3) = true ∧ dlq dk_2048 5 (.istore 6, 2) = true ∧ dlq dk_2048 7 (.goto 29, 3) = true ∧ dlq dk_2048 10 (.aload_n 1, 1) = true ∧ dlq dk_2048 11 (.invokevirtual 307, 3) = true ∧ dlq dk_2048 14 (.pop, 1) = true ∧ dlq dk_2048 15 (.aload_n 2, 1) = true ∧ dlq dk_2048 16 (.invokevirtual 311, 3) = true ∧ dlq dk_2048 19 (.pop, 1) = true ∧ dlq dk_2048 20 (.goto 16, 3) = true ∧ dlq dk_2048 23 (.aload_n 1, 1) = true ∧ dlq dk_2048 24 (.invokevirtual 312, 3) = true ∧ dlq dk_2048 27 (.pop2, 1) = true ∧ dlq dk_2048 28 (.aload_n 2, 1) = true := by decide +kernel
theorem dL_law_2048 : decode cL_law 2048 = .ok (.iadd, 1) := dl_finq (k := 2048) (p := 0) hdk_2048 dLb_87.1
theorem dL_law_2049 : decode cL_law 2049 = .ok (.iaload, 1) := dl_finq (k := 2048) (p := 1) hdk_2048 dLb_87.2.1
theorem dL_law_2050 : decode cL_law 2050 = .ok (.invokevirtual 306, 3) := dl_finq (k := 2048) (p := 2) hdk_2048 dLb_87.2.2.1
theorem dL_law_2053 : decode cL_law 2053 = .ok (.istore 6, 2) := dl_finq (k := 2048) (p := 5) hdk_2048 dLb_87.2.2.2.1
theorem dL_law_2055 : decode cL_law 2055 = .ok (.goto 29, 3) := dl_finq (k := 2048) (p := 7) hdk_2048 dLb_87.2.2.2.2.1
theorem dL_law_2058 : decode cL_law 2058 = .ok (.aload_n 1, 1) := dl_finq (k := 2048) (p := 10) hdk_2048 dLb_87.2.2.2.2.2.1
theorem dL_law_2059 : decode cL_law 2059 = .ok (.invokevirtual 307, 3) := dl_finq (k := 2048) (p := 11) hdk_2048 dLb_87.2.2.2.2.2.2.1
theorem dL_law_2062 : decode cL_law 2062 = .ok (.pop, 1) := dl_finq (k := 2048) (p := 14) hdk_2048 dLb_87.2.2.2.2.2.2.2.1
theorem dL_law_2063 : decode cL_law 2063 = .ok (.aload_n 2, 1) := dl_finq (k := 2048) (p := 15) hdk_2048 dLb_87.2.2.2.2.2.2.2.2.1
theorem dL_law_2064 : decode cL_law 2064 = .ok (.invokevirtual 311, 3) := dl_finq (k := 2048) (p := 16) hdk_2048 dLb_87.2.2.2.2.2.2.2.2.2.1
theorem dL_law_2067 : decode cL_law 2067 = .ok (.pop, 1) := dl_finq (k := 2048) (p := 19) hdk_2048 dLb_87.2.2.2.2.2.2.2.2.2.2.1
theorem dL_law_2068 : decode cL_law 2068 = .ok (.goto 16, 3) := dl_finq (k := 2048) (p := 20) hdk_2048 dLb_87.2.2.2.2.2.2.2.2.2.2.2.1
theorem dL_law_2071 : decode cL_law 2071 = .ok (.aload_n 1, 1) := dl_finq (k := 2048) (p := 23) hdk_2048 dLb_87.2.2.2.2.2.2.2.2.2.2.2.2.1
theorem dL_law_2072 : decode cL_law 2072 = .ok (.invokevirtual 312, 3) := dl_finq (k := 2048) (p := 24) hdk_2048 dLb_87.2.2.2.2.2.2.2.2.2.2.2.2.2.1
theorem dL_law_2075 : decode cL_law 2075 = .ok (.pop2, 1) := dl_finq (k := 2048) (p := 27) hdk_2048 dLb_87.2.2.2.2.2.2.2.2.2.2.2.2.2.2.1
theorem dL_law_2076 : decode cL_law 2076 = .ok (.aload_n 2, 1) := dl_finq (k := 2048) (p := 28) hdk_2048 dLb_87.2.2.2.2.2.2.2.2.2.2.2.2.2.2.2
theorem dLb_88 : dlq dk_2048 29 (.invokevirtual 316, 3) = true ∧ dlq dk_2048 32 (.pop2, 1) = true ∧ dlq dk_2048 33 (.goto 3, 3) = true ∧ dlq dk_2048 36 (.iinc 4 6, 3) = true ∧ dlq dk_2048 39 (.goto (-2060), 3) = true ∧ dlq dk_2048 42 (.iconst 1, 1) = true ∧ dlq dk_2048 43 (.ireturn, 1) = true := by decide +kernel
theorem dL_law_2077 : decode cL_law 2077 = .ok (.invokevirtual 316, 3) := dl_finq (k := 2048) (p := 29) hdk_2048 dLb_88.1
theorem dL_law_2080 : decode cL_law 2080 = .ok (.pop2, 1) := dl_finq (k := 2048) (p := 32) hdk_2048 dLb_88.2.1
theorem dL_law_2081 : decode cL_law 2081 = .ok (.goto 3, 3) := dl_finq (k := 2048) (p := 33) hdk_2048 dLb_88.2.2.1
theorem dL_law_2084 : decode cL_law 2084 = .ok (.iinc 4 6, 3) := dl_finq (k := 2048) (p := 36) hdk_2048 dLb_88.2.2.2.1
theorem dL_law_2087 : decode cL_law 2087 = .ok (.goto (-2060), 3) := dl_finq (k := 2048) (p := 39) hdk_2048 dLb_88.2.2.2.2.1
theorem dL_law_2090 : decode cL_law 2090 = .ok (.iconst 1, 1) := dl_finq (k := 2048) (p := 42) hdk_2048 dLb_88.2.2.2.2.2.1
theorem dL_law_2091 : decode cL_law 2091 = .ok (.ireturn, 1) := dl_finq (k := 2048) (p := 43) hdk_2048 dLb_88.2.2.2.2.2.2
theorem dL_law_44 : decode cL_law 44 = .ok (.tableswitch 2040 0 44 #[196, 236, 317, 357, 421, 473, 513, 541, 569, 597, 625, 665, 705, 745, 785, 825, 865, 905, 945, 973, 1053, 1081, 1173, 1225, 1277, 1317, 1373, 1401, 1441, 1493, 1533, 1585, 1625, 1665, 1705, 1745, 1785, 1837, 1865, 1917, 1930, 1958, 1986, 2014, 2027], 196) := by decide +kernel

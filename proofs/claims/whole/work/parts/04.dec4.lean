def bdX12_lock_377 : ByteArray := .mk #[46, 16, 6, 160, 0, 37, 42, 180, 0, 8, 21, 6, 6, 96, 8, 21, 8, 104, 96, 46, 27, 160, 0, 19, 42]
theorem wdX12_lock_377 : LocW cX12_lock 377 bdX12_lock_377 := loc_of (by decide +kernel)
theorem adX12_lock_377 : De bdX12_lock_377 0 (.iaload) 1 ∧ De bdX12_lock_377 1 (.bipush 6) 2 ∧ De bdX12_lock_377 3 (.if_icmp .ne 37) 3 ∧ De bdX12_lock_377 6 (.aload_n 0) 1 ∧ De bdX12_lock_377 7 (.getfield 8) 3 ∧ De bdX12_lock_377 10 (.iload 6) 2 ∧ De bdX12_lock_377 12 (.iconst 3) 1 ∧ De bdX12_lock_377 13 (.iadd) 1 ∧ De bdX12_lock_377 14 (.iconst 5) 1 ∧ De bdX12_lock_377 15 (.iload 8) 2 ∧ De bdX12_lock_377 17 (.imul) 1 ∧ De bdX12_lock_377 18 (.iadd) 1 ∧ De bdX12_lock_377 19 (.iaload) 1 ∧ De bdX12_lock_377 20 (.iload_n 1) 1 ∧ De bdX12_lock_377 21 (.if_icmp .ne 19) 3 ∧ De bdX12_lock_377 24 (.aload_n 0) 1 := by decide +kernel
theorem dX12_lock_377 : decode cX12_lock 377 = .ok (.iaload, 1) := dAt wdX12_lock_377 adX12_lock_377.1 rfl
theorem dX12_lock_378 : decode cX12_lock 378 = .ok (.bipush 6, 2) := dAt wdX12_lock_377 adX12_lock_377.2.1 rfl
theorem dX12_lock_380 : decode cX12_lock 380 = .ok (.if_icmp .ne 37, 3) := dAt wdX12_lock_377 adX12_lock_377.2.2.1 rfl
theorem dX12_lock_383 : decode cX12_lock 383 = .ok (.aload_n 0, 1) := dAt wdX12_lock_377 adX12_lock_377.2.2.2.1 rfl
theorem dX12_lock_384 : decode cX12_lock 384 = .ok (.getfield 8, 3) := dAt wdX12_lock_377 adX12_lock_377.2.2.2.2.1 rfl
theorem dX12_lock_387 : decode cX12_lock 387 = .ok (.iload 6, 2) := dAt wdX12_lock_377 adX12_lock_377.2.2.2.2.2.1 rfl
theorem dX12_lock_389 : decode cX12_lock 389 = .ok (.iconst 3, 1) := dAt wdX12_lock_377 adX12_lock_377.2.2.2.2.2.2.1 rfl
theorem dX12_lock_390 : decode cX12_lock 390 = .ok (.iadd, 1) := dAt wdX12_lock_377 adX12_lock_377.2.2.2.2.2.2.2.1 rfl
theorem dX12_lock_391 : decode cX12_lock 391 = .ok (.iconst 5, 1) := dAt wdX12_lock_377 adX12_lock_377.2.2.2.2.2.2.2.2.1 rfl
theorem dX12_lock_392 : decode cX12_lock 392 = .ok (.iload 8, 2) := dAt wdX12_lock_377 adX12_lock_377.2.2.2.2.2.2.2.2.2.1 rfl
theorem dX12_lock_394 : decode cX12_lock 394 = .ok (.imul, 1) := dAt wdX12_lock_377 adX12_lock_377.2.2.2.2.2.2.2.2.2.2.1 rfl
theorem dX12_lock_395 : decode cX12_lock 395 = .ok (.iadd, 1) := dAt wdX12_lock_377 adX12_lock_377.2.2.2.2.2.2.2.2.2.2.2.1 rfl
theorem dX12_lock_396 : decode cX12_lock 396 = .ok (.iaload, 1) := dAt wdX12_lock_377 adX12_lock_377.2.2.2.2.2.2.2.2.2.2.2.2.1 rfl
theorem dX12_lock_397 : decode cX12_lock 397 = .ok (.iload_n 1, 1) := dAt wdX12_lock_377 adX12_lock_377.2.2.2.2.2.2.2.2.2.2.2.2.2.1 rfl
theorem dX12_lock_398 : decode cX12_lock 398 = .ok (.if_icmp .ne 19, 3) := dAt wdX12_lock_377 adX12_lock_377.2.2.2.2.2.2.2.2.2.2.2.2.2.2.1 rfl
theorem dX12_lock_401 : decode cX12_lock 401 = .ok (.aload_n 0, 1) := dAt wdX12_lock_377 adX12_lock_377.2.2.2.2.2.2.2.2.2.2.2.2.2.2.2 rfl
def bdX12_lock_402 : ByteArray := .mk #[180, 0, 8, 21, 6, 7, 96, 8, 21, 8, 104, 96, 46, 54, 7, 132, 8, 1, 167, 255, 180, 42, 180, 0, 8, 21, 4, 7]
theorem wdX12_lock_402 : LocW cX12_lock 402 bdX12_lock_402 := loc_of (by decide +kernel)
theorem adX12_lock_402 : De bdX12_lock_402 0 (.getfield 8) 3 ∧ De bdX12_lock_402 3 (.iload 6) 2 ∧ De bdX12_lock_402 5 (.iconst 4) 1 ∧ De bdX12_lock_402 6 (.iadd) 1 ∧ De bdX12_lock_402 7 (.iconst 5) 1 ∧ De bdX12_lock_402 8 (.iload 8) 2 ∧ De bdX12_lock_402 10 (.imul) 1 ∧ De bdX12_lock_402 11 (.iadd) 1 ∧ De bdX12_lock_402 12 (.iaload) 1 ∧ De bdX12_lock_402 13 (.istore 7) 2 ∧ De bdX12_lock_402 15 (.iinc 8 1) 3 ∧ De bdX12_lock_402 18 (.goto (-76)) 3 ∧ De bdX12_lock_402 21 (.aload_n 0) 1 ∧ De bdX12_lock_402 22 (.getfield 8) 3 ∧ De bdX12_lock_402 25 (.iload 4) 2 ∧ De bdX12_lock_402 27 (.iconst 4) 1 := by decide +kernel
theorem dX12_lock_402 : decode cX12_lock 402 = .ok (.getfield 8, 3) := dAt wdX12_lock_402 adX12_lock_402.1 rfl
theorem dX12_lock_405 : decode cX12_lock 405 = .ok (.iload 6, 2) := dAt wdX12_lock_402 adX12_lock_402.2.1 rfl
theorem dX12_lock_407 : decode cX12_lock 407 = .ok (.iconst 4, 1) := dAt wdX12_lock_402 adX12_lock_402.2.2.1 rfl
theorem dX12_lock_408 : decode cX12_lock 408 = .ok (.iadd, 1) := dAt wdX12_lock_402 adX12_lock_402.2.2.2.1 rfl
theorem dX12_lock_409 : decode cX12_lock 409 = .ok (.iconst 5, 1) := dAt wdX12_lock_402 adX12_lock_402.2.2.2.2.1 rfl
theorem dX12_lock_410 : decode cX12_lock 410 = .ok (.iload 8, 2) := dAt wdX12_lock_402 adX12_lock_402.2.2.2.2.2.1 rfl
theorem dX12_lock_412 : decode cX12_lock 412 = .ok (.imul, 1) := dAt wdX12_lock_402 adX12_lock_402.2.2.2.2.2.2.1 rfl
theorem dX12_lock_413 : decode cX12_lock 413 = .ok (.iadd, 1) := dAt wdX12_lock_402 adX12_lock_402.2.2.2.2.2.2.2.1 rfl
theorem dX12_lock_414 : decode cX12_lock 414 = .ok (.iaload, 1) := dAt wdX12_lock_402 adX12_lock_402.2.2.2.2.2.2.2.2.1 rfl
theorem dX12_lock_415 : decode cX12_lock 415 = .ok (.istore 7, 2) := dAt wdX12_lock_402 adX12_lock_402.2.2.2.2.2.2.2.2.2.1 rfl
theorem dX12_lock_417 : decode cX12_lock 417 = .ok (.iinc 8 1, 3) := dAt wdX12_lock_402 adX12_lock_402.2.2.2.2.2.2.2.2.2.2.1 rfl
theorem dX12_lock_420 : decode cX12_lock 420 = .ok (.goto (-76), 3) := dAt wdX12_lock_402 adX12_lock_402.2.2.2.2.2.2.2.2.2.2.2.1 rfl
theorem dX12_lock_423 : decode cX12_lock 423 = .ok (.aload_n 0, 1) := dAt wdX12_lock_402 adX12_lock_402.2.2.2.2.2.2.2.2.2.2.2.2.1 rfl
theorem dX12_lock_424 : decode cX12_lock 424 = .ok (.getfield 8, 3) := dAt wdX12_lock_402 adX12_lock_402.2.2.2.2.2.2.2.2.2.2.2.2.2.1 rfl
theorem dX12_lock_427 : decode cX12_lock 427 = .ok (.iload 4, 2) := dAt wdX12_lock_402 adX12_lock_402.2.2.2.2.2.2.2.2.2.2.2.2.2.2.1 rfl
theorem dX12_lock_429 : decode cX12_lock 429 = .ok (.iconst 4, 1) := dAt wdX12_lock_402 adX12_lock_402.2.2.2.2.2.2.2.2.2.2.2.2.2.2.2 rfl
def bdX12_lock_430 : ByteArray := .mk #[96, 42, 180, 0, 8, 3, 46, 21, 7, 164, 0, 15, 42, 180, 0, 8, 3, 46, 21, 7, 100, 167, 0, 4, 3, 79]
theorem wdX12_lock_430 : LocW cX12_lock 430 bdX12_lock_430 := loc_of (by decide +kernel)
theorem adX12_lock_430 : De bdX12_lock_430 0 (.iadd) 1 ∧ De bdX12_lock_430 1 (.aload_n 0) 1 ∧ De bdX12_lock_430 2 (.getfield 8) 3 ∧ De bdX12_lock_430 5 (.iconst 0) 1 ∧ De bdX12_lock_430 6 (.iaload) 1 ∧ De bdX12_lock_430 7 (.iload 7) 2 ∧ De bdX12_lock_430 9 (.if_icmp .le 15) 3 ∧ De bdX12_lock_430 12 (.aload_n 0) 1 ∧ De bdX12_lock_430 13 (.getfield 8) 3 ∧ De bdX12_lock_430 16 (.iconst 0) 1 ∧ De bdX12_lock_430 17 (.iaload) 1 ∧ De bdX12_lock_430 18 (.iload 7) 2 ∧ De bdX12_lock_430 20 (.isub) 1 ∧ De bdX12_lock_430 21 (.goto 4) 3 ∧ De bdX12_lock_430 24 (.iconst 0) 1 ∧ De bdX12_lock_430 25 (.iastore) 1 := by decide +kernel
theorem dX12_lock_430 : decode cX12_lock 430 = .ok (.iadd, 1) := dAt wdX12_lock_430 adX12_lock_430.1 rfl
theorem dX12_lock_431 : decode cX12_lock 431 = .ok (.aload_n 0, 1) := dAt wdX12_lock_430 adX12_lock_430.2.1 rfl
theorem dX12_lock_432 : decode cX12_lock 432 = .ok (.getfield 8, 3) := dAt wdX12_lock_430 adX12_lock_430.2.2.1 rfl
theorem dX12_lock_435 : decode cX12_lock 435 = .ok (.iconst 0, 1) := dAt wdX12_lock_430 adX12_lock_430.2.2.2.1 rfl
theorem dX12_lock_436 : decode cX12_lock 436 = .ok (.iaload, 1) := dAt wdX12_lock_430 adX12_lock_430.2.2.2.2.1 rfl
theorem dX12_lock_437 : decode cX12_lock 437 = .ok (.iload 7, 2) := dAt wdX12_lock_430 adX12_lock_430.2.2.2.2.2.1 rfl
theorem dX12_lock_439 : decode cX12_lock 439 = .ok (.if_icmp .le 15, 3) := dAt wdX12_lock_430 adX12_lock_430.2.2.2.2.2.2.1 rfl
theorem dX12_lock_442 : decode cX12_lock 442 = .ok (.aload_n 0, 1) := dAt wdX12_lock_430 adX12_lock_430.2.2.2.2.2.2.2.1 rfl
theorem dX12_lock_443 : decode cX12_lock 443 = .ok (.getfield 8, 3) := dAt wdX12_lock_430 adX12_lock_430.2.2.2.2.2.2.2.2.1 rfl
theorem dX12_lock_446 : decode cX12_lock 446 = .ok (.iconst 0, 1) := dAt wdX12_lock_430 adX12_lock_430.2.2.2.2.2.2.2.2.2.1 rfl
theorem dX12_lock_447 : decode cX12_lock 447 = .ok (.iaload, 1) := dAt wdX12_lock_430 adX12_lock_430.2.2.2.2.2.2.2.2.2.2.1 rfl
theorem dX12_lock_448 : decode cX12_lock 448 = .ok (.iload 7, 2) := dAt wdX12_lock_430 adX12_lock_430.2.2.2.2.2.2.2.2.2.2.2.1 rfl
theorem dX12_lock_450 : decode cX12_lock 450 = .ok (.isub, 1) := dAt wdX12_lock_430 adX12_lock_430.2.2.2.2.2.2.2.2.2.2.2.2.1 rfl
theorem dX12_lock_451 : decode cX12_lock 451 = .ok (.goto 4, 3) := dAt wdX12_lock_430 adX12_lock_430.2.2.2.2.2.2.2.2.2.2.2.2.2.1 rfl
theorem dX12_lock_454 : decode cX12_lock 454 = .ok (.iconst 0, 1) := dAt wdX12_lock_430 adX12_lock_430.2.2.2.2.2.2.2.2.2.2.2.2.2.2.1 rfl
theorem dX12_lock_455 : decode cX12_lock 455 = .ok (.iastore, 1) := dAt wdX12_lock_430 adX12_lock_430.2.2.2.2.2.2.2.2.2.2.2.2.2.2.2 rfl
def bdX12_lock_456 : ByteArray := .mk #[21, 5, 172]
theorem wdX12_lock_456 : LocW cX12_lock 456 bdX12_lock_456 := loc_of (by decide +kernel)
theorem adX12_lock_456 : De bdX12_lock_456 0 (.iload 5) 2 ∧ De bdX12_lock_456 2 (.ireturn) 1 := by decide +kernel
theorem dX12_lock_456 : decode cX12_lock 456 = .ok (.iload 5, 2) := dAt wdX12_lock_456 adX12_lock_456.1 rfl
theorem dX12_lock_458 : decode cX12_lock 458 = .ok (.ireturn, 1) := dAt wdX12_lock_456 adX12_lock_456.2 rfl
def bdX12_locked_0 : ByteArray := .mk #[42, 27, 184, 1, 162, 154, 0, 7, 4, 167, 0, 17, 28, 3, 7, 184, 0, 157, 154, 0, 7, 5, 167, 0, 4, 3, 181, 0, 122, 42]
theorem wdX12_locked_0 : LocW cX12_locked 0 bdX12_locked_0 := loc_of (by decide +kernel)
theorem adX12_locked_0 : De bdX12_locked_0 0 (.aload_n 0) 1 ∧ De bdX12_locked_0 1 (.iload_n 1) 1 ∧ De bdX12_locked_0 2 (.invokestatic 418) 3 ∧ De bdX12_locked_0 5 (.ifCond .ne 7) 3 ∧ De bdX12_locked_0 8 (.iconst 1) 1 ∧ De bdX12_locked_0 9 (.goto 17) 3 ∧ De bdX12_locked_0 12 (.iload_n 2) 1 ∧ De bdX12_locked_0 13 (.iconst 0) 1 ∧ De bdX12_locked_0 14 (.iconst 4) 1 ∧ De bdX12_locked_0 15 (.invokestatic 157) 3 ∧ De bdX12_locked_0 18 (.ifCond .ne 7) 3 ∧ De bdX12_locked_0 21 (.iconst 2) 1 ∧ De bdX12_locked_0 22 (.goto 4) 3 ∧ De bdX12_locked_0 25 (.iconst 0) 1 ∧ De bdX12_locked_0 26 (.putfield 122) 3 ∧ De bdX12_locked_0 29 (.aload_n 0) 1 := by decide +kernel
theorem dX12_locked_0 : decode cX12_locked 0 = .ok (.aload_n 0, 1) := dAt wdX12_locked_0 adX12_locked_0.1 rfl
theorem dX12_locked_1 : decode cX12_locked 1 = .ok (.iload_n 1, 1) := dAt wdX12_locked_0 adX12_locked_0.2.1 rfl
theorem dX12_locked_2 : decode cX12_locked 2 = .ok (.invokestatic 418, 3) := dAt wdX12_locked_0 adX12_locked_0.2.2.1 rfl
theorem dX12_locked_5 : decode cX12_locked 5 = .ok (.ifCond .ne 7, 3) := dAt wdX12_locked_0 adX12_locked_0.2.2.2.1 rfl
theorem dX12_locked_8 : decode cX12_locked 8 = .ok (.iconst 1, 1) := dAt wdX12_locked_0 adX12_locked_0.2.2.2.2.1 rfl
theorem dX12_locked_9 : decode cX12_locked 9 = .ok (.goto 17, 3) := dAt wdX12_locked_0 adX12_locked_0.2.2.2.2.2.1 rfl
theorem dX12_locked_12 : decode cX12_locked 12 = .ok (.iload_n 2, 1) := dAt wdX12_locked_0 adX12_locked_0.2.2.2.2.2.2.1 rfl
theorem dX12_locked_13 : decode cX12_locked 13 = .ok (.iconst 0, 1) := dAt wdX12_locked_0 adX12_locked_0.2.2.2.2.2.2.2.1 rfl
theorem dX12_locked_14 : decode cX12_locked 14 = .ok (.iconst 4, 1) := dAt wdX12_locked_0 adX12_locked_0.2.2.2.2.2.2.2.2.1 rfl
theorem dX12_locked_15 : decode cX12_locked 15 = .ok (.invokestatic 157, 3) := dAt wdX12_locked_0 adX12_locked_0.2.2.2.2.2.2.2.2.2.1 rfl
theorem dX12_locked_18 : decode cX12_locked 18 = .ok (.ifCond .ne 7, 3) := dAt wdX12_locked_0 adX12_locked_0.2.2.2.2.2.2.2.2.2.2.1 rfl
theorem dX12_locked_21 : decode cX12_locked 21 = .ok (.iconst 2, 1) := dAt wdX12_locked_0 adX12_locked_0.2.2.2.2.2.2.2.2.2.2.2.1 rfl
theorem dX12_locked_22 : decode cX12_locked 22 = .ok (.goto 4, 3) := dAt wdX12_locked_0 adX12_locked_0.2.2.2.2.2.2.2.2.2.2.2.2.1 rfl
theorem dX12_locked_25 : decode cX12_locked 25 = .ok (.iconst 0, 1) := dAt wdX12_locked_0 adX12_locked_0.2.2.2.2.2.2.2.2.2.2.2.2.2.1 rfl
theorem dX12_locked_26 : decode cX12_locked 26 = .ok (.putfield 122, 3) := dAt wdX12_locked_0 adX12_locked_0.2.2.2.2.2.2.2.2.2.2.2.2.2.2.1 rfl
theorem dX12_locked_29 : decode cX12_locked 29 = .ok (.aload_n 0, 1) := dAt wdX12_locked_0 adX12_locked_0.2.2.2.2.2.2.2.2.2.2.2.2.2.2.2 rfl
def bdX12_locked_30 : ByteArray := .mk #[180, 0, 122, 158, 0, 5, 3, 172, 18, 121, 17, 0, 185, 27, 104, 96, 62, 28, 154, 0, 14, 42, 180, 0, 8, 29, 5]
theorem wdX12_locked_30 : LocW cX12_locked 30 bdX12_locked_30 := loc_of (by decide +kernel)
theorem adX12_locked_30 : De bdX12_locked_30 0 (.getfield 122) 3 ∧ De bdX12_locked_30 3 (.ifCond .le 5) 3 ∧ De bdX12_locked_30 6 (.iconst 0) 1 ∧ De bdX12_locked_30 7 (.ireturn) 1 ∧ De bdX12_locked_30 8 (.ldc 121) 2 ∧ De bdX12_locked_30 10 (.sipush 185) 3 ∧ De bdX12_locked_30 13 (.iload_n 1) 1 ∧ De bdX12_locked_30 14 (.imul) 1 ∧ De bdX12_locked_30 15 (.iadd) 1 ∧ De bdX12_locked_30 16 (.istore_n 3) 1 ∧ De bdX12_locked_30 17 (.iload_n 2) 1 ∧ De bdX12_locked_30 18 (.ifCond .ne 14) 3 ∧ De bdX12_locked_30 21 (.aload_n 0) 1 ∧ De bdX12_locked_30 22 (.getfield 8) 3 ∧ De bdX12_locked_30 25 (.iload_n 3) 1 ∧ De bdX12_locked_30 26 (.iconst 2) 1 := by decide +kernel
theorem dX12_locked_30 : decode cX12_locked 30 = .ok (.getfield 122, 3) := dAt wdX12_locked_30 adX12_locked_30.1 rfl
theorem dX12_locked_33 : decode cX12_locked 33 = .ok (.ifCond .le 5, 3) := dAt wdX12_locked_30 adX12_locked_30.2.1 rfl
theorem dX12_locked_36 : decode cX12_locked 36 = .ok (.iconst 0, 1) := dAt wdX12_locked_30 adX12_locked_30.2.2.1 rfl
theorem dX12_locked_37 : decode cX12_locked 37 = .ok (.ireturn, 1) := dAt wdX12_locked_30 adX12_locked_30.2.2.2.1 rfl
theorem dX12_locked_38 : decode cX12_locked 38 = .ok (.ldc 121, 2) := dAt wdX12_locked_30 adX12_locked_30.2.2.2.2.1 rfl
theorem dX12_locked_40 : decode cX12_locked 40 = .ok (.sipush 185, 3) := dAt wdX12_locked_30 adX12_locked_30.2.2.2.2.2.1 rfl
theorem dX12_locked_43 : decode cX12_locked 43 = .ok (.iload_n 1, 1) := dAt wdX12_locked_30 adX12_locked_30.2.2.2.2.2.2.1 rfl
theorem dX12_locked_44 : decode cX12_locked 44 = .ok (.imul, 1) := dAt wdX12_locked_30 adX12_locked_30.2.2.2.2.2.2.2.1 rfl
theorem dX12_locked_45 : decode cX12_locked 45 = .ok (.iadd, 1) := dAt wdX12_locked_30 adX12_locked_30.2.2.2.2.2.2.2.2.1 rfl
theorem dX12_locked_46 : decode cX12_locked 46 = .ok (.istore_n 3, 1) := dAt wdX12_locked_30 adX12_locked_30.2.2.2.2.2.2.2.2.2.1 rfl
theorem dX12_locked_47 : decode cX12_locked 47 = .ok (.iload_n 2, 1) := dAt wdX12_locked_30 adX12_locked_30.2.2.2.2.2.2.2.2.2.2.1 rfl
theorem dX12_locked_48 : decode cX12_locked 48 = .ok (.ifCond .ne 14, 3) := dAt wdX12_locked_30 adX12_locked_30.2.2.2.2.2.2.2.2.2.2.2.1 rfl
theorem dX12_locked_51 : decode cX12_locked 51 = .ok (.aload_n 0, 1) := dAt wdX12_locked_30 adX12_locked_30.2.2.2.2.2.2.2.2.2.2.2.2.1 rfl
theorem dX12_locked_52 : decode cX12_locked 52 = .ok (.getfield 8, 3) := dAt wdX12_locked_30 adX12_locked_30.2.2.2.2.2.2.2.2.2.2.2.2.2.1 rfl
theorem dX12_locked_55 : decode cX12_locked 55 = .ok (.iload_n 3, 1) := dAt wdX12_locked_30 adX12_locked_30.2.2.2.2.2.2.2.2.2.2.2.2.2.2.1 rfl
theorem dX12_locked_56 : decode cX12_locked 56 = .ok (.iconst 2, 1) := dAt wdX12_locked_30 adX12_locked_30.2.2.2.2.2.2.2.2.2.2.2.2.2.2.2 rfl
def bdX12_locked_57 : ByteArray := .mk #[96, 46, 167, 0, 45, 28, 4, 160, 0, 14, 42, 180, 0, 8, 29, 6, 96, 46, 167, 0, 29, 28, 5, 160, 0, 14]
theorem wdX12_locked_57 : LocW cX12_locked 57 bdX12_locked_57 := loc_of (by decide +kernel)
theorem adX12_locked_57 : De bdX12_locked_57 0 (.iadd) 1 ∧ De bdX12_locked_57 1 (.iaload) 1 ∧ De bdX12_locked_57 2 (.goto 45) 3 ∧ De bdX12_locked_57 5 (.iload_n 2) 1 ∧ De bdX12_locked_57 6 (.iconst 1) 1 ∧ De bdX12_locked_57 7 (.if_icmp .ne 14) 3 ∧ De bdX12_locked_57 10 (.aload_n 0) 1 ∧ De bdX12_locked_57 11 (.getfield 8) 3 ∧ De bdX12_locked_57 14 (.iload_n 3) 1 ∧ De bdX12_locked_57 15 (.iconst 3) 1 ∧ De bdX12_locked_57 16 (.iadd) 1 ∧ De bdX12_locked_57 17 (.iaload) 1 ∧ De bdX12_locked_57 18 (.goto 29) 3 ∧ De bdX12_locked_57 21 (.iload_n 2) 1 ∧ De bdX12_locked_57 22 (.iconst 2) 1 ∧ De bdX12_locked_57 23 (.if_icmp .ne 14) 3 := by decide +kernel
theorem dX12_locked_57 : decode cX12_locked 57 = .ok (.iadd, 1) := dAt wdX12_locked_57 adX12_locked_57.1 rfl
theorem dX12_locked_58 : decode cX12_locked 58 = .ok (.iaload, 1) := dAt wdX12_locked_57 adX12_locked_57.2.1 rfl
theorem dX12_locked_59 : decode cX12_locked 59 = .ok (.goto 45, 3) := dAt wdX12_locked_57 adX12_locked_57.2.2.1 rfl
theorem dX12_locked_62 : decode cX12_locked 62 = .ok (.iload_n 2, 1) := dAt wdX12_locked_57 adX12_locked_57.2.2.2.1 rfl
theorem dX12_locked_63 : decode cX12_locked 63 = .ok (.iconst 1, 1) := dAt wdX12_locked_57 adX12_locked_57.2.2.2.2.1 rfl
theorem dX12_locked_64 : decode cX12_locked 64 = .ok (.if_icmp .ne 14, 3) := dAt wdX12_locked_57 adX12_locked_57.2.2.2.2.2.1 rfl
theorem dX12_locked_67 : decode cX12_locked 67 = .ok (.aload_n 0, 1) := dAt wdX12_locked_57 adX12_locked_57.2.2.2.2.2.2.1 rfl
theorem dX12_locked_68 : decode cX12_locked 68 = .ok (.getfield 8, 3) := dAt wdX12_locked_57 adX12_locked_57.2.2.2.2.2.2.2.1 rfl
theorem dX12_locked_71 : decode cX12_locked 71 = .ok (.iload_n 3, 1) := dAt wdX12_locked_57 adX12_locked_57.2.2.2.2.2.2.2.2.1 rfl
theorem dX12_locked_72 : decode cX12_locked 72 = .ok (.iconst 3, 1) := dAt wdX12_locked_57 adX12_locked_57.2.2.2.2.2.2.2.2.2.1 rfl
theorem dX12_locked_73 : decode cX12_locked 73 = .ok (.iadd, 1) := dAt wdX12_locked_57 adX12_locked_57.2.2.2.2.2.2.2.2.2.2.1 rfl
theorem dX12_locked_74 : decode cX12_locked 74 = .ok (.iaload, 1) := dAt wdX12_locked_57 adX12_locked_57.2.2.2.2.2.2.2.2.2.2.2.1 rfl
theorem dX12_locked_75 : decode cX12_locked 75 = .ok (.goto 29, 3) := dAt wdX12_locked_57 adX12_locked_57.2.2.2.2.2.2.2.2.2.2.2.2.1 rfl
theorem dX12_locked_78 : decode cX12_locked 78 = .ok (.iload_n 2, 1) := dAt wdX12_locked_57 adX12_locked_57.2.2.2.2.2.2.2.2.2.2.2.2.2.1 rfl
theorem dX12_locked_79 : decode cX12_locked 79 = .ok (.iconst 2, 1) := dAt wdX12_locked_57 adX12_locked_57.2.2.2.2.2.2.2.2.2.2.2.2.2.2.1 rfl
theorem dX12_locked_80 : decode cX12_locked 80 = .ok (.if_icmp .ne 14, 3) := dAt wdX12_locked_57 adX12_locked_57.2.2.2.2.2.2.2.2.2.2.2.2.2.2.2 rfl
def bdX12_locked_83 : ByteArray := .mk #[42, 180, 0, 8, 29, 7, 96, 46, 167, 0, 13, 42, 180, 0, 8, 29, 28, 96, 6, 100, 46, 172]
theorem wdX12_locked_83 : LocW cX12_locked 83 bdX12_locked_83 := loc_of (by decide +kernel)
theorem adX12_locked_83 : De bdX12_locked_83 0 (.aload_n 0) 1 ∧ De bdX12_locked_83 1 (.getfield 8) 3 ∧ De bdX12_locked_83 4 (.iload_n 3) 1 ∧ De bdX12_locked_83 5 (.iconst 4) 1 ∧ De bdX12_locked_83 6 (.iadd) 1 ∧ De bdX12_locked_83 7 (.iaload) 1 ∧ De bdX12_locked_83 8 (.goto 13) 3 ∧ De bdX12_locked_83 11 (.aload_n 0) 1 ∧ De bdX12_locked_83 12 (.getfield 8) 3 ∧ De bdX12_locked_83 15 (.iload_n 3) 1 ∧ De bdX12_locked_83 16 (.iload_n 2) 1 ∧ De bdX12_locked_83 17 (.iadd) 1 ∧ De bdX12_locked_83 18 (.iconst 3) 1 ∧ De bdX12_locked_83 19 (.isub) 1 ∧ De bdX12_locked_83 20 (.iaload) 1 ∧ De bdX12_locked_83 21 (.ireturn) 1 := by decide +kernel
theorem dX12_locked_83 : decode cX12_locked 83 = .ok (.aload_n 0, 1) := dAt wdX12_locked_83 adX12_locked_83.1 rfl
theorem dX12_locked_84 : decode cX12_locked 84 = .ok (.getfield 8, 3) := dAt wdX12_locked_83 adX12_locked_83.2.1 rfl
theorem dX12_locked_87 : decode cX12_locked 87 = .ok (.iload_n 3, 1) := dAt wdX12_locked_83 adX12_locked_83.2.2.1 rfl
theorem dX12_locked_88 : decode cX12_locked 88 = .ok (.iconst 4, 1) := dAt wdX12_locked_83 adX12_locked_83.2.2.2.1 rfl
theorem dX12_locked_89 : decode cX12_locked 89 = .ok (.iadd, 1) := dAt wdX12_locked_83 adX12_locked_83.2.2.2.2.1 rfl
theorem dX12_locked_90 : decode cX12_locked 90 = .ok (.iaload, 1) := dAt wdX12_locked_83 adX12_locked_83.2.2.2.2.2.1 rfl
theorem dX12_locked_91 : decode cX12_locked 91 = .ok (.goto 13, 3) := dAt wdX12_locked_83 adX12_locked_83.2.2.2.2.2.2.1 rfl
theorem dX12_locked_94 : decode cX12_locked 94 = .ok (.aload_n 0, 1) := dAt wdX12_locked_83 adX12_locked_83.2.2.2.2.2.2.2.1 rfl
theorem dX12_locked_95 : decode cX12_locked 95 = .ok (.getfield 8, 3) := dAt wdX12_locked_83 adX12_locked_83.2.2.2.2.2.2.2.2.1 rfl
theorem dX12_locked_98 : decode cX12_locked 98 = .ok (.iload_n 3, 1) := dAt wdX12_locked_83 adX12_locked_83.2.2.2.2.2.2.2.2.2.1 rfl
theorem dX12_locked_99 : decode cX12_locked 99 = .ok (.iload_n 2, 1) := dAt wdX12_locked_83 adX12_locked_83.2.2.2.2.2.2.2.2.2.2.1 rfl
theorem dX12_locked_100 : decode cX12_locked 100 = .ok (.iadd, 1) := dAt wdX12_locked_83 adX12_locked_83.2.2.2.2.2.2.2.2.2.2.2.1 rfl
theorem dX12_locked_101 : decode cX12_locked 101 = .ok (.iconst 3, 1) := dAt wdX12_locked_83 adX12_locked_83.2.2.2.2.2.2.2.2.2.2.2.2.1 rfl
theorem dX12_locked_102 : decode cX12_locked 102 = .ok (.isub, 1) := dAt wdX12_locked_83 adX12_locked_83.2.2.2.2.2.2.2.2.2.2.2.2.2.1 rfl
theorem dX12_locked_103 : decode cX12_locked 103 = .ok (.iaload, 1) := dAt wdX12_locked_83 adX12_locked_83.2.2.2.2.2.2.2.2.2.2.2.2.2.2.1 rfl
theorem dX12_locked_104 : decode cX12_locked 104 = .ok (.ireturn, 1) := dAt wdX12_locked_83 adX12_locked_83.2.2.2.2.2.2.2.2.2.2.2.2.2.2.2 rfl
def bdX12_isEdition_0 : ByteArray := .mk #[27, 2, 42, 180, 0, 8, 16, 6, 46, 4, 100, 184, 0, 157, 172]
theorem wdX12_isEdition_0 : LocW cX12_isEdition 0 bdX12_isEdition_0 := loc_of (by decide +kernel)
theorem adX12_isEdition_0 : De bdX12_isEdition_0 0 (.iload_n 1) 1 ∧ De bdX12_isEdition_0 1 (.iconst (-1)) 1 ∧ De bdX12_isEdition_0 2 (.aload_n 0) 1 ∧ De bdX12_isEdition_0 3 (.getfield 8) 3 ∧ De bdX12_isEdition_0 6 (.bipush 6) 2 ∧ De bdX12_isEdition_0 8 (.iaload) 1 ∧ De bdX12_isEdition_0 9 (.iconst 1) 1 ∧ De bdX12_isEdition_0 10 (.isub) 1 ∧ De bdX12_isEdition_0 11 (.invokestatic 157) 3 ∧ De bdX12_isEdition_0 14 (.ireturn) 1 := by decide +kernel
theorem dX12_isEdition_0 : decode cX12_isEdition 0 = .ok (.iload_n 1, 1) := dAt wdX12_isEdition_0 adX12_isEdition_0.1 rfl
theorem dX12_isEdition_1 : decode cX12_isEdition 1 = .ok (.iconst (-1), 1) := dAt wdX12_isEdition_0 adX12_isEdition_0.2.1 rfl
theorem dX12_isEdition_2 : decode cX12_isEdition 2 = .ok (.aload_n 0, 1) := dAt wdX12_isEdition_0 adX12_isEdition_0.2.2.1 rfl
theorem dX12_isEdition_3 : decode cX12_isEdition 3 = .ok (.getfield 8, 3) := dAt wdX12_isEdition_0 adX12_isEdition_0.2.2.2.1 rfl
theorem dX12_isEdition_6 : decode cX12_isEdition 6 = .ok (.bipush 6, 2) := dAt wdX12_isEdition_0 adX12_isEdition_0.2.2.2.2.1 rfl
theorem dX12_isEdition_8 : decode cX12_isEdition 8 = .ok (.iaload, 1) := dAt wdX12_isEdition_0 adX12_isEdition_0.2.2.2.2.2.1 rfl
theorem dX12_isEdition_9 : decode cX12_isEdition 9 = .ok (.iconst 1, 1) := dAt wdX12_isEdition_0 adX12_isEdition_0.2.2.2.2.2.2.1 rfl
theorem dX12_isEdition_10 : decode cX12_isEdition 10 = .ok (.isub, 1) := dAt wdX12_isEdition_0 adX12_isEdition_0.2.2.2.2.2.2.2.1 rfl
theorem dX12_isEdition_11 : decode cX12_isEdition 11 = .ok (.invokestatic 157, 3) := dAt wdX12_isEdition_0 adX12_isEdition_0.2.2.2.2.2.2.2.2.1 rfl
theorem dX12_isEdition_14 : decode cX12_isEdition 14 = .ok (.ireturn, 1) := dAt wdX12_isEdition_0 adX12_isEdition_0.2.2.2.2.2.2.2.2.2 rfl
def bdX12_many0_0 : ByteArray := .mk #[19, 1, 186, 17, 0, 181, 16, 6, 28, 104, 27, 96, 104, 96, 172]
theorem wdX12_many0_0 : LocW cX12_many0 0 bdX12_many0_0 := loc_of (by decide +kernel)
theorem adX12_many0_0 : De bdX12_many0_0 0 (.ldc_w 442) 3 ∧ De bdX12_many0_0 3 (.sipush 181) 3 ∧ De bdX12_many0_0 6 (.bipush 6) 2 ∧ De bdX12_many0_0 8 (.iload_n 2) 1 ∧ De bdX12_many0_0 9 (.imul) 1 ∧ De bdX12_many0_0 10 (.iload_n 1) 1 ∧ De bdX12_many0_0 11 (.iadd) 1 ∧ De bdX12_many0_0 12 (.imul) 1 ∧ De bdX12_many0_0 13 (.iadd) 1 ∧ De bdX12_many0_0 14 (.ireturn) 1 := by decide +kernel
theorem dX12_many0_0 : decode cX12_many0 0 = .ok (.ldc_w 442, 3) := dAt wdX12_many0_0 adX12_many0_0.1 rfl
theorem dX12_many0_3 : decode cX12_many0 3 = .ok (.sipush 181, 3) := dAt wdX12_many0_0 adX12_many0_0.2.1 rfl
theorem dX12_many0_6 : decode cX12_many0 6 = .ok (.bipush 6, 2) := dAt wdX12_many0_0 adX12_many0_0.2.2.1 rfl
theorem dX12_many0_8 : decode cX12_many0 8 = .ok (.iload_n 2, 1) := dAt wdX12_many0_0 adX12_many0_0.2.2.2.1 rfl
theorem dX12_many0_9 : decode cX12_many0 9 = .ok (.imul, 1) := dAt wdX12_many0_0 adX12_many0_0.2.2.2.2.1 rfl
theorem dX12_many0_10 : decode cX12_many0 10 = .ok (.iload_n 1, 1) := dAt wdX12_many0_0 adX12_many0_0.2.2.2.2.2.1 rfl
theorem dX12_many0_11 : decode cX12_many0 11 = .ok (.iadd, 1) := dAt wdX12_many0_0 adX12_many0_0.2.2.2.2.2.2.1 rfl
theorem dX12_many0_12 : decode cX12_many0 12 = .ok (.imul, 1) := dAt wdX12_many0_0 adX12_many0_0.2.2.2.2.2.2.2.1 rfl
theorem dX12_many0_13 : decode cX12_many0 13 = .ok (.iadd, 1) := dAt wdX12_many0_0 adX12_many0_0.2.2.2.2.2.2.2.2.1 rfl
theorem dX12_many0_14 : decode cX12_many0 14 = .ok (.ireturn, 1) := dAt wdX12_many0_0 adX12_many0_0.2.2.2.2.2.2.2.2.2 rfl
def bdX12_slugsOn_0 : ByteArray := .mk #[28, 2, 160, 0, 21, 42, 180, 0, 8, 18, 121, 17, 0, 185, 27, 104, 96, 5, 96, 46, 167, 0, 14, 42, 180, 0, 8]
theorem wdX12_slugsOn_0 : LocW cX12_slugsOn 0 bdX12_slugsOn_0 := loc_of (by decide +kernel)
theorem adX12_slugsOn_0 : De bdX12_slugsOn_0 0 (.iload_n 2) 1 ∧ De bdX12_slugsOn_0 1 (.iconst (-1)) 1 ∧ De bdX12_slugsOn_0 2 (.if_icmp .ne 21) 3 ∧ De bdX12_slugsOn_0 5 (.aload_n 0) 1 ∧ De bdX12_slugsOn_0 6 (.getfield 8) 3 ∧ De bdX12_slugsOn_0 9 (.ldc 121) 2 ∧ De bdX12_slugsOn_0 11 (.sipush 185) 3 ∧ De bdX12_slugsOn_0 14 (.iload_n 1) 1 ∧ De bdX12_slugsOn_0 15 (.imul) 1 ∧ De bdX12_slugsOn_0 16 (.iadd) 1 ∧ De bdX12_slugsOn_0 17 (.iconst 2) 1 ∧ De bdX12_slugsOn_0 18 (.iadd) 1 ∧ De bdX12_slugsOn_0 19 (.iaload) 1 ∧ De bdX12_slugsOn_0 20 (.goto 14) 3 ∧ De bdX12_slugsOn_0 23 (.aload_n 0) 1 ∧ De bdX12_slugsOn_0 24 (.getfield 8) 3 := by decide +kernel
theorem dX12_slugsOn_0 : decode cX12_slugsOn 0 = .ok (.iload_n 2, 1) := dAt wdX12_slugsOn_0 adX12_slugsOn_0.1 rfl
theorem dX12_slugsOn_1 : decode cX12_slugsOn 1 = .ok (.iconst (-1), 1) := dAt wdX12_slugsOn_0 adX12_slugsOn_0.2.1 rfl
theorem dX12_slugsOn_2 : decode cX12_slugsOn 2 = .ok (.if_icmp .ne 21, 3) := dAt wdX12_slugsOn_0 adX12_slugsOn_0.2.2.1 rfl
theorem dX12_slugsOn_5 : decode cX12_slugsOn 5 = .ok (.aload_n 0, 1) := dAt wdX12_slugsOn_0 adX12_slugsOn_0.2.2.2.1 rfl
theorem dX12_slugsOn_6 : decode cX12_slugsOn 6 = .ok (.getfield 8, 3) := dAt wdX12_slugsOn_0 adX12_slugsOn_0.2.2.2.2.1 rfl
theorem dX12_slugsOn_9 : decode cX12_slugsOn 9 = .ok (.ldc 121, 2) := dAt wdX12_slugsOn_0 adX12_slugsOn_0.2.2.2.2.2.1 rfl
theorem dX12_slugsOn_11 : decode cX12_slugsOn 11 = .ok (.sipush 185, 3) := dAt wdX12_slugsOn_0 adX12_slugsOn_0.2.2.2.2.2.2.1 rfl
theorem dX12_slugsOn_14 : decode cX12_slugsOn 14 = .ok (.iload_n 1, 1) := dAt wdX12_slugsOn_0 adX12_slugsOn_0.2.2.2.2.2.2.2.1 rfl
theorem dX12_slugsOn_15 : decode cX12_slugsOn 15 = .ok (.imul, 1) := dAt wdX12_slugsOn_0 adX12_slugsOn_0.2.2.2.2.2.2.2.2.1 rfl
theorem dX12_slugsOn_16 : decode cX12_slugsOn 16 = .ok (.iadd, 1) := dAt wdX12_slugsOn_0 adX12_slugsOn_0.2.2.2.2.2.2.2.2.2.1 rfl
theorem dX12_slugsOn_17 : decode cX12_slugsOn 17 = .ok (.iconst 2, 1) := dAt wdX12_slugsOn_0 adX12_slugsOn_0.2.2.2.2.2.2.2.2.2.2.1 rfl
theorem dX12_slugsOn_18 : decode cX12_slugsOn 18 = .ok (.iadd, 1) := dAt wdX12_slugsOn_0 adX12_slugsOn_0.2.2.2.2.2.2.2.2.2.2.2.1 rfl
theorem dX12_slugsOn_19 : decode cX12_slugsOn 19 = .ok (.iaload, 1) := dAt wdX12_slugsOn_0 adX12_slugsOn_0.2.2.2.2.2.2.2.2.2.2.2.2.1 rfl
theorem dX12_slugsOn_20 : decode cX12_slugsOn 20 = .ok (.goto 14, 3) := dAt wdX12_slugsOn_0 adX12_slugsOn_0.2.2.2.2.2.2.2.2.2.2.2.2.2.1 rfl
theorem dX12_slugsOn_23 : decode cX12_slugsOn 23 = .ok (.aload_n 0, 1) := dAt wdX12_slugsOn_0 adX12_slugsOn_0.2.2.2.2.2.2.2.2.2.2.2.2.2.2.1 rfl
theorem dX12_slugsOn_24 : decode cX12_slugsOn 24 = .ok (.getfield 8, 3) := dAt wdX12_slugsOn_0 adX12_slugsOn_0.2.2.2.2.2.2.2.2.2.2.2.2.2.2.2 rfl
def bdX12_slugsOn_27 : ByteArray := .mk #[42, 27, 28, 182, 1, 187, 46, 172]
theorem wdX12_slugsOn_27 : LocW cX12_slugsOn 27 bdX12_slugsOn_27 := loc_of (by decide +kernel)
theorem adX12_slugsOn_27 : De bdX12_slugsOn_27 0 (.aload_n 0) 1 ∧ De bdX12_slugsOn_27 1 (.iload_n 1) 1 ∧ De bdX12_slugsOn_27 2 (.iload_n 2) 1 ∧ De bdX12_slugsOn_27 3 (.invokevirtual 443) 3 ∧ De bdX12_slugsOn_27 6 (.iaload) 1 ∧ De bdX12_slugsOn_27 7 (.ireturn) 1 := by decide +kernel
theorem dX12_slugsOn_27 : decode cX12_slugsOn 27 = .ok (.aload_n 0, 1) := dAt wdX12_slugsOn_27 adX12_slugsOn_27.1 rfl
theorem dX12_slugsOn_28 : decode cX12_slugsOn 28 = .ok (.iload_n 1, 1) := dAt wdX12_slugsOn_27 adX12_slugsOn_27.2.1 rfl
theorem dX12_slugsOn_29 : decode cX12_slugsOn 29 = .ok (.iload_n 2, 1) := dAt wdX12_slugsOn_27 adX12_slugsOn_27.2.2.1 rfl
theorem dX12_slugsOn_30 : decode cX12_slugsOn 30 = .ok (.invokevirtual 443, 3) := dAt wdX12_slugsOn_27 adX12_slugsOn_27.2.2.2.1 rfl
theorem dX12_slugsOn_33 : decode cX12_slugsOn 33 = .ok (.iaload, 1) := dAt wdX12_slugsOn_27 adX12_slugsOn_27.2.2.2.2.1 rfl
theorem dX12_slugsOn_34 : decode cX12_slugsOn 34 = .ok (.ireturn, 1) := dAt wdX12_slugsOn_27 adX12_slugsOn_27.2.2.2.2.2 rfl
def bdX12_slugOn_0 : ByteArray := .mk #[28, 2, 160, 0, 23, 42, 180, 0, 8, 18, 121, 17, 0, 185, 27, 104, 96, 8, 96, 29, 96, 46, 167, 0, 18]
theorem wdX12_slugOn_0 : LocW cX12_slugOn 0 bdX12_slugOn_0 := loc_of (by decide +kernel)
theorem adX12_slugOn_0 : De bdX12_slugOn_0 0 (.iload_n 2) 1 ∧ De bdX12_slugOn_0 1 (.iconst (-1)) 1 ∧ De bdX12_slugOn_0 2 (.if_icmp .ne 23) 3 ∧ De bdX12_slugOn_0 5 (.aload_n 0) 1 ∧ De bdX12_slugOn_0 6 (.getfield 8) 3 ∧ De bdX12_slugOn_0 9 (.ldc 121) 2 ∧ De bdX12_slugOn_0 11 (.sipush 185) 3 ∧ De bdX12_slugOn_0 14 (.iload_n 1) 1 ∧ De bdX12_slugOn_0 15 (.imul) 1 ∧ De bdX12_slugOn_0 16 (.iadd) 1 ∧ De bdX12_slugOn_0 17 (.iconst 5) 1 ∧ De bdX12_slugOn_0 18 (.iadd) 1 ∧ De bdX12_slugOn_0 19 (.iload_n 3) 1 ∧ De bdX12_slugOn_0 20 (.iadd) 1 ∧ De bdX12_slugOn_0 21 (.iaload) 1 ∧ De bdX12_slugOn_0 22 (.goto 18) 3 := by decide +kernel
theorem dX12_slugOn_0 : decode cX12_slugOn 0 = .ok (.iload_n 2, 1) := dAt wdX12_slugOn_0 adX12_slugOn_0.1 rfl
theorem dX12_slugOn_1 : decode cX12_slugOn 1 = .ok (.iconst (-1), 1) := dAt wdX12_slugOn_0 adX12_slugOn_0.2.1 rfl
theorem dX12_slugOn_2 : decode cX12_slugOn 2 = .ok (.if_icmp .ne 23, 3) := dAt wdX12_slugOn_0 adX12_slugOn_0.2.2.1 rfl
theorem dX12_slugOn_5 : decode cX12_slugOn 5 = .ok (.aload_n 0, 1) := dAt wdX12_slugOn_0 adX12_slugOn_0.2.2.2.1 rfl
theorem dX12_slugOn_6 : decode cX12_slugOn 6 = .ok (.getfield 8, 3) := dAt wdX12_slugOn_0 adX12_slugOn_0.2.2.2.2.1 rfl
theorem dX12_slugOn_9 : decode cX12_slugOn 9 = .ok (.ldc 121, 2) := dAt wdX12_slugOn_0 adX12_slugOn_0.2.2.2.2.2.1 rfl
theorem dX12_slugOn_11 : decode cX12_slugOn 11 = .ok (.sipush 185, 3) := dAt wdX12_slugOn_0 adX12_slugOn_0.2.2.2.2.2.2.1 rfl
theorem dX12_slugOn_14 : decode cX12_slugOn 14 = .ok (.iload_n 1, 1) := dAt wdX12_slugOn_0 adX12_slugOn_0.2.2.2.2.2.2.2.1 rfl
theorem dX12_slugOn_15 : decode cX12_slugOn 15 = .ok (.imul, 1) := dAt wdX12_slugOn_0 adX12_slugOn_0.2.2.2.2.2.2.2.2.1 rfl
theorem dX12_slugOn_16 : decode cX12_slugOn 16 = .ok (.iadd, 1) := dAt wdX12_slugOn_0 adX12_slugOn_0.2.2.2.2.2.2.2.2.2.1 rfl
theorem dX12_slugOn_17 : decode cX12_slugOn 17 = .ok (.iconst 5, 1) := dAt wdX12_slugOn_0 adX12_slugOn_0.2.2.2.2.2.2.2.2.2.2.1 rfl
theorem dX12_slugOn_18 : decode cX12_slugOn 18 = .ok (.iadd, 1) := dAt wdX12_slugOn_0 adX12_slugOn_0.2.2.2.2.2.2.2.2.2.2.2.1 rfl
theorem dX12_slugOn_19 : decode cX12_slugOn 19 = .ok (.iload_n 3, 1) := dAt wdX12_slugOn_0 adX12_slugOn_0.2.2.2.2.2.2.2.2.2.2.2.2.1 rfl
theorem dX12_slugOn_20 : decode cX12_slugOn 20 = .ok (.iadd, 1) := dAt wdX12_slugOn_0 adX12_slugOn_0.2.2.2.2.2.2.2.2.2.2.2.2.2.1 rfl
theorem dX12_slugOn_21 : decode cX12_slugOn 21 = .ok (.iaload, 1) := dAt wdX12_slugOn_0 adX12_slugOn_0.2.2.2.2.2.2.2.2.2.2.2.2.2.2.1 rfl
theorem dX12_slugOn_22 : decode cX12_slugOn 22 = .ok (.goto 18, 3) := dAt wdX12_slugOn_0 adX12_slugOn_0.2.2.2.2.2.2.2.2.2.2.2.2.2.2.2 rfl
def bdX12_slugOn_25 : ByteArray := .mk #[42, 180, 0, 8, 42, 27, 28, 182, 1, 187, 4, 96, 29, 96, 46, 172]
theorem wdX12_slugOn_25 : LocW cX12_slugOn 25 bdX12_slugOn_25 := loc_of (by decide +kernel)
theorem adX12_slugOn_25 : De bdX12_slugOn_25 0 (.aload_n 0) 1 ∧ De bdX12_slugOn_25 1 (.getfield 8) 3 ∧ De bdX12_slugOn_25 4 (.aload_n 0) 1 ∧ De bdX12_slugOn_25 5 (.iload_n 1) 1 ∧ De bdX12_slugOn_25 6 (.iload_n 2) 1 ∧ De bdX12_slugOn_25 7 (.invokevirtual 443) 3 ∧ De bdX12_slugOn_25 10 (.iconst 1) 1 ∧ De bdX12_slugOn_25 11 (.iadd) 1 ∧ De bdX12_slugOn_25 12 (.iload_n 3) 1 ∧ De bdX12_slugOn_25 13 (.iadd) 1 ∧ De bdX12_slugOn_25 14 (.iaload) 1 ∧ De bdX12_slugOn_25 15 (.ireturn) 1 := by decide +kernel
theorem dX12_slugOn_25 : decode cX12_slugOn 25 = .ok (.aload_n 0, 1) := dAt wdX12_slugOn_25 adX12_slugOn_25.1 rfl
theorem dX12_slugOn_26 : decode cX12_slugOn 26 = .ok (.getfield 8, 3) := dAt wdX12_slugOn_25 adX12_slugOn_25.2.1 rfl
theorem dX12_slugOn_29 : decode cX12_slugOn 29 = .ok (.aload_n 0, 1) := dAt wdX12_slugOn_25 adX12_slugOn_25.2.2.1 rfl
theorem dX12_slugOn_30 : decode cX12_slugOn 30 = .ok (.iload_n 1, 1) := dAt wdX12_slugOn_25 adX12_slugOn_25.2.2.2.1 rfl
theorem dX12_slugOn_31 : decode cX12_slugOn 31 = .ok (.iload_n 2, 1) := dAt wdX12_slugOn_25 adX12_slugOn_25.2.2.2.2.1 rfl
theorem dX12_slugOn_32 : decode cX12_slugOn 32 = .ok (.invokevirtual 443, 3) := dAt wdX12_slugOn_25 adX12_slugOn_25.2.2.2.2.2.1 rfl
theorem dX12_slugOn_35 : decode cX12_slugOn 35 = .ok (.iconst 1, 1) := dAt wdX12_slugOn_25 adX12_slugOn_25.2.2.2.2.2.2.1 rfl
theorem dX12_slugOn_36 : decode cX12_slugOn 36 = .ok (.iadd, 1) := dAt wdX12_slugOn_25 adX12_slugOn_25.2.2.2.2.2.2.2.1 rfl
theorem dX12_slugOn_37 : decode cX12_slugOn 37 = .ok (.iload_n 3, 1) := dAt wdX12_slugOn_25 adX12_slugOn_25.2.2.2.2.2.2.2.2.1 rfl
theorem dX12_slugOn_38 : decode cX12_slugOn 38 = .ok (.iadd, 1) := dAt wdX12_slugOn_25 adX12_slugOn_25.2.2.2.2.2.2.2.2.2.1 rfl
theorem dX12_slugOn_39 : decode cX12_slugOn 39 = .ok (.iaload, 1) := dAt wdX12_slugOn_25 adX12_slugOn_25.2.2.2.2.2.2.2.2.2.2.1 rfl
theorem dX12_slugOn_40 : decode cX12_slugOn 40 = .ok (.ireturn, 1) := dAt wdX12_slugOn_25 adX12_slugOn_25.2.2.2.2.2.2.2.2.2.2.2 rfl
def bdX12_stands_0 : ByteArray := .mk #[42, 27, 184, 1, 162, 153, 0, 11, 42, 28, 182, 1, 190, 154, 0, 7, 4, 167, 0, 4, 3, 181, 0, 122, 42, 180, 0, 122, 158, 0, 5, 3]
theorem wdX12_stands_0 : LocW cX12_stands 0 bdX12_stands_0 := loc_of (by decide +kernel)
theorem adX12_stands_0 : De bdX12_stands_0 0 (.aload_n 0) 1 ∧ De bdX12_stands_0 1 (.iload_n 1) 1 ∧ De bdX12_stands_0 2 (.invokestatic 418) 3 ∧ De bdX12_stands_0 5 (.ifCond .eq 11) 3 ∧ De bdX12_stands_0 8 (.aload_n 0) 1 ∧ De bdX12_stands_0 9 (.iload_n 2) 1 ∧ De bdX12_stands_0 10 (.invokevirtual 446) 3 ∧ De bdX12_stands_0 13 (.ifCond .ne 7) 3 ∧ De bdX12_stands_0 16 (.iconst 1) 1 ∧ De bdX12_stands_0 17 (.goto 4) 3 ∧ De bdX12_stands_0 20 (.iconst 0) 1 ∧ De bdX12_stands_0 21 (.putfield 122) 3 ∧ De bdX12_stands_0 24 (.aload_n 0) 1 ∧ De bdX12_stands_0 25 (.getfield 122) 3 ∧ De bdX12_stands_0 28 (.ifCond .le 5) 3 ∧ De bdX12_stands_0 31 (.iconst 0) 1 := by decide +kernel
theorem dX12_stands_0 : decode cX12_stands 0 = .ok (.aload_n 0, 1) := dAt wdX12_stands_0 adX12_stands_0.1 rfl
theorem dX12_stands_1 : decode cX12_stands 1 = .ok (.iload_n 1, 1) := dAt wdX12_stands_0 adX12_stands_0.2.1 rfl
theorem dX12_stands_2 : decode cX12_stands 2 = .ok (.invokestatic 418, 3) := dAt wdX12_stands_0 adX12_stands_0.2.2.1 rfl
theorem dX12_stands_5 : decode cX12_stands 5 = .ok (.ifCond .eq 11, 3) := dAt wdX12_stands_0 adX12_stands_0.2.2.2.1 rfl
theorem dX12_stands_8 : decode cX12_stands 8 = .ok (.aload_n 0, 1) := dAt wdX12_stands_0 adX12_stands_0.2.2.2.2.1 rfl
theorem dX12_stands_9 : decode cX12_stands 9 = .ok (.iload_n 2, 1) := dAt wdX12_stands_0 adX12_stands_0.2.2.2.2.2.1 rfl
theorem dX12_stands_10 : decode cX12_stands 10 = .ok (.invokevirtual 446, 3) := dAt wdX12_stands_0 adX12_stands_0.2.2.2.2.2.2.1 rfl
theorem dX12_stands_13 : decode cX12_stands 13 = .ok (.ifCond .ne 7, 3) := dAt wdX12_stands_0 adX12_stands_0.2.2.2.2.2.2.2.1 rfl
theorem dX12_stands_16 : decode cX12_stands 16 = .ok (.iconst 1, 1) := dAt wdX12_stands_0 adX12_stands_0.2.2.2.2.2.2.2.2.1 rfl
theorem dX12_stands_17 : decode cX12_stands 17 = .ok (.goto 4, 3) := dAt wdX12_stands_0 adX12_stands_0.2.2.2.2.2.2.2.2.2.1 rfl
theorem dX12_stands_20 : decode cX12_stands 20 = .ok (.iconst 0, 1) := dAt wdX12_stands_0 adX12_stands_0.2.2.2.2.2.2.2.2.2.2.1 rfl
theorem dX12_stands_21 : decode cX12_stands 21 = .ok (.putfield 122, 3) := dAt wdX12_stands_0 adX12_stands_0.2.2.2.2.2.2.2.2.2.2.2.1 rfl
theorem dX12_stands_24 : decode cX12_stands 24 = .ok (.aload_n 0, 1) := dAt wdX12_stands_0 adX12_stands_0.2.2.2.2.2.2.2.2.2.2.2.2.1 rfl
theorem dX12_stands_25 : decode cX12_stands 25 = .ok (.getfield 122, 3) := dAt wdX12_stands_0 adX12_stands_0.2.2.2.2.2.2.2.2.2.2.2.2.2.1 rfl
theorem dX12_stands_28 : decode cX12_stands 28 = .ok (.ifCond .le 5, 3) := dAt wdX12_stands_0 adX12_stands_0.2.2.2.2.2.2.2.2.2.2.2.2.2.2.1 rfl
theorem dX12_stands_31 : decode cX12_stands 31 = .ok (.iconst 0, 1) := dAt wdX12_stands_0 adX12_stands_0.2.2.2.2.2.2.2.2.2.2.2.2.2.2.2 rfl
def bdX12_stands_32 : ByteArray := .mk #[172, 29, 3, 42, 27, 28, 182, 1, 193, 4, 100, 184, 0, 157, 153, 0, 13, 42, 27, 28, 29, 182, 1, 196]
theorem wdX12_stands_32 : LocW cX12_stands 32 bdX12_stands_32 := loc_of (by decide +kernel)
theorem adX12_stands_32 : De bdX12_stands_32 0 (.ireturn) 1 ∧ De bdX12_stands_32 1 (.iload_n 3) 1 ∧ De bdX12_stands_32 2 (.iconst 0) 1 ∧ De bdX12_stands_32 3 (.aload_n 0) 1 ∧ De bdX12_stands_32 4 (.iload_n 1) 1 ∧ De bdX12_stands_32 5 (.iload_n 2) 1 ∧ De bdX12_stands_32 6 (.invokevirtual 449) 3 ∧ De bdX12_stands_32 9 (.iconst 1) 1 ∧ De bdX12_stands_32 10 (.isub) 1 ∧ De bdX12_stands_32 11 (.invokestatic 157) 3 ∧ De bdX12_stands_32 14 (.ifCond .eq 13) 3 ∧ De bdX12_stands_32 17 (.aload_n 0) 1 ∧ De bdX12_stands_32 18 (.iload_n 1) 1 ∧ De bdX12_stands_32 19 (.iload_n 2) 1 ∧ De bdX12_stands_32 20 (.iload_n 3) 1 ∧ De bdX12_stands_32 21 (.invokevirtual 452) 3 := by decide +kernel
theorem dX12_stands_32 : decode cX12_stands 32 = .ok (.ireturn, 1) := dAt wdX12_stands_32 adX12_stands_32.1 rfl
theorem dX12_stands_33 : decode cX12_stands 33 = .ok (.iload_n 3, 1) := dAt wdX12_stands_32 adX12_stands_32.2.1 rfl
theorem dX12_stands_34 : decode cX12_stands 34 = .ok (.iconst 0, 1) := dAt wdX12_stands_32 adX12_stands_32.2.2.1 rfl
theorem dX12_stands_35 : decode cX12_stands 35 = .ok (.aload_n 0, 1) := dAt wdX12_stands_32 adX12_stands_32.2.2.2.1 rfl
theorem dX12_stands_36 : decode cX12_stands 36 = .ok (.iload_n 1, 1) := dAt wdX12_stands_32 adX12_stands_32.2.2.2.2.1 rfl
theorem dX12_stands_37 : decode cX12_stands 37 = .ok (.iload_n 2, 1) := dAt wdX12_stands_32 adX12_stands_32.2.2.2.2.2.1 rfl
theorem dX12_stands_38 : decode cX12_stands 38 = .ok (.invokevirtual 449, 3) := dAt wdX12_stands_32 adX12_stands_32.2.2.2.2.2.2.1 rfl
theorem dX12_stands_41 : decode cX12_stands 41 = .ok (.iconst 1, 1) := dAt wdX12_stands_32 adX12_stands_32.2.2.2.2.2.2.2.1 rfl
theorem dX12_stands_42 : decode cX12_stands 42 = .ok (.isub, 1) := dAt wdX12_stands_32 adX12_stands_32.2.2.2.2.2.2.2.2.1 rfl
theorem dX12_stands_43 : decode cX12_stands 43 = .ok (.invokestatic 157, 3) := dAt wdX12_stands_32 adX12_stands_32.2.2.2.2.2.2.2.2.2.1 rfl
theorem dX12_stands_46 : decode cX12_stands 46 = .ok (.ifCond .eq 13, 3) := dAt wdX12_stands_32 adX12_stands_32.2.2.2.2.2.2.2.2.2.2.1 rfl
theorem dX12_stands_49 : decode cX12_stands 49 = .ok (.aload_n 0, 1) := dAt wdX12_stands_32 adX12_stands_32.2.2.2.2.2.2.2.2.2.2.2.1 rfl
theorem dX12_stands_50 : decode cX12_stands 50 = .ok (.iload_n 1, 1) := dAt wdX12_stands_32 adX12_stands_32.2.2.2.2.2.2.2.2.2.2.2.2.1 rfl
theorem dX12_stands_51 : decode cX12_stands 51 = .ok (.iload_n 2, 1) := dAt wdX12_stands_32 adX12_stands_32.2.2.2.2.2.2.2.2.2.2.2.2.2.1 rfl
theorem dX12_stands_52 : decode cX12_stands 52 = .ok (.iload_n 3, 1) := dAt wdX12_stands_32 adX12_stands_32.2.2.2.2.2.2.2.2.2.2.2.2.2.2.1 rfl
theorem dX12_stands_53 : decode cX12_stands 53 = .ok (.invokevirtual 452, 3) := dAt wdX12_stands_32 adX12_stands_32.2.2.2.2.2.2.2.2.2.2.2.2.2.2.2 rfl
def bdX12_stands_56 : ByteArray := .mk #[167, 0, 4, 2, 172]
theorem wdX12_stands_56 : LocW cX12_stands 56 bdX12_stands_56 := loc_of (by decide +kernel)
theorem adX12_stands_56 : De bdX12_stands_56 0 (.goto 4) 3 ∧ De bdX12_stands_56 3 (.iconst (-1)) 1 ∧ De bdX12_stands_56 4 (.ireturn) 1 := by decide +kernel
theorem dX12_stands_56 : decode cX12_stands 56 = .ok (.goto 4, 3) := dAt wdX12_stands_56 adX12_stands_56.1 rfl
theorem dX12_stands_59 : decode cX12_stands 59 = .ok (.iconst (-1), 1) := dAt wdX12_stands_56 adX12_stands_56.2.1 rfl
theorem dX12_stands_60 : decode cX12_stands 60 = .ok (.ireturn, 1) := dAt wdX12_stands_56 adX12_stands_56.2.2 rfl
def bdX12_edition_0 : ByteArray := .mk #[42, 42, 180, 0, 8, 16, 6, 46, 16, 8, 160, 0, 7, 4, 167, 0, 4, 3, 181, 0, 122, 42, 180, 0, 122, 158, 0, 5, 3, 172]
theorem wdX12_edition_0 : LocW cX12_edition 0 bdX12_edition_0 := loc_of (by decide +kernel)
theorem adX12_edition_0 : De bdX12_edition_0 0 (.aload_n 0) 1 ∧ De bdX12_edition_0 1 (.aload_n 0) 1 ∧ De bdX12_edition_0 2 (.getfield 8) 3 ∧ De bdX12_edition_0 5 (.bipush 6) 2 ∧ De bdX12_edition_0 7 (.iaload) 1 ∧ De bdX12_edition_0 8 (.bipush 8) 2 ∧ De bdX12_edition_0 10 (.if_icmp .ne 7) 3 ∧ De bdX12_edition_0 13 (.iconst 1) 1 ∧ De bdX12_edition_0 14 (.goto 4) 3 ∧ De bdX12_edition_0 17 (.iconst 0) 1 ∧ De bdX12_edition_0 18 (.putfield 122) 3 ∧ De bdX12_edition_0 21 (.aload_n 0) 1 ∧ De bdX12_edition_0 22 (.getfield 122) 3 ∧ De bdX12_edition_0 25 (.ifCond .le 5) 3 ∧ De bdX12_edition_0 28 (.iconst 0) 1 ∧ De bdX12_edition_0 29 (.ireturn) 1 := by decide +kernel
theorem dX12_edition_0 : decode cX12_edition 0 = .ok (.aload_n 0, 1) := dAt wdX12_edition_0 adX12_edition_0.1 rfl
theorem dX12_edition_1 : decode cX12_edition 1 = .ok (.aload_n 0, 1) := dAt wdX12_edition_0 adX12_edition_0.2.1 rfl
theorem dX12_edition_2 : decode cX12_edition 2 = .ok (.getfield 8, 3) := dAt wdX12_edition_0 adX12_edition_0.2.2.1 rfl
theorem dX12_edition_5 : decode cX12_edition 5 = .ok (.bipush 6, 2) := dAt wdX12_edition_0 adX12_edition_0.2.2.2.1 rfl
theorem dX12_edition_7 : decode cX12_edition 7 = .ok (.iaload, 1) := dAt wdX12_edition_0 adX12_edition_0.2.2.2.2.1 rfl
theorem dX12_edition_8 : decode cX12_edition 8 = .ok (.bipush 8, 2) := dAt wdX12_edition_0 adX12_edition_0.2.2.2.2.2.1 rfl
theorem dX12_edition_10 : decode cX12_edition 10 = .ok (.if_icmp .ne 7, 3) := dAt wdX12_edition_0 adX12_edition_0.2.2.2.2.2.2.1 rfl
theorem dX12_edition_13 : decode cX12_edition 13 = .ok (.iconst 1, 1) := dAt wdX12_edition_0 adX12_edition_0.2.2.2.2.2.2.2.1 rfl
theorem dX12_edition_14 : decode cX12_edition 14 = .ok (.goto 4, 3) := dAt wdX12_edition_0 adX12_edition_0.2.2.2.2.2.2.2.2.1 rfl
theorem dX12_edition_17 : decode cX12_edition 17 = .ok (.iconst 0, 1) := dAt wdX12_edition_0 adX12_edition_0.2.2.2.2.2.2.2.2.2.1 rfl
theorem dX12_edition_18 : decode cX12_edition 18 = .ok (.putfield 122, 3) := dAt wdX12_edition_0 adX12_edition_0.2.2.2.2.2.2.2.2.2.2.1 rfl
theorem dX12_edition_21 : decode cX12_edition 21 = .ok (.aload_n 0, 1) := dAt wdX12_edition_0 adX12_edition_0.2.2.2.2.2.2.2.2.2.2.2.1 rfl
theorem dX12_edition_22 : decode cX12_edition 22 = .ok (.getfield 122, 3) := dAt wdX12_edition_0 adX12_edition_0.2.2.2.2.2.2.2.2.2.2.2.2.1 rfl
theorem dX12_edition_25 : decode cX12_edition 25 = .ok (.ifCond .le 5, 3) := dAt wdX12_edition_0 adX12_edition_0.2.2.2.2.2.2.2.2.2.2.2.2.2.1 rfl
theorem dX12_edition_28 : decode cX12_edition 28 = .ok (.iconst 0, 1) := dAt wdX12_edition_0 adX12_edition_0.2.2.2.2.2.2.2.2.2.2.2.2.2.2.1 rfl
theorem dX12_edition_29 : decode cX12_edition 29 = .ok (.ireturn, 1) := dAt wdX12_edition_0 adX12_edition_0.2.2.2.2.2.2.2.2.2.2.2.2.2.2.2 rfl
def bdX12_edition_30 : ByteArray := .mk #[42, 180, 0, 8, 16, 6, 46, 60, 3, 61, 28, 16, 6, 162, 0, 94, 42, 180, 0, 8, 42, 28, 27, 182, 1, 187]
theorem wdX12_edition_30 : LocW cX12_edition 30 bdX12_edition_30 := loc_of (by decide +kernel)
theorem adX12_edition_30 : De bdX12_edition_30 0 (.aload_n 0) 1 ∧ De bdX12_edition_30 1 (.getfield 8) 3 ∧ De bdX12_edition_30 4 (.bipush 6) 2 ∧ De bdX12_edition_30 6 (.iaload) 1 ∧ De bdX12_edition_30 7 (.istore_n 1) 1 ∧ De bdX12_edition_30 8 (.iconst 0) 1 ∧ De bdX12_edition_30 9 (.istore_n 2) 1 ∧ De bdX12_edition_30 10 (.iload_n 2) 1 ∧ De bdX12_edition_30 11 (.bipush 6) 2 ∧ De bdX12_edition_30 13 (.if_icmp .ge 94) 3 ∧ De bdX12_edition_30 16 (.aload_n 0) 1 ∧ De bdX12_edition_30 17 (.getfield 8) 3 ∧ De bdX12_edition_30 20 (.aload_n 0) 1 ∧ De bdX12_edition_30 21 (.iload_n 2) 1 ∧ De bdX12_edition_30 22 (.iload_n 1) 1 ∧ De bdX12_edition_30 23 (.invokevirtual 443) 3 := by decide +kernel
theorem dX12_edition_30 : decode cX12_edition 30 = .ok (.aload_n 0, 1) := dAt wdX12_edition_30 adX12_edition_30.1 rfl
theorem dX12_edition_31 : decode cX12_edition 31 = .ok (.getfield 8, 3) := dAt wdX12_edition_30 adX12_edition_30.2.1 rfl
theorem dX12_edition_34 : decode cX12_edition 34 = .ok (.bipush 6, 2) := dAt wdX12_edition_30 adX12_edition_30.2.2.1 rfl
theorem dX12_edition_36 : decode cX12_edition 36 = .ok (.iaload, 1) := dAt wdX12_edition_30 adX12_edition_30.2.2.2.1 rfl
theorem dX12_edition_37 : decode cX12_edition 37 = .ok (.istore_n 1, 1) := dAt wdX12_edition_30 adX12_edition_30.2.2.2.2.1 rfl
theorem dX12_edition_38 : decode cX12_edition 38 = .ok (.iconst 0, 1) := dAt wdX12_edition_30 adX12_edition_30.2.2.2.2.2.1 rfl
theorem dX12_edition_39 : decode cX12_edition 39 = .ok (.istore_n 2, 1) := dAt wdX12_edition_30 adX12_edition_30.2.2.2.2.2.2.1 rfl
theorem dX12_edition_40 : decode cX12_edition 40 = .ok (.iload_n 2, 1) := dAt wdX12_edition_30 adX12_edition_30.2.2.2.2.2.2.2.1 rfl
theorem dX12_edition_41 : decode cX12_edition 41 = .ok (.bipush 6, 2) := dAt wdX12_edition_30 adX12_edition_30.2.2.2.2.2.2.2.2.1 rfl
theorem dX12_edition_43 : decode cX12_edition 43 = .ok (.if_icmp .ge 94, 3) := dAt wdX12_edition_30 adX12_edition_30.2.2.2.2.2.2.2.2.2.1 rfl
theorem dX12_edition_46 : decode cX12_edition 46 = .ok (.aload_n 0, 1) := dAt wdX12_edition_30 adX12_edition_30.2.2.2.2.2.2.2.2.2.2.1 rfl
theorem dX12_edition_47 : decode cX12_edition 47 = .ok (.getfield 8, 3) := dAt wdX12_edition_30 adX12_edition_30.2.2.2.2.2.2.2.2.2.2.2.1 rfl
theorem dX12_edition_50 : decode cX12_edition 50 = .ok (.aload_n 0, 1) := dAt wdX12_edition_30 adX12_edition_30.2.2.2.2.2.2.2.2.2.2.2.2.1 rfl
theorem dX12_edition_51 : decode cX12_edition 51 = .ok (.iload_n 2, 1) := dAt wdX12_edition_30 adX12_edition_30.2.2.2.2.2.2.2.2.2.2.2.2.2.1 rfl
theorem dX12_edition_52 : decode cX12_edition 52 = .ok (.iload_n 1, 1) := dAt wdX12_edition_30 adX12_edition_30.2.2.2.2.2.2.2.2.2.2.2.2.2.2.1 rfl
theorem dX12_edition_53 : decode cX12_edition 53 = .ok (.invokevirtual 443, 3) := dAt wdX12_edition_30 adX12_edition_30.2.2.2.2.2.2.2.2.2.2.2.2.2.2.2 rfl
def bdX12_edition_56 : ByteArray := .mk #[42, 180, 0, 8, 18, 121, 17, 0, 185, 28, 104, 96, 5, 96, 46, 79, 3, 62, 29, 42, 180, 0, 8]
theorem wdX12_edition_56 : LocW cX12_edition 56 bdX12_edition_56 := loc_of (by decide +kernel)
theorem adX12_edition_56 : De bdX12_edition_56 0 (.aload_n 0) 1 ∧ De bdX12_edition_56 1 (.getfield 8) 3 ∧ De bdX12_edition_56 4 (.ldc 121) 2 ∧ De bdX12_edition_56 6 (.sipush 185) 3 ∧ De bdX12_edition_56 9 (.iload_n 2) 1 ∧ De bdX12_edition_56 10 (.imul) 1 ∧ De bdX12_edition_56 11 (.iadd) 1 ∧ De bdX12_edition_56 12 (.iconst 2) 1 ∧ De bdX12_edition_56 13 (.iadd) 1 ∧ De bdX12_edition_56 14 (.iaload) 1 ∧ De bdX12_edition_56 15 (.iastore) 1 ∧ De bdX12_edition_56 16 (.iconst 0) 1 ∧ De bdX12_edition_56 17 (.istore_n 3) 1 ∧ De bdX12_edition_56 18 (.iload_n 3) 1 ∧ De bdX12_edition_56 19 (.aload_n 0) 1 ∧ De bdX12_edition_56 20 (.getfield 8) 3 := by decide +kernel
theorem dX12_edition_56 : decode cX12_edition 56 = .ok (.aload_n 0, 1) := dAt wdX12_edition_56 adX12_edition_56.1 rfl
theorem dX12_edition_57 : decode cX12_edition 57 = .ok (.getfield 8, 3) := dAt wdX12_edition_56 adX12_edition_56.2.1 rfl
theorem dX12_edition_60 : decode cX12_edition 60 = .ok (.ldc 121, 2) := dAt wdX12_edition_56 adX12_edition_56.2.2.1 rfl
theorem dX12_edition_62 : decode cX12_edition 62 = .ok (.sipush 185, 3) := dAt wdX12_edition_56 adX12_edition_56.2.2.2.1 rfl
theorem dX12_edition_65 : decode cX12_edition 65 = .ok (.iload_n 2, 1) := dAt wdX12_edition_56 adX12_edition_56.2.2.2.2.1 rfl
theorem dX12_edition_66 : decode cX12_edition 66 = .ok (.imul, 1) := dAt wdX12_edition_56 adX12_edition_56.2.2.2.2.2.1 rfl
theorem dX12_edition_67 : decode cX12_edition 67 = .ok (.iadd, 1) := dAt wdX12_edition_56 adX12_edition_56.2.2.2.2.2.2.1 rfl
theorem dX12_edition_68 : decode cX12_edition 68 = .ok (.iconst 2, 1) := dAt wdX12_edition_56 adX12_edition_56.2.2.2.2.2.2.2.1 rfl
theorem dX12_edition_69 : decode cX12_edition 69 = .ok (.iadd, 1) := dAt wdX12_edition_56 adX12_edition_56.2.2.2.2.2.2.2.2.1 rfl
theorem dX12_edition_70 : decode cX12_edition 70 = .ok (.iaload, 1) := dAt wdX12_edition_56 adX12_edition_56.2.2.2.2.2.2.2.2.2.1 rfl
theorem dX12_edition_71 : decode cX12_edition 71 = .ok (.iastore, 1) := dAt wdX12_edition_56 adX12_edition_56.2.2.2.2.2.2.2.2.2.2.1 rfl
theorem dX12_edition_72 : decode cX12_edition 72 = .ok (.iconst 0, 1) := dAt wdX12_edition_56 adX12_edition_56.2.2.2.2.2.2.2.2.2.2.2.1 rfl
theorem dX12_edition_73 : decode cX12_edition 73 = .ok (.istore_n 3, 1) := dAt wdX12_edition_56 adX12_edition_56.2.2.2.2.2.2.2.2.2.2.2.2.1 rfl
theorem dX12_edition_74 : decode cX12_edition 74 = .ok (.iload_n 3, 1) := dAt wdX12_edition_56 adX12_edition_56.2.2.2.2.2.2.2.2.2.2.2.2.2.1 rfl
theorem dX12_edition_75 : decode cX12_edition 75 = .ok (.aload_n 0, 1) := dAt wdX12_edition_56 adX12_edition_56.2.2.2.2.2.2.2.2.2.2.2.2.2.2.1 rfl
theorem dX12_edition_76 : decode cX12_edition 76 = .ok (.getfield 8, 3) := dAt wdX12_edition_56 adX12_edition_56.2.2.2.2.2.2.2.2.2.2.2.2.2.2.2 rfl
def bdX12_edition_79 : ByteArray := .mk #[18, 121, 17, 0, 185, 28, 104, 96, 5, 96, 46, 162, 0, 41, 42, 180, 0, 8, 42, 28, 27, 182, 1, 187, 4]
theorem wdX12_edition_79 : LocW cX12_edition 79 bdX12_edition_79 := loc_of (by decide +kernel)
theorem adX12_edition_79 : De bdX12_edition_79 0 (.ldc 121) 2 ∧ De bdX12_edition_79 2 (.sipush 185) 3 ∧ De bdX12_edition_79 5 (.iload_n 2) 1 ∧ De bdX12_edition_79 6 (.imul) 1 ∧ De bdX12_edition_79 7 (.iadd) 1 ∧ De bdX12_edition_79 8 (.iconst 2) 1 ∧ De bdX12_edition_79 9 (.iadd) 1 ∧ De bdX12_edition_79 10 (.iaload) 1 ∧ De bdX12_edition_79 11 (.if_icmp .ge 41) 3 ∧ De bdX12_edition_79 14 (.aload_n 0) 1 ∧ De bdX12_edition_79 15 (.getfield 8) 3 ∧ De bdX12_edition_79 18 (.aload_n 0) 1 ∧ De bdX12_edition_79 19 (.iload_n 2) 1 ∧ De bdX12_edition_79 20 (.iload_n 1) 1 ∧ De bdX12_edition_79 21 (.invokevirtual 443) 3 ∧ De bdX12_edition_79 24 (.iconst 1) 1 := by decide +kernel
theorem dX12_edition_79 : decode cX12_edition 79 = .ok (.ldc 121, 2) := dAt wdX12_edition_79 adX12_edition_79.1 rfl
theorem dX12_edition_81 : decode cX12_edition 81 = .ok (.sipush 185, 3) := dAt wdX12_edition_79 adX12_edition_79.2.1 rfl
theorem dX12_edition_84 : decode cX12_edition 84 = .ok (.iload_n 2, 1) := dAt wdX12_edition_79 adX12_edition_79.2.2.1 rfl
theorem dX12_edition_85 : decode cX12_edition 85 = .ok (.imul, 1) := dAt wdX12_edition_79 adX12_edition_79.2.2.2.1 rfl
theorem dX12_edition_86 : decode cX12_edition 86 = .ok (.iadd, 1) := dAt wdX12_edition_79 adX12_edition_79.2.2.2.2.1 rfl
theorem dX12_edition_87 : decode cX12_edition 87 = .ok (.iconst 2, 1) := dAt wdX12_edition_79 adX12_edition_79.2.2.2.2.2.1 rfl
theorem dX12_edition_88 : decode cX12_edition 88 = .ok (.iadd, 1) := dAt wdX12_edition_79 adX12_edition_79.2.2.2.2.2.2.1 rfl
theorem dX12_edition_89 : decode cX12_edition 89 = .ok (.iaload, 1) := dAt wdX12_edition_79 adX12_edition_79.2.2.2.2.2.2.2.1 rfl
theorem dX12_edition_90 : decode cX12_edition 90 = .ok (.if_icmp .ge 41, 3) := dAt wdX12_edition_79 adX12_edition_79.2.2.2.2.2.2.2.2.1 rfl
theorem dX12_edition_93 : decode cX12_edition 93 = .ok (.aload_n 0, 1) := dAt wdX12_edition_79 adX12_edition_79.2.2.2.2.2.2.2.2.2.1 rfl
theorem dX12_edition_94 : decode cX12_edition 94 = .ok (.getfield 8, 3) := dAt wdX12_edition_79 adX12_edition_79.2.2.2.2.2.2.2.2.2.2.1 rfl
theorem dX12_edition_97 : decode cX12_edition 97 = .ok (.aload_n 0, 1) := dAt wdX12_edition_79 adX12_edition_79.2.2.2.2.2.2.2.2.2.2.2.1 rfl
theorem dX12_edition_98 : decode cX12_edition 98 = .ok (.iload_n 2, 1) := dAt wdX12_edition_79 adX12_edition_79.2.2.2.2.2.2.2.2.2.2.2.2.1 rfl
theorem dX12_edition_99 : decode cX12_edition 99 = .ok (.iload_n 1, 1) := dAt wdX12_edition_79 adX12_edition_79.2.2.2.2.2.2.2.2.2.2.2.2.2.1 rfl
theorem dX12_edition_100 : decode cX12_edition 100 = .ok (.invokevirtual 443, 3) := dAt wdX12_edition_79 adX12_edition_79.2.2.2.2.2.2.2.2.2.2.2.2.2.2.1 rfl
theorem dX12_edition_103 : decode cX12_edition 103 = .ok (.iconst 1, 1) := dAt wdX12_edition_79 adX12_edition_79.2.2.2.2.2.2.2.2.2.2.2.2.2.2.2 rfl
def bdX12_edition_104 : ByteArray := .mk #[96, 29, 96, 42, 180, 0, 8, 18, 121, 17, 0, 185, 28, 104, 96, 8, 96, 29, 96, 46, 79]
theorem wdX12_edition_104 : LocW cX12_edition 104 bdX12_edition_104 := loc_of (by decide +kernel)
theorem adX12_edition_104 : De bdX12_edition_104 0 (.iadd) 1 ∧ De bdX12_edition_104 1 (.iload_n 3) 1 ∧ De bdX12_edition_104 2 (.iadd) 1 ∧ De bdX12_edition_104 3 (.aload_n 0) 1 ∧ De bdX12_edition_104 4 (.getfield 8) 3 ∧ De bdX12_edition_104 7 (.ldc 121) 2 ∧ De bdX12_edition_104 9 (.sipush 185) 3 ∧ De bdX12_edition_104 12 (.iload_n 2) 1 ∧ De bdX12_edition_104 13 (.imul) 1 ∧ De bdX12_edition_104 14 (.iadd) 1 ∧ De bdX12_edition_104 15 (.iconst 5) 1 ∧ De bdX12_edition_104 16 (.iadd) 1 ∧ De bdX12_edition_104 17 (.iload_n 3) 1 ∧ De bdX12_edition_104 18 (.iadd) 1 ∧ De bdX12_edition_104 19 (.iaload) 1 ∧ De bdX12_edition_104 20 (.iastore) 1 := by decide +kernel
theorem dX12_edition_104 : decode cX12_edition 104 = .ok (.iadd, 1) := dAt wdX12_edition_104 adX12_edition_104.1 rfl
theorem dX12_edition_105 : decode cX12_edition 105 = .ok (.iload_n 3, 1) := dAt wdX12_edition_104 adX12_edition_104.2.1 rfl
theorem dX12_edition_106 : decode cX12_edition 106 = .ok (.iadd, 1) := dAt wdX12_edition_104 adX12_edition_104.2.2.1 rfl
theorem dX12_edition_107 : decode cX12_edition 107 = .ok (.aload_n 0, 1) := dAt wdX12_edition_104 adX12_edition_104.2.2.2.1 rfl
theorem dX12_edition_108 : decode cX12_edition 108 = .ok (.getfield 8, 3) := dAt wdX12_edition_104 adX12_edition_104.2.2.2.2.1 rfl
theorem dX12_edition_111 : decode cX12_edition 111 = .ok (.ldc 121, 2) := dAt wdX12_edition_104 adX12_edition_104.2.2.2.2.2.1 rfl
theorem dX12_edition_113 : decode cX12_edition 113 = .ok (.sipush 185, 3) := dAt wdX12_edition_104 adX12_edition_104.2.2.2.2.2.2.1 rfl
theorem dX12_edition_116 : decode cX12_edition 116 = .ok (.iload_n 2, 1) := dAt wdX12_edition_104 adX12_edition_104.2.2.2.2.2.2.2.1 rfl
theorem dX12_edition_117 : decode cX12_edition 117 = .ok (.imul, 1) := dAt wdX12_edition_104 adX12_edition_104.2.2.2.2.2.2.2.2.1 rfl
theorem dX12_edition_118 : decode cX12_edition 118 = .ok (.iadd, 1) := dAt wdX12_edition_104 adX12_edition_104.2.2.2.2.2.2.2.2.2.1 rfl
theorem dX12_edition_119 : decode cX12_edition 119 = .ok (.iconst 5, 1) := dAt wdX12_edition_104 adX12_edition_104.2.2.2.2.2.2.2.2.2.2.1 rfl
theorem dX12_edition_120 : decode cX12_edition 120 = .ok (.iadd, 1) := dAt wdX12_edition_104 adX12_edition_104.2.2.2.2.2.2.2.2.2.2.2.1 rfl
theorem dX12_edition_121 : decode cX12_edition 121 = .ok (.iload_n 3, 1) := dAt wdX12_edition_104 adX12_edition_104.2.2.2.2.2.2.2.2.2.2.2.2.1 rfl
theorem dX12_edition_122 : decode cX12_edition 122 = .ok (.iadd, 1) := dAt wdX12_edition_104 adX12_edition_104.2.2.2.2.2.2.2.2.2.2.2.2.2.1 rfl
theorem dX12_edition_123 : decode cX12_edition 123 = .ok (.iaload, 1) := dAt wdX12_edition_104 adX12_edition_104.2.2.2.2.2.2.2.2.2.2.2.2.2.2.1 rfl
theorem dX12_edition_124 : decode cX12_edition 124 = .ok (.iastore, 1) := dAt wdX12_edition_104 adX12_edition_104.2.2.2.2.2.2.2.2.2.2.2.2.2.2.2 rfl
def bdX12_edition_125 : ByteArray := .mk #[132, 3, 1, 167, 255, 202, 132, 2, 1, 167, 255, 162, 42, 180, 0, 8, 16, 6, 92, 46, 4, 96, 79, 27, 172]
theorem wdX12_edition_125 : LocW cX12_edition 125 bdX12_edition_125 := loc_of (by decide +kernel)
theorem adX12_edition_125 : De bdX12_edition_125 0 (.iinc 3 1) 3 ∧ De bdX12_edition_125 3 (.goto (-54)) 3 ∧ De bdX12_edition_125 6 (.iinc 2 1) 3 ∧ De bdX12_edition_125 9 (.goto (-94)) 3 ∧ De bdX12_edition_125 12 (.aload_n 0) 1 ∧ De bdX12_edition_125 13 (.getfield 8) 3 ∧ De bdX12_edition_125 16 (.bipush 6) 2 ∧ De bdX12_edition_125 18 (.dup2) 1 ∧ De bdX12_edition_125 19 (.iaload) 1 ∧ De bdX12_edition_125 20 (.iconst 1) 1 ∧ De bdX12_edition_125 21 (.iadd) 1 ∧ De bdX12_edition_125 22 (.iastore) 1 ∧ De bdX12_edition_125 23 (.iload_n 1) 1 ∧ De bdX12_edition_125 24 (.ireturn) 1 := by decide +kernel
theorem dX12_edition_125 : decode cX12_edition 125 = .ok (.iinc 3 1, 3) := dAt wdX12_edition_125 adX12_edition_125.1 rfl
theorem dX12_edition_128 : decode cX12_edition 128 = .ok (.goto (-54), 3) := dAt wdX12_edition_125 adX12_edition_125.2.1 rfl
theorem dX12_edition_131 : decode cX12_edition 131 = .ok (.iinc 2 1, 3) := dAt wdX12_edition_125 adX12_edition_125.2.2.1 rfl
theorem dX12_edition_134 : decode cX12_edition 134 = .ok (.goto (-94), 3) := dAt wdX12_edition_125 adX12_edition_125.2.2.2.1 rfl
theorem dX12_edition_137 : decode cX12_edition 137 = .ok (.aload_n 0, 1) := dAt wdX12_edition_125 adX12_edition_125.2.2.2.2.1 rfl
theorem dX12_edition_138 : decode cX12_edition 138 = .ok (.getfield 8, 3) := dAt wdX12_edition_125 adX12_edition_125.2.2.2.2.2.1 rfl
theorem dX12_edition_141 : decode cX12_edition 141 = .ok (.bipush 6, 2) := dAt wdX12_edition_125 adX12_edition_125.2.2.2.2.2.2.1 rfl
theorem dX12_edition_143 : decode cX12_edition 143 = .ok (.dup2, 1) := dAt wdX12_edition_125 adX12_edition_125.2.2.2.2.2.2.2.1 rfl
theorem dX12_edition_144 : decode cX12_edition 144 = .ok (.iaload, 1) := dAt wdX12_edition_125 adX12_edition_125.2.2.2.2.2.2.2.2.1 rfl
theorem dX12_edition_145 : decode cX12_edition 145 = .ok (.iconst 1, 1) := dAt wdX12_edition_125 adX12_edition_125.2.2.2.2.2.2.2.2.2.1 rfl
theorem dX12_edition_146 : decode cX12_edition 146 = .ok (.iadd, 1) := dAt wdX12_edition_125 adX12_edition_125.2.2.2.2.2.2.2.2.2.2.1 rfl
theorem dX12_edition_147 : decode cX12_edition 147 = .ok (.iastore, 1) := dAt wdX12_edition_125 adX12_edition_125.2.2.2.2.2.2.2.2.2.2.2.1 rfl
theorem dX12_edition_148 : decode cX12_edition 148 = .ok (.iload_n 1, 1) := dAt wdX12_edition_125 adX12_edition_125.2.2.2.2.2.2.2.2.2.2.2.2.1 rfl
theorem dX12_edition_149 : decode cX12_edition 149 = .ok (.ireturn, 1) := dAt wdX12_edition_125 adX12_edition_125.2.2.2.2.2.2.2.2.2.2.2.2.2 rfl
def bdX12_changed_0 : ByteArray := .mk #[42, 27, 184, 1, 162, 153, 0, 19, 42, 28, 182, 1, 190, 153, 0, 11, 42, 29, 182, 1, 190, 154, 0, 7, 4, 167, 0, 4, 3, 181, 0, 122]
theorem wdX12_changed_0 : LocW cX12_changed 0 bdX12_changed_0 := loc_of (by decide +kernel)
theorem adX12_changed_0 : De bdX12_changed_0 0 (.aload_n 0) 1 ∧ De bdX12_changed_0 1 (.iload_n 1) 1 ∧ De bdX12_changed_0 2 (.invokestatic 418) 3 ∧ De bdX12_changed_0 5 (.ifCond .eq 19) 3 ∧ De bdX12_changed_0 8 (.aload_n 0) 1 ∧ De bdX12_changed_0 9 (.iload_n 2) 1 ∧ De bdX12_changed_0 10 (.invokevirtual 446) 3 ∧ De bdX12_changed_0 13 (.ifCond .eq 11) 3 ∧ De bdX12_changed_0 16 (.aload_n 0) 1 ∧ De bdX12_changed_0 17 (.iload_n 3) 1 ∧ De bdX12_changed_0 18 (.invokevirtual 446) 3 ∧ De bdX12_changed_0 21 (.ifCond .ne 7) 3 ∧ De bdX12_changed_0 24 (.iconst 1) 1 ∧ De bdX12_changed_0 25 (.goto 4) 3 ∧ De bdX12_changed_0 28 (.iconst 0) 1 ∧ De bdX12_changed_0 29 (.putfield 122) 3 := by decide +kernel
theorem dX12_changed_0 : decode cX12_changed 0 = .ok (.aload_n 0, 1) := dAt wdX12_changed_0 adX12_changed_0.1 rfl
theorem dX12_changed_1 : decode cX12_changed 1 = .ok (.iload_n 1, 1) := dAt wdX12_changed_0 adX12_changed_0.2.1 rfl
theorem dX12_changed_2 : decode cX12_changed 2 = .ok (.invokestatic 418, 3) := dAt wdX12_changed_0 adX12_changed_0.2.2.1 rfl
theorem dX12_changed_5 : decode cX12_changed 5 = .ok (.ifCond .eq 19, 3) := dAt wdX12_changed_0 adX12_changed_0.2.2.2.1 rfl
theorem dX12_changed_8 : decode cX12_changed 8 = .ok (.aload_n 0, 1) := dAt wdX12_changed_0 adX12_changed_0.2.2.2.2.1 rfl
theorem dX12_changed_9 : decode cX12_changed 9 = .ok (.iload_n 2, 1) := dAt wdX12_changed_0 adX12_changed_0.2.2.2.2.2.1 rfl
theorem dX12_changed_10 : decode cX12_changed 10 = .ok (.invokevirtual 446, 3) := dAt wdX12_changed_0 adX12_changed_0.2.2.2.2.2.2.1 rfl
theorem dX12_changed_13 : decode cX12_changed 13 = .ok (.ifCond .eq 11, 3) := dAt wdX12_changed_0 adX12_changed_0.2.2.2.2.2.2.2.1 rfl
theorem dX12_changed_16 : decode cX12_changed 16 = .ok (.aload_n 0, 1) := dAt wdX12_changed_0 adX12_changed_0.2.2.2.2.2.2.2.2.1 rfl
theorem dX12_changed_17 : decode cX12_changed 17 = .ok (.iload_n 3, 1) := dAt wdX12_changed_0 adX12_changed_0.2.2.2.2.2.2.2.2.2.1 rfl
theorem dX12_changed_18 : decode cX12_changed 18 = .ok (.invokevirtual 446, 3) := dAt wdX12_changed_0 adX12_changed_0.2.2.2.2.2.2.2.2.2.2.1 rfl
theorem dX12_changed_21 : decode cX12_changed 21 = .ok (.ifCond .ne 7, 3) := dAt wdX12_changed_0 adX12_changed_0.2.2.2.2.2.2.2.2.2.2.2.1 rfl
theorem dX12_changed_24 : decode cX12_changed 24 = .ok (.iconst 1, 1) := dAt wdX12_changed_0 adX12_changed_0.2.2.2.2.2.2.2.2.2.2.2.2.1 rfl
theorem dX12_changed_25 : decode cX12_changed 25 = .ok (.goto 4, 3) := dAt wdX12_changed_0 adX12_changed_0.2.2.2.2.2.2.2.2.2.2.2.2.2.1 rfl
theorem dX12_changed_28 : decode cX12_changed 28 = .ok (.iconst 0, 1) := dAt wdX12_changed_0 adX12_changed_0.2.2.2.2.2.2.2.2.2.2.2.2.2.2.1 rfl
theorem dX12_changed_29 : decode cX12_changed 29 = .ok (.putfield 122, 3) := dAt wdX12_changed_0 adX12_changed_0.2.2.2.2.2.2.2.2.2.2.2.2.2.2.2 rfl
def bdX12_changed_32 : ByteArray := .mk #[42, 180, 0, 122, 158, 0, 5, 3, 172, 3, 54, 4, 3, 54, 5, 21, 5, 42, 27, 29, 182, 1, 193, 162, 0, 78, 3]
theorem wdX12_changed_32 : LocW cX12_changed 32 bdX12_changed_32 := loc_of (by decide +kernel)
theorem adX12_changed_32 : De bdX12_changed_32 0 (.aload_n 0) 1 ∧ De bdX12_changed_32 1 (.getfield 122) 3 ∧ De bdX12_changed_32 4 (.ifCond .le 5) 3 ∧ De bdX12_changed_32 7 (.iconst 0) 1 ∧ De bdX12_changed_32 8 (.ireturn) 1 ∧ De bdX12_changed_32 9 (.iconst 0) 1 ∧ De bdX12_changed_32 10 (.istore 4) 2 ∧ De bdX12_changed_32 12 (.iconst 0) 1 ∧ De bdX12_changed_32 13 (.istore 5) 2 ∧ De bdX12_changed_32 15 (.iload 5) 2 ∧ De bdX12_changed_32 17 (.aload_n 0) 1 ∧ De bdX12_changed_32 18 (.iload_n 1) 1 ∧ De bdX12_changed_32 19 (.iload_n 3) 1 ∧ De bdX12_changed_32 20 (.invokevirtual 449) 3 ∧ De bdX12_changed_32 23 (.if_icmp .ge 78) 3 ∧ De bdX12_changed_32 26 (.iconst 0) 1 := by decide +kernel
theorem dX12_changed_32 : decode cX12_changed 32 = .ok (.aload_n 0, 1) := dAt wdX12_changed_32 adX12_changed_32.1 rfl
theorem dX12_changed_33 : decode cX12_changed 33 = .ok (.getfield 122, 3) := dAt wdX12_changed_32 adX12_changed_32.2.1 rfl
theorem dX12_changed_36 : decode cX12_changed 36 = .ok (.ifCond .le 5, 3) := dAt wdX12_changed_32 adX12_changed_32.2.2.1 rfl
theorem dX12_changed_39 : decode cX12_changed 39 = .ok (.iconst 0, 1) := dAt wdX12_changed_32 adX12_changed_32.2.2.2.1 rfl
theorem dX12_changed_40 : decode cX12_changed 40 = .ok (.ireturn, 1) := dAt wdX12_changed_32 adX12_changed_32.2.2.2.2.1 rfl
theorem dX12_changed_41 : decode cX12_changed 41 = .ok (.iconst 0, 1) := dAt wdX12_changed_32 adX12_changed_32.2.2.2.2.2.1 rfl
theorem dX12_changed_42 : decode cX12_changed 42 = .ok (.istore 4, 2) := dAt wdX12_changed_32 adX12_changed_32.2.2.2.2.2.2.1 rfl
theorem dX12_changed_44 : decode cX12_changed 44 = .ok (.iconst 0, 1) := dAt wdX12_changed_32 adX12_changed_32.2.2.2.2.2.2.2.1 rfl
theorem dX12_changed_45 : decode cX12_changed 45 = .ok (.istore 5, 2) := dAt wdX12_changed_32 adX12_changed_32.2.2.2.2.2.2.2.2.1 rfl
theorem dX12_changed_47 : decode cX12_changed 47 = .ok (.iload 5, 2) := dAt wdX12_changed_32 adX12_changed_32.2.2.2.2.2.2.2.2.2.1 rfl
theorem dX12_changed_49 : decode cX12_changed 49 = .ok (.aload_n 0, 1) := dAt wdX12_changed_32 adX12_changed_32.2.2.2.2.2.2.2.2.2.2.1 rfl
theorem dX12_changed_50 : decode cX12_changed 50 = .ok (.iload_n 1, 1) := dAt wdX12_changed_32 adX12_changed_32.2.2.2.2.2.2.2.2.2.2.2.1 rfl
theorem dX12_changed_51 : decode cX12_changed 51 = .ok (.iload_n 3, 1) := dAt wdX12_changed_32 adX12_changed_32.2.2.2.2.2.2.2.2.2.2.2.2.1 rfl
theorem dX12_changed_52 : decode cX12_changed 52 = .ok (.invokevirtual 449, 3) := dAt wdX12_changed_32 adX12_changed_32.2.2.2.2.2.2.2.2.2.2.2.2.2.1 rfl
theorem dX12_changed_55 : decode cX12_changed 55 = .ok (.if_icmp .ge 78, 3) := dAt wdX12_changed_32 adX12_changed_32.2.2.2.2.2.2.2.2.2.2.2.2.2.2.1 rfl
theorem dX12_changed_58 : decode cX12_changed 58 = .ok (.iconst 0, 1) := dAt wdX12_changed_32 adX12_changed_32.2.2.2.2.2.2.2.2.2.2.2.2.2.2.2 rfl
def bdX12_changed_59 : ByteArray := .mk #[54, 6, 3, 54, 7, 21, 7, 42, 27, 28, 182, 1, 193, 162, 0, 40, 21, 6, 154, 0, 22, 42, 27, 28, 21, 7, 182, 1, 196]
theorem wdX12_changed_59 : LocW cX12_changed 59 bdX12_changed_59 := loc_of (by decide +kernel)
theorem adX12_changed_59 : De bdX12_changed_59 0 (.istore 6) 2 ∧ De bdX12_changed_59 2 (.iconst 0) 1 ∧ De bdX12_changed_59 3 (.istore 7) 2 ∧ De bdX12_changed_59 5 (.iload 7) 2 ∧ De bdX12_changed_59 7 (.aload_n 0) 1 ∧ De bdX12_changed_59 8 (.iload_n 1) 1 ∧ De bdX12_changed_59 9 (.iload_n 2) 1 ∧ De bdX12_changed_59 10 (.invokevirtual 449) 3 ∧ De bdX12_changed_59 13 (.if_icmp .ge 40) 3 ∧ De bdX12_changed_59 16 (.iload 6) 2 ∧ De bdX12_changed_59 18 (.ifCond .ne 22) 3 ∧ De bdX12_changed_59 21 (.aload_n 0) 1 ∧ De bdX12_changed_59 22 (.iload_n 1) 1 ∧ De bdX12_changed_59 23 (.iload_n 2) 1 ∧ De bdX12_changed_59 24 (.iload 7) 2 ∧ De bdX12_changed_59 26 (.invokevirtual 452) 3 := by decide +kernel
theorem dX12_changed_59 : decode cX12_changed 59 = .ok (.istore 6, 2) := dAt wdX12_changed_59 adX12_changed_59.1 rfl
theorem dX12_changed_61 : decode cX12_changed 61 = .ok (.iconst 0, 1) := dAt wdX12_changed_59 adX12_changed_59.2.1 rfl
theorem dX12_changed_62 : decode cX12_changed 62 = .ok (.istore 7, 2) := dAt wdX12_changed_59 adX12_changed_59.2.2.1 rfl
theorem dX12_changed_64 : decode cX12_changed 64 = .ok (.iload 7, 2) := dAt wdX12_changed_59 adX12_changed_59.2.2.2.1 rfl
theorem dX12_changed_66 : decode cX12_changed 66 = .ok (.aload_n 0, 1) := dAt wdX12_changed_59 adX12_changed_59.2.2.2.2.1 rfl
theorem dX12_changed_67 : decode cX12_changed 67 = .ok (.iload_n 1, 1) := dAt wdX12_changed_59 adX12_changed_59.2.2.2.2.2.1 rfl
theorem dX12_changed_68 : decode cX12_changed 68 = .ok (.iload_n 2, 1) := dAt wdX12_changed_59 adX12_changed_59.2.2.2.2.2.2.1 rfl
theorem dX12_changed_69 : decode cX12_changed 69 = .ok (.invokevirtual 449, 3) := dAt wdX12_changed_59 adX12_changed_59.2.2.2.2.2.2.2.1 rfl
theorem dX12_changed_72 : decode cX12_changed 72 = .ok (.if_icmp .ge 40, 3) := dAt wdX12_changed_59 adX12_changed_59.2.2.2.2.2.2.2.2.1 rfl
theorem dX12_changed_75 : decode cX12_changed 75 = .ok (.iload 6, 2) := dAt wdX12_changed_59 adX12_changed_59.2.2.2.2.2.2.2.2.2.1 rfl
theorem dX12_changed_77 : decode cX12_changed 77 = .ok (.ifCond .ne 22, 3) := dAt wdX12_changed_59 adX12_changed_59.2.2.2.2.2.2.2.2.2.2.1 rfl
theorem dX12_changed_80 : decode cX12_changed 80 = .ok (.aload_n 0, 1) := dAt wdX12_changed_59 adX12_changed_59.2.2.2.2.2.2.2.2.2.2.2.1 rfl
theorem dX12_changed_81 : decode cX12_changed 81 = .ok (.iload_n 1, 1) := dAt wdX12_changed_59 adX12_changed_59.2.2.2.2.2.2.2.2.2.2.2.2.1 rfl
theorem dX12_changed_82 : decode cX12_changed 82 = .ok (.iload_n 2, 1) := dAt wdX12_changed_59 adX12_changed_59.2.2.2.2.2.2.2.2.2.2.2.2.2.1 rfl
theorem dX12_changed_83 : decode cX12_changed 83 = .ok (.iload 7, 2) := dAt wdX12_changed_59 adX12_changed_59.2.2.2.2.2.2.2.2.2.2.2.2.2.2.1 rfl
theorem dX12_changed_85 : decode cX12_changed 85 = .ok (.invokevirtual 452, 3) := dAt wdX12_changed_59 adX12_changed_59.2.2.2.2.2.2.2.2.2.2.2.2.2.2.2 rfl
def bdX12_changed_88 : ByteArray := .mk #[42, 27, 29, 21, 5, 182, 1, 196, 160, 0, 7, 4, 167, 0, 4, 3, 54, 6, 132, 7, 1, 167, 255, 211, 21, 4, 21, 6, 153, 0, 7, 3]
theorem wdX12_changed_88 : LocW cX12_changed 88 bdX12_changed_88 := loc_of (by decide +kernel)
theorem adX12_changed_88 : De bdX12_changed_88 0 (.aload_n 0) 1 ∧ De bdX12_changed_88 1 (.iload_n 1) 1 ∧ De bdX12_changed_88 2 (.iload_n 3) 1 ∧ De bdX12_changed_88 3 (.iload 5) 2 ∧ De bdX12_changed_88 5 (.invokevirtual 452) 3 ∧ De bdX12_changed_88 8 (.if_icmp .ne 7) 3 ∧ De bdX12_changed_88 11 (.iconst 1) 1 ∧ De bdX12_changed_88 12 (.goto 4) 3 ∧ De bdX12_changed_88 15 (.iconst 0) 1 ∧ De bdX12_changed_88 16 (.istore 6) 2 ∧ De bdX12_changed_88 18 (.iinc 7 1) 3 ∧ De bdX12_changed_88 21 (.goto (-45)) 3 ∧ De bdX12_changed_88 24 (.iload 4) 2 ∧ De bdX12_changed_88 26 (.iload 6) 2 ∧ De bdX12_changed_88 28 (.ifCond .eq 7) 3 ∧ De bdX12_changed_88 31 (.iconst 0) 1 := by decide +kernel
theorem dX12_changed_88 : decode cX12_changed 88 = .ok (.aload_n 0, 1) := dAt wdX12_changed_88 adX12_changed_88.1 rfl
theorem dX12_changed_89 : decode cX12_changed 89 = .ok (.iload_n 1, 1) := dAt wdX12_changed_88 adX12_changed_88.2.1 rfl
theorem dX12_changed_90 : decode cX12_changed 90 = .ok (.iload_n 3, 1) := dAt wdX12_changed_88 adX12_changed_88.2.2.1 rfl
theorem dX12_changed_91 : decode cX12_changed 91 = .ok (.iload 5, 2) := dAt wdX12_changed_88 adX12_changed_88.2.2.2.1 rfl
theorem dX12_changed_93 : decode cX12_changed 93 = .ok (.invokevirtual 452, 3) := dAt wdX12_changed_88 adX12_changed_88.2.2.2.2.1 rfl
theorem dX12_changed_96 : decode cX12_changed 96 = .ok (.if_icmp .ne 7, 3) := dAt wdX12_changed_88 adX12_changed_88.2.2.2.2.2.1 rfl
theorem dX12_changed_99 : decode cX12_changed 99 = .ok (.iconst 1, 1) := dAt wdX12_changed_88 adX12_changed_88.2.2.2.2.2.2.1 rfl
theorem dX12_changed_100 : decode cX12_changed 100 = .ok (.goto 4, 3) := dAt wdX12_changed_88 adX12_changed_88.2.2.2.2.2.2.2.1 rfl
theorem dX12_changed_103 : decode cX12_changed 103 = .ok (.iconst 0, 1) := dAt wdX12_changed_88 adX12_changed_88.2.2.2.2.2.2.2.2.1 rfl
theorem dX12_changed_104 : decode cX12_changed 104 = .ok (.istore 6, 2) := dAt wdX12_changed_88 adX12_changed_88.2.2.2.2.2.2.2.2.2.1 rfl
theorem dX12_changed_106 : decode cX12_changed 106 = .ok (.iinc 7 1, 3) := dAt wdX12_changed_88 adX12_changed_88.2.2.2.2.2.2.2.2.2.2.1 rfl
theorem dX12_changed_109 : decode cX12_changed 109 = .ok (.goto (-45), 3) := dAt wdX12_changed_88 adX12_changed_88.2.2.2.2.2.2.2.2.2.2.2.1 rfl
theorem dX12_changed_112 : decode cX12_changed 112 = .ok (.iload 4, 2) := dAt wdX12_changed_88 adX12_changed_88.2.2.2.2.2.2.2.2.2.2.2.2.1 rfl
theorem dX12_changed_114 : decode cX12_changed 114 = .ok (.iload 6, 2) := dAt wdX12_changed_88 adX12_changed_88.2.2.2.2.2.2.2.2.2.2.2.2.2.1 rfl
theorem dX12_changed_116 : decode cX12_changed 116 = .ok (.ifCond .eq 7, 3) := dAt wdX12_changed_88 adX12_changed_88.2.2.2.2.2.2.2.2.2.2.2.2.2.2.1 rfl
theorem dX12_changed_119 : decode cX12_changed 119 = .ok (.iconst 0, 1) := dAt wdX12_changed_88 adX12_changed_88.2.2.2.2.2.2.2.2.2.2.2.2.2.2.2 rfl
def bdX12_changed_120 : ByteArray := .mk #[167, 0, 4, 4, 96, 54, 4, 132, 5, 1, 167, 255, 173, 21, 4, 172]
theorem wdX12_changed_120 : LocW cX12_changed 120 bdX12_changed_120 := loc_of (by decide +kernel)
theorem adX12_changed_120 : De bdX12_changed_120 0 (.goto 4) 3 ∧ De bdX12_changed_120 3 (.iconst 1) 1 ∧ De bdX12_changed_120 4 (.iadd) 1 ∧ De bdX12_changed_120 5 (.istore 4) 2 ∧ De bdX12_changed_120 7 (.iinc 5 1) 3 ∧ De bdX12_changed_120 10 (.goto (-83)) 3 ∧ De bdX12_changed_120 13 (.iload 4) 2 ∧ De bdX12_changed_120 15 (.ireturn) 1 := by decide +kernel
theorem dX12_changed_120 : decode cX12_changed 120 = .ok (.goto 4, 3) := dAt wdX12_changed_120 adX12_changed_120.1 rfl
theorem dX12_changed_123 : decode cX12_changed 123 = .ok (.iconst 1, 1) := dAt wdX12_changed_120 adX12_changed_120.2.1 rfl
theorem dX12_changed_124 : decode cX12_changed 124 = .ok (.iadd, 1) := dAt wdX12_changed_120 adX12_changed_120.2.2.1 rfl
theorem dX12_changed_125 : decode cX12_changed 125 = .ok (.istore 4, 2) := dAt wdX12_changed_120 adX12_changed_120.2.2.2.1 rfl
theorem dX12_changed_127 : decode cX12_changed 127 = .ok (.iinc 5 1, 3) := dAt wdX12_changed_120 adX12_changed_120.2.2.2.2.1 rfl
theorem dX12_changed_130 : decode cX12_changed 130 = .ok (.goto (-83), 3) := dAt wdX12_changed_120 adX12_changed_120.2.2.2.2.2.1 rfl
theorem dX12_changed_133 : decode cX12_changed 133 = .ok (.iload 4, 2) := dAt wdX12_changed_120 adX12_changed_120.2.2.2.2.2.2.1 rfl
theorem dX12_changed_135 : decode cX12_changed 135 = .ok (.ireturn, 1) := dAt wdX12_changed_120 adX12_changed_120.2.2.2.2.2.2.2 rfl
def bdX12_queueLines_0 : ByteArray := .mk #[27, 184, 1, 104, 61, 3, 62, 3, 54, 4, 21, 4, 42, 180, 0, 8, 28, 16, 29, 96, 46, 162, 0, 147, 28]
theorem wdX12_queueLines_0 : LocW cX12_queueLines 0 bdX12_queueLines_0 := loc_of (by decide +kernel)
theorem adX12_queueLines_0 : De bdX12_queueLines_0 0 (.iload_n 1) 1 ∧ De bdX12_queueLines_0 1 (.invokestatic 360) 3 ∧ De bdX12_queueLines_0 4 (.istore_n 2) 1 ∧ De bdX12_queueLines_0 5 (.iconst 0) 1 ∧ De bdX12_queueLines_0 6 (.istore_n 3) 1 ∧ De bdX12_queueLines_0 7 (.iconst 0) 1 ∧ De bdX12_queueLines_0 8 (.istore 4) 2 ∧ De bdX12_queueLines_0 10 (.iload 4) 2 ∧ De bdX12_queueLines_0 12 (.aload_n 0) 1 ∧ De bdX12_queueLines_0 13 (.getfield 8) 3 ∧ De bdX12_queueLines_0 16 (.iload_n 2) 1 ∧ De bdX12_queueLines_0 17 (.bipush 29) 2 ∧ De bdX12_queueLines_0 19 (.iadd) 1 ∧ De bdX12_queueLines_0 20 (.iaload) 1 ∧ De bdX12_queueLines_0 21 (.if_icmp .ge 147) 3 ∧ De bdX12_queueLines_0 24 (.iload_n 2) 1 := by decide +kernel
theorem dX12_queueLines_0 : decode cX12_queueLines 0 = .ok (.iload_n 1, 1) := dAt wdX12_queueLines_0 adX12_queueLines_0.1 rfl
theorem dX12_queueLines_1 : decode cX12_queueLines 1 = .ok (.invokestatic 360, 3) := dAt wdX12_queueLines_0 adX12_queueLines_0.2.1 rfl
theorem dX12_queueLines_4 : decode cX12_queueLines 4 = .ok (.istore_n 2, 1) := dAt wdX12_queueLines_0 adX12_queueLines_0.2.2.1 rfl
theorem dX12_queueLines_5 : decode cX12_queueLines 5 = .ok (.iconst 0, 1) := dAt wdX12_queueLines_0 adX12_queueLines_0.2.2.2.1 rfl
theorem dX12_queueLines_6 : decode cX12_queueLines 6 = .ok (.istore_n 3, 1) := dAt wdX12_queueLines_0 adX12_queueLines_0.2.2.2.2.1 rfl
theorem dX12_queueLines_7 : decode cX12_queueLines 7 = .ok (.iconst 0, 1) := dAt wdX12_queueLines_0 adX12_queueLines_0.2.2.2.2.2.1 rfl
theorem dX12_queueLines_8 : decode cX12_queueLines 8 = .ok (.istore 4, 2) := dAt wdX12_queueLines_0 adX12_queueLines_0.2.2.2.2.2.2.1 rfl
theorem dX12_queueLines_10 : decode cX12_queueLines 10 = .ok (.iload 4, 2) := dAt wdX12_queueLines_0 adX12_queueLines_0.2.2.2.2.2.2.2.1 rfl
theorem dX12_queueLines_12 : decode cX12_queueLines 12 = .ok (.aload_n 0, 1) := dAt wdX12_queueLines_0 adX12_queueLines_0.2.2.2.2.2.2.2.2.1 rfl
theorem dX12_queueLines_13 : decode cX12_queueLines 13 = .ok (.getfield 8, 3) := dAt wdX12_queueLines_0 adX12_queueLines_0.2.2.2.2.2.2.2.2.2.1 rfl
theorem dX12_queueLines_16 : decode cX12_queueLines 16 = .ok (.iload_n 2, 1) := dAt wdX12_queueLines_0 adX12_queueLines_0.2.2.2.2.2.2.2.2.2.2.1 rfl
theorem dX12_queueLines_17 : decode cX12_queueLines 17 = .ok (.bipush 29, 2) := dAt wdX12_queueLines_0 adX12_queueLines_0.2.2.2.2.2.2.2.2.2.2.2.1 rfl
theorem dX12_queueLines_19 : decode cX12_queueLines 19 = .ok (.iadd, 1) := dAt wdX12_queueLines_0 adX12_queueLines_0.2.2.2.2.2.2.2.2.2.2.2.2.1 rfl
theorem dX12_queueLines_20 : decode cX12_queueLines 20 = .ok (.iaload, 1) := dAt wdX12_queueLines_0 adX12_queueLines_0.2.2.2.2.2.2.2.2.2.2.2.2.2.1 rfl
theorem dX12_queueLines_21 : decode cX12_queueLines 21 = .ok (.if_icmp .ge 147, 3) := dAt wdX12_queueLines_0 adX12_queueLines_0.2.2.2.2.2.2.2.2.2.2.2.2.2.2.1 rfl
theorem dX12_queueLines_24 : decode cX12_queueLines 24 = .ok (.iload_n 2, 1) := dAt wdX12_queueLines_0 adX12_queueLines_0.2.2.2.2.2.2.2.2.2.2.2.2.2.2.2 rfl
def bdX12_queueLines_25 : ByteArray := .mk #[16, 33, 96, 8, 21, 4, 104, 96, 54, 5, 42, 180, 0, 8, 21, 5, 46, 184, 0, 164, 54, 6, 42, 180, 0, 8, 21, 5]
theorem wdX12_queueLines_25 : LocW cX12_queueLines 25 bdX12_queueLines_25 := loc_of (by decide +kernel)
theorem adX12_queueLines_25 : De bdX12_queueLines_25 0 (.bipush 33) 2 ∧ De bdX12_queueLines_25 2 (.iadd) 1 ∧ De bdX12_queueLines_25 3 (.iconst 5) 1 ∧ De bdX12_queueLines_25 4 (.iload 4) 2 ∧ De bdX12_queueLines_25 6 (.imul) 1 ∧ De bdX12_queueLines_25 7 (.iadd) 1 ∧ De bdX12_queueLines_25 8 (.istore 5) 2 ∧ De bdX12_queueLines_25 10 (.aload_n 0) 1 ∧ De bdX12_queueLines_25 11 (.getfield 8) 3 ∧ De bdX12_queueLines_25 14 (.iload 5) 2 ∧ De bdX12_queueLines_25 16 (.iaload) 1 ∧ De bdX12_queueLines_25 17 (.invokestatic 164) 3 ∧ De bdX12_queueLines_25 20 (.istore 6) 2 ∧ De bdX12_queueLines_25 22 (.aload_n 0) 1 ∧ De bdX12_queueLines_25 23 (.getfield 8) 3 ∧ De bdX12_queueLines_25 26 (.iload 5) 2 := by decide +kernel
theorem dX12_queueLines_25 : decode cX12_queueLines 25 = .ok (.bipush 33, 2) := dAt wdX12_queueLines_25 adX12_queueLines_25.1 rfl
theorem dX12_queueLines_27 : decode cX12_queueLines 27 = .ok (.iadd, 1) := dAt wdX12_queueLines_25 adX12_queueLines_25.2.1 rfl
theorem dX12_queueLines_28 : decode cX12_queueLines 28 = .ok (.iconst 5, 1) := dAt wdX12_queueLines_25 adX12_queueLines_25.2.2.1 rfl
theorem dX12_queueLines_29 : decode cX12_queueLines 29 = .ok (.iload 4, 2) := dAt wdX12_queueLines_25 adX12_queueLines_25.2.2.2.1 rfl
theorem dX12_queueLines_31 : decode cX12_queueLines 31 = .ok (.imul, 1) := dAt wdX12_queueLines_25 adX12_queueLines_25.2.2.2.2.1 rfl
theorem dX12_queueLines_32 : decode cX12_queueLines 32 = .ok (.iadd, 1) := dAt wdX12_queueLines_25 adX12_queueLines_25.2.2.2.2.2.1 rfl
theorem dX12_queueLines_33 : decode cX12_queueLines 33 = .ok (.istore 5, 2) := dAt wdX12_queueLines_25 adX12_queueLines_25.2.2.2.2.2.2.1 rfl
theorem dX12_queueLines_35 : decode cX12_queueLines 35 = .ok (.aload_n 0, 1) := dAt wdX12_queueLines_25 adX12_queueLines_25.2.2.2.2.2.2.2.1 rfl
theorem dX12_queueLines_36 : decode cX12_queueLines 36 = .ok (.getfield 8, 3) := dAt wdX12_queueLines_25 adX12_queueLines_25.2.2.2.2.2.2.2.2.1 rfl
theorem dX12_queueLines_39 : decode cX12_queueLines 39 = .ok (.iload 5, 2) := dAt wdX12_queueLines_25 adX12_queueLines_25.2.2.2.2.2.2.2.2.2.1 rfl
theorem dX12_queueLines_41 : decode cX12_queueLines 41 = .ok (.iaload, 1) := dAt wdX12_queueLines_25 adX12_queueLines_25.2.2.2.2.2.2.2.2.2.2.1 rfl
theorem dX12_queueLines_42 : decode cX12_queueLines 42 = .ok (.invokestatic 164, 3) := dAt wdX12_queueLines_25 adX12_queueLines_25.2.2.2.2.2.2.2.2.2.2.2.1 rfl
theorem dX12_queueLines_45 : decode cX12_queueLines 45 = .ok (.istore 6, 2) := dAt wdX12_queueLines_25 adX12_queueLines_25.2.2.2.2.2.2.2.2.2.2.2.2.1 rfl
theorem dX12_queueLines_47 : decode cX12_queueLines 47 = .ok (.aload_n 0, 1) := dAt wdX12_queueLines_25 adX12_queueLines_25.2.2.2.2.2.2.2.2.2.2.2.2.2.1 rfl
theorem dX12_queueLines_48 : decode cX12_queueLines 48 = .ok (.getfield 8, 3) := dAt wdX12_queueLines_25 adX12_queueLines_25.2.2.2.2.2.2.2.2.2.2.2.2.2.2.1 rfl
theorem dX12_queueLines_51 : decode cX12_queueLines 51 = .ok (.iload 5, 2) := dAt wdX12_queueLines_25 adX12_queueLines_25.2.2.2.2.2.2.2.2.2.2.2.2.2.2.2 rfl
def bdX12_queueLines_53 : ByteArray := .mk #[7, 96, 46, 154, 0, 28, 29, 42, 180, 0, 8, 21, 5, 5, 96, 46, 42, 180, 0, 8, 21, 5, 4, 96]
theorem wdX12_queueLines_53 : LocW cX12_queueLines 53 bdX12_queueLines_53 := loc_of (by decide +kernel)
theorem adX12_queueLines_53 : De bdX12_queueLines_53 0 (.iconst 4) 1 ∧ De bdX12_queueLines_53 1 (.iadd) 1 ∧ De bdX12_queueLines_53 2 (.iaload) 1 ∧ De bdX12_queueLines_53 3 (.ifCond .ne 28) 3 ∧ De bdX12_queueLines_53 6 (.iload_n 3) 1 ∧ De bdX12_queueLines_53 7 (.aload_n 0) 1 ∧ De bdX12_queueLines_53 8 (.getfield 8) 3 ∧ De bdX12_queueLines_53 11 (.iload 5) 2 ∧ De bdX12_queueLines_53 13 (.iconst 2) 1 ∧ De bdX12_queueLines_53 14 (.iadd) 1 ∧ De bdX12_queueLines_53 15 (.iaload) 1 ∧ De bdX12_queueLines_53 16 (.aload_n 0) 1 ∧ De bdX12_queueLines_53 17 (.getfield 8) 3 ∧ De bdX12_queueLines_53 20 (.iload 5) 2 ∧ De bdX12_queueLines_53 22 (.iconst 1) 1 ∧ De bdX12_queueLines_53 23 (.iadd) 1 := by decide +kernel
theorem dX12_queueLines_53 : decode cX12_queueLines 53 = .ok (.iconst 4, 1) := dAt wdX12_queueLines_53 adX12_queueLines_53.1 rfl
theorem dX12_queueLines_54 : decode cX12_queueLines 54 = .ok (.iadd, 1) := dAt wdX12_queueLines_53 adX12_queueLines_53.2.1 rfl
theorem dX12_queueLines_55 : decode cX12_queueLines 55 = .ok (.iaload, 1) := dAt wdX12_queueLines_53 adX12_queueLines_53.2.2.1 rfl
theorem dX12_queueLines_56 : decode cX12_queueLines 56 = .ok (.ifCond .ne 28, 3) := dAt wdX12_queueLines_53 adX12_queueLines_53.2.2.2.1 rfl
theorem dX12_queueLines_59 : decode cX12_queueLines 59 = .ok (.iload_n 3, 1) := dAt wdX12_queueLines_53 adX12_queueLines_53.2.2.2.2.1 rfl
theorem dX12_queueLines_60 : decode cX12_queueLines 60 = .ok (.aload_n 0, 1) := dAt wdX12_queueLines_53 adX12_queueLines_53.2.2.2.2.2.1 rfl
theorem dX12_queueLines_61 : decode cX12_queueLines 61 = .ok (.getfield 8, 3) := dAt wdX12_queueLines_53 adX12_queueLines_53.2.2.2.2.2.2.1 rfl
theorem dX12_queueLines_64 : decode cX12_queueLines 64 = .ok (.iload 5, 2) := dAt wdX12_queueLines_53 adX12_queueLines_53.2.2.2.2.2.2.2.1 rfl
theorem dX12_queueLines_66 : decode cX12_queueLines 66 = .ok (.iconst 2, 1) := dAt wdX12_queueLines_53 adX12_queueLines_53.2.2.2.2.2.2.2.2.1 rfl
theorem dX12_queueLines_67 : decode cX12_queueLines 67 = .ok (.iadd, 1) := dAt wdX12_queueLines_53 adX12_queueLines_53.2.2.2.2.2.2.2.2.2.1 rfl
theorem dX12_queueLines_68 : decode cX12_queueLines 68 = .ok (.iaload, 1) := dAt wdX12_queueLines_53 adX12_queueLines_53.2.2.2.2.2.2.2.2.2.2.1 rfl
theorem dX12_queueLines_69 : decode cX12_queueLines 69 = .ok (.aload_n 0, 1) := dAt wdX12_queueLines_53 adX12_queueLines_53.2.2.2.2.2.2.2.2.2.2.2.1 rfl
theorem dX12_queueLines_70 : decode cX12_queueLines 70 = .ok (.getfield 8, 3) := dAt wdX12_queueLines_53 adX12_queueLines_53.2.2.2.2.2.2.2.2.2.2.2.2.1 rfl
theorem dX12_queueLines_73 : decode cX12_queueLines 73 = .ok (.iload 5, 2) := dAt wdX12_queueLines_53 adX12_queueLines_53.2.2.2.2.2.2.2.2.2.2.2.2.2.1 rfl
theorem dX12_queueLines_75 : decode cX12_queueLines 75 = .ok (.iconst 1, 1) := dAt wdX12_queueLines_53 adX12_queueLines_53.2.2.2.2.2.2.2.2.2.2.2.2.2.2.1 rfl
theorem dX12_queueLines_76 : decode cX12_queueLines 76 = .ok (.iadd, 1) := dAt wdX12_queueLines_53 adX12_queueLines_53.2.2.2.2.2.2.2.2.2.2.2.2.2.2.2 rfl
def bdX12_queueLines_77 : ByteArray := .mk #[46, 100, 96, 62, 167, 0, 81, 42, 180, 0, 8, 21, 6, 6, 96, 46, 4, 160, 0, 28, 29, 42, 180, 0, 8]
theorem wdX12_queueLines_77 : LocW cX12_queueLines 77 bdX12_queueLines_77 := loc_of (by decide +kernel)
theorem adX12_queueLines_77 : De bdX12_queueLines_77 0 (.iaload) 1 ∧ De bdX12_queueLines_77 1 (.isub) 1 ∧ De bdX12_queueLines_77 2 (.iadd) 1 ∧ De bdX12_queueLines_77 3 (.istore_n 3) 1 ∧ De bdX12_queueLines_77 4 (.goto 81) 3 ∧ De bdX12_queueLines_77 7 (.aload_n 0) 1 ∧ De bdX12_queueLines_77 8 (.getfield 8) 3 ∧ De bdX12_queueLines_77 11 (.iload 6) 2 ∧ De bdX12_queueLines_77 13 (.iconst 3) 1 ∧ De bdX12_queueLines_77 14 (.iadd) 1 ∧ De bdX12_queueLines_77 15 (.iaload) 1 ∧ De bdX12_queueLines_77 16 (.iconst 1) 1 ∧ De bdX12_queueLines_77 17 (.if_icmp .ne 28) 3 ∧ De bdX12_queueLines_77 20 (.iload_n 3) 1 ∧ De bdX12_queueLines_77 21 (.aload_n 0) 1 ∧ De bdX12_queueLines_77 22 (.getfield 8) 3 := by decide +kernel
theorem dX12_queueLines_77 : decode cX12_queueLines 77 = .ok (.iaload, 1) := dAt wdX12_queueLines_77 adX12_queueLines_77.1 rfl
theorem dX12_queueLines_78 : decode cX12_queueLines 78 = .ok (.isub, 1) := dAt wdX12_queueLines_77 adX12_queueLines_77.2.1 rfl
theorem dX12_queueLines_79 : decode cX12_queueLines 79 = .ok (.iadd, 1) := dAt wdX12_queueLines_77 adX12_queueLines_77.2.2.1 rfl
theorem dX12_queueLines_80 : decode cX12_queueLines 80 = .ok (.istore_n 3, 1) := dAt wdX12_queueLines_77 adX12_queueLines_77.2.2.2.1 rfl
theorem dX12_queueLines_81 : decode cX12_queueLines 81 = .ok (.goto 81, 3) := dAt wdX12_queueLines_77 adX12_queueLines_77.2.2.2.2.1 rfl
theorem dX12_queueLines_84 : decode cX12_queueLines 84 = .ok (.aload_n 0, 1) := dAt wdX12_queueLines_77 adX12_queueLines_77.2.2.2.2.2.1 rfl
theorem dX12_queueLines_85 : decode cX12_queueLines 85 = .ok (.getfield 8, 3) := dAt wdX12_queueLines_77 adX12_queueLines_77.2.2.2.2.2.2.1 rfl
theorem dX12_queueLines_88 : decode cX12_queueLines 88 = .ok (.iload 6, 2) := dAt wdX12_queueLines_77 adX12_queueLines_77.2.2.2.2.2.2.2.1 rfl
theorem dX12_queueLines_90 : decode cX12_queueLines 90 = .ok (.iconst 3, 1) := dAt wdX12_queueLines_77 adX12_queueLines_77.2.2.2.2.2.2.2.2.1 rfl
theorem dX12_queueLines_91 : decode cX12_queueLines 91 = .ok (.iadd, 1) := dAt wdX12_queueLines_77 adX12_queueLines_77.2.2.2.2.2.2.2.2.2.1 rfl
theorem dX12_queueLines_92 : decode cX12_queueLines 92 = .ok (.iaload, 1) := dAt wdX12_queueLines_77 adX12_queueLines_77.2.2.2.2.2.2.2.2.2.2.1 rfl
theorem dX12_queueLines_93 : decode cX12_queueLines 93 = .ok (.iconst 1, 1) := dAt wdX12_queueLines_77 adX12_queueLines_77.2.2.2.2.2.2.2.2.2.2.2.1 rfl
theorem dX12_queueLines_94 : decode cX12_queueLines 94 = .ok (.if_icmp .ne 28, 3) := dAt wdX12_queueLines_77 adX12_queueLines_77.2.2.2.2.2.2.2.2.2.2.2.2.1 rfl
theorem dX12_queueLines_97 : decode cX12_queueLines 97 = .ok (.iload_n 3, 1) := dAt wdX12_queueLines_77 adX12_queueLines_77.2.2.2.2.2.2.2.2.2.2.2.2.2.1 rfl
theorem dX12_queueLines_98 : decode cX12_queueLines 98 = .ok (.aload_n 0, 1) := dAt wdX12_queueLines_77 adX12_queueLines_77.2.2.2.2.2.2.2.2.2.2.2.2.2.2.1 rfl
theorem dX12_queueLines_99 : decode cX12_queueLines 99 = .ok (.getfield 8, 3) := dAt wdX12_queueLines_77 adX12_queueLines_77.2.2.2.2.2.2.2.2.2.2.2.2.2.2.2 rfl
def bdX12_queueLines_102 : ByteArray := .mk #[21, 6, 7, 96, 46, 42, 180, 0, 8, 21, 5, 4, 96, 46, 100, 96, 62, 167, 0, 43, 42, 42]
theorem wdX12_queueLines_102 : LocW cX12_queueLines 102 bdX12_queueLines_102 := loc_of (by decide +kernel)
theorem adX12_queueLines_102 : De bdX12_queueLines_102 0 (.iload 6) 2 ∧ De bdX12_queueLines_102 2 (.iconst 4) 1 ∧ De bdX12_queueLines_102 3 (.iadd) 1 ∧ De bdX12_queueLines_102 4 (.iaload) 1 ∧ De bdX12_queueLines_102 5 (.aload_n 0) 1 ∧ De bdX12_queueLines_102 6 (.getfield 8) 3 ∧ De bdX12_queueLines_102 9 (.iload 5) 2 ∧ De bdX12_queueLines_102 11 (.iconst 1) 1 ∧ De bdX12_queueLines_102 12 (.iadd) 1 ∧ De bdX12_queueLines_102 13 (.iaload) 1 ∧ De bdX12_queueLines_102 14 (.isub) 1 ∧ De bdX12_queueLines_102 15 (.iadd) 1 ∧ De bdX12_queueLines_102 16 (.istore_n 3) 1 ∧ De bdX12_queueLines_102 17 (.goto 43) 3 ∧ De bdX12_queueLines_102 20 (.aload_n 0) 1 ∧ De bdX12_queueLines_102 21 (.aload_n 0) 1 := by decide +kernel
theorem dX12_queueLines_102 : decode cX12_queueLines 102 = .ok (.iload 6, 2) := dAt wdX12_queueLines_102 adX12_queueLines_102.1 rfl
theorem dX12_queueLines_104 : decode cX12_queueLines 104 = .ok (.iconst 4, 1) := dAt wdX12_queueLines_102 adX12_queueLines_102.2.1 rfl
theorem dX12_queueLines_105 : decode cX12_queueLines 105 = .ok (.iadd, 1) := dAt wdX12_queueLines_102 adX12_queueLines_102.2.2.1 rfl
theorem dX12_queueLines_106 : decode cX12_queueLines 106 = .ok (.iaload, 1) := dAt wdX12_queueLines_102 adX12_queueLines_102.2.2.2.1 rfl
theorem dX12_queueLines_107 : decode cX12_queueLines 107 = .ok (.aload_n 0, 1) := dAt wdX12_queueLines_102 adX12_queueLines_102.2.2.2.2.1 rfl
theorem dX12_queueLines_108 : decode cX12_queueLines 108 = .ok (.getfield 8, 3) := dAt wdX12_queueLines_102 adX12_queueLines_102.2.2.2.2.2.1 rfl
theorem dX12_queueLines_111 : decode cX12_queueLines 111 = .ok (.iload 5, 2) := dAt wdX12_queueLines_102 adX12_queueLines_102.2.2.2.2.2.2.1 rfl
theorem dX12_queueLines_113 : decode cX12_queueLines 113 = .ok (.iconst 1, 1) := dAt wdX12_queueLines_102 adX12_queueLines_102.2.2.2.2.2.2.2.1 rfl
theorem dX12_queueLines_114 : decode cX12_queueLines 114 = .ok (.iadd, 1) := dAt wdX12_queueLines_102 adX12_queueLines_102.2.2.2.2.2.2.2.2.1 rfl
theorem dX12_queueLines_115 : decode cX12_queueLines 115 = .ok (.iaload, 1) := dAt wdX12_queueLines_102 adX12_queueLines_102.2.2.2.2.2.2.2.2.2.1 rfl
theorem dX12_queueLines_116 : decode cX12_queueLines 116 = .ok (.isub, 1) := dAt wdX12_queueLines_102 adX12_queueLines_102.2.2.2.2.2.2.2.2.2.2.1 rfl
theorem dX12_queueLines_117 : decode cX12_queueLines 117 = .ok (.iadd, 1) := dAt wdX12_queueLines_102 adX12_queueLines_102.2.2.2.2.2.2.2.2.2.2.2.1 rfl
theorem dX12_queueLines_118 : decode cX12_queueLines 118 = .ok (.istore_n 3, 1) := dAt wdX12_queueLines_102 adX12_queueLines_102.2.2.2.2.2.2.2.2.2.2.2.2.1 rfl
theorem dX12_queueLines_119 : decode cX12_queueLines 119 = .ok (.goto 43, 3) := dAt wdX12_queueLines_102 adX12_queueLines_102.2.2.2.2.2.2.2.2.2.2.2.2.2.1 rfl
theorem dX12_queueLines_122 : decode cX12_queueLines 122 = .ok (.aload_n 0, 1) := dAt wdX12_queueLines_102 adX12_queueLines_102.2.2.2.2.2.2.2.2.2.2.2.2.2.2.1 rfl
theorem dX12_queueLines_123 : decode cX12_queueLines 123 = .ok (.aload_n 0, 1) := dAt wdX12_queueLines_102 adX12_queueLines_102.2.2.2.2.2.2.2.2.2.2.2.2.2.2.2 rfl
def bdX12_queueLines_124 : ByteArray := .mk #[180, 0, 8, 21, 5, 46, 42, 180, 0, 8, 3, 46, 182, 1, 89, 29, 42, 180, 0, 55, 3, 46, 2, 160, 0, 7, 3]
theorem wdX12_queueLines_124 : LocW cX12_queueLines 124 bdX12_queueLines_124 := loc_of (by decide +kernel)
theorem adX12_queueLines_124 : De bdX12_queueLines_124 0 (.getfield 8) 3 ∧ De bdX12_queueLines_124 3 (.iload 5) 2 ∧ De bdX12_queueLines_124 5 (.iaload) 1 ∧ De bdX12_queueLines_124 6 (.aload_n 0) 1 ∧ De bdX12_queueLines_124 7 (.getfield 8) 3 ∧ De bdX12_queueLines_124 10 (.iconst 0) 1 ∧ De bdX12_queueLines_124 11 (.iaload) 1 ∧ De bdX12_queueLines_124 12 (.invokevirtual 345) 3 ∧ De bdX12_queueLines_124 15 (.iload_n 3) 1 ∧ De bdX12_queueLines_124 16 (.aload_n 0) 1 ∧ De bdX12_queueLines_124 17 (.getfield 55) 3 ∧ De bdX12_queueLines_124 20 (.iconst 0) 1 ∧ De bdX12_queueLines_124 21 (.iaload) 1 ∧ De bdX12_queueLines_124 22 (.iconst (-1)) 1 ∧ De bdX12_queueLines_124 23 (.if_icmp .ne 7) 3 ∧ De bdX12_queueLines_124 26 (.iconst 0) 1 := by decide +kernel
theorem dX12_queueLines_124 : decode cX12_queueLines 124 = .ok (.getfield 8, 3) := dAt wdX12_queueLines_124 adX12_queueLines_124.1 rfl
theorem dX12_queueLines_127 : decode cX12_queueLines 127 = .ok (.iload 5, 2) := dAt wdX12_queueLines_124 adX12_queueLines_124.2.1 rfl
theorem dX12_queueLines_129 : decode cX12_queueLines 129 = .ok (.iaload, 1) := dAt wdX12_queueLines_124 adX12_queueLines_124.2.2.1 rfl
theorem dX12_queueLines_130 : decode cX12_queueLines 130 = .ok (.aload_n 0, 1) := dAt wdX12_queueLines_124 adX12_queueLines_124.2.2.2.1 rfl
theorem dX12_queueLines_131 : decode cX12_queueLines 131 = .ok (.getfield 8, 3) := dAt wdX12_queueLines_124 adX12_queueLines_124.2.2.2.2.1 rfl
theorem dX12_queueLines_134 : decode cX12_queueLines 134 = .ok (.iconst 0, 1) := dAt wdX12_queueLines_124 adX12_queueLines_124.2.2.2.2.2.1 rfl
theorem dX12_queueLines_135 : decode cX12_queueLines 135 = .ok (.iaload, 1) := dAt wdX12_queueLines_124 adX12_queueLines_124.2.2.2.2.2.2.1 rfl
theorem dX12_queueLines_136 : decode cX12_queueLines 136 = .ok (.invokevirtual 345, 3) := dAt wdX12_queueLines_124 adX12_queueLines_124.2.2.2.2.2.2.2.1 rfl
theorem dX12_queueLines_139 : decode cX12_queueLines 139 = .ok (.iload_n 3, 1) := dAt wdX12_queueLines_124 adX12_queueLines_124.2.2.2.2.2.2.2.2.1 rfl
theorem dX12_queueLines_140 : decode cX12_queueLines 140 = .ok (.aload_n 0, 1) := dAt wdX12_queueLines_124 adX12_queueLines_124.2.2.2.2.2.2.2.2.2.1 rfl
theorem dX12_queueLines_141 : decode cX12_queueLines 141 = .ok (.getfield 55, 3) := dAt wdX12_queueLines_124 adX12_queueLines_124.2.2.2.2.2.2.2.2.2.2.1 rfl
theorem dX12_queueLines_144 : decode cX12_queueLines 144 = .ok (.iconst 0, 1) := dAt wdX12_queueLines_124 adX12_queueLines_124.2.2.2.2.2.2.2.2.2.2.2.1 rfl
theorem dX12_queueLines_145 : decode cX12_queueLines 145 = .ok (.iaload, 1) := dAt wdX12_queueLines_124 adX12_queueLines_124.2.2.2.2.2.2.2.2.2.2.2.2.1 rfl
theorem dX12_queueLines_146 : decode cX12_queueLines 146 = .ok (.iconst (-1), 1) := dAt wdX12_queueLines_124 adX12_queueLines_124.2.2.2.2.2.2.2.2.2.2.2.2.2.1 rfl
theorem dX12_queueLines_147 : decode cX12_queueLines 147 = .ok (.if_icmp .ne 7, 3) := dAt wdX12_queueLines_124 adX12_queueLines_124.2.2.2.2.2.2.2.2.2.2.2.2.2.2.1 rfl
theorem dX12_queueLines_150 : decode cX12_queueLines 150 = .ok (.iconst 0, 1) := dAt wdX12_queueLines_124 adX12_queueLines_124.2.2.2.2.2.2.2.2.2.2.2.2.2.2.2 rfl
def bdX12_queueLines_151 : ByteArray := .mk #[167, 0, 9, 42, 180, 0, 58, 3, 46, 96, 62, 132, 4, 1, 167, 255, 101, 29, 172]
theorem wdX12_queueLines_151 : LocW cX12_queueLines 151 bdX12_queueLines_151 := loc_of (by decide +kernel)
theorem adX12_queueLines_151 : De bdX12_queueLines_151 0 (.goto 9) 3 ∧ De bdX12_queueLines_151 3 (.aload_n 0) 1 ∧ De bdX12_queueLines_151 4 (.getfield 58) 3 ∧ De bdX12_queueLines_151 7 (.iconst 0) 1 ∧ De bdX12_queueLines_151 8 (.iaload) 1 ∧ De bdX12_queueLines_151 9 (.iadd) 1 ∧ De bdX12_queueLines_151 10 (.istore_n 3) 1 ∧ De bdX12_queueLines_151 11 (.iinc 4 1) 3 ∧ De bdX12_queueLines_151 14 (.goto (-155)) 3 ∧ De bdX12_queueLines_151 17 (.iload_n 3) 1 ∧ De bdX12_queueLines_151 18 (.ireturn) 1 := by decide +kernel
theorem dX12_queueLines_151 : decode cX12_queueLines 151 = .ok (.goto 9, 3) := dAt wdX12_queueLines_151 adX12_queueLines_151.1 rfl
theorem dX12_queueLines_154 : decode cX12_queueLines 154 = .ok (.aload_n 0, 1) := dAt wdX12_queueLines_151 adX12_queueLines_151.2.1 rfl
theorem dX12_queueLines_155 : decode cX12_queueLines 155 = .ok (.getfield 58, 3) := dAt wdX12_queueLines_151 adX12_queueLines_151.2.2.1 rfl
theorem dX12_queueLines_158 : decode cX12_queueLines 158 = .ok (.iconst 0, 1) := dAt wdX12_queueLines_151 adX12_queueLines_151.2.2.2.1 rfl
theorem dX12_queueLines_159 : decode cX12_queueLines 159 = .ok (.iaload, 1) := dAt wdX12_queueLines_151 adX12_queueLines_151.2.2.2.2.1 rfl
theorem dX12_queueLines_160 : decode cX12_queueLines 160 = .ok (.iadd, 1) := dAt wdX12_queueLines_151 adX12_queueLines_151.2.2.2.2.2.1 rfl
theorem dX12_queueLines_161 : decode cX12_queueLines 161 = .ok (.istore_n 3, 1) := dAt wdX12_queueLines_151 adX12_queueLines_151.2.2.2.2.2.2.1 rfl
theorem dX12_queueLines_162 : decode cX12_queueLines 162 = .ok (.iinc 4 1, 3) := dAt wdX12_queueLines_151 adX12_queueLines_151.2.2.2.2.2.2.2.1 rfl
theorem dX12_queueLines_165 : decode cX12_queueLines 165 = .ok (.goto (-155), 3) := dAt wdX12_queueLines_151 adX12_queueLines_151.2.2.2.2.2.2.2.2.1 rfl
theorem dX12_queueLines_168 : decode cX12_queueLines 168 = .ok (.iload_n 3, 1) := dAt wdX12_queueLines_151 adX12_queueLines_151.2.2.2.2.2.2.2.2.2.1 rfl
theorem dX12_queueLines_169 : decode cX12_queueLines 169 = .ok (.ireturn, 1) := dAt wdX12_queueLines_151 adX12_queueLines_151.2.2.2.2.2.2.2.2.2.2 rfl
def bdX12_least_0 : ByteArray := .mk #[42, 3, 181, 0, 122, 42, 3, 181, 1, 199, 3, 60, 27, 16, 100, 162, 0, 102, 42, 180, 1, 199, 8, 162, 0, 94, 42]
theorem wdX12_least_0 : LocW cX12_least 0 bdX12_least_0 := loc_of (by decide +kernel)
theorem adX12_least_0 : De bdX12_least_0 0 (.aload_n 0) 1 ∧ De bdX12_least_0 1 (.iconst 0) 1 ∧ De bdX12_least_0 2 (.putfield 122) 3 ∧ De bdX12_least_0 5 (.aload_n 0) 1 ∧ De bdX12_least_0 6 (.iconst 0) 1 ∧ De bdX12_least_0 7 (.putfield 455) 3 ∧ De bdX12_least_0 10 (.iconst 0) 1 ∧ De bdX12_least_0 11 (.istore_n 1) 1 ∧ De bdX12_least_0 12 (.iload_n 1) 1 ∧ De bdX12_least_0 13 (.bipush 100) 2 ∧ De bdX12_least_0 15 (.if_icmp .ge 102) 3 ∧ De bdX12_least_0 18 (.aload_n 0) 1 ∧ De bdX12_least_0 19 (.getfield 455) 3 ∧ De bdX12_least_0 22 (.iconst 5) 1 ∧ De bdX12_least_0 23 (.if_icmp .ge 94) 3 ∧ De bdX12_least_0 26 (.aload_n 0) 1 := by decide +kernel
theorem dX12_least_0 : decode cX12_least 0 = .ok (.aload_n 0, 1) := dAt wdX12_least_0 adX12_least_0.1 rfl
theorem dX12_least_1 : decode cX12_least 1 = .ok (.iconst 0, 1) := dAt wdX12_least_0 adX12_least_0.2.1 rfl
theorem dX12_least_2 : decode cX12_least 2 = .ok (.putfield 122, 3) := dAt wdX12_least_0 adX12_least_0.2.2.1 rfl
theorem dX12_least_5 : decode cX12_least 5 = .ok (.aload_n 0, 1) := dAt wdX12_least_0 adX12_least_0.2.2.2.1 rfl
theorem dX12_least_6 : decode cX12_least 6 = .ok (.iconst 0, 1) := dAt wdX12_least_0 adX12_least_0.2.2.2.2.1 rfl
theorem dX12_least_7 : decode cX12_least 7 = .ok (.putfield 455, 3) := dAt wdX12_least_0 adX12_least_0.2.2.2.2.2.1 rfl
theorem dX12_least_10 : decode cX12_least 10 = .ok (.iconst 0, 1) := dAt wdX12_least_0 adX12_least_0.2.2.2.2.2.2.1 rfl
theorem dX12_least_11 : decode cX12_least 11 = .ok (.istore_n 1, 1) := dAt wdX12_least_0 adX12_least_0.2.2.2.2.2.2.2.1 rfl
theorem dX12_least_12 : decode cX12_least 12 = .ok (.iload_n 1, 1) := dAt wdX12_least_0 adX12_least_0.2.2.2.2.2.2.2.2.1 rfl
theorem dX12_least_13 : decode cX12_least 13 = .ok (.bipush 100, 2) := dAt wdX12_least_0 adX12_least_0.2.2.2.2.2.2.2.2.2.1 rfl
theorem dX12_least_15 : decode cX12_least 15 = .ok (.if_icmp .ge 102, 3) := dAt wdX12_least_0 adX12_least_0.2.2.2.2.2.2.2.2.2.2.1 rfl
theorem dX12_least_18 : decode cX12_least 18 = .ok (.aload_n 0, 1) := dAt wdX12_least_0 adX12_least_0.2.2.2.2.2.2.2.2.2.2.2.1 rfl
theorem dX12_least_19 : decode cX12_least 19 = .ok (.getfield 455, 3) := dAt wdX12_least_0 adX12_least_0.2.2.2.2.2.2.2.2.2.2.2.2.1 rfl
theorem dX12_least_22 : decode cX12_least 22 = .ok (.iconst 5, 1) := dAt wdX12_least_0 adX12_least_0.2.2.2.2.2.2.2.2.2.2.2.2.2.1 rfl
theorem dX12_least_23 : decode cX12_least 23 = .ok (.if_icmp .ge 94, 3) := dAt wdX12_least_0 adX12_least_0.2.2.2.2.2.2.2.2.2.2.2.2.2.2.1 rfl
theorem dX12_least_26 : decode cX12_least 26 = .ok (.aload_n 0, 1) := dAt wdX12_least_0 adX12_least_0.2.2.2.2.2.2.2.2.2.2.2.2.2.2.2 rfl
def bdX12_least_27 : ByteArray := .mk #[27, 182, 1, 55, 153, 0, 80, 42, 180, 0, 8, 27, 184, 0, 164, 5, 96, 46, 4, 160, 0, 6, 167, 0, 62, 42, 27, 42]
theorem wdX12_least_27 : LocW cX12_least 27 bdX12_least_27 := loc_of (by decide +kernel)
theorem adX12_least_27 : De bdX12_least_27 0 (.iload_n 1) 1 ∧ De bdX12_least_27 1 (.invokevirtual 311) 3 ∧ De bdX12_least_27 4 (.ifCond .eq 80) 3 ∧ De bdX12_least_27 7 (.aload_n 0) 1 ∧ De bdX12_least_27 8 (.getfield 8) 3 ∧ De bdX12_least_27 11 (.iload_n 1) 1 ∧ De bdX12_least_27 12 (.invokestatic 164) 3 ∧ De bdX12_least_27 15 (.iconst 2) 1 ∧ De bdX12_least_27 16 (.iadd) 1 ∧ De bdX12_least_27 17 (.iaload) 1 ∧ De bdX12_least_27 18 (.iconst 1) 1 ∧ De bdX12_least_27 19 (.if_icmp .ne 6) 3 ∧ De bdX12_least_27 22 (.goto 62) 3 ∧ De bdX12_least_27 25 (.aload_n 0) 1 ∧ De bdX12_least_27 26 (.iload_n 1) 1 ∧ De bdX12_least_27 27 (.aload_n 0) 1 := by decide +kernel
theorem dX12_least_27 : decode cX12_least 27 = .ok (.iload_n 1, 1) := dAt wdX12_least_27 adX12_least_27.1 rfl
theorem dX12_least_28 : decode cX12_least 28 = .ok (.invokevirtual 311, 3) := dAt wdX12_least_27 adX12_least_27.2.1 rfl
theorem dX12_least_31 : decode cX12_least 31 = .ok (.ifCond .eq 80, 3) := dAt wdX12_least_27 adX12_least_27.2.2.1 rfl
theorem dX12_least_34 : decode cX12_least 34 = .ok (.aload_n 0, 1) := dAt wdX12_least_27 adX12_least_27.2.2.2.1 rfl
theorem dX12_least_35 : decode cX12_least 35 = .ok (.getfield 8, 3) := dAt wdX12_least_27 adX12_least_27.2.2.2.2.1 rfl
theorem dX12_least_38 : decode cX12_least 38 = .ok (.iload_n 1, 1) := dAt wdX12_least_27 adX12_least_27.2.2.2.2.2.1 rfl
theorem dX12_least_39 : decode cX12_least 39 = .ok (.invokestatic 164, 3) := dAt wdX12_least_27 adX12_least_27.2.2.2.2.2.2.1 rfl
theorem dX12_least_42 : decode cX12_least 42 = .ok (.iconst 2, 1) := dAt wdX12_least_27 adX12_least_27.2.2.2.2.2.2.2.1 rfl
theorem dX12_least_43 : decode cX12_least 43 = .ok (.iadd, 1) := dAt wdX12_least_27 adX12_least_27.2.2.2.2.2.2.2.2.1 rfl
theorem dX12_least_44 : decode cX12_least 44 = .ok (.iaload, 1) := dAt wdX12_least_27 adX12_least_27.2.2.2.2.2.2.2.2.2.1 rfl
theorem dX12_least_45 : decode cX12_least 45 = .ok (.iconst 1, 1) := dAt wdX12_least_27 adX12_least_27.2.2.2.2.2.2.2.2.2.2.1 rfl
theorem dX12_least_46 : decode cX12_least 46 = .ok (.if_icmp .ne 6, 3) := dAt wdX12_least_27 adX12_least_27.2.2.2.2.2.2.2.2.2.2.2.1 rfl
theorem dX12_least_49 : decode cX12_least 49 = .ok (.goto 62, 3) := dAt wdX12_least_27 adX12_least_27.2.2.2.2.2.2.2.2.2.2.2.2.1 rfl
theorem dX12_least_52 : decode cX12_least 52 = .ok (.aload_n 0, 1) := dAt wdX12_least_27 adX12_least_27.2.2.2.2.2.2.2.2.2.2.2.2.2.1 rfl
theorem dX12_least_53 : decode cX12_least 53 = .ok (.iload_n 1, 1) := dAt wdX12_least_27 adX12_least_27.2.2.2.2.2.2.2.2.2.2.2.2.2.2.1 rfl
theorem dX12_least_54 : decode cX12_least 54 = .ok (.aload_n 0, 1) := dAt wdX12_least_27 adX12_least_27.2.2.2.2.2.2.2.2.2.2.2.2.2.2.2 rfl
def bdX12_least_55 : ByteArray := .mk #[180, 0, 8, 3, 46, 182, 1, 89, 42, 180, 0, 55, 3, 46, 2, 160, 0, 6, 167, 0, 38, 42, 180, 0, 112, 42, 180, 1, 199, 27]
theorem wdX12_least_55 : LocW cX12_least 55 bdX12_least_55 := loc_of (by decide +kernel)
theorem adX12_least_55 : De bdX12_least_55 0 (.getfield 8) 3 ∧ De bdX12_least_55 3 (.iconst 0) 1 ∧ De bdX12_least_55 4 (.iaload) 1 ∧ De bdX12_least_55 5 (.invokevirtual 345) 3 ∧ De bdX12_least_55 8 (.aload_n 0) 1 ∧ De bdX12_least_55 9 (.getfield 55) 3 ∧ De bdX12_least_55 12 (.iconst 0) 1 ∧ De bdX12_least_55 13 (.iaload) 1 ∧ De bdX12_least_55 14 (.iconst (-1)) 1 ∧ De bdX12_least_55 15 (.if_icmp .ne 6) 3 ∧ De bdX12_least_55 18 (.goto 38) 3 ∧ De bdX12_least_55 21 (.aload_n 0) 1 ∧ De bdX12_least_55 22 (.getfield 112) 3 ∧ De bdX12_least_55 25 (.aload_n 0) 1 ∧ De bdX12_least_55 26 (.getfield 455) 3 ∧ De bdX12_least_55 29 (.iload_n 1) 1 := by decide +kernel
theorem dX12_least_55 : decode cX12_least 55 = .ok (.getfield 8, 3) := dAt wdX12_least_55 adX12_least_55.1 rfl
theorem dX12_least_58 : decode cX12_least 58 = .ok (.iconst 0, 1) := dAt wdX12_least_55 adX12_least_55.2.1 rfl
theorem dX12_least_59 : decode cX12_least 59 = .ok (.iaload, 1) := dAt wdX12_least_55 adX12_least_55.2.2.1 rfl
theorem dX12_least_60 : decode cX12_least 60 = .ok (.invokevirtual 345, 3) := dAt wdX12_least_55 adX12_least_55.2.2.2.1 rfl
theorem dX12_least_63 : decode cX12_least 63 = .ok (.aload_n 0, 1) := dAt wdX12_least_55 adX12_least_55.2.2.2.2.1 rfl
theorem dX12_least_64 : decode cX12_least 64 = .ok (.getfield 55, 3) := dAt wdX12_least_55 adX12_least_55.2.2.2.2.2.1 rfl
theorem dX12_least_67 : decode cX12_least 67 = .ok (.iconst 0, 1) := dAt wdX12_least_55 adX12_least_55.2.2.2.2.2.2.1 rfl
theorem dX12_least_68 : decode cX12_least 68 = .ok (.iaload, 1) := dAt wdX12_least_55 adX12_least_55.2.2.2.2.2.2.2.1 rfl
theorem dX12_least_69 : decode cX12_least 69 = .ok (.iconst (-1), 1) := dAt wdX12_least_55 adX12_least_55.2.2.2.2.2.2.2.2.1 rfl
theorem dX12_least_70 : decode cX12_least 70 = .ok (.if_icmp .ne 6, 3) := dAt wdX12_least_55 adX12_least_55.2.2.2.2.2.2.2.2.2.1 rfl
theorem dX12_least_73 : decode cX12_least 73 = .ok (.goto 38, 3) := dAt wdX12_least_55 adX12_least_55.2.2.2.2.2.2.2.2.2.2.1 rfl
theorem dX12_least_76 : decode cX12_least 76 = .ok (.aload_n 0, 1) := dAt wdX12_least_55 adX12_least_55.2.2.2.2.2.2.2.2.2.2.2.1 rfl
theorem dX12_least_77 : decode cX12_least 77 = .ok (.getfield 112, 3) := dAt wdX12_least_55 adX12_least_55.2.2.2.2.2.2.2.2.2.2.2.2.1 rfl
theorem dX12_least_80 : decode cX12_least 80 = .ok (.aload_n 0, 1) := dAt wdX12_least_55 adX12_least_55.2.2.2.2.2.2.2.2.2.2.2.2.2.1 rfl
theorem dX12_least_81 : decode cX12_least 81 = .ok (.getfield 455, 3) := dAt wdX12_least_55 adX12_least_55.2.2.2.2.2.2.2.2.2.2.2.2.2.2.1 rfl
theorem dX12_least_84 : decode cX12_least 84 = .ok (.iload_n 1, 1) := dAt wdX12_least_55 adX12_least_55.2.2.2.2.2.2.2.2.2.2.2.2.2.2.2 rfl
def bdX12_least_85 : ByteArray := .mk #[79, 42, 180, 0, 115, 42, 180, 1, 199, 42, 180, 0, 58, 3, 46, 79, 42, 89, 180, 1, 199, 4, 96, 181, 1, 199]
theorem wdX12_least_85 : LocW cX12_least 85 bdX12_least_85 := loc_of (by decide +kernel)
theorem adX12_least_85 : De bdX12_least_85 0 (.iastore) 1 ∧ De bdX12_least_85 1 (.aload_n 0) 1 ∧ De bdX12_least_85 2 (.getfield 115) 3 ∧ De bdX12_least_85 5 (.aload_n 0) 1 ∧ De bdX12_least_85 6 (.getfield 455) 3 ∧ De bdX12_least_85 9 (.aload_n 0) 1 ∧ De bdX12_least_85 10 (.getfield 58) 3 ∧ De bdX12_least_85 13 (.iconst 0) 1 ∧ De bdX12_least_85 14 (.iaload) 1 ∧ De bdX12_least_85 15 (.iastore) 1 ∧ De bdX12_least_85 16 (.aload_n 0) 1 ∧ De bdX12_least_85 17 (.dup) 1 ∧ De bdX12_least_85 18 (.getfield 455) 3 ∧ De bdX12_least_85 21 (.iconst 1) 1 ∧ De bdX12_least_85 22 (.iadd) 1 ∧ De bdX12_least_85 23 (.putfield 455) 3 := by decide +kernel
theorem dX12_least_85 : decode cX12_least 85 = .ok (.iastore, 1) := dAt wdX12_least_85 adX12_least_85.1 rfl
theorem dX12_least_86 : decode cX12_least 86 = .ok (.aload_n 0, 1) := dAt wdX12_least_85 adX12_least_85.2.1 rfl
theorem dX12_least_87 : decode cX12_least 87 = .ok (.getfield 115, 3) := dAt wdX12_least_85 adX12_least_85.2.2.1 rfl
theorem dX12_least_90 : decode cX12_least 90 = .ok (.aload_n 0, 1) := dAt wdX12_least_85 adX12_least_85.2.2.2.1 rfl
theorem dX12_least_91 : decode cX12_least 91 = .ok (.getfield 455, 3) := dAt wdX12_least_85 adX12_least_85.2.2.2.2.1 rfl
theorem dX12_least_94 : decode cX12_least 94 = .ok (.aload_n 0, 1) := dAt wdX12_least_85 adX12_least_85.2.2.2.2.2.1 rfl
theorem dX12_least_95 : decode cX12_least 95 = .ok (.getfield 58, 3) := dAt wdX12_least_85 adX12_least_85.2.2.2.2.2.2.1 rfl
theorem dX12_least_98 : decode cX12_least 98 = .ok (.iconst 0, 1) := dAt wdX12_least_85 adX12_least_85.2.2.2.2.2.2.2.1 rfl
theorem dX12_least_99 : decode cX12_least 99 = .ok (.iaload, 1) := dAt wdX12_least_85 adX12_least_85.2.2.2.2.2.2.2.2.1 rfl
theorem dX12_least_100 : decode cX12_least 100 = .ok (.iastore, 1) := dAt wdX12_least_85 adX12_least_85.2.2.2.2.2.2.2.2.2.1 rfl
theorem dX12_least_101 : decode cX12_least 101 = .ok (.aload_n 0, 1) := dAt wdX12_least_85 adX12_least_85.2.2.2.2.2.2.2.2.2.2.1 rfl
theorem dX12_least_102 : decode cX12_least 102 = .ok (.dup, 1) := dAt wdX12_least_85 adX12_least_85.2.2.2.2.2.2.2.2.2.2.2.1 rfl
theorem dX12_least_103 : decode cX12_least 103 = .ok (.getfield 455, 3) := dAt wdX12_least_85 adX12_least_85.2.2.2.2.2.2.2.2.2.2.2.2.1 rfl
theorem dX12_least_106 : decode cX12_least 106 = .ok (.iconst 1, 1) := dAt wdX12_least_85 adX12_least_85.2.2.2.2.2.2.2.2.2.2.2.2.2.1 rfl
theorem dX12_least_107 : decode cX12_least 107 = .ok (.iadd, 1) := dAt wdX12_least_85 adX12_least_85.2.2.2.2.2.2.2.2.2.2.2.2.2.2.1 rfl
theorem dX12_least_108 : decode cX12_least 108 = .ok (.putfield 455, 3) := dAt wdX12_least_85 adX12_least_85.2.2.2.2.2.2.2.2.2.2.2.2.2.2.2 rfl
def bdX12_least_111 : ByteArray := .mk #[132, 1, 1, 167, 255, 154, 3, 60, 27, 42, 180, 0, 8, 6, 46, 162, 0, 27, 42, 180, 0, 118, 27, 42, 180, 0, 8, 3]
theorem wdX12_least_111 : LocW cX12_least 111 bdX12_least_111 := loc_of (by decide +kernel)
theorem adX12_least_111 : De bdX12_least_111 0 (.iinc 1 1) 3 ∧ De bdX12_least_111 3 (.goto (-102)) 3 ∧ De bdX12_least_111 6 (.iconst 0) 1 ∧ De bdX12_least_111 7 (.istore_n 1) 1 ∧ De bdX12_least_111 8 (.iload_n 1) 1 ∧ De bdX12_least_111 9 (.aload_n 0) 1 ∧ De bdX12_least_111 10 (.getfield 8) 3 ∧ De bdX12_least_111 13 (.iconst 3) 1 ∧ De bdX12_least_111 14 (.iaload) 1 ∧ De bdX12_least_111 15 (.if_icmp .ge 27) 3 ∧ De bdX12_least_111 18 (.aload_n 0) 1 ∧ De bdX12_least_111 19 (.getfield 118) 3 ∧ De bdX12_least_111 22 (.iload_n 1) 1 ∧ De bdX12_least_111 23 (.aload_n 0) 1 ∧ De bdX12_least_111 24 (.getfield 8) 3 ∧ De bdX12_least_111 27 (.iconst 0) 1 := by decide +kernel
theorem dX12_least_111 : decode cX12_least 111 = .ok (.iinc 1 1, 3) := dAt wdX12_least_111 adX12_least_111.1 rfl
theorem dX12_least_114 : decode cX12_least 114 = .ok (.goto (-102), 3) := dAt wdX12_least_111 adX12_least_111.2.1 rfl
theorem dX12_least_117 : decode cX12_least 117 = .ok (.iconst 0, 1) := dAt wdX12_least_111 adX12_least_111.2.2.1 rfl
theorem dX12_least_118 : decode cX12_least 118 = .ok (.istore_n 1, 1) := dAt wdX12_least_111 adX12_least_111.2.2.2.1 rfl
theorem dX12_least_119 : decode cX12_least 119 = .ok (.iload_n 1, 1) := dAt wdX12_least_111 adX12_least_111.2.2.2.2.1 rfl
theorem dX12_least_120 : decode cX12_least 120 = .ok (.aload_n 0, 1) := dAt wdX12_least_111 adX12_least_111.2.2.2.2.2.1 rfl
theorem dX12_least_121 : decode cX12_least 121 = .ok (.getfield 8, 3) := dAt wdX12_least_111 adX12_least_111.2.2.2.2.2.2.1 rfl
theorem dX12_least_124 : decode cX12_least 124 = .ok (.iconst 3, 1) := dAt wdX12_least_111 adX12_least_111.2.2.2.2.2.2.2.1 rfl
theorem dX12_least_125 : decode cX12_least 125 = .ok (.iaload, 1) := dAt wdX12_least_111 adX12_least_111.2.2.2.2.2.2.2.2.1 rfl
theorem dX12_least_126 : decode cX12_least 126 = .ok (.if_icmp .ge 27, 3) := dAt wdX12_least_111 adX12_least_111.2.2.2.2.2.2.2.2.2.1 rfl
theorem dX12_least_129 : decode cX12_least 129 = .ok (.aload_n 0, 1) := dAt wdX12_least_111 adX12_least_111.2.2.2.2.2.2.2.2.2.2.1 rfl
theorem dX12_least_130 : decode cX12_least 130 = .ok (.getfield 118, 3) := dAt wdX12_least_111 adX12_least_111.2.2.2.2.2.2.2.2.2.2.2.1 rfl
theorem dX12_least_133 : decode cX12_least 133 = .ok (.iload_n 1, 1) := dAt wdX12_least_111 adX12_least_111.2.2.2.2.2.2.2.2.2.2.2.2.1 rfl
theorem dX12_least_134 : decode cX12_least 134 = .ok (.aload_n 0, 1) := dAt wdX12_least_111 adX12_least_111.2.2.2.2.2.2.2.2.2.2.2.2.2.1 rfl
theorem dX12_least_135 : decode cX12_least 135 = .ok (.getfield 8, 3) := dAt wdX12_least_111 adX12_least_111.2.2.2.2.2.2.2.2.2.2.2.2.2.2.1 rfl
theorem dX12_least_138 : decode cX12_least 138 = .ok (.iconst 0, 1) := dAt wdX12_least_111 adX12_least_111.2.2.2.2.2.2.2.2.2.2.2.2.2.2.2 rfl
def bdX12_least_139 : ByteArray := .mk #[46, 42, 27, 182, 1, 202, 96, 79, 132, 1, 1, 167, 255, 225, 42, 2, 181, 1, 205, 42, 3, 3, 3, 182, 1, 208]
theorem wdX12_least_139 : LocW cX12_least 139 bdX12_least_139 := loc_of (by decide +kernel)
theorem adX12_least_139 : De bdX12_least_139 0 (.iaload) 1 ∧ De bdX12_least_139 1 (.aload_n 0) 1 ∧ De bdX12_least_139 2 (.iload_n 1) 1 ∧ De bdX12_least_139 3 (.invokevirtual 458) 3 ∧ De bdX12_least_139 6 (.iadd) 1 ∧ De bdX12_least_139 7 (.iastore) 1 ∧ De bdX12_least_139 8 (.iinc 1 1) 3 ∧ De bdX12_least_139 11 (.goto (-31)) 3 ∧ De bdX12_least_139 14 (.aload_n 0) 1 ∧ De bdX12_least_139 15 (.iconst (-1)) 1 ∧ De bdX12_least_139 16 (.putfield 461) 3 ∧ De bdX12_least_139 19 (.aload_n 0) 1 ∧ De bdX12_least_139 20 (.iconst 0) 1 ∧ De bdX12_least_139 21 (.iconst 0) 1 ∧ De bdX12_least_139 22 (.iconst 0) 1 ∧ De bdX12_least_139 23 (.invokevirtual 464) 3 := by decide +kernel
theorem dX12_least_139 : decode cX12_least 139 = .ok (.iaload, 1) := dAt wdX12_least_139 adX12_least_139.1 rfl
theorem dX12_least_140 : decode cX12_least 140 = .ok (.aload_n 0, 1) := dAt wdX12_least_139 adX12_least_139.2.1 rfl
theorem dX12_least_141 : decode cX12_least 141 = .ok (.iload_n 1, 1) := dAt wdX12_least_139 adX12_least_139.2.2.1 rfl
theorem dX12_least_142 : decode cX12_least 142 = .ok (.invokevirtual 458, 3) := dAt wdX12_least_139 adX12_least_139.2.2.2.1 rfl
theorem dX12_least_145 : decode cX12_least 145 = .ok (.iadd, 1) := dAt wdX12_least_139 adX12_least_139.2.2.2.2.1 rfl
theorem dX12_least_146 : decode cX12_least 146 = .ok (.iastore, 1) := dAt wdX12_least_139 adX12_least_139.2.2.2.2.2.1 rfl
theorem dX12_least_147 : decode cX12_least 147 = .ok (.iinc 1 1, 3) := dAt wdX12_least_139 adX12_least_139.2.2.2.2.2.2.1 rfl
theorem dX12_least_150 : decode cX12_least 150 = .ok (.goto (-31), 3) := dAt wdX12_least_139 adX12_least_139.2.2.2.2.2.2.2.1 rfl
theorem dX12_least_153 : decode cX12_least 153 = .ok (.aload_n 0, 1) := dAt wdX12_least_139 adX12_least_139.2.2.2.2.2.2.2.2.1 rfl
theorem dX12_least_154 : decode cX12_least 154 = .ok (.iconst (-1), 1) := dAt wdX12_least_139 adX12_least_139.2.2.2.2.2.2.2.2.2.1 rfl
theorem dX12_least_155 : decode cX12_least 155 = .ok (.putfield 461, 3) := dAt wdX12_least_139 adX12_least_139.2.2.2.2.2.2.2.2.2.2.1 rfl
theorem dX12_least_158 : decode cX12_least 158 = .ok (.aload_n 0, 1) := dAt wdX12_least_139 adX12_least_139.2.2.2.2.2.2.2.2.2.2.2.1 rfl
theorem dX12_least_159 : decode cX12_least 159 = .ok (.iconst 0, 1) := dAt wdX12_least_139 adX12_least_139.2.2.2.2.2.2.2.2.2.2.2.2.1 rfl
theorem dX12_least_160 : decode cX12_least 160 = .ok (.iconst 0, 1) := dAt wdX12_least_139 adX12_least_139.2.2.2.2.2.2.2.2.2.2.2.2.2.1 rfl
theorem dX12_least_161 : decode cX12_least 161 = .ok (.iconst 0, 1) := dAt wdX12_least_139 adX12_least_139.2.2.2.2.2.2.2.2.2.2.2.2.2.2.1 rfl
theorem dX12_least_162 : decode cX12_least 162 = .ok (.invokevirtual 464, 3) := dAt wdX12_least_139 adX12_least_139.2.2.2.2.2.2.2.2.2.2.2.2.2.2.2 rfl
def bdX12_least_165 : ByteArray := .mk #[42, 180, 1, 205, 172]
theorem wdX12_least_165 : LocW cX12_least 165 bdX12_least_165 := loc_of (by decide +kernel)
theorem adX12_least_165 : De bdX12_least_165 0 (.aload_n 0) 1 ∧ De bdX12_least_165 1 (.getfield 461) 3 ∧ De bdX12_least_165 4 (.ireturn) 1 := by decide +kernel
theorem dX12_least_165 : decode cX12_least 165 = .ok (.aload_n 0, 1) := dAt wdX12_least_165 adX12_least_165.1 rfl
theorem dX12_least_166 : decode cX12_least 166 = .ok (.getfield 461, 3) := dAt wdX12_least_165 adX12_least_165.2.1 rfl
theorem dX12_least_169 : decode cX12_least 169 = .ok (.ireturn, 1) := dAt wdX12_least_165 adX12_least_165.2.2 rfl
def bdX12_place_0 : ByteArray := .mk #[42, 180, 1, 205, 2, 159, 0, 12, 29, 42, 180, 1, 205, 161, 0, 4, 177, 28, 42, 180, 1, 199, 160, 0, 9, 42, 29, 181, 1, 205]
theorem wdX12_place_0 : LocW cX12_place 0 bdX12_place_0 := loc_of (by decide +kernel)
theorem adX12_place_0 : De bdX12_place_0 0 (.aload_n 0) 1 ∧ De bdX12_place_0 1 (.getfield 461) 3 ∧ De bdX12_place_0 4 (.iconst (-1)) 1 ∧ De bdX12_place_0 5 (.if_icmp .eq 12) 3 ∧ De bdX12_place_0 8 (.iload_n 3) 1 ∧ De bdX12_place_0 9 (.aload_n 0) 1 ∧ De bdX12_place_0 10 (.getfield 461) 3 ∧ De bdX12_place_0 13 (.if_icmp .lt 4) 3 ∧ De bdX12_place_0 16 (.return_) 1 ∧ De bdX12_place_0 17 (.iload_n 2) 1 ∧ De bdX12_place_0 18 (.aload_n 0) 1 ∧ De bdX12_place_0 19 (.getfield 455) 3 ∧ De bdX12_place_0 22 (.if_icmp .ne 9) 3 ∧ De bdX12_place_0 25 (.aload_n 0) 1 ∧ De bdX12_place_0 26 (.iload_n 3) 1 ∧ De bdX12_place_0 27 (.putfield 461) 3 := by decide +kernel
theorem dX12_place_0 : decode cX12_place 0 = .ok (.aload_n 0, 1) := dAt wdX12_place_0 adX12_place_0.1 rfl
theorem dX12_place_1 : decode cX12_place 1 = .ok (.getfield 461, 3) := dAt wdX12_place_0 adX12_place_0.2.1 rfl
theorem dX12_place_4 : decode cX12_place 4 = .ok (.iconst (-1), 1) := dAt wdX12_place_0 adX12_place_0.2.2.1 rfl
theorem dX12_place_5 : decode cX12_place 5 = .ok (.if_icmp .eq 12, 3) := dAt wdX12_place_0 adX12_place_0.2.2.2.1 rfl
theorem dX12_place_8 : decode cX12_place 8 = .ok (.iload_n 3, 1) := dAt wdX12_place_0 adX12_place_0.2.2.2.2.1 rfl
theorem dX12_place_9 : decode cX12_place 9 = .ok (.aload_n 0, 1) := dAt wdX12_place_0 adX12_place_0.2.2.2.2.2.1 rfl
theorem dX12_place_10 : decode cX12_place 10 = .ok (.getfield 461, 3) := dAt wdX12_place_0 adX12_place_0.2.2.2.2.2.2.1 rfl
theorem dX12_place_13 : decode cX12_place 13 = .ok (.if_icmp .lt 4, 3) := dAt wdX12_place_0 adX12_place_0.2.2.2.2.2.2.2.1 rfl
theorem dX12_place_16 : decode cX12_place 16 = .ok (.return_, 1) := dAt wdX12_place_0 adX12_place_0.2.2.2.2.2.2.2.2.1 rfl
theorem dX12_place_17 : decode cX12_place 17 = .ok (.iload_n 2, 1) := dAt wdX12_place_0 adX12_place_0.2.2.2.2.2.2.2.2.2.1 rfl
theorem dX12_place_18 : decode cX12_place 18 = .ok (.aload_n 0, 1) := dAt wdX12_place_0 adX12_place_0.2.2.2.2.2.2.2.2.2.2.1 rfl
theorem dX12_place_19 : decode cX12_place 19 = .ok (.getfield 455, 3) := dAt wdX12_place_0 adX12_place_0.2.2.2.2.2.2.2.2.2.2.2.1 rfl
theorem dX12_place_22 : decode cX12_place 22 = .ok (.if_icmp .ne 9, 3) := dAt wdX12_place_0 adX12_place_0.2.2.2.2.2.2.2.2.2.2.2.2.1 rfl
theorem dX12_place_25 : decode cX12_place 25 = .ok (.aload_n 0, 1) := dAt wdX12_place_0 adX12_place_0.2.2.2.2.2.2.2.2.2.2.2.2.2.1 rfl
theorem dX12_place_26 : decode cX12_place 26 = .ok (.iload_n 3, 1) := dAt wdX12_place_0 adX12_place_0.2.2.2.2.2.2.2.2.2.2.2.2.2.2.1 rfl
theorem dX12_place_27 : decode cX12_place 27 = .ok (.putfield 461, 3) := dAt wdX12_place_0 adX12_place_0.2.2.2.2.2.2.2.2.2.2.2.2.2.2.2 rfl
def bdX12_place_30 : ByteArray := .mk #[177, 3, 54, 4, 21, 4, 42, 180, 1, 199, 162, 0, 149, 27, 21, 4, 122, 4, 126, 4, 160, 0, 6, 167, 0, 130, 3]
theorem wdX12_place_30 : LocW cX12_place 30 bdX12_place_30 := loc_of (by decide +kernel)
theorem adX12_place_30 : De bdX12_place_30 0 (.return_) 1 ∧ De bdX12_place_30 1 (.iconst 0) 1 ∧ De bdX12_place_30 2 (.istore 4) 2 ∧ De bdX12_place_30 4 (.iload 4) 2 ∧ De bdX12_place_30 6 (.aload_n 0) 1 ∧ De bdX12_place_30 7 (.getfield 455) 3 ∧ De bdX12_place_30 10 (.if_icmp .ge 149) 3 ∧ De bdX12_place_30 13 (.iload_n 1) 1 ∧ De bdX12_place_30 14 (.iload 4) 2 ∧ De bdX12_place_30 16 (.ishr) 1 ∧ De bdX12_place_30 17 (.iconst 1) 1 ∧ De bdX12_place_30 18 (.iand) 1 ∧ De bdX12_place_30 19 (.iconst 1) 1 ∧ De bdX12_place_30 20 (.if_icmp .ne 6) 3 ∧ De bdX12_place_30 23 (.goto 130) 3 ∧ De bdX12_place_30 26 (.iconst 0) 1 := by decide +kernel
theorem dX12_place_30 : decode cX12_place 30 = .ok (.return_, 1) := dAt wdX12_place_30 adX12_place_30.1 rfl
theorem dX12_place_31 : decode cX12_place 31 = .ok (.iconst 0, 1) := dAt wdX12_place_30 adX12_place_30.2.1 rfl
theorem dX12_place_32 : decode cX12_place 32 = .ok (.istore 4, 2) := dAt wdX12_place_30 adX12_place_30.2.2.1 rfl
theorem dX12_place_34 : decode cX12_place 34 = .ok (.iload 4, 2) := dAt wdX12_place_30 adX12_place_30.2.2.2.1 rfl
theorem dX12_place_36 : decode cX12_place 36 = .ok (.aload_n 0, 1) := dAt wdX12_place_30 adX12_place_30.2.2.2.2.1 rfl
theorem dX12_place_37 : decode cX12_place 37 = .ok (.getfield 455, 3) := dAt wdX12_place_30 adX12_place_30.2.2.2.2.2.1 rfl
theorem dX12_place_40 : decode cX12_place 40 = .ok (.if_icmp .ge 149, 3) := dAt wdX12_place_30 adX12_place_30.2.2.2.2.2.2.1 rfl
theorem dX12_place_43 : decode cX12_place 43 = .ok (.iload_n 1, 1) := dAt wdX12_place_30 adX12_place_30.2.2.2.2.2.2.2.1 rfl
theorem dX12_place_44 : decode cX12_place 44 = .ok (.iload 4, 2) := dAt wdX12_place_30 adX12_place_30.2.2.2.2.2.2.2.2.1 rfl
theorem dX12_place_46 : decode cX12_place 46 = .ok (.ishr, 1) := dAt wdX12_place_30 adX12_place_30.2.2.2.2.2.2.2.2.2.1 rfl
theorem dX12_place_47 : decode cX12_place 47 = .ok (.iconst 1, 1) := dAt wdX12_place_30 adX12_place_30.2.2.2.2.2.2.2.2.2.2.1 rfl
theorem dX12_place_48 : decode cX12_place 48 = .ok (.iand, 1) := dAt wdX12_place_30 adX12_place_30.2.2.2.2.2.2.2.2.2.2.2.1 rfl
theorem dX12_place_49 : decode cX12_place 49 = .ok (.iconst 1, 1) := dAt wdX12_place_30 adX12_place_30.2.2.2.2.2.2.2.2.2.2.2.2.1 rfl
theorem dX12_place_50 : decode cX12_place 50 = .ok (.if_icmp .ne 6, 3) := dAt wdX12_place_30 adX12_place_30.2.2.2.2.2.2.2.2.2.2.2.2.2.1 rfl
theorem dX12_place_53 : decode cX12_place 53 = .ok (.goto 130, 3) := dAt wdX12_place_30 adX12_place_30.2.2.2.2.2.2.2.2.2.2.2.2.2.2.1 rfl
theorem dX12_place_56 : decode cX12_place 56 = .ok (.iconst 0, 1) := dAt wdX12_place_30 adX12_place_30.2.2.2.2.2.2.2.2.2.2.2.2.2.2.2 rfl
def bdX12_place_57 : ByteArray := .mk #[54, 5, 21, 5, 42, 180, 0, 8, 6, 46, 162, 0, 116, 42, 180, 0, 8, 21, 5, 184, 1, 104, 16, 28, 96, 46, 4, 160, 0, 6]
theorem wdX12_place_57 : LocW cX12_place 57 bdX12_place_57 := loc_of (by decide +kernel)
theorem adX12_place_57 : De bdX12_place_57 0 (.istore 5) 2 ∧ De bdX12_place_57 2 (.iload 5) 2 ∧ De bdX12_place_57 4 (.aload_n 0) 1 ∧ De bdX12_place_57 5 (.getfield 8) 3 ∧ De bdX12_place_57 8 (.iconst 3) 1 ∧ De bdX12_place_57 9 (.iaload) 1 ∧ De bdX12_place_57 10 (.if_icmp .ge 116) 3 ∧ De bdX12_place_57 13 (.aload_n 0) 1 ∧ De bdX12_place_57 14 (.getfield 8) 3 ∧ De bdX12_place_57 17 (.iload 5) 2 ∧ De bdX12_place_57 19 (.invokestatic 360) 3 ∧ De bdX12_place_57 22 (.bipush 28) 2 ∧ De bdX12_place_57 24 (.iadd) 1 ∧ De bdX12_place_57 25 (.iaload) 1 ∧ De bdX12_place_57 26 (.iconst 1) 1 ∧ De bdX12_place_57 27 (.if_icmp .ne 6) 3 := by decide +kernel
theorem dX12_place_57 : decode cX12_place 57 = .ok (.istore 5, 2) := dAt wdX12_place_57 adX12_place_57.1 rfl
theorem dX12_place_59 : decode cX12_place 59 = .ok (.iload 5, 2) := dAt wdX12_place_57 adX12_place_57.2.1 rfl
theorem dX12_place_61 : decode cX12_place 61 = .ok (.aload_n 0, 1) := dAt wdX12_place_57 adX12_place_57.2.2.1 rfl
theorem dX12_place_62 : decode cX12_place 62 = .ok (.getfield 8, 3) := dAt wdX12_place_57 adX12_place_57.2.2.2.1 rfl
theorem dX12_place_65 : decode cX12_place 65 = .ok (.iconst 3, 1) := dAt wdX12_place_57 adX12_place_57.2.2.2.2.1 rfl
theorem dX12_place_66 : decode cX12_place 66 = .ok (.iaload, 1) := dAt wdX12_place_57 adX12_place_57.2.2.2.2.2.1 rfl
theorem dX12_place_67 : decode cX12_place 67 = .ok (.if_icmp .ge 116, 3) := dAt wdX12_place_57 adX12_place_57.2.2.2.2.2.2.1 rfl
theorem dX12_place_70 : decode cX12_place 70 = .ok (.aload_n 0, 1) := dAt wdX12_place_57 adX12_place_57.2.2.2.2.2.2.2.1 rfl
theorem dX12_place_71 : decode cX12_place 71 = .ok (.getfield 8, 3) := dAt wdX12_place_57 adX12_place_57.2.2.2.2.2.2.2.2.1 rfl
theorem dX12_place_74 : decode cX12_place 74 = .ok (.iload 5, 2) := dAt wdX12_place_57 adX12_place_57.2.2.2.2.2.2.2.2.2.1 rfl
theorem dX12_place_76 : decode cX12_place 76 = .ok (.invokestatic 360, 3) := dAt wdX12_place_57 adX12_place_57.2.2.2.2.2.2.2.2.2.2.1 rfl
theorem dX12_place_79 : decode cX12_place 79 = .ok (.bipush 28, 2) := dAt wdX12_place_57 adX12_place_57.2.2.2.2.2.2.2.2.2.2.2.1 rfl
theorem dX12_place_81 : decode cX12_place 81 = .ok (.iadd, 1) := dAt wdX12_place_57 adX12_place_57.2.2.2.2.2.2.2.2.2.2.2.2.1 rfl
theorem dX12_place_82 : decode cX12_place 82 = .ok (.iaload, 1) := dAt wdX12_place_57 adX12_place_57.2.2.2.2.2.2.2.2.2.2.2.2.2.1 rfl
theorem dX12_place_83 : decode cX12_place 83 = .ok (.iconst 1, 1) := dAt wdX12_place_57 adX12_place_57.2.2.2.2.2.2.2.2.2.2.2.2.2.2.1 rfl
theorem dX12_place_84 : decode cX12_place 84 = .ok (.if_icmp .ne 6, 3) := dAt wdX12_place_57 adX12_place_57.2.2.2.2.2.2.2.2.2.2.2.2.2.2.2 rfl
def bdX12_place_87 : ByteArray := .mk #[167, 0, 90, 42, 180, 0, 118, 21, 5, 92, 46, 42, 180, 0, 115, 21, 4, 46, 96, 79, 42, 180, 0, 118, 21, 5, 46]
theorem wdX12_place_87 : LocW cX12_place 87 bdX12_place_87 := loc_of (by decide +kernel)
theorem adX12_place_87 : De bdX12_place_87 0 (.goto 90) 3 ∧ De bdX12_place_87 3 (.aload_n 0) 1 ∧ De bdX12_place_87 4 (.getfield 118) 3 ∧ De bdX12_place_87 7 (.iload 5) 2 ∧ De bdX12_place_87 9 (.dup2) 1 ∧ De bdX12_place_87 10 (.iaload) 1 ∧ De bdX12_place_87 11 (.aload_n 0) 1 ∧ De bdX12_place_87 12 (.getfield 115) 3 ∧ De bdX12_place_87 15 (.iload 4) 2 ∧ De bdX12_place_87 17 (.iaload) 1 ∧ De bdX12_place_87 18 (.iadd) 1 ∧ De bdX12_place_87 19 (.iastore) 1 ∧ De bdX12_place_87 20 (.aload_n 0) 1 ∧ De bdX12_place_87 21 (.getfield 118) 3 ∧ De bdX12_place_87 24 (.iload 5) 2 ∧ De bdX12_place_87 26 (.iaload) 1 := by decide +kernel
theorem dX12_place_87 : decode cX12_place 87 = .ok (.goto 90, 3) := dAt wdX12_place_87 adX12_place_87.1 rfl
theorem dX12_place_90 : decode cX12_place 90 = .ok (.aload_n 0, 1) := dAt wdX12_place_87 adX12_place_87.2.1 rfl
theorem dX12_place_91 : decode cX12_place 91 = .ok (.getfield 118, 3) := dAt wdX12_place_87 adX12_place_87.2.2.1 rfl
theorem dX12_place_94 : decode cX12_place 94 = .ok (.iload 5, 2) := dAt wdX12_place_87 adX12_place_87.2.2.2.1 rfl
theorem dX12_place_96 : decode cX12_place 96 = .ok (.dup2, 1) := dAt wdX12_place_87 adX12_place_87.2.2.2.2.1 rfl
theorem dX12_place_97 : decode cX12_place 97 = .ok (.iaload, 1) := dAt wdX12_place_87 adX12_place_87.2.2.2.2.2.1 rfl
theorem dX12_place_98 : decode cX12_place 98 = .ok (.aload_n 0, 1) := dAt wdX12_place_87 adX12_place_87.2.2.2.2.2.2.1 rfl
theorem dX12_place_99 : decode cX12_place 99 = .ok (.getfield 115, 3) := dAt wdX12_place_87 adX12_place_87.2.2.2.2.2.2.2.1 rfl
theorem dX12_place_102 : decode cX12_place 102 = .ok (.iload 4, 2) := dAt wdX12_place_87 adX12_place_87.2.2.2.2.2.2.2.2.1 rfl
theorem dX12_place_104 : decode cX12_place 104 = .ok (.iaload, 1) := dAt wdX12_place_87 adX12_place_87.2.2.2.2.2.2.2.2.2.1 rfl
theorem dX12_place_105 : decode cX12_place 105 = .ok (.iadd, 1) := dAt wdX12_place_87 adX12_place_87.2.2.2.2.2.2.2.2.2.2.1 rfl
theorem dX12_place_106 : decode cX12_place 106 = .ok (.iastore, 1) := dAt wdX12_place_87 adX12_place_87.2.2.2.2.2.2.2.2.2.2.2.1 rfl
theorem dX12_place_107 : decode cX12_place 107 = .ok (.aload_n 0, 1) := dAt wdX12_place_87 adX12_place_87.2.2.2.2.2.2.2.2.2.2.2.2.1 rfl
theorem dX12_place_108 : decode cX12_place 108 = .ok (.getfield 118, 3) := dAt wdX12_place_87 adX12_place_87.2.2.2.2.2.2.2.2.2.2.2.2.2.1 rfl
theorem dX12_place_111 : decode cX12_place 111 = .ok (.iload 5, 2) := dAt wdX12_place_87 adX12_place_87.2.2.2.2.2.2.2.2.2.2.2.2.2.2.1 rfl
theorem dX12_place_113 : decode cX12_place 113 = .ok (.iaload, 1) := dAt wdX12_place_87 adX12_place_87.2.2.2.2.2.2.2.2.2.2.2.2.2.2.2 rfl
def bdX12_place_114 : ByteArray := .mk #[42, 180, 0, 8, 16, 90, 42, 180, 0, 112, 21, 4, 46, 8, 108, 96, 46, 100, 54, 6, 42, 27, 4]
theorem wdX12_place_114 : LocW cX12_place 114 bdX12_place_114 := loc_of (by decide +kernel)
theorem adX12_place_114 : De bdX12_place_114 0 (.aload_n 0) 1 ∧ De bdX12_place_114 1 (.getfield 8) 3 ∧ De bdX12_place_114 4 (.bipush 90) 2 ∧ De bdX12_place_114 6 (.aload_n 0) 1 ∧ De bdX12_place_114 7 (.getfield 112) 3 ∧ De bdX12_place_114 10 (.iload 4) 2 ∧ De bdX12_place_114 12 (.iaload) 1 ∧ De bdX12_place_114 13 (.iconst 5) 1 ∧ De bdX12_place_114 14 (.idiv) 1 ∧ De bdX12_place_114 15 (.iadd) 1 ∧ De bdX12_place_114 16 (.iaload) 1 ∧ De bdX12_place_114 17 (.isub) 1 ∧ De bdX12_place_114 18 (.istore 6) 2 ∧ De bdX12_place_114 20 (.aload_n 0) 1 ∧ De bdX12_place_114 21 (.iload_n 1) 1 ∧ De bdX12_place_114 22 (.iconst 1) 1 := by decide +kernel
theorem dX12_place_114 : decode cX12_place 114 = .ok (.aload_n 0, 1) := dAt wdX12_place_114 adX12_place_114.1 rfl
theorem dX12_place_115 : decode cX12_place 115 = .ok (.getfield 8, 3) := dAt wdX12_place_114 adX12_place_114.2.1 rfl
theorem dX12_place_118 : decode cX12_place 118 = .ok (.bipush 90, 2) := dAt wdX12_place_114 adX12_place_114.2.2.1 rfl
theorem dX12_place_120 : decode cX12_place 120 = .ok (.aload_n 0, 1) := dAt wdX12_place_114 adX12_place_114.2.2.2.1 rfl
theorem dX12_place_121 : decode cX12_place 121 = .ok (.getfield 112, 3) := dAt wdX12_place_114 adX12_place_114.2.2.2.2.1 rfl
theorem dX12_place_124 : decode cX12_place 124 = .ok (.iload 4, 2) := dAt wdX12_place_114 adX12_place_114.2.2.2.2.2.1 rfl
theorem dX12_place_126 : decode cX12_place 126 = .ok (.iaload, 1) := dAt wdX12_place_114 adX12_place_114.2.2.2.2.2.2.1 rfl
theorem dX12_place_127 : decode cX12_place 127 = .ok (.iconst 5, 1) := dAt wdX12_place_114 adX12_place_114.2.2.2.2.2.2.2.1 rfl
theorem dX12_place_128 : decode cX12_place 128 = .ok (.idiv, 1) := dAt wdX12_place_114 adX12_place_114.2.2.2.2.2.2.2.2.1 rfl
theorem dX12_place_129 : decode cX12_place 129 = .ok (.iadd, 1) := dAt wdX12_place_114 adX12_place_114.2.2.2.2.2.2.2.2.2.1 rfl
theorem dX12_place_130 : decode cX12_place 130 = .ok (.iaload, 1) := dAt wdX12_place_114 adX12_place_114.2.2.2.2.2.2.2.2.2.2.1 rfl
theorem dX12_place_131 : decode cX12_place 131 = .ok (.isub, 1) := dAt wdX12_place_114 adX12_place_114.2.2.2.2.2.2.2.2.2.2.2.1 rfl
theorem dX12_place_132 : decode cX12_place 132 = .ok (.istore 6, 2) := dAt wdX12_place_114 adX12_place_114.2.2.2.2.2.2.2.2.2.2.2.2.1 rfl
theorem dX12_place_134 : decode cX12_place 134 = .ok (.aload_n 0, 1) := dAt wdX12_place_114 adX12_place_114.2.2.2.2.2.2.2.2.2.2.2.2.2.1 rfl
theorem dX12_place_135 : decode cX12_place 135 = .ok (.iload_n 1, 1) := dAt wdX12_place_114 adX12_place_114.2.2.2.2.2.2.2.2.2.2.2.2.2.2.1 rfl
theorem dX12_place_136 : decode cX12_place 136 = .ok (.iconst 1, 1) := dAt wdX12_place_114 adX12_place_114.2.2.2.2.2.2.2.2.2.2.2.2.2.2.2 rfl
def bdX12_place_137 : ByteArray := .mk #[21, 4, 120, 128, 28, 4, 96, 29, 21, 6, 158, 0, 8, 21, 6, 167, 0, 4, 3, 96, 182, 1, 208, 42, 180, 0, 118]
theorem wdX12_place_137 : LocW cX12_place 137 bdX12_place_137 := loc_of (by decide +kernel)
theorem adX12_place_137 : De bdX12_place_137 0 (.iload 4) 2 ∧ De bdX12_place_137 2 (.ishl) 1 ∧ De bdX12_place_137 3 (.ior) 1 ∧ De bdX12_place_137 4 (.iload_n 2) 1 ∧ De bdX12_place_137 5 (.iconst 1) 1 ∧ De bdX12_place_137 6 (.iadd) 1 ∧ De bdX12_place_137 7 (.iload_n 3) 1 ∧ De bdX12_place_137 8 (.iload 6) 2 ∧ De bdX12_place_137 10 (.ifCond .le 8) 3 ∧ De bdX12_place_137 13 (.iload 6) 2 ∧ De bdX12_place_137 15 (.goto 4) 3 ∧ De bdX12_place_137 18 (.iconst 0) 1 ∧ De bdX12_place_137 19 (.iadd) 1 ∧ De bdX12_place_137 20 (.invokevirtual 464) 3 ∧ De bdX12_place_137 23 (.aload_n 0) 1 ∧ De bdX12_place_137 24 (.getfield 118) 3 := by decide +kernel
theorem dX12_place_137 : decode cX12_place 137 = .ok (.iload 4, 2) := dAt wdX12_place_137 adX12_place_137.1 rfl
theorem dX12_place_139 : decode cX12_place 139 = .ok (.ishl, 1) := dAt wdX12_place_137 adX12_place_137.2.1 rfl
theorem dX12_place_140 : decode cX12_place 140 = .ok (.ior, 1) := dAt wdX12_place_137 adX12_place_137.2.2.1 rfl
theorem dX12_place_141 : decode cX12_place 141 = .ok (.iload_n 2, 1) := dAt wdX12_place_137 adX12_place_137.2.2.2.1 rfl
theorem dX12_place_142 : decode cX12_place 142 = .ok (.iconst 1, 1) := dAt wdX12_place_137 adX12_place_137.2.2.2.2.1 rfl
theorem dX12_place_143 : decode cX12_place 143 = .ok (.iadd, 1) := dAt wdX12_place_137 adX12_place_137.2.2.2.2.2.1 rfl
theorem dX12_place_144 : decode cX12_place 144 = .ok (.iload_n 3, 1) := dAt wdX12_place_137 adX12_place_137.2.2.2.2.2.2.1 rfl
theorem dX12_place_145 : decode cX12_place 145 = .ok (.iload 6, 2) := dAt wdX12_place_137 adX12_place_137.2.2.2.2.2.2.2.1 rfl
theorem dX12_place_147 : decode cX12_place 147 = .ok (.ifCond .le 8, 3) := dAt wdX12_place_137 adX12_place_137.2.2.2.2.2.2.2.2.1 rfl
theorem dX12_place_150 : decode cX12_place 150 = .ok (.iload 6, 2) := dAt wdX12_place_137 adX12_place_137.2.2.2.2.2.2.2.2.2.1 rfl
theorem dX12_place_152 : decode cX12_place 152 = .ok (.goto 4, 3) := dAt wdX12_place_137 adX12_place_137.2.2.2.2.2.2.2.2.2.2.1 rfl
theorem dX12_place_155 : decode cX12_place 155 = .ok (.iconst 0, 1) := dAt wdX12_place_137 adX12_place_137.2.2.2.2.2.2.2.2.2.2.2.1 rfl
theorem dX12_place_156 : decode cX12_place 156 = .ok (.iadd, 1) := dAt wdX12_place_137 adX12_place_137.2.2.2.2.2.2.2.2.2.2.2.2.1 rfl
theorem dX12_place_157 : decode cX12_place 157 = .ok (.invokevirtual 464, 3) := dAt wdX12_place_137 adX12_place_137.2.2.2.2.2.2.2.2.2.2.2.2.2.1 rfl
theorem dX12_place_160 : decode cX12_place 160 = .ok (.aload_n 0, 1) := dAt wdX12_place_137 adX12_place_137.2.2.2.2.2.2.2.2.2.2.2.2.2.2.1 rfl
theorem dX12_place_161 : decode cX12_place 161 = .ok (.getfield 118, 3) := dAt wdX12_place_137 adX12_place_137.2.2.2.2.2.2.2.2.2.2.2.2.2.2.2 rfl
def bdX12_place_164 : ByteArray := .mk #[21, 5, 92, 46, 42, 180, 0, 115, 21, 4, 46, 100, 79, 132, 5, 1, 167, 255, 135, 132, 4, 1, 167, 255, 104, 177]
theorem wdX12_place_164 : LocW cX12_place 164 bdX12_place_164 := loc_of (by decide +kernel)
theorem adX12_place_164 : De bdX12_place_164 0 (.iload 5) 2 ∧ De bdX12_place_164 2 (.dup2) 1 ∧ De bdX12_place_164 3 (.iaload) 1 ∧ De bdX12_place_164 4 (.aload_n 0) 1 ∧ De bdX12_place_164 5 (.getfield 115) 3 ∧ De bdX12_place_164 8 (.iload 4) 2 ∧ De bdX12_place_164 10 (.iaload) 1 ∧ De bdX12_place_164 11 (.isub) 1 ∧ De bdX12_place_164 12 (.iastore) 1 ∧ De bdX12_place_164 13 (.iinc 5 1) 3 ∧ De bdX12_place_164 16 (.goto (-121)) 3 ∧ De bdX12_place_164 19 (.iinc 4 1) 3 ∧ De bdX12_place_164 22 (.goto (-152)) 3 ∧ De bdX12_place_164 25 (.return_) 1 := by decide +kernel
theorem dX12_place_164 : decode cX12_place 164 = .ok (.iload 5, 2) := dAt wdX12_place_164 adX12_place_164.1 rfl
theorem dX12_place_166 : decode cX12_place 166 = .ok (.dup2, 1) := dAt wdX12_place_164 adX12_place_164.2.1 rfl
theorem dX12_place_167 : decode cX12_place 167 = .ok (.iaload, 1) := dAt wdX12_place_164 adX12_place_164.2.2.1 rfl
theorem dX12_place_168 : decode cX12_place 168 = .ok (.aload_n 0, 1) := dAt wdX12_place_164 adX12_place_164.2.2.2.1 rfl
theorem dX12_place_169 : decode cX12_place 169 = .ok (.getfield 115, 3) := dAt wdX12_place_164 adX12_place_164.2.2.2.2.1 rfl
theorem dX12_place_172 : decode cX12_place 172 = .ok (.iload 4, 2) := dAt wdX12_place_164 adX12_place_164.2.2.2.2.2.1 rfl
theorem dX12_place_174 : decode cX12_place 174 = .ok (.iaload, 1) := dAt wdX12_place_164 adX12_place_164.2.2.2.2.2.2.1 rfl
theorem dX12_place_175 : decode cX12_place 175 = .ok (.isub, 1) := dAt wdX12_place_164 adX12_place_164.2.2.2.2.2.2.2.1 rfl
theorem dX12_place_176 : decode cX12_place 176 = .ok (.iastore, 1) := dAt wdX12_place_164 adX12_place_164.2.2.2.2.2.2.2.2.1 rfl
theorem dX12_place_177 : decode cX12_place 177 = .ok (.iinc 5 1, 3) := dAt wdX12_place_164 adX12_place_164.2.2.2.2.2.2.2.2.2.1 rfl
theorem dX12_place_180 : decode cX12_place 180 = .ok (.goto (-121), 3) := dAt wdX12_place_164 adX12_place_164.2.2.2.2.2.2.2.2.2.2.1 rfl
theorem dX12_place_183 : decode cX12_place 183 = .ok (.iinc 4 1, 3) := dAt wdX12_place_164 adX12_place_164.2.2.2.2.2.2.2.2.2.2.2.1 rfl
theorem dX12_place_186 : decode cX12_place 186 = .ok (.goto (-152), 3) := dAt wdX12_place_164 adX12_place_164.2.2.2.2.2.2.2.2.2.2.2.2.1 rfl
theorem dX12_place_189 : decode cX12_place 189 = .ok (.return_, 1) := dAt wdX12_place_164 adX12_place_164.2.2.2.2.2.2.2.2.2.2.2.2.2 rfl
def bdX12_ahead_0 : ByteArray := .mk #[42, 27, 2, 159, 0, 15, 42, 27, 182, 1, 107, 154, 0, 7, 4, 167, 0, 4, 3, 181, 0, 122, 42, 180, 0, 122, 158, 0, 5, 3]
theorem wdX12_ahead_0 : LocW cX12_ahead 0 bdX12_ahead_0 := loc_of (by decide +kernel)
theorem adX12_ahead_0 : De bdX12_ahead_0 0 (.aload_n 0) 1 ∧ De bdX12_ahead_0 1 (.iload_n 1) 1 ∧ De bdX12_ahead_0 2 (.iconst (-1)) 1 ∧ De bdX12_ahead_0 3 (.if_icmp .eq 15) 3 ∧ De bdX12_ahead_0 6 (.aload_n 0) 1 ∧ De bdX12_ahead_0 7 (.iload_n 1) 1 ∧ De bdX12_ahead_0 8 (.invokevirtual 363) 3 ∧ De bdX12_ahead_0 11 (.ifCond .ne 7) 3 ∧ De bdX12_ahead_0 14 (.iconst 1) 1 ∧ De bdX12_ahead_0 15 (.goto 4) 3 ∧ De bdX12_ahead_0 18 (.iconst 0) 1 ∧ De bdX12_ahead_0 19 (.putfield 122) 3 ∧ De bdX12_ahead_0 22 (.aload_n 0) 1 ∧ De bdX12_ahead_0 23 (.getfield 122) 3 ∧ De bdX12_ahead_0 26 (.ifCond .le 5) 3 ∧ De bdX12_ahead_0 29 (.iconst 0) 1 := by decide +kernel
theorem dX12_ahead_0 : decode cX12_ahead 0 = .ok (.aload_n 0, 1) := dAt wdX12_ahead_0 adX12_ahead_0.1 rfl
theorem dX12_ahead_1 : decode cX12_ahead 1 = .ok (.iload_n 1, 1) := dAt wdX12_ahead_0 adX12_ahead_0.2.1 rfl
theorem dX12_ahead_2 : decode cX12_ahead 2 = .ok (.iconst (-1), 1) := dAt wdX12_ahead_0 adX12_ahead_0.2.2.1 rfl
theorem dX12_ahead_3 : decode cX12_ahead 3 = .ok (.if_icmp .eq 15, 3) := dAt wdX12_ahead_0 adX12_ahead_0.2.2.2.1 rfl
theorem dX12_ahead_6 : decode cX12_ahead 6 = .ok (.aload_n 0, 1) := dAt wdX12_ahead_0 adX12_ahead_0.2.2.2.2.1 rfl
theorem dX12_ahead_7 : decode cX12_ahead 7 = .ok (.iload_n 1, 1) := dAt wdX12_ahead_0 adX12_ahead_0.2.2.2.2.2.1 rfl
theorem dX12_ahead_8 : decode cX12_ahead 8 = .ok (.invokevirtual 363, 3) := dAt wdX12_ahead_0 adX12_ahead_0.2.2.2.2.2.2.1 rfl
theorem dX12_ahead_11 : decode cX12_ahead 11 = .ok (.ifCond .ne 7, 3) := dAt wdX12_ahead_0 adX12_ahead_0.2.2.2.2.2.2.2.1 rfl
theorem dX12_ahead_14 : decode cX12_ahead 14 = .ok (.iconst 1, 1) := dAt wdX12_ahead_0 adX12_ahead_0.2.2.2.2.2.2.2.2.1 rfl
theorem dX12_ahead_15 : decode cX12_ahead 15 = .ok (.goto 4, 3) := dAt wdX12_ahead_0 adX12_ahead_0.2.2.2.2.2.2.2.2.2.1 rfl
theorem dX12_ahead_18 : decode cX12_ahead 18 = .ok (.iconst 0, 1) := dAt wdX12_ahead_0 adX12_ahead_0.2.2.2.2.2.2.2.2.2.2.1 rfl
theorem dX12_ahead_19 : decode cX12_ahead 19 = .ok (.putfield 122, 3) := dAt wdX12_ahead_0 adX12_ahead_0.2.2.2.2.2.2.2.2.2.2.2.1 rfl
theorem dX12_ahead_22 : decode cX12_ahead 22 = .ok (.aload_n 0, 1) := dAt wdX12_ahead_0 adX12_ahead_0.2.2.2.2.2.2.2.2.2.2.2.2.1 rfl
theorem dX12_ahead_23 : decode cX12_ahead 23 = .ok (.getfield 122, 3) := dAt wdX12_ahead_0 adX12_ahead_0.2.2.2.2.2.2.2.2.2.2.2.2.2.1 rfl
theorem dX12_ahead_26 : decode cX12_ahead 26 = .ok (.ifCond .le 5, 3) := dAt wdX12_ahead_0 adX12_ahead_0.2.2.2.2.2.2.2.2.2.2.2.2.2.2.1 rfl
theorem dX12_ahead_29 : decode cX12_ahead 29 = .ok (.iconst 0, 1) := dAt wdX12_ahead_0 adX12_ahead_0.2.2.2.2.2.2.2.2.2.2.2.2.2.2.2 rfl
def bdX12_ahead_30 : ByteArray := .mk #[172, 42, 180, 0, 8, 3, 42, 180, 0, 17, 3, 18, 7, 184, 1, 211, 27, 2, 159, 0, 16, 42, 180, 0, 8, 27, 184, 1, 104]
theorem wdX12_ahead_30 : LocW cX12_ahead 30 bdX12_ahead_30 := loc_of (by decide +kernel)
theorem adX12_ahead_30 : De bdX12_ahead_30 0 (.ireturn) 1 ∧ De bdX12_ahead_30 1 (.aload_n 0) 1 ∧ De bdX12_ahead_30 2 (.getfield 8) 3 ∧ De bdX12_ahead_30 5 (.iconst 0) 1 ∧ De bdX12_ahead_30 6 (.aload_n 0) 1 ∧ De bdX12_ahead_30 7 (.getfield 17) 3 ∧ De bdX12_ahead_30 10 (.iconst 0) 1 ∧ De bdX12_ahead_30 11 (.ldc 7) 2 ∧ De bdX12_ahead_30 13 (.invokestatic 467) 3 ∧ De bdX12_ahead_30 16 (.iload_n 1) 1 ∧ De bdX12_ahead_30 17 (.iconst (-1)) 1 ∧ De bdX12_ahead_30 18 (.if_icmp .eq 16) 3 ∧ De bdX12_ahead_30 21 (.aload_n 0) 1 ∧ De bdX12_ahead_30 22 (.getfield 8) 3 ∧ De bdX12_ahead_30 25 (.iload_n 1) 1 ∧ De bdX12_ahead_30 26 (.invokestatic 360) 3 := by decide +kernel
theorem dX12_ahead_30 : decode cX12_ahead 30 = .ok (.ireturn, 1) := dAt wdX12_ahead_30 adX12_ahead_30.1 rfl
theorem dX12_ahead_31 : decode cX12_ahead 31 = .ok (.aload_n 0, 1) := dAt wdX12_ahead_30 adX12_ahead_30.2.1 rfl
theorem dX12_ahead_32 : decode cX12_ahead 32 = .ok (.getfield 8, 3) := dAt wdX12_ahead_30 adX12_ahead_30.2.2.1 rfl
theorem dX12_ahead_35 : decode cX12_ahead 35 = .ok (.iconst 0, 1) := dAt wdX12_ahead_30 adX12_ahead_30.2.2.2.1 rfl
theorem dX12_ahead_36 : decode cX12_ahead 36 = .ok (.aload_n 0, 1) := dAt wdX12_ahead_30 adX12_ahead_30.2.2.2.2.1 rfl
theorem dX12_ahead_37 : decode cX12_ahead 37 = .ok (.getfield 17, 3) := dAt wdX12_ahead_30 adX12_ahead_30.2.2.2.2.2.1 rfl
theorem dX12_ahead_40 : decode cX12_ahead 40 = .ok (.iconst 0, 1) := dAt wdX12_ahead_30 adX12_ahead_30.2.2.2.2.2.2.1 rfl
theorem dX12_ahead_41 : decode cX12_ahead 41 = .ok (.ldc 7, 2) := dAt wdX12_ahead_30 adX12_ahead_30.2.2.2.2.2.2.2.1 rfl
theorem dX12_ahead_43 : decode cX12_ahead 43 = .ok (.invokestatic 467, 3) := dAt wdX12_ahead_30 adX12_ahead_30.2.2.2.2.2.2.2.2.1 rfl
theorem dX12_ahead_46 : decode cX12_ahead 46 = .ok (.iload_n 1, 1) := dAt wdX12_ahead_30 adX12_ahead_30.2.2.2.2.2.2.2.2.2.1 rfl
theorem dX12_ahead_47 : decode cX12_ahead 47 = .ok (.iconst (-1), 1) := dAt wdX12_ahead_30 adX12_ahead_30.2.2.2.2.2.2.2.2.2.2.1 rfl
theorem dX12_ahead_48 : decode cX12_ahead 48 = .ok (.if_icmp .eq 16, 3) := dAt wdX12_ahead_30 adX12_ahead_30.2.2.2.2.2.2.2.2.2.2.2.1 rfl
theorem dX12_ahead_51 : decode cX12_ahead 51 = .ok (.aload_n 0, 1) := dAt wdX12_ahead_30 adX12_ahead_30.2.2.2.2.2.2.2.2.2.2.2.2.1 rfl
theorem dX12_ahead_52 : decode cX12_ahead 52 = .ok (.getfield 8, 3) := dAt wdX12_ahead_30 adX12_ahead_30.2.2.2.2.2.2.2.2.2.2.2.2.2.1 rfl
theorem dX12_ahead_55 : decode cX12_ahead 55 = .ok (.iload_n 1, 1) := dAt wdX12_ahead_30 adX12_ahead_30.2.2.2.2.2.2.2.2.2.2.2.2.2.2.1 rfl
theorem dX12_ahead_56 : decode cX12_ahead 56 = .ok (.invokestatic 360, 3) := dAt wdX12_ahead_30 adX12_ahead_30.2.2.2.2.2.2.2.2.2.2.2.2.2.2.2 rfl
def bdX12_ahead_59 : ByteArray := .mk #[16, 28, 96, 4, 79, 42, 180, 0, 8, 3, 46, 17, 2, 88, 162, 0, 17, 42, 182, 1, 217, 158, 0, 10, 42, 182, 1, 138, 167, 255, 233]
theorem wdX12_ahead_59 : LocW cX12_ahead 59 bdX12_ahead_59 := loc_of (by decide +kernel)
theorem adX12_ahead_59 : De bdX12_ahead_59 0 (.bipush 28) 2 ∧ De bdX12_ahead_59 2 (.iadd) 1 ∧ De bdX12_ahead_59 3 (.iconst 1) 1 ∧ De bdX12_ahead_59 4 (.iastore) 1 ∧ De bdX12_ahead_59 5 (.aload_n 0) 1 ∧ De bdX12_ahead_59 6 (.getfield 8) 3 ∧ De bdX12_ahead_59 9 (.iconst 0) 1 ∧ De bdX12_ahead_59 10 (.iaload) 1 ∧ De bdX12_ahead_59 11 (.sipush 600) 3 ∧ De bdX12_ahead_59 14 (.if_icmp .ge 17) 3 ∧ De bdX12_ahead_59 17 (.aload_n 0) 1 ∧ De bdX12_ahead_59 18 (.invokevirtual 473) 3 ∧ De bdX12_ahead_59 21 (.ifCond .le 10) 3 ∧ De bdX12_ahead_59 24 (.aload_n 0) 1 ∧ De bdX12_ahead_59 25 (.invokevirtual 394) 3 ∧ De bdX12_ahead_59 28 (.goto (-23)) 3 := by decide +kernel
theorem dX12_ahead_59 : decode cX12_ahead 59 = .ok (.bipush 28, 2) := dAt wdX12_ahead_59 adX12_ahead_59.1 rfl
theorem dX12_ahead_61 : decode cX12_ahead 61 = .ok (.iadd, 1) := dAt wdX12_ahead_59 adX12_ahead_59.2.1 rfl
theorem dX12_ahead_62 : decode cX12_ahead 62 = .ok (.iconst 1, 1) := dAt wdX12_ahead_59 adX12_ahead_59.2.2.1 rfl
theorem dX12_ahead_63 : decode cX12_ahead 63 = .ok (.iastore, 1) := dAt wdX12_ahead_59 adX12_ahead_59.2.2.2.1 rfl
theorem dX12_ahead_64 : decode cX12_ahead 64 = .ok (.aload_n 0, 1) := dAt wdX12_ahead_59 adX12_ahead_59.2.2.2.2.1 rfl
theorem dX12_ahead_65 : decode cX12_ahead 65 = .ok (.getfield 8, 3) := dAt wdX12_ahead_59 adX12_ahead_59.2.2.2.2.2.1 rfl
theorem dX12_ahead_68 : decode cX12_ahead 68 = .ok (.iconst 0, 1) := dAt wdX12_ahead_59 adX12_ahead_59.2.2.2.2.2.2.1 rfl
theorem dX12_ahead_69 : decode cX12_ahead 69 = .ok (.iaload, 1) := dAt wdX12_ahead_59 adX12_ahead_59.2.2.2.2.2.2.2.1 rfl
theorem dX12_ahead_70 : decode cX12_ahead 70 = .ok (.sipush 600, 3) := dAt wdX12_ahead_59 adX12_ahead_59.2.2.2.2.2.2.2.2.1 rfl
theorem dX12_ahead_73 : decode cX12_ahead 73 = .ok (.if_icmp .ge 17, 3) := dAt wdX12_ahead_59 adX12_ahead_59.2.2.2.2.2.2.2.2.2.1 rfl
theorem dX12_ahead_76 : decode cX12_ahead 76 = .ok (.aload_n 0, 1) := dAt wdX12_ahead_59 adX12_ahead_59.2.2.2.2.2.2.2.2.2.2.1 rfl
theorem dX12_ahead_77 : decode cX12_ahead 77 = .ok (.invokevirtual 473, 3) := dAt wdX12_ahead_59 adX12_ahead_59.2.2.2.2.2.2.2.2.2.2.2.1 rfl
theorem dX12_ahead_80 : decode cX12_ahead 80 = .ok (.ifCond .le 10, 3) := dAt wdX12_ahead_59 adX12_ahead_59.2.2.2.2.2.2.2.2.2.2.2.2.1 rfl
theorem dX12_ahead_83 : decode cX12_ahead 83 = .ok (.aload_n 0, 1) := dAt wdX12_ahead_59 adX12_ahead_59.2.2.2.2.2.2.2.2.2.2.2.2.2.1 rfl
theorem dX12_ahead_84 : decode cX12_ahead 84 = .ok (.invokevirtual 394, 3) := dAt wdX12_ahead_59 adX12_ahead_59.2.2.2.2.2.2.2.2.2.2.2.2.2.2.1 rfl
theorem dX12_ahead_87 : decode cX12_ahead 87 = .ok (.goto (-23), 3) := dAt wdX12_ahead_59 adX12_ahead_59.2.2.2.2.2.2.2.2.2.2.2.2.2.2.2 rfl
def bdX12_ahead_90 : ByteArray := .mk #[42, 182, 1, 217, 158, 0, 7, 2, 167, 0, 9, 42, 180, 0, 8, 3, 46, 61, 42, 180, 0, 17, 3, 42, 180, 0, 8, 3]
theorem wdX12_ahead_90 : LocW cX12_ahead 90 bdX12_ahead_90 := loc_of (by decide +kernel)
theorem adX12_ahead_90 : De bdX12_ahead_90 0 (.aload_n 0) 1 ∧ De bdX12_ahead_90 1 (.invokevirtual 473) 3 ∧ De bdX12_ahead_90 4 (.ifCond .le 7) 3 ∧ De bdX12_ahead_90 7 (.iconst (-1)) 1 ∧ De bdX12_ahead_90 8 (.goto 9) 3 ∧ De bdX12_ahead_90 11 (.aload_n 0) 1 ∧ De bdX12_ahead_90 12 (.getfield 8) 3 ∧ De bdX12_ahead_90 15 (.iconst 0) 1 ∧ De bdX12_ahead_90 16 (.iaload) 1 ∧ De bdX12_ahead_90 17 (.istore_n 2) 1 ∧ De bdX12_ahead_90 18 (.aload_n 0) 1 ∧ De bdX12_ahead_90 19 (.getfield 17) 3 ∧ De bdX12_ahead_90 22 (.iconst 0) 1 ∧ De bdX12_ahead_90 23 (.aload_n 0) 1 ∧ De bdX12_ahead_90 24 (.getfield 8) 3 ∧ De bdX12_ahead_90 27 (.iconst 0) 1 := by decide +kernel
theorem dX12_ahead_90 : decode cX12_ahead 90 = .ok (.aload_n 0, 1) := dAt wdX12_ahead_90 adX12_ahead_90.1 rfl
theorem dX12_ahead_91 : decode cX12_ahead 91 = .ok (.invokevirtual 473, 3) := dAt wdX12_ahead_90 adX12_ahead_90.2.1 rfl
theorem dX12_ahead_94 : decode cX12_ahead 94 = .ok (.ifCond .le 7, 3) := dAt wdX12_ahead_90 adX12_ahead_90.2.2.1 rfl
theorem dX12_ahead_97 : decode cX12_ahead 97 = .ok (.iconst (-1), 1) := dAt wdX12_ahead_90 adX12_ahead_90.2.2.2.1 rfl
theorem dX12_ahead_98 : decode cX12_ahead 98 = .ok (.goto 9, 3) := dAt wdX12_ahead_90 adX12_ahead_90.2.2.2.2.1 rfl
theorem dX12_ahead_101 : decode cX12_ahead 101 = .ok (.aload_n 0, 1) := dAt wdX12_ahead_90 adX12_ahead_90.2.2.2.2.2.1 rfl
theorem dX12_ahead_102 : decode cX12_ahead 102 = .ok (.getfield 8, 3) := dAt wdX12_ahead_90 adX12_ahead_90.2.2.2.2.2.2.1 rfl
theorem dX12_ahead_105 : decode cX12_ahead 105 = .ok (.iconst 0, 1) := dAt wdX12_ahead_90 adX12_ahead_90.2.2.2.2.2.2.2.1 rfl
theorem dX12_ahead_106 : decode cX12_ahead 106 = .ok (.iaload, 1) := dAt wdX12_ahead_90 adX12_ahead_90.2.2.2.2.2.2.2.2.1 rfl
theorem dX12_ahead_107 : decode cX12_ahead 107 = .ok (.istore_n 2, 1) := dAt wdX12_ahead_90 adX12_ahead_90.2.2.2.2.2.2.2.2.2.1 rfl
theorem dX12_ahead_108 : decode cX12_ahead 108 = .ok (.aload_n 0, 1) := dAt wdX12_ahead_90 adX12_ahead_90.2.2.2.2.2.2.2.2.2.2.1 rfl
theorem dX12_ahead_109 : decode cX12_ahead 109 = .ok (.getfield 17, 3) := dAt wdX12_ahead_90 adX12_ahead_90.2.2.2.2.2.2.2.2.2.2.2.1 rfl
theorem dX12_ahead_112 : decode cX12_ahead 112 = .ok (.iconst 0, 1) := dAt wdX12_ahead_90 adX12_ahead_90.2.2.2.2.2.2.2.2.2.2.2.2.1 rfl
theorem dX12_ahead_113 : decode cX12_ahead 113 = .ok (.aload_n 0, 1) := dAt wdX12_ahead_90 adX12_ahead_90.2.2.2.2.2.2.2.2.2.2.2.2.2.1 rfl
theorem dX12_ahead_114 : decode cX12_ahead 114 = .ok (.getfield 8, 3) := dAt wdX12_ahead_90 adX12_ahead_90.2.2.2.2.2.2.2.2.2.2.2.2.2.2.1 rfl
theorem dX12_ahead_117 : decode cX12_ahead 117 = .ok (.iconst 0, 1) := dAt wdX12_ahead_90 adX12_ahead_90.2.2.2.2.2.2.2.2.2.2.2.2.2.2.2 rfl
def bdX12_ahead_118 : ByteArray := .mk #[18, 7, 184, 1, 211, 28, 172]
theorem wdX12_ahead_118 : LocW cX12_ahead 118 bdX12_ahead_118 := loc_of (by decide +kernel)
theorem adX12_ahead_118 : De bdX12_ahead_118 0 (.ldc 7) 2 ∧ De bdX12_ahead_118 2 (.invokestatic 467) 3 ∧ De bdX12_ahead_118 5 (.iload_n 2) 1 ∧ De bdX12_ahead_118 6 (.ireturn) 1 := by decide +kernel
theorem dX12_ahead_118 : decode cX12_ahead 118 = .ok (.ldc 7, 2) := dAt wdX12_ahead_118 adX12_ahead_118.1 rfl
theorem dX12_ahead_120 : decode cX12_ahead 120 = .ok (.invokestatic 467, 3) := dAt wdX12_ahead_118 adX12_ahead_118.2.1 rfl
theorem dX12_ahead_123 : decode cX12_ahead 123 = .ok (.iload_n 2, 1) := dAt wdX12_ahead_118 adX12_ahead_118.2.2.1 rfl
theorem dX12_ahead_124 : decode cX12_ahead 124 = .ok (.ireturn, 1) := dAt wdX12_ahead_118 adX12_ahead_118.2.2.2 rfl
def bdX12_jobs_0 : ByteArray := .mk #[3, 60, 3, 61, 28, 42, 180, 0, 8, 6, 46, 162, 0, 24, 27, 42, 180, 0, 8, 28, 184, 1, 104, 16, 29]
theorem wdX12_jobs_0 : LocW cX12_jobs 0 bdX12_jobs_0 := loc_of (by decide +kernel)
theorem adX12_jobs_0 : De bdX12_jobs_0 0 (.iconst 0) 1 ∧ De bdX12_jobs_0 1 (.istore_n 1) 1 ∧ De bdX12_jobs_0 2 (.iconst 0) 1 ∧ De bdX12_jobs_0 3 (.istore_n 2) 1 ∧ De bdX12_jobs_0 4 (.iload_n 2) 1 ∧ De bdX12_jobs_0 5 (.aload_n 0) 1 ∧ De bdX12_jobs_0 6 (.getfield 8) 3 ∧ De bdX12_jobs_0 9 (.iconst 3) 1 ∧ De bdX12_jobs_0 10 (.iaload) 1 ∧ De bdX12_jobs_0 11 (.if_icmp .ge 24) 3 ∧ De bdX12_jobs_0 14 (.iload_n 1) 1 ∧ De bdX12_jobs_0 15 (.aload_n 0) 1 ∧ De bdX12_jobs_0 16 (.getfield 8) 3 ∧ De bdX12_jobs_0 19 (.iload_n 2) 1 ∧ De bdX12_jobs_0 20 (.invokestatic 360) 3 ∧ De bdX12_jobs_0 23 (.bipush 29) 2 := by decide +kernel
theorem dX12_jobs_0 : decode cX12_jobs 0 = .ok (.iconst 0, 1) := dAt wdX12_jobs_0 adX12_jobs_0.1 rfl
theorem dX12_jobs_1 : decode cX12_jobs 1 = .ok (.istore_n 1, 1) := dAt wdX12_jobs_0 adX12_jobs_0.2.1 rfl
theorem dX12_jobs_2 : decode cX12_jobs 2 = .ok (.iconst 0, 1) := dAt wdX12_jobs_0 adX12_jobs_0.2.2.1 rfl
theorem dX12_jobs_3 : decode cX12_jobs 3 = .ok (.istore_n 2, 1) := dAt wdX12_jobs_0 adX12_jobs_0.2.2.2.1 rfl
theorem dX12_jobs_4 : decode cX12_jobs 4 = .ok (.iload_n 2, 1) := dAt wdX12_jobs_0 adX12_jobs_0.2.2.2.2.1 rfl
theorem dX12_jobs_5 : decode cX12_jobs 5 = .ok (.aload_n 0, 1) := dAt wdX12_jobs_0 adX12_jobs_0.2.2.2.2.2.1 rfl
theorem dX12_jobs_6 : decode cX12_jobs 6 = .ok (.getfield 8, 3) := dAt wdX12_jobs_0 adX12_jobs_0.2.2.2.2.2.2.1 rfl
theorem dX12_jobs_9 : decode cX12_jobs 9 = .ok (.iconst 3, 1) := dAt wdX12_jobs_0 adX12_jobs_0.2.2.2.2.2.2.2.1 rfl
theorem dX12_jobs_10 : decode cX12_jobs 10 = .ok (.iaload, 1) := dAt wdX12_jobs_0 adX12_jobs_0.2.2.2.2.2.2.2.2.1 rfl
theorem dX12_jobs_11 : decode cX12_jobs 11 = .ok (.if_icmp .ge 24, 3) := dAt wdX12_jobs_0 adX12_jobs_0.2.2.2.2.2.2.2.2.2.1 rfl
theorem dX12_jobs_14 : decode cX12_jobs 14 = .ok (.iload_n 1, 1) := dAt wdX12_jobs_0 adX12_jobs_0.2.2.2.2.2.2.2.2.2.2.1 rfl
theorem dX12_jobs_15 : decode cX12_jobs 15 = .ok (.aload_n 0, 1) := dAt wdX12_jobs_0 adX12_jobs_0.2.2.2.2.2.2.2.2.2.2.2.1 rfl
theorem dX12_jobs_16 : decode cX12_jobs 16 = .ok (.getfield 8, 3) := dAt wdX12_jobs_0 adX12_jobs_0.2.2.2.2.2.2.2.2.2.2.2.2.1 rfl
theorem dX12_jobs_19 : decode cX12_jobs 19 = .ok (.iload_n 2, 1) := dAt wdX12_jobs_0 adX12_jobs_0.2.2.2.2.2.2.2.2.2.2.2.2.2.1 rfl
theorem dX12_jobs_20 : decode cX12_jobs 20 = .ok (.invokestatic 360, 3) := dAt wdX12_jobs_0 adX12_jobs_0.2.2.2.2.2.2.2.2.2.2.2.2.2.2.1 rfl
theorem dX12_jobs_23 : decode cX12_jobs 23 = .ok (.bipush 29, 2) := dAt wdX12_jobs_0 adX12_jobs_0.2.2.2.2.2.2.2.2.2.2.2.2.2.2.2 rfl
def bdX12_jobs_25 : ByteArray := .mk #[96, 46, 96, 60, 132, 2, 1, 167, 255, 228, 27, 172]
theorem wdX12_jobs_25 : LocW cX12_jobs 25 bdX12_jobs_25 := loc_of (by decide +kernel)
theorem adX12_jobs_25 : De bdX12_jobs_25 0 (.iadd) 1 ∧ De bdX12_jobs_25 1 (.iaload) 1 ∧ De bdX12_jobs_25 2 (.iadd) 1 ∧ De bdX12_jobs_25 3 (.istore_n 1) 1 ∧ De bdX12_jobs_25 4 (.iinc 2 1) 3 ∧ De bdX12_jobs_25 7 (.goto (-28)) 3 ∧ De bdX12_jobs_25 10 (.iload_n 1) 1 ∧ De bdX12_jobs_25 11 (.ireturn) 1 := by decide +kernel
theorem dX12_jobs_25 : decode cX12_jobs 25 = .ok (.iadd, 1) := dAt wdX12_jobs_25 adX12_jobs_25.1 rfl
theorem dX12_jobs_26 : decode cX12_jobs 26 = .ok (.iaload, 1) := dAt wdX12_jobs_25 adX12_jobs_25.2.1 rfl
theorem dX12_jobs_27 : decode cX12_jobs 27 = .ok (.iadd, 1) := dAt wdX12_jobs_25 adX12_jobs_25.2.2.1 rfl
theorem dX12_jobs_28 : decode cX12_jobs 28 = .ok (.istore_n 1, 1) := dAt wdX12_jobs_25 adX12_jobs_25.2.2.2.1 rfl
theorem dX12_jobs_29 : decode cX12_jobs 29 = .ok (.iinc 2 1, 3) := dAt wdX12_jobs_25 adX12_jobs_25.2.2.2.2.1 rfl
theorem dX12_jobs_32 : decode cX12_jobs 32 = .ok (.goto (-28), 3) := dAt wdX12_jobs_25 adX12_jobs_25.2.2.2.2.2.1 rfl
theorem dX12_jobs_35 : decode cX12_jobs 35 = .ok (.iload_n 1, 1) := dAt wdX12_jobs_25 adX12_jobs_25.2.2.2.2.2.2.1 rfl
theorem dX12_jobs_36 : decode cX12_jobs 36 = .ok (.ireturn, 1) := dAt wdX12_jobs_25 adX12_jobs_25.2.2.2.2.2.2.2 rfl
def bdX12_pay_0 : ByteArray := .mk #[42, 42, 27, 182, 1, 107, 154, 0, 7, 4, 167, 0, 4, 3, 181, 0, 122, 42, 180, 0, 122, 158, 0, 5, 3, 172, 3, 54, 4]
theorem wdX12_pay_0 : LocW cX12_pay 0 bdX12_pay_0 := loc_of (by decide +kernel)
theorem adX12_pay_0 : De bdX12_pay_0 0 (.aload_n 0) 1 ∧ De bdX12_pay_0 1 (.aload_n 0) 1 ∧ De bdX12_pay_0 2 (.iload_n 1) 1 ∧ De bdX12_pay_0 3 (.invokevirtual 363) 3 ∧ De bdX12_pay_0 6 (.ifCond .ne 7) 3 ∧ De bdX12_pay_0 9 (.iconst 1) 1 ∧ De bdX12_pay_0 10 (.goto 4) 3 ∧ De bdX12_pay_0 13 (.iconst 0) 1 ∧ De bdX12_pay_0 14 (.putfield 122) 3 ∧ De bdX12_pay_0 17 (.aload_n 0) 1 ∧ De bdX12_pay_0 18 (.getfield 122) 3 ∧ De bdX12_pay_0 21 (.ifCond .le 5) 3 ∧ De bdX12_pay_0 24 (.iconst 0) 1 ∧ De bdX12_pay_0 25 (.ireturn) 1 ∧ De bdX12_pay_0 26 (.iconst 0) 1 ∧ De bdX12_pay_0 27 (.istore 4) 2 := by decide +kernel
theorem dX12_pay_0 : decode cX12_pay 0 = .ok (.aload_n 0, 1) := dAt wdX12_pay_0 adX12_pay_0.1 rfl
theorem dX12_pay_1 : decode cX12_pay 1 = .ok (.aload_n 0, 1) := dAt wdX12_pay_0 adX12_pay_0.2.1 rfl
theorem dX12_pay_2 : decode cX12_pay 2 = .ok (.iload_n 1, 1) := dAt wdX12_pay_0 adX12_pay_0.2.2.1 rfl
theorem dX12_pay_3 : decode cX12_pay 3 = .ok (.invokevirtual 363, 3) := dAt wdX12_pay_0 adX12_pay_0.2.2.2.1 rfl
theorem dX12_pay_6 : decode cX12_pay 6 = .ok (.ifCond .ne 7, 3) := dAt wdX12_pay_0 adX12_pay_0.2.2.2.2.1 rfl
theorem dX12_pay_9 : decode cX12_pay 9 = .ok (.iconst 1, 1) := dAt wdX12_pay_0 adX12_pay_0.2.2.2.2.2.1 rfl
theorem dX12_pay_10 : decode cX12_pay 10 = .ok (.goto 4, 3) := dAt wdX12_pay_0 adX12_pay_0.2.2.2.2.2.2.1 rfl
theorem dX12_pay_13 : decode cX12_pay 13 = .ok (.iconst 0, 1) := dAt wdX12_pay_0 adX12_pay_0.2.2.2.2.2.2.2.1 rfl
theorem dX12_pay_14 : decode cX12_pay 14 = .ok (.putfield 122, 3) := dAt wdX12_pay_0 adX12_pay_0.2.2.2.2.2.2.2.2.1 rfl
theorem dX12_pay_17 : decode cX12_pay 17 = .ok (.aload_n 0, 1) := dAt wdX12_pay_0 adX12_pay_0.2.2.2.2.2.2.2.2.2.1 rfl
theorem dX12_pay_18 : decode cX12_pay 18 = .ok (.getfield 122, 3) := dAt wdX12_pay_0 adX12_pay_0.2.2.2.2.2.2.2.2.2.2.1 rfl
theorem dX12_pay_21 : decode cX12_pay 21 = .ok (.ifCond .le 5, 3) := dAt wdX12_pay_0 adX12_pay_0.2.2.2.2.2.2.2.2.2.2.2.1 rfl
theorem dX12_pay_24 : decode cX12_pay 24 = .ok (.iconst 0, 1) := dAt wdX12_pay_0 adX12_pay_0.2.2.2.2.2.2.2.2.2.2.2.2.1 rfl
theorem dX12_pay_25 : decode cX12_pay 25 = .ok (.ireturn, 1) := dAt wdX12_pay_0 adX12_pay_0.2.2.2.2.2.2.2.2.2.2.2.2.2.1 rfl
theorem dX12_pay_26 : decode cX12_pay 26 = .ok (.iconst 0, 1) := dAt wdX12_pay_0 adX12_pay_0.2.2.2.2.2.2.2.2.2.2.2.2.2.2.1 rfl
theorem dX12_pay_27 : decode cX12_pay 27 = .ok (.istore 4, 2) := dAt wdX12_pay_0 adX12_pay_0.2.2.2.2.2.2.2.2.2.2.2.2.2.2.2 rfl
def bdX12_pay_29 : ByteArray := .mk #[3, 54, 5, 21, 5, 42, 180, 0, 8, 7, 46, 162, 0, 199, 21, 5, 184, 1, 86, 54, 6, 42, 180, 0, 8, 21, 6, 4, 96]
theorem wdX12_pay_29 : LocW cX12_pay 29 bdX12_pay_29 := loc_of (by decide +kernel)
theorem adX12_pay_29 : De bdX12_pay_29 0 (.iconst 0) 1 ∧ De bdX12_pay_29 1 (.istore 5) 2 ∧ De bdX12_pay_29 3 (.iload 5) 2 ∧ De bdX12_pay_29 5 (.aload_n 0) 1 ∧ De bdX12_pay_29 6 (.getfield 8) 3 ∧ De bdX12_pay_29 9 (.iconst 4) 1 ∧ De bdX12_pay_29 10 (.iaload) 1 ∧ De bdX12_pay_29 11 (.if_icmp .ge 199) 3 ∧ De bdX12_pay_29 14 (.iload 5) 2 ∧ De bdX12_pay_29 16 (.invokestatic 342) 3 ∧ De bdX12_pay_29 19 (.istore 6) 2 ∧ De bdX12_pay_29 21 (.aload_n 0) 1 ∧ De bdX12_pay_29 22 (.getfield 8) 3 ∧ De bdX12_pay_29 25 (.iload 6) 2 ∧ De bdX12_pay_29 27 (.iconst 1) 1 ∧ De bdX12_pay_29 28 (.iadd) 1 := by decide +kernel
theorem dX12_pay_29 : decode cX12_pay 29 = .ok (.iconst 0, 1) := dAt wdX12_pay_29 adX12_pay_29.1 rfl
theorem dX12_pay_30 : decode cX12_pay 30 = .ok (.istore 5, 2) := dAt wdX12_pay_29 adX12_pay_29.2.1 rfl
theorem dX12_pay_32 : decode cX12_pay 32 = .ok (.iload 5, 2) := dAt wdX12_pay_29 adX12_pay_29.2.2.1 rfl
theorem dX12_pay_34 : decode cX12_pay 34 = .ok (.aload_n 0, 1) := dAt wdX12_pay_29 adX12_pay_29.2.2.2.1 rfl
theorem dX12_pay_35 : decode cX12_pay 35 = .ok (.getfield 8, 3) := dAt wdX12_pay_29 adX12_pay_29.2.2.2.2.1 rfl
theorem dX12_pay_38 : decode cX12_pay 38 = .ok (.iconst 4, 1) := dAt wdX12_pay_29 adX12_pay_29.2.2.2.2.2.1 rfl
theorem dX12_pay_39 : decode cX12_pay 39 = .ok (.iaload, 1) := dAt wdX12_pay_29 adX12_pay_29.2.2.2.2.2.2.1 rfl
theorem dX12_pay_40 : decode cX12_pay 40 = .ok (.if_icmp .ge 199, 3) := dAt wdX12_pay_29 adX12_pay_29.2.2.2.2.2.2.2.1 rfl
theorem dX12_pay_43 : decode cX12_pay 43 = .ok (.iload 5, 2) := dAt wdX12_pay_29 adX12_pay_29.2.2.2.2.2.2.2.2.1 rfl
theorem dX12_pay_45 : decode cX12_pay 45 = .ok (.invokestatic 342, 3) := dAt wdX12_pay_29 adX12_pay_29.2.2.2.2.2.2.2.2.2.1 rfl
theorem dX12_pay_48 : decode cX12_pay 48 = .ok (.istore 6, 2) := dAt wdX12_pay_29 adX12_pay_29.2.2.2.2.2.2.2.2.2.2.1 rfl
theorem dX12_pay_50 : decode cX12_pay 50 = .ok (.aload_n 0, 1) := dAt wdX12_pay_29 adX12_pay_29.2.2.2.2.2.2.2.2.2.2.2.1 rfl
theorem dX12_pay_51 : decode cX12_pay 51 = .ok (.getfield 8, 3) := dAt wdX12_pay_29 adX12_pay_29.2.2.2.2.2.2.2.2.2.2.2.2.1 rfl
theorem dX12_pay_54 : decode cX12_pay 54 = .ok (.iload 6, 2) := dAt wdX12_pay_29 adX12_pay_29.2.2.2.2.2.2.2.2.2.2.2.2.2.1 rfl
theorem dX12_pay_56 : decode cX12_pay 56 = .ok (.iconst 1, 1) := dAt wdX12_pay_29 adX12_pay_29.2.2.2.2.2.2.2.2.2.2.2.2.2.2.1 rfl
theorem dX12_pay_57 : decode cX12_pay 57 = .ok (.iadd, 1) := dAt wdX12_pay_29 adX12_pay_29.2.2.2.2.2.2.2.2.2.2.2.2.2.2.2 rfl
def bdX12_pay_58 : ByteArray := .mk #[46, 27, 160, 0, 173, 42, 180, 0, 8, 21, 6, 5, 96, 46, 28, 29, 184, 0, 157, 154, 0, 6, 167, 0, 153, 42, 42]
theorem wdX12_pay_58 : LocW cX12_pay 58 bdX12_pay_58 := loc_of (by decide +kernel)
theorem adX12_pay_58 : De bdX12_pay_58 0 (.iaload) 1 ∧ De bdX12_pay_58 1 (.iload_n 1) 1 ∧ De bdX12_pay_58 2 (.if_icmp .ne 173) 3 ∧ De bdX12_pay_58 5 (.aload_n 0) 1 ∧ De bdX12_pay_58 6 (.getfield 8) 3 ∧ De bdX12_pay_58 9 (.iload 6) 2 ∧ De bdX12_pay_58 11 (.iconst 2) 1 ∧ De bdX12_pay_58 12 (.iadd) 1 ∧ De bdX12_pay_58 13 (.iaload) 1 ∧ De bdX12_pay_58 14 (.iload_n 2) 1 ∧ De bdX12_pay_58 15 (.iload_n 3) 1 ∧ De bdX12_pay_58 16 (.invokestatic 157) 3 ∧ De bdX12_pay_58 19 (.ifCond .ne 6) 3 ∧ De bdX12_pay_58 22 (.goto 153) 3 ∧ De bdX12_pay_58 25 (.aload_n 0) 1 ∧ De bdX12_pay_58 26 (.aload_n 0) 1 := by decide +kernel
theorem dX12_pay_58 : decode cX12_pay 58 = .ok (.iaload, 1) := dAt wdX12_pay_58 adX12_pay_58.1 rfl
theorem dX12_pay_59 : decode cX12_pay 59 = .ok (.iload_n 1, 1) := dAt wdX12_pay_58 adX12_pay_58.2.1 rfl
theorem dX12_pay_60 : decode cX12_pay 60 = .ok (.if_icmp .ne 173, 3) := dAt wdX12_pay_58 adX12_pay_58.2.2.1 rfl
theorem dX12_pay_63 : decode cX12_pay 63 = .ok (.aload_n 0, 1) := dAt wdX12_pay_58 adX12_pay_58.2.2.2.1 rfl
theorem dX12_pay_64 : decode cX12_pay 64 = .ok (.getfield 8, 3) := dAt wdX12_pay_58 adX12_pay_58.2.2.2.2.1 rfl
theorem dX12_pay_67 : decode cX12_pay 67 = .ok (.iload 6, 2) := dAt wdX12_pay_58 adX12_pay_58.2.2.2.2.2.1 rfl
theorem dX12_pay_69 : decode cX12_pay 69 = .ok (.iconst 2, 1) := dAt wdX12_pay_58 adX12_pay_58.2.2.2.2.2.2.1 rfl
theorem dX12_pay_70 : decode cX12_pay 70 = .ok (.iadd, 1) := dAt wdX12_pay_58 adX12_pay_58.2.2.2.2.2.2.2.1 rfl
theorem dX12_pay_71 : decode cX12_pay 71 = .ok (.iaload, 1) := dAt wdX12_pay_58 adX12_pay_58.2.2.2.2.2.2.2.2.1 rfl
theorem dX12_pay_72 : decode cX12_pay 72 = .ok (.iload_n 2, 1) := dAt wdX12_pay_58 adX12_pay_58.2.2.2.2.2.2.2.2.2.1 rfl
theorem dX12_pay_73 : decode cX12_pay 73 = .ok (.iload_n 3, 1) := dAt wdX12_pay_58 adX12_pay_58.2.2.2.2.2.2.2.2.2.2.1 rfl
theorem dX12_pay_74 : decode cX12_pay 74 = .ok (.invokestatic 157, 3) := dAt wdX12_pay_58 adX12_pay_58.2.2.2.2.2.2.2.2.2.2.2.1 rfl
theorem dX12_pay_77 : decode cX12_pay 77 = .ok (.ifCond .ne 6, 3) := dAt wdX12_pay_58 adX12_pay_58.2.2.2.2.2.2.2.2.2.2.2.2.1 rfl
theorem dX12_pay_80 : decode cX12_pay 80 = .ok (.goto 153, 3) := dAt wdX12_pay_58 adX12_pay_58.2.2.2.2.2.2.2.2.2.2.2.2.2.1 rfl
theorem dX12_pay_83 : decode cX12_pay 83 = .ok (.aload_n 0, 1) := dAt wdX12_pay_58 adX12_pay_58.2.2.2.2.2.2.2.2.2.2.2.2.2.2.1 rfl
theorem dX12_pay_84 : decode cX12_pay 84 = .ok (.aload_n 0, 1) := dAt wdX12_pay_58 adX12_pay_58.2.2.2.2.2.2.2.2.2.2.2.2.2.2.2 rfl
def bdX12_pay_85 : ByteArray := .mk #[180, 0, 8, 21, 6, 5, 96, 46, 182, 1, 28, 54, 7, 42, 42, 180, 0, 8, 21, 6, 3, 96, 46, 42, 180, 0, 8]
theorem wdX12_pay_85 : LocW cX12_pay 85 bdX12_pay_85 := loc_of (by decide +kernel)
theorem adX12_pay_85 : De bdX12_pay_85 0 (.getfield 8) 3 ∧ De bdX12_pay_85 3 (.iload 6) 2 ∧ De bdX12_pay_85 5 (.iconst 2) 1 ∧ De bdX12_pay_85 6 (.iadd) 1 ∧ De bdX12_pay_85 7 (.iaload) 1 ∧ De bdX12_pay_85 8 (.invokevirtual 284) 3 ∧ De bdX12_pay_85 11 (.istore 7) 2 ∧ De bdX12_pay_85 13 (.aload_n 0) 1 ∧ De bdX12_pay_85 14 (.aload_n 0) 1 ∧ De bdX12_pay_85 15 (.getfield 8) 3 ∧ De bdX12_pay_85 18 (.iload 6) 2 ∧ De bdX12_pay_85 20 (.iconst 0) 1 ∧ De bdX12_pay_85 21 (.iadd) 1 ∧ De bdX12_pay_85 22 (.iaload) 1 ∧ De bdX12_pay_85 23 (.aload_n 0) 1 ∧ De bdX12_pay_85 24 (.getfield 8) 3 := by decide +kernel
theorem dX12_pay_85 : decode cX12_pay 85 = .ok (.getfield 8, 3) := dAt wdX12_pay_85 adX12_pay_85.1 rfl
theorem dX12_pay_88 : decode cX12_pay 88 = .ok (.iload 6, 2) := dAt wdX12_pay_85 adX12_pay_85.2.1 rfl
theorem dX12_pay_90 : decode cX12_pay 90 = .ok (.iconst 2, 1) := dAt wdX12_pay_85 adX12_pay_85.2.2.1 rfl
theorem dX12_pay_91 : decode cX12_pay 91 = .ok (.iadd, 1) := dAt wdX12_pay_85 adX12_pay_85.2.2.2.1 rfl
theorem dX12_pay_92 : decode cX12_pay 92 = .ok (.iaload, 1) := dAt wdX12_pay_85 adX12_pay_85.2.2.2.2.1 rfl
theorem dX12_pay_93 : decode cX12_pay 93 = .ok (.invokevirtual 284, 3) := dAt wdX12_pay_85 adX12_pay_85.2.2.2.2.2.1 rfl
theorem dX12_pay_96 : decode cX12_pay 96 = .ok (.istore 7, 2) := dAt wdX12_pay_85 adX12_pay_85.2.2.2.2.2.2.1 rfl
theorem dX12_pay_98 : decode cX12_pay 98 = .ok (.aload_n 0, 1) := dAt wdX12_pay_85 adX12_pay_85.2.2.2.2.2.2.2.1 rfl
theorem dX12_pay_99 : decode cX12_pay 99 = .ok (.aload_n 0, 1) := dAt wdX12_pay_85 adX12_pay_85.2.2.2.2.2.2.2.2.1 rfl
theorem dX12_pay_100 : decode cX12_pay 100 = .ok (.getfield 8, 3) := dAt wdX12_pay_85 adX12_pay_85.2.2.2.2.2.2.2.2.2.1 rfl
theorem dX12_pay_103 : decode cX12_pay 103 = .ok (.iload 6, 2) := dAt wdX12_pay_85 adX12_pay_85.2.2.2.2.2.2.2.2.2.2.1 rfl
theorem dX12_pay_105 : decode cX12_pay 105 = .ok (.iconst 0, 1) := dAt wdX12_pay_85 adX12_pay_85.2.2.2.2.2.2.2.2.2.2.2.1 rfl
theorem dX12_pay_106 : decode cX12_pay 106 = .ok (.iadd, 1) := dAt wdX12_pay_85 adX12_pay_85.2.2.2.2.2.2.2.2.2.2.2.2.1 rfl
theorem dX12_pay_107 : decode cX12_pay 107 = .ok (.iaload, 1) := dAt wdX12_pay_85 adX12_pay_85.2.2.2.2.2.2.2.2.2.2.2.2.2.1 rfl
theorem dX12_pay_108 : decode cX12_pay 108 = .ok (.aload_n 0, 1) := dAt wdX12_pay_85 adX12_pay_85.2.2.2.2.2.2.2.2.2.2.2.2.2.2.1 rfl
theorem dX12_pay_109 : decode cX12_pay 109 = .ok (.getfield 8, 3) := dAt wdX12_pay_85 adX12_pay_85.2.2.2.2.2.2.2.2.2.2.2.2.2.2.2 rfl
def bdX12_pay_112 : ByteArray := .mk #[21, 6, 5, 96, 46, 182, 1, 24, 42, 180, 0, 45, 5, 42, 180, 0, 8, 21, 6, 16, 7, 96, 46, 4, 160, 0, 7]
theorem wdX12_pay_112 : LocW cX12_pay 112 bdX12_pay_112 := loc_of (by decide +kernel)
theorem adX12_pay_112 : De bdX12_pay_112 0 (.iload 6) 2 ∧ De bdX12_pay_112 2 (.iconst 2) 1 ∧ De bdX12_pay_112 3 (.iadd) 1 ∧ De bdX12_pay_112 4 (.iaload) 1 ∧ De bdX12_pay_112 5 (.invokevirtual 280) 3 ∧ De bdX12_pay_112 8 (.aload_n 0) 1 ∧ De bdX12_pay_112 9 (.getfield 45) 3 ∧ De bdX12_pay_112 12 (.iconst 2) 1 ∧ De bdX12_pay_112 13 (.aload_n 0) 1 ∧ De bdX12_pay_112 14 (.getfield 8) 3 ∧ De bdX12_pay_112 17 (.iload 6) 2 ∧ De bdX12_pay_112 19 (.bipush 7) 2 ∧ De bdX12_pay_112 21 (.iadd) 1 ∧ De bdX12_pay_112 22 (.iaload) 1 ∧ De bdX12_pay_112 23 (.iconst 1) 1 ∧ De bdX12_pay_112 24 (.if_icmp .ne 7) 3 := by decide +kernel
theorem dX12_pay_112 : decode cX12_pay 112 = .ok (.iload 6, 2) := dAt wdX12_pay_112 adX12_pay_112.1 rfl
theorem dX12_pay_114 : decode cX12_pay 114 = .ok (.iconst 2, 1) := dAt wdX12_pay_112 adX12_pay_112.2.1 rfl
theorem dX12_pay_115 : decode cX12_pay 115 = .ok (.iadd, 1) := dAt wdX12_pay_112 adX12_pay_112.2.2.1 rfl
theorem dX12_pay_116 : decode cX12_pay 116 = .ok (.iaload, 1) := dAt wdX12_pay_112 adX12_pay_112.2.2.2.1 rfl
theorem dX12_pay_117 : decode cX12_pay 117 = .ok (.invokevirtual 280, 3) := dAt wdX12_pay_112 adX12_pay_112.2.2.2.2.1 rfl
theorem dX12_pay_120 : decode cX12_pay 120 = .ok (.aload_n 0, 1) := dAt wdX12_pay_112 adX12_pay_112.2.2.2.2.2.1 rfl
theorem dX12_pay_121 : decode cX12_pay 121 = .ok (.getfield 45, 3) := dAt wdX12_pay_112 adX12_pay_112.2.2.2.2.2.2.1 rfl
theorem dX12_pay_124 : decode cX12_pay 124 = .ok (.iconst 2, 1) := dAt wdX12_pay_112 adX12_pay_112.2.2.2.2.2.2.2.1 rfl
theorem dX12_pay_125 : decode cX12_pay 125 = .ok (.aload_n 0, 1) := dAt wdX12_pay_112 adX12_pay_112.2.2.2.2.2.2.2.2.1 rfl
theorem dX12_pay_126 : decode cX12_pay 126 = .ok (.getfield 8, 3) := dAt wdX12_pay_112 adX12_pay_112.2.2.2.2.2.2.2.2.2.1 rfl
theorem dX12_pay_129 : decode cX12_pay 129 = .ok (.iload 6, 2) := dAt wdX12_pay_112 adX12_pay_112.2.2.2.2.2.2.2.2.2.2.1 rfl
theorem dX12_pay_131 : decode cX12_pay 131 = .ok (.bipush 7, 2) := dAt wdX12_pay_112 adX12_pay_112.2.2.2.2.2.2.2.2.2.2.2.1 rfl
theorem dX12_pay_133 : decode cX12_pay 133 = .ok (.iadd, 1) := dAt wdX12_pay_112 adX12_pay_112.2.2.2.2.2.2.2.2.2.2.2.2.1 rfl
theorem dX12_pay_134 : decode cX12_pay 134 = .ok (.iaload, 1) := dAt wdX12_pay_112 adX12_pay_112.2.2.2.2.2.2.2.2.2.2.2.2.2.1 rfl
theorem dX12_pay_135 : decode cX12_pay 135 = .ok (.iconst 1, 1) := dAt wdX12_pay_112 adX12_pay_112.2.2.2.2.2.2.2.2.2.2.2.2.2.2.1 rfl
theorem dX12_pay_136 : decode cX12_pay 136 = .ok (.if_icmp .ne 7, 3) := dAt wdX12_pay_112 adX12_pay_112.2.2.2.2.2.2.2.2.2.2.2.2.2.2.2 rfl
def bdX12_pay_139 : ByteArray := .mk #[4, 167, 0, 4, 3, 84, 42, 180, 0, 49, 7, 42, 180, 0, 8, 21, 6, 6, 96, 46, 79, 42, 180, 0, 49]
theorem wdX12_pay_139 : LocW cX12_pay 139 bdX12_pay_139 := loc_of (by decide +kernel)
theorem adX12_pay_139 : De bdX12_pay_139 0 (.iconst 1) 1 ∧ De bdX12_pay_139 1 (.goto 4) 3 ∧ De bdX12_pay_139 4 (.iconst 0) 1 ∧ De bdX12_pay_139 5 (.bastore) 1 ∧ De bdX12_pay_139 6 (.aload_n 0) 1 ∧ De bdX12_pay_139 7 (.getfield 49) 3 ∧ De bdX12_pay_139 10 (.iconst 4) 1 ∧ De bdX12_pay_139 11 (.aload_n 0) 1 ∧ De bdX12_pay_139 12 (.getfield 8) 3 ∧ De bdX12_pay_139 15 (.iload 6) 2 ∧ De bdX12_pay_139 17 (.iconst 3) 1 ∧ De bdX12_pay_139 18 (.iadd) 1 ∧ De bdX12_pay_139 19 (.iaload) 1 ∧ De bdX12_pay_139 20 (.iastore) 1 ∧ De bdX12_pay_139 21 (.aload_n 0) 1 ∧ De bdX12_pay_139 22 (.getfield 49) 3 := by decide +kernel
theorem dX12_pay_139 : decode cX12_pay 139 = .ok (.iconst 1, 1) := dAt wdX12_pay_139 adX12_pay_139.1 rfl
theorem dX12_pay_140 : decode cX12_pay 140 = .ok (.goto 4, 3) := dAt wdX12_pay_139 adX12_pay_139.2.1 rfl
theorem dX12_pay_143 : decode cX12_pay 143 = .ok (.iconst 0, 1) := dAt wdX12_pay_139 adX12_pay_139.2.2.1 rfl
theorem dX12_pay_144 : decode cX12_pay 144 = .ok (.bastore, 1) := dAt wdX12_pay_139 adX12_pay_139.2.2.2.1 rfl
theorem dX12_pay_145 : decode cX12_pay 145 = .ok (.aload_n 0, 1) := dAt wdX12_pay_139 adX12_pay_139.2.2.2.2.1 rfl
theorem dX12_pay_146 : decode cX12_pay 146 = .ok (.getfield 49, 3) := dAt wdX12_pay_139 adX12_pay_139.2.2.2.2.2.1 rfl
theorem dX12_pay_149 : decode cX12_pay 149 = .ok (.iconst 4, 1) := dAt wdX12_pay_139 adX12_pay_139.2.2.2.2.2.2.1 rfl
theorem dX12_pay_150 : decode cX12_pay 150 = .ok (.aload_n 0, 1) := dAt wdX12_pay_139 adX12_pay_139.2.2.2.2.2.2.2.1 rfl
theorem dX12_pay_151 : decode cX12_pay 151 = .ok (.getfield 8, 3) := dAt wdX12_pay_139 adX12_pay_139.2.2.2.2.2.2.2.2.1 rfl
theorem dX12_pay_154 : decode cX12_pay 154 = .ok (.iload 6, 2) := dAt wdX12_pay_139 adX12_pay_139.2.2.2.2.2.2.2.2.2.1 rfl
theorem dX12_pay_156 : decode cX12_pay 156 = .ok (.iconst 3, 1) := dAt wdX12_pay_139 adX12_pay_139.2.2.2.2.2.2.2.2.2.2.1 rfl
theorem dX12_pay_157 : decode cX12_pay 157 = .ok (.iadd, 1) := dAt wdX12_pay_139 adX12_pay_139.2.2.2.2.2.2.2.2.2.2.2.1 rfl
theorem dX12_pay_158 : decode cX12_pay 158 = .ok (.iaload, 1) := dAt wdX12_pay_139 adX12_pay_139.2.2.2.2.2.2.2.2.2.2.2.2.1 rfl
theorem dX12_pay_159 : decode cX12_pay 159 = .ok (.iastore, 1) := dAt wdX12_pay_139 adX12_pay_139.2.2.2.2.2.2.2.2.2.2.2.2.2.1 rfl
theorem dX12_pay_160 : decode cX12_pay 160 = .ok (.aload_n 0, 1) := dAt wdX12_pay_139 adX12_pay_139.2.2.2.2.2.2.2.2.2.2.2.2.2.2.1 rfl
theorem dX12_pay_161 : decode cX12_pay 161 = .ok (.getfield 49, 3) := dAt wdX12_pay_139 adX12_pay_139.2.2.2.2.2.2.2.2.2.2.2.2.2.2.2 rfl
def bdX12_pay_164 : ByteArray := .mk #[8, 27, 79, 42, 21, 7, 8, 182, 1, 31, 2, 159, 0, 6, 167, 0, 55, 42, 180, 0, 8, 21, 6, 6, 96, 46]
theorem wdX12_pay_164 : LocW cX12_pay 164 bdX12_pay_164 := loc_of (by decide +kernel)
theorem adX12_pay_164 : De bdX12_pay_164 0 (.iconst 5) 1 ∧ De bdX12_pay_164 1 (.iload_n 1) 1 ∧ De bdX12_pay_164 2 (.iastore) 1 ∧ De bdX12_pay_164 3 (.aload_n 0) 1 ∧ De bdX12_pay_164 4 (.iload 7) 2 ∧ De bdX12_pay_164 6 (.iconst 5) 1 ∧ De bdX12_pay_164 7 (.invokevirtual 287) 3 ∧ De bdX12_pay_164 10 (.iconst (-1)) 1 ∧ De bdX12_pay_164 11 (.if_icmp .eq 6) 3 ∧ De bdX12_pay_164 14 (.goto 55) 3 ∧ De bdX12_pay_164 17 (.aload_n 0) 1 ∧ De bdX12_pay_164 18 (.getfield 8) 3 ∧ De bdX12_pay_164 21 (.iload 6) 2 ∧ De bdX12_pay_164 23 (.iconst 3) 1 ∧ De bdX12_pay_164 24 (.iadd) 1 ∧ De bdX12_pay_164 25 (.iaload) 1 := by decide +kernel
theorem dX12_pay_164 : decode cX12_pay 164 = .ok (.iconst 5, 1) := dAt wdX12_pay_164 adX12_pay_164.1 rfl
theorem dX12_pay_165 : decode cX12_pay 165 = .ok (.iload_n 1, 1) := dAt wdX12_pay_164 adX12_pay_164.2.1 rfl
theorem dX12_pay_166 : decode cX12_pay 166 = .ok (.iastore, 1) := dAt wdX12_pay_164 adX12_pay_164.2.2.1 rfl
theorem dX12_pay_167 : decode cX12_pay 167 = .ok (.aload_n 0, 1) := dAt wdX12_pay_164 adX12_pay_164.2.2.2.1 rfl
theorem dX12_pay_168 : decode cX12_pay 168 = .ok (.iload 7, 2) := dAt wdX12_pay_164 adX12_pay_164.2.2.2.2.1 rfl
theorem dX12_pay_170 : decode cX12_pay 170 = .ok (.iconst 5, 1) := dAt wdX12_pay_164 adX12_pay_164.2.2.2.2.2.1 rfl
theorem dX12_pay_171 : decode cX12_pay 171 = .ok (.invokevirtual 287, 3) := dAt wdX12_pay_164 adX12_pay_164.2.2.2.2.2.2.1 rfl
theorem dX12_pay_174 : decode cX12_pay 174 = .ok (.iconst (-1), 1) := dAt wdX12_pay_164 adX12_pay_164.2.2.2.2.2.2.2.1 rfl
theorem dX12_pay_175 : decode cX12_pay 175 = .ok (.if_icmp .eq 6, 3) := dAt wdX12_pay_164 adX12_pay_164.2.2.2.2.2.2.2.2.1 rfl
theorem dX12_pay_178 : decode cX12_pay 178 = .ok (.goto 55, 3) := dAt wdX12_pay_164 adX12_pay_164.2.2.2.2.2.2.2.2.2.1 rfl
theorem dX12_pay_181 : decode cX12_pay 181 = .ok (.aload_n 0, 1) := dAt wdX12_pay_164 adX12_pay_164.2.2.2.2.2.2.2.2.2.2.1 rfl
theorem dX12_pay_182 : decode cX12_pay 182 = .ok (.getfield 8, 3) := dAt wdX12_pay_164 adX12_pay_164.2.2.2.2.2.2.2.2.2.2.2.1 rfl
theorem dX12_pay_185 : decode cX12_pay 185 = .ok (.iload 6, 2) := dAt wdX12_pay_164 adX12_pay_164.2.2.2.2.2.2.2.2.2.2.2.2.1 rfl
theorem dX12_pay_187 : decode cX12_pay 187 = .ok (.iconst 3, 1) := dAt wdX12_pay_164 adX12_pay_164.2.2.2.2.2.2.2.2.2.2.2.2.2.1 rfl
theorem dX12_pay_188 : decode cX12_pay 188 = .ok (.iadd, 1) := dAt wdX12_pay_164 adX12_pay_164.2.2.2.2.2.2.2.2.2.2.2.2.2.2.1 rfl
theorem dX12_pay_189 : decode cX12_pay 189 = .ok (.iaload, 1) := dAt wdX12_pay_164 adX12_pay_164.2.2.2.2.2.2.2.2.2.2.2.2.2.2.2 rfl
def bdX12_pay_190 : ByteArray := .mk #[42, 21, 7, 42, 21, 7, 6, 182, 1, 31, 4, 3, 182, 1, 38, 184, 1, 220, 54, 8, 21, 4, 21, 8, 42, 21, 7, 42]
theorem wdX12_pay_190 : LocW cX12_pay 190 bdX12_pay_190 := loc_of (by decide +kernel)
theorem adX12_pay_190 : De bdX12_pay_190 0 (.aload_n 0) 1 ∧ De bdX12_pay_190 1 (.iload 7) 2 ∧ De bdX12_pay_190 3 (.aload_n 0) 1 ∧ De bdX12_pay_190 4 (.iload 7) 2 ∧ De bdX12_pay_190 6 (.iconst 3) 1 ∧ De bdX12_pay_190 7 (.invokevirtual 287) 3 ∧ De bdX12_pay_190 10 (.iconst 1) 1 ∧ De bdX12_pay_190 11 (.iconst 0) 1 ∧ De bdX12_pay_190 12 (.invokevirtual 294) 3 ∧ De bdX12_pay_190 15 (.invokestatic 476) 3 ∧ De bdX12_pay_190 18 (.istore 8) 2 ∧ De bdX12_pay_190 20 (.iload 4) 2 ∧ De bdX12_pay_190 22 (.iload 8) 2 ∧ De bdX12_pay_190 24 (.aload_n 0) 1 ∧ De bdX12_pay_190 25 (.iload 7) 2 ∧ De bdX12_pay_190 27 (.aload_n 0) 1 := by decide +kernel
theorem dX12_pay_190 : decode cX12_pay 190 = .ok (.aload_n 0, 1) := dAt wdX12_pay_190 adX12_pay_190.1 rfl
theorem dX12_pay_191 : decode cX12_pay 191 = .ok (.iload 7, 2) := dAt wdX12_pay_190 adX12_pay_190.2.1 rfl
theorem dX12_pay_193 : decode cX12_pay 193 = .ok (.aload_n 0, 1) := dAt wdX12_pay_190 adX12_pay_190.2.2.1 rfl
theorem dX12_pay_194 : decode cX12_pay 194 = .ok (.iload 7, 2) := dAt wdX12_pay_190 adX12_pay_190.2.2.2.1 rfl
theorem dX12_pay_196 : decode cX12_pay 196 = .ok (.iconst 3, 1) := dAt wdX12_pay_190 adX12_pay_190.2.2.2.2.1 rfl
theorem dX12_pay_197 : decode cX12_pay 197 = .ok (.invokevirtual 287, 3) := dAt wdX12_pay_190 adX12_pay_190.2.2.2.2.2.1 rfl
theorem dX12_pay_200 : decode cX12_pay 200 = .ok (.iconst 1, 1) := dAt wdX12_pay_190 adX12_pay_190.2.2.2.2.2.2.1 rfl
theorem dX12_pay_201 : decode cX12_pay 201 = .ok (.iconst 0, 1) := dAt wdX12_pay_190 adX12_pay_190.2.2.2.2.2.2.2.1 rfl
theorem dX12_pay_202 : decode cX12_pay 202 = .ok (.invokevirtual 294, 3) := dAt wdX12_pay_190 adX12_pay_190.2.2.2.2.2.2.2.2.1 rfl
theorem dX12_pay_205 : decode cX12_pay 205 = .ok (.invokestatic 476, 3) := dAt wdX12_pay_190 adX12_pay_190.2.2.2.2.2.2.2.2.2.1 rfl
theorem dX12_pay_208 : decode cX12_pay 208 = .ok (.istore 8, 2) := dAt wdX12_pay_190 adX12_pay_190.2.2.2.2.2.2.2.2.2.2.1 rfl
theorem dX12_pay_210 : decode cX12_pay 210 = .ok (.iload 4, 2) := dAt wdX12_pay_190 adX12_pay_190.2.2.2.2.2.2.2.2.2.2.2.1 rfl
theorem dX12_pay_212 : decode cX12_pay 212 = .ok (.iload 8, 2) := dAt wdX12_pay_190 adX12_pay_190.2.2.2.2.2.2.2.2.2.2.2.2.1 rfl
theorem dX12_pay_214 : decode cX12_pay 214 = .ok (.aload_n 0, 1) := dAt wdX12_pay_190 adX12_pay_190.2.2.2.2.2.2.2.2.2.2.2.2.2.1 rfl
theorem dX12_pay_215 : decode cX12_pay 215 = .ok (.iload 7, 2) := dAt wdX12_pay_190 adX12_pay_190.2.2.2.2.2.2.2.2.2.2.2.2.2.2.1 rfl
theorem dX12_pay_217 : decode cX12_pay 217 = .ok (.aload_n 0, 1) := dAt wdX12_pay_190 adX12_pay_190.2.2.2.2.2.2.2.2.2.2.2.2.2.2.2 rfl
def bdX12_pay_218 : ByteArray := .mk #[21, 7, 7, 182, 1, 31, 4, 3, 182, 1, 38, 104, 96, 54, 4, 132, 5, 1, 167, 255, 52, 21, 4, 16, 10, 108, 172]
theorem wdX12_pay_218 : LocW cX12_pay 218 bdX12_pay_218 := loc_of (by decide +kernel)
theorem adX12_pay_218 : De bdX12_pay_218 0 (.iload 7) 2 ∧ De bdX12_pay_218 2 (.iconst 4) 1 ∧ De bdX12_pay_218 3 (.invokevirtual 287) 3 ∧ De bdX12_pay_218 6 (.iconst 1) 1 ∧ De bdX12_pay_218 7 (.iconst 0) 1 ∧ De bdX12_pay_218 8 (.invokevirtual 294) 3 ∧ De bdX12_pay_218 11 (.imul) 1 ∧ De bdX12_pay_218 12 (.iadd) 1 ∧ De bdX12_pay_218 13 (.istore 4) 2 ∧ De bdX12_pay_218 15 (.iinc 5 1) 3 ∧ De bdX12_pay_218 18 (.goto (-204)) 3 ∧ De bdX12_pay_218 21 (.iload 4) 2 ∧ De bdX12_pay_218 23 (.bipush 10) 2 ∧ De bdX12_pay_218 25 (.idiv) 1 ∧ De bdX12_pay_218 26 (.ireturn) 1 := by decide +kernel
theorem dX12_pay_218 : decode cX12_pay 218 = .ok (.iload 7, 2) := dAt wdX12_pay_218 adX12_pay_218.1 rfl
theorem dX12_pay_220 : decode cX12_pay 220 = .ok (.iconst 4, 1) := dAt wdX12_pay_218 adX12_pay_218.2.1 rfl
theorem dX12_pay_221 : decode cX12_pay 221 = .ok (.invokevirtual 287, 3) := dAt wdX12_pay_218 adX12_pay_218.2.2.1 rfl
theorem dX12_pay_224 : decode cX12_pay 224 = .ok (.iconst 1, 1) := dAt wdX12_pay_218 adX12_pay_218.2.2.2.1 rfl
theorem dX12_pay_225 : decode cX12_pay 225 = .ok (.iconst 0, 1) := dAt wdX12_pay_218 adX12_pay_218.2.2.2.2.1 rfl
theorem dX12_pay_226 : decode cX12_pay 226 = .ok (.invokevirtual 294, 3) := dAt wdX12_pay_218 adX12_pay_218.2.2.2.2.2.1 rfl
theorem dX12_pay_229 : decode cX12_pay 229 = .ok (.imul, 1) := dAt wdX12_pay_218 adX12_pay_218.2.2.2.2.2.2.1 rfl
theorem dX12_pay_230 : decode cX12_pay 230 = .ok (.iadd, 1) := dAt wdX12_pay_218 adX12_pay_218.2.2.2.2.2.2.2.1 rfl
theorem dX12_pay_231 : decode cX12_pay 231 = .ok (.istore 4, 2) := dAt wdX12_pay_218 adX12_pay_218.2.2.2.2.2.2.2.2.1 rfl
theorem dX12_pay_233 : decode cX12_pay 233 = .ok (.iinc 5 1, 3) := dAt wdX12_pay_218 adX12_pay_218.2.2.2.2.2.2.2.2.2.1 rfl
theorem dX12_pay_236 : decode cX12_pay 236 = .ok (.goto (-204), 3) := dAt wdX12_pay_218 adX12_pay_218.2.2.2.2.2.2.2.2.2.2.1 rfl
theorem dX12_pay_239 : decode cX12_pay 239 = .ok (.iload 4, 2) := dAt wdX12_pay_218 adX12_pay_218.2.2.2.2.2.2.2.2.2.2.2.1 rfl
theorem dX12_pay_241 : decode cX12_pay 241 = .ok (.bipush 10, 2) := dAt wdX12_pay_218 adX12_pay_218.2.2.2.2.2.2.2.2.2.2.2.2.1 rfl
theorem dX12_pay_243 : decode cX12_pay 243 = .ok (.idiv, 1) := dAt wdX12_pay_218 adX12_pay_218.2.2.2.2.2.2.2.2.2.2.2.2.2.1 rfl
theorem dX12_pay_244 : decode cX12_pay 244 = .ok (.ireturn, 1) := dAt wdX12_pay_218 adX12_pay_218.2.2.2.2.2.2.2.2.2.2.2.2.2.2 rfl
def bdX12_isRow_0 : ByteArray := .mk #[27, 3, 42, 180, 0, 8, 16, 7, 46, 4, 100, 184, 0, 157, 153, 0, 16, 28, 3, 6, 184, 0, 157, 153, 0, 7, 4]
theorem wdX12_isRow_0 : LocW cX12_isRow 0 bdX12_isRow_0 := loc_of (by decide +kernel)
theorem adX12_isRow_0 : De bdX12_isRow_0 0 (.iload_n 1) 1 ∧ De bdX12_isRow_0 1 (.iconst 0) 1 ∧ De bdX12_isRow_0 2 (.aload_n 0) 1 ∧ De bdX12_isRow_0 3 (.getfield 8) 3 ∧ De bdX12_isRow_0 6 (.bipush 7) 2 ∧ De bdX12_isRow_0 8 (.iaload) 1 ∧ De bdX12_isRow_0 9 (.iconst 1) 1 ∧ De bdX12_isRow_0 10 (.isub) 1 ∧ De bdX12_isRow_0 11 (.invokestatic 157) 3 ∧ De bdX12_isRow_0 14 (.ifCond .eq 16) 3 ∧ De bdX12_isRow_0 17 (.iload_n 2) 1 ∧ De bdX12_isRow_0 18 (.iconst 0) 1 ∧ De bdX12_isRow_0 19 (.iconst 3) 1 ∧ De bdX12_isRow_0 20 (.invokestatic 157) 3 ∧ De bdX12_isRow_0 23 (.ifCond .eq 7) 3 ∧ De bdX12_isRow_0 26 (.iconst 1) 1 := by decide +kernel
theorem dX12_isRow_0 : decode cX12_isRow 0 = .ok (.iload_n 1, 1) := dAt wdX12_isRow_0 adX12_isRow_0.1 rfl
theorem dX12_isRow_1 : decode cX12_isRow 1 = .ok (.iconst 0, 1) := dAt wdX12_isRow_0 adX12_isRow_0.2.1 rfl
theorem dX12_isRow_2 : decode cX12_isRow 2 = .ok (.aload_n 0, 1) := dAt wdX12_isRow_0 adX12_isRow_0.2.2.1 rfl
theorem dX12_isRow_3 : decode cX12_isRow 3 = .ok (.getfield 8, 3) := dAt wdX12_isRow_0 adX12_isRow_0.2.2.2.1 rfl
theorem dX12_isRow_6 : decode cX12_isRow 6 = .ok (.bipush 7, 2) := dAt wdX12_isRow_0 adX12_isRow_0.2.2.2.2.1 rfl
theorem dX12_isRow_8 : decode cX12_isRow 8 = .ok (.iaload, 1) := dAt wdX12_isRow_0 adX12_isRow_0.2.2.2.2.2.1 rfl
theorem dX12_isRow_9 : decode cX12_isRow 9 = .ok (.iconst 1, 1) := dAt wdX12_isRow_0 adX12_isRow_0.2.2.2.2.2.2.1 rfl
theorem dX12_isRow_10 : decode cX12_isRow 10 = .ok (.isub, 1) := dAt wdX12_isRow_0 adX12_isRow_0.2.2.2.2.2.2.2.1 rfl
theorem dX12_isRow_11 : decode cX12_isRow 11 = .ok (.invokestatic 157, 3) := dAt wdX12_isRow_0 adX12_isRow_0.2.2.2.2.2.2.2.2.1 rfl
theorem dX12_isRow_14 : decode cX12_isRow 14 = .ok (.ifCond .eq 16, 3) := dAt wdX12_isRow_0 adX12_isRow_0.2.2.2.2.2.2.2.2.2.1 rfl
theorem dX12_isRow_17 : decode cX12_isRow 17 = .ok (.iload_n 2, 1) := dAt wdX12_isRow_0 adX12_isRow_0.2.2.2.2.2.2.2.2.2.2.1 rfl
theorem dX12_isRow_18 : decode cX12_isRow 18 = .ok (.iconst 0, 1) := dAt wdX12_isRow_0 adX12_isRow_0.2.2.2.2.2.2.2.2.2.2.2.1 rfl
theorem dX12_isRow_19 : decode cX12_isRow 19 = .ok (.iconst 3, 1) := dAt wdX12_isRow_0 adX12_isRow_0.2.2.2.2.2.2.2.2.2.2.2.2.1 rfl
theorem dX12_isRow_20 : decode cX12_isRow 20 = .ok (.invokestatic 157, 3) := dAt wdX12_isRow_0 adX12_isRow_0.2.2.2.2.2.2.2.2.2.2.2.2.2.1 rfl
theorem dX12_isRow_23 : decode cX12_isRow 23 = .ok (.ifCond .eq 7, 3) := dAt wdX12_isRow_0 adX12_isRow_0.2.2.2.2.2.2.2.2.2.2.2.2.2.2.1 rfl
theorem dX12_isRow_26 : decode cX12_isRow 26 = .ok (.iconst 1, 1) := dAt wdX12_isRow_0 adX12_isRow_0.2.2.2.2.2.2.2.2.2.2.2.2.2.2.2 rfl
def bdX12_isRow_27 : ByteArray := .mk #[167, 0, 4, 3, 172]
theorem wdX12_isRow_27 : LocW cX12_isRow 27 bdX12_isRow_27 := loc_of (by decide +kernel)
theorem adX12_isRow_27 : De bdX12_isRow_27 0 (.goto 4) 3 ∧ De bdX12_isRow_27 3 (.iconst 0) 1 ∧ De bdX12_isRow_27 4 (.ireturn) 1 := by decide +kernel
theorem dX12_isRow_27 : decode cX12_isRow 27 = .ok (.goto 4, 3) := dAt wdX12_isRow_27 adX12_isRow_27.1 rfl
theorem dX12_isRow_30 : decode cX12_isRow 30 = .ok (.iconst 0, 1) := dAt wdX12_isRow_27 adX12_isRow_27.2.1 rfl
theorem dX12_isRow_31 : decode cX12_isRow 31 = .ok (.ireturn, 1) := dAt wdX12_isRow_27 adX12_isRow_27.2.2 rfl
def bdX12_row_0 : ByteArray := .mk #[42, 42, 27, 28, 182, 1, 225, 154, 0, 7, 4, 167, 0, 4, 3, 181, 0, 122, 42, 180, 0, 122, 158, 0, 5, 3, 172, 42]
theorem wdX12_row_0 : LocW cX12_row 0 bdX12_row_0 := loc_of (by decide +kernel)
theorem adX12_row_0 : De bdX12_row_0 0 (.aload_n 0) 1 ∧ De bdX12_row_0 1 (.aload_n 0) 1 ∧ De bdX12_row_0 2 (.iload_n 1) 1 ∧ De bdX12_row_0 3 (.iload_n 2) 1 ∧ De bdX12_row_0 4 (.invokevirtual 481) 3 ∧ De bdX12_row_0 7 (.ifCond .ne 7) 3 ∧ De bdX12_row_0 10 (.iconst 1) 1 ∧ De bdX12_row_0 11 (.goto 4) 3 ∧ De bdX12_row_0 14 (.iconst 0) 1 ∧ De bdX12_row_0 15 (.putfield 122) 3 ∧ De bdX12_row_0 18 (.aload_n 0) 1 ∧ De bdX12_row_0 19 (.getfield 122) 3 ∧ De bdX12_row_0 22 (.ifCond .le 5) 3 ∧ De bdX12_row_0 25 (.iconst 0) 1 ∧ De bdX12_row_0 26 (.ireturn) 1 ∧ De bdX12_row_0 27 (.aload_n 0) 1 := by decide +kernel
theorem dX12_row_0 : decode cX12_row 0 = .ok (.aload_n 0, 1) := dAt wdX12_row_0 adX12_row_0.1 rfl
theorem dX12_row_1 : decode cX12_row 1 = .ok (.aload_n 0, 1) := dAt wdX12_row_0 adX12_row_0.2.1 rfl
theorem dX12_row_2 : decode cX12_row 2 = .ok (.iload_n 1, 1) := dAt wdX12_row_0 adX12_row_0.2.2.1 rfl
theorem dX12_row_3 : decode cX12_row 3 = .ok (.iload_n 2, 1) := dAt wdX12_row_0 adX12_row_0.2.2.2.1 rfl
theorem dX12_row_4 : decode cX12_row 4 = .ok (.invokevirtual 481, 3) := dAt wdX12_row_0 adX12_row_0.2.2.2.2.1 rfl
theorem dX12_row_7 : decode cX12_row 7 = .ok (.ifCond .ne 7, 3) := dAt wdX12_row_0 adX12_row_0.2.2.2.2.2.1 rfl
theorem dX12_row_10 : decode cX12_row 10 = .ok (.iconst 1, 1) := dAt wdX12_row_0 adX12_row_0.2.2.2.2.2.2.1 rfl
theorem dX12_row_11 : decode cX12_row 11 = .ok (.goto 4, 3) := dAt wdX12_row_0 adX12_row_0.2.2.2.2.2.2.2.1 rfl
theorem dX12_row_14 : decode cX12_row 14 = .ok (.iconst 0, 1) := dAt wdX12_row_0 adX12_row_0.2.2.2.2.2.2.2.2.1 rfl
theorem dX12_row_15 : decode cX12_row 15 = .ok (.putfield 122, 3) := dAt wdX12_row_0 adX12_row_0.2.2.2.2.2.2.2.2.2.1 rfl
theorem dX12_row_18 : decode cX12_row 18 = .ok (.aload_n 0, 1) := dAt wdX12_row_0 adX12_row_0.2.2.2.2.2.2.2.2.2.2.1 rfl
theorem dX12_row_19 : decode cX12_row 19 = .ok (.getfield 122, 3) := dAt wdX12_row_0 adX12_row_0.2.2.2.2.2.2.2.2.2.2.2.1 rfl
theorem dX12_row_22 : decode cX12_row 22 = .ok (.ifCond .le 5, 3) := dAt wdX12_row_0 adX12_row_0.2.2.2.2.2.2.2.2.2.2.2.2.1 rfl
theorem dX12_row_25 : decode cX12_row 25 = .ok (.iconst 0, 1) := dAt wdX12_row_0 adX12_row_0.2.2.2.2.2.2.2.2.2.2.2.2.2.1 rfl
theorem dX12_row_26 : decode cX12_row 26 = .ok (.ireturn, 1) := dAt wdX12_row_0 adX12_row_0.2.2.2.2.2.2.2.2.2.2.2.2.2.2.1 rfl
theorem dX12_row_27 : decode cX12_row 27 = .ok (.aload_n 0, 1) := dAt wdX12_row_0 adX12_row_0.2.2.2.2.2.2.2.2.2.2.2.2.2.2.2 rfl
def bdX12_row_28 : ByteArray := .mk #[180, 0, 8, 19, 1, 134, 8, 27, 104, 96, 4, 96, 28, 96, 46, 172]
theorem wdX12_row_28 : LocW cX12_row 28 bdX12_row_28 := loc_of (by decide +kernel)
theorem adX12_row_28 : De bdX12_row_28 0 (.getfield 8) 3 ∧ De bdX12_row_28 3 (.ldc_w 390) 3 ∧ De bdX12_row_28 6 (.iconst 5) 1 ∧ De bdX12_row_28 7 (.iload_n 1) 1 ∧ De bdX12_row_28 8 (.imul) 1 ∧ De bdX12_row_28 9 (.iadd) 1 ∧ De bdX12_row_28 10 (.iconst 1) 1 ∧ De bdX12_row_28 11 (.iadd) 1 ∧ De bdX12_row_28 12 (.iload_n 2) 1 ∧ De bdX12_row_28 13 (.iadd) 1 ∧ De bdX12_row_28 14 (.iaload) 1 ∧ De bdX12_row_28 15 (.ireturn) 1 := by decide +kernel
theorem dX12_row_28 : decode cX12_row 28 = .ok (.getfield 8, 3) := dAt wdX12_row_28 adX12_row_28.1 rfl
theorem dX12_row_31 : decode cX12_row 31 = .ok (.ldc_w 390, 3) := dAt wdX12_row_28 adX12_row_28.2.1 rfl
theorem dX12_row_34 : decode cX12_row 34 = .ok (.iconst 5, 1) := dAt wdX12_row_28 adX12_row_28.2.2.1 rfl
theorem dX12_row_35 : decode cX12_row 35 = .ok (.iload_n 1, 1) := dAt wdX12_row_28 adX12_row_28.2.2.2.1 rfl
theorem dX12_row_36 : decode cX12_row 36 = .ok (.imul, 1) := dAt wdX12_row_28 adX12_row_28.2.2.2.2.1 rfl
theorem dX12_row_37 : decode cX12_row 37 = .ok (.iadd, 1) := dAt wdX12_row_28 adX12_row_28.2.2.2.2.2.1 rfl
theorem dX12_row_38 : decode cX12_row 38 = .ok (.iconst 1, 1) := dAt wdX12_row_28 adX12_row_28.2.2.2.2.2.2.1 rfl
theorem dX12_row_39 : decode cX12_row 39 = .ok (.iadd, 1) := dAt wdX12_row_28 adX12_row_28.2.2.2.2.2.2.2.1 rfl
theorem dX12_row_40 : decode cX12_row 40 = .ok (.iload_n 2, 1) := dAt wdX12_row_28 adX12_row_28.2.2.2.2.2.2.2.2.1 rfl
theorem dX12_row_41 : decode cX12_row 41 = .ok (.iadd, 1) := dAt wdX12_row_28 adX12_row_28.2.2.2.2.2.2.2.2.2.1 rfl
theorem dX12_row_42 : decode cX12_row 42 = .ok (.iaload, 1) := dAt wdX12_row_28 adX12_row_28.2.2.2.2.2.2.2.2.2.2.1 rfl
theorem dX12_row_43 : decode cX12_row 43 = .ok (.ireturn, 1) := dAt wdX12_row_28 adX12_row_28.2.2.2.2.2.2.2.2.2.2.2 rfl
def bdX12_tear_0 : ByteArray := .mk #[42, 42, 27, 28, 182, 1, 225, 154, 0, 7, 4, 167, 0, 4, 3, 181, 0, 122, 42, 180, 0, 122, 158, 0, 5, 3, 172, 19, 1, 134]
theorem wdX12_tear_0 : LocW cX12_tear 0 bdX12_tear_0 := loc_of (by decide +kernel)
theorem adX12_tear_0 : De bdX12_tear_0 0 (.aload_n 0) 1 ∧ De bdX12_tear_0 1 (.aload_n 0) 1 ∧ De bdX12_tear_0 2 (.iload_n 1) 1 ∧ De bdX12_tear_0 3 (.iload_n 2) 1 ∧ De bdX12_tear_0 4 (.invokevirtual 481) 3 ∧ De bdX12_tear_0 7 (.ifCond .ne 7) 3 ∧ De bdX12_tear_0 10 (.iconst 1) 1 ∧ De bdX12_tear_0 11 (.goto 4) 3 ∧ De bdX12_tear_0 14 (.iconst 0) 1 ∧ De bdX12_tear_0 15 (.putfield 122) 3 ∧ De bdX12_tear_0 18 (.aload_n 0) 1 ∧ De bdX12_tear_0 19 (.getfield 122) 3 ∧ De bdX12_tear_0 22 (.ifCond .le 5) 3 ∧ De bdX12_tear_0 25 (.iconst 0) 1 ∧ De bdX12_tear_0 26 (.ireturn) 1 ∧ De bdX12_tear_0 27 (.ldc_w 390) 3 := by decide +kernel
theorem dX12_tear_0 : decode cX12_tear 0 = .ok (.aload_n 0, 1) := dAt wdX12_tear_0 adX12_tear_0.1 rfl
theorem dX12_tear_1 : decode cX12_tear 1 = .ok (.aload_n 0, 1) := dAt wdX12_tear_0 adX12_tear_0.2.1 rfl
theorem dX12_tear_2 : decode cX12_tear 2 = .ok (.iload_n 1, 1) := dAt wdX12_tear_0 adX12_tear_0.2.2.1 rfl
theorem dX12_tear_3 : decode cX12_tear 3 = .ok (.iload_n 2, 1) := dAt wdX12_tear_0 adX12_tear_0.2.2.2.1 rfl
theorem dX12_tear_4 : decode cX12_tear 4 = .ok (.invokevirtual 481, 3) := dAt wdX12_tear_0 adX12_tear_0.2.2.2.2.1 rfl
theorem dX12_tear_7 : decode cX12_tear 7 = .ok (.ifCond .ne 7, 3) := dAt wdX12_tear_0 adX12_tear_0.2.2.2.2.2.1 rfl
theorem dX12_tear_10 : decode cX12_tear 10 = .ok (.iconst 1, 1) := dAt wdX12_tear_0 adX12_tear_0.2.2.2.2.2.2.1 rfl
theorem dX12_tear_11 : decode cX12_tear 11 = .ok (.goto 4, 3) := dAt wdX12_tear_0 adX12_tear_0.2.2.2.2.2.2.2.1 rfl
theorem dX12_tear_14 : decode cX12_tear 14 = .ok (.iconst 0, 1) := dAt wdX12_tear_0 adX12_tear_0.2.2.2.2.2.2.2.2.1 rfl
theorem dX12_tear_15 : decode cX12_tear 15 = .ok (.putfield 122, 3) := dAt wdX12_tear_0 adX12_tear_0.2.2.2.2.2.2.2.2.2.1 rfl
theorem dX12_tear_18 : decode cX12_tear 18 = .ok (.aload_n 0, 1) := dAt wdX12_tear_0 adX12_tear_0.2.2.2.2.2.2.2.2.2.2.1 rfl
theorem dX12_tear_19 : decode cX12_tear 19 = .ok (.getfield 122, 3) := dAt wdX12_tear_0 adX12_tear_0.2.2.2.2.2.2.2.2.2.2.2.1 rfl
theorem dX12_tear_22 : decode cX12_tear 22 = .ok (.ifCond .le 5, 3) := dAt wdX12_tear_0 adX12_tear_0.2.2.2.2.2.2.2.2.2.2.2.2.1 rfl
theorem dX12_tear_25 : decode cX12_tear 25 = .ok (.iconst 0, 1) := dAt wdX12_tear_0 adX12_tear_0.2.2.2.2.2.2.2.2.2.2.2.2.2.1 rfl
theorem dX12_tear_26 : decode cX12_tear 26 = .ok (.ireturn, 1) := dAt wdX12_tear_0 adX12_tear_0.2.2.2.2.2.2.2.2.2.2.2.2.2.2.1 rfl
theorem dX12_tear_27 : decode cX12_tear 27 = .ok (.ldc_w 390, 3) := dAt wdX12_tear_0 adX12_tear_0.2.2.2.2.2.2.2.2.2.2.2.2.2.2.2 rfl
def bdX12_tear_30 : ByteArray := .mk #[8, 27, 104, 96, 4, 96, 28, 96, 54, 4, 42, 180, 0, 8, 21, 4, 42, 180, 0, 8, 21, 4, 46]
theorem wdX12_tear_30 : LocW cX12_tear 30 bdX12_tear_30 := loc_of (by decide +kernel)
theorem adX12_tear_30 : De bdX12_tear_30 0 (.iconst 5) 1 ∧ De bdX12_tear_30 1 (.iload_n 1) 1 ∧ De bdX12_tear_30 2 (.imul) 1 ∧ De bdX12_tear_30 3 (.iadd) 1 ∧ De bdX12_tear_30 4 (.iconst 1) 1 ∧ De bdX12_tear_30 5 (.iadd) 1 ∧ De bdX12_tear_30 6 (.iload_n 2) 1 ∧ De bdX12_tear_30 7 (.iadd) 1 ∧ De bdX12_tear_30 8 (.istore 4) 2 ∧ De bdX12_tear_30 10 (.aload_n 0) 1 ∧ De bdX12_tear_30 11 (.getfield 8) 3 ∧ De bdX12_tear_30 14 (.iload 4) 2 ∧ De bdX12_tear_30 16 (.aload_n 0) 1 ∧ De bdX12_tear_30 17 (.getfield 8) 3 ∧ De bdX12_tear_30 20 (.iload 4) 2 ∧ De bdX12_tear_30 22 (.iaload) 1 := by decide +kernel
theorem dX12_tear_30 : decode cX12_tear 30 = .ok (.iconst 5, 1) := dAt wdX12_tear_30 adX12_tear_30.1 rfl
theorem dX12_tear_31 : decode cX12_tear 31 = .ok (.iload_n 1, 1) := dAt wdX12_tear_30 adX12_tear_30.2.1 rfl
theorem dX12_tear_32 : decode cX12_tear 32 = .ok (.imul, 1) := dAt wdX12_tear_30 adX12_tear_30.2.2.1 rfl
theorem dX12_tear_33 : decode cX12_tear 33 = .ok (.iadd, 1) := dAt wdX12_tear_30 adX12_tear_30.2.2.2.1 rfl
theorem dX12_tear_34 : decode cX12_tear 34 = .ok (.iconst 1, 1) := dAt wdX12_tear_30 adX12_tear_30.2.2.2.2.1 rfl
theorem dX12_tear_35 : decode cX12_tear 35 = .ok (.iadd, 1) := dAt wdX12_tear_30 adX12_tear_30.2.2.2.2.2.1 rfl
theorem dX12_tear_36 : decode cX12_tear 36 = .ok (.iload_n 2, 1) := dAt wdX12_tear_30 adX12_tear_30.2.2.2.2.2.2.1 rfl
theorem dX12_tear_37 : decode cX12_tear 37 = .ok (.iadd, 1) := dAt wdX12_tear_30 adX12_tear_30.2.2.2.2.2.2.2.1 rfl
theorem dX12_tear_38 : decode cX12_tear 38 = .ok (.istore 4, 2) := dAt wdX12_tear_30 adX12_tear_30.2.2.2.2.2.2.2.2.1 rfl
theorem dX12_tear_40 : decode cX12_tear 40 = .ok (.aload_n 0, 1) := dAt wdX12_tear_30 adX12_tear_30.2.2.2.2.2.2.2.2.2.1 rfl
theorem dX12_tear_41 : decode cX12_tear 41 = .ok (.getfield 8, 3) := dAt wdX12_tear_30 adX12_tear_30.2.2.2.2.2.2.2.2.2.2.1 rfl
theorem dX12_tear_44 : decode cX12_tear 44 = .ok (.iload 4, 2) := dAt wdX12_tear_30 adX12_tear_30.2.2.2.2.2.2.2.2.2.2.2.1 rfl
theorem dX12_tear_46 : decode cX12_tear 46 = .ok (.aload_n 0, 1) := dAt wdX12_tear_30 adX12_tear_30.2.2.2.2.2.2.2.2.2.2.2.2.1 rfl
theorem dX12_tear_47 : decode cX12_tear 47 = .ok (.getfield 8, 3) := dAt wdX12_tear_30 adX12_tear_30.2.2.2.2.2.2.2.2.2.2.2.2.2.1 rfl
theorem dX12_tear_50 : decode cX12_tear 50 = .ok (.iload 4, 2) := dAt wdX12_tear_30 adX12_tear_30.2.2.2.2.2.2.2.2.2.2.2.2.2.2.1 rfl
theorem dX12_tear_52 : decode cX12_tear 52 = .ok (.iaload, 1) := dAt wdX12_tear_30 adX12_tear_30.2.2.2.2.2.2.2.2.2.2.2.2.2.2.2 rfl
def bdX12_tear_53 : ByteArray := .mk #[29, 130, 79, 42, 180, 0, 8, 21, 4, 46, 172]
theorem wdX12_tear_53 : LocW cX12_tear 53 bdX12_tear_53 := loc_of (by decide +kernel)
theorem adX12_tear_53 : De bdX12_tear_53 0 (.iload_n 3) 1 ∧ De bdX12_tear_53 1 (.ixor) 1 ∧ De bdX12_tear_53 2 (.iastore) 1 ∧ De bdX12_tear_53 3 (.aload_n 0) 1 ∧ De bdX12_tear_53 4 (.getfield 8) 3 ∧ De bdX12_tear_53 7 (.iload 4) 2 ∧ De bdX12_tear_53 9 (.iaload) 1 ∧ De bdX12_tear_53 10 (.ireturn) 1 := by decide +kernel
theorem dX12_tear_53 : decode cX12_tear 53 = .ok (.iload_n 3, 1) := dAt wdX12_tear_53 adX12_tear_53.1 rfl
theorem dX12_tear_54 : decode cX12_tear 54 = .ok (.ixor, 1) := dAt wdX12_tear_53 adX12_tear_53.2.1 rfl
theorem dX12_tear_55 : decode cX12_tear 55 = .ok (.iastore, 1) := dAt wdX12_tear_53 adX12_tear_53.2.2.1 rfl
theorem dX12_tear_56 : decode cX12_tear 56 = .ok (.aload_n 0, 1) := dAt wdX12_tear_53 adX12_tear_53.2.2.2.1 rfl
theorem dX12_tear_57 : decode cX12_tear 57 = .ok (.getfield 8, 3) := dAt wdX12_tear_53 adX12_tear_53.2.2.2.2.1 rfl
theorem dX12_tear_60 : decode cX12_tear 60 = .ok (.iload 4, 2) := dAt wdX12_tear_53 adX12_tear_53.2.2.2.2.2.1 rfl
theorem dX12_tear_62 : decode cX12_tear 62 = .ok (.iaload, 1) := dAt wdX12_tear_53 adX12_tear_53.2.2.2.2.2.2.1 rfl
theorem dX12_tear_63 : decode cX12_tear 63 = .ok (.ireturn, 1) := dAt wdX12_tear_53 adX12_tear_53.2.2.2.2.2.2.2 rfl
def bdX12_check_0 : ByteArray := .mk #[42, 3, 181, 0, 122, 3, 60, 27, 42, 180, 0, 8, 16, 7, 46, 162, 0, 116, 3, 61, 28, 7, 162, 0, 103]
theorem wdX12_check_0 : LocW cX12_check 0 bdX12_check_0 := loc_of (by decide +kernel)
theorem adX12_check_0 : De bdX12_check_0 0 (.aload_n 0) 1 ∧ De bdX12_check_0 1 (.iconst 0) 1 ∧ De bdX12_check_0 2 (.putfield 122) 3 ∧ De bdX12_check_0 5 (.iconst 0) 1 ∧ De bdX12_check_0 6 (.istore_n 1) 1 ∧ De bdX12_check_0 7 (.iload_n 1) 1 ∧ De bdX12_check_0 8 (.aload_n 0) 1 ∧ De bdX12_check_0 9 (.getfield 8) 3 ∧ De bdX12_check_0 12 (.bipush 7) 2 ∧ De bdX12_check_0 14 (.iaload) 1 ∧ De bdX12_check_0 15 (.if_icmp .ge 116) 3 ∧ De bdX12_check_0 18 (.iconst 0) 1 ∧ De bdX12_check_0 19 (.istore_n 2) 1 ∧ De bdX12_check_0 20 (.iload_n 2) 1 ∧ De bdX12_check_0 21 (.iconst 4) 1 ∧ De bdX12_check_0 22 (.if_icmp .ge 103) 3 := by decide +kernel
theorem dX12_check_0 : decode cX12_check 0 = .ok (.aload_n 0, 1) := dAt wdX12_check_0 adX12_check_0.1 rfl
theorem dX12_check_1 : decode cX12_check 1 = .ok (.iconst 0, 1) := dAt wdX12_check_0 adX12_check_0.2.1 rfl
theorem dX12_check_2 : decode cX12_check 2 = .ok (.putfield 122, 3) := dAt wdX12_check_0 adX12_check_0.2.2.1 rfl
theorem dX12_check_5 : decode cX12_check 5 = .ok (.iconst 0, 1) := dAt wdX12_check_0 adX12_check_0.2.2.2.1 rfl
theorem dX12_check_6 : decode cX12_check 6 = .ok (.istore_n 1, 1) := dAt wdX12_check_0 adX12_check_0.2.2.2.2.1 rfl
theorem dX12_check_7 : decode cX12_check 7 = .ok (.iload_n 1, 1) := dAt wdX12_check_0 adX12_check_0.2.2.2.2.2.1 rfl
theorem dX12_check_8 : decode cX12_check 8 = .ok (.aload_n 0, 1) := dAt wdX12_check_0 adX12_check_0.2.2.2.2.2.2.1 rfl
theorem dX12_check_9 : decode cX12_check 9 = .ok (.getfield 8, 3) := dAt wdX12_check_0 adX12_check_0.2.2.2.2.2.2.2.1 rfl
theorem dX12_check_12 : decode cX12_check 12 = .ok (.bipush 7, 2) := dAt wdX12_check_0 adX12_check_0.2.2.2.2.2.2.2.2.1 rfl
theorem dX12_check_14 : decode cX12_check 14 = .ok (.iaload, 1) := dAt wdX12_check_0 adX12_check_0.2.2.2.2.2.2.2.2.2.1 rfl
theorem dX12_check_15 : decode cX12_check 15 = .ok (.if_icmp .ge 116, 3) := dAt wdX12_check_0 adX12_check_0.2.2.2.2.2.2.2.2.2.2.1 rfl
theorem dX12_check_18 : decode cX12_check 18 = .ok (.iconst 0, 1) := dAt wdX12_check_0 adX12_check_0.2.2.2.2.2.2.2.2.2.2.2.1 rfl
theorem dX12_check_19 : decode cX12_check 19 = .ok (.istore_n 2, 1) := dAt wdX12_check_0 adX12_check_0.2.2.2.2.2.2.2.2.2.2.2.2.1 rfl
theorem dX12_check_20 : decode cX12_check 20 = .ok (.iload_n 2, 1) := dAt wdX12_check_0 adX12_check_0.2.2.2.2.2.2.2.2.2.2.2.2.2.1 rfl
theorem dX12_check_21 : decode cX12_check 21 = .ok (.iconst 4, 1) := dAt wdX12_check_0 adX12_check_0.2.2.2.2.2.2.2.2.2.2.2.2.2.2.1 rfl
theorem dX12_check_22 : decode cX12_check 22 = .ok (.if_icmp .ge 103, 3) := dAt wdX12_check_0 adX12_check_0.2.2.2.2.2.2.2.2.2.2.2.2.2.2.2 rfl
def bdX12_check_25 : ByteArray := .mk #[2, 62, 3, 54, 4, 21, 4, 42, 180, 0, 8, 7, 46, 162, 0, 55, 42, 180, 0, 8, 21, 4, 184, 1, 86, 4, 96]
theorem wdX12_check_25 : LocW cX12_check 25 bdX12_check_25 := loc_of (by decide +kernel)
theorem adX12_check_25 : De bdX12_check_25 0 (.iconst (-1)) 1 ∧ De bdX12_check_25 1 (.istore_n 3) 1 ∧ De bdX12_check_25 2 (.iconst 0) 1 ∧ De bdX12_check_25 3 (.istore 4) 2 ∧ De bdX12_check_25 5 (.iload 4) 2 ∧ De bdX12_check_25 7 (.aload_n 0) 1 ∧ De bdX12_check_25 8 (.getfield 8) 3 ∧ De bdX12_check_25 11 (.iconst 4) 1 ∧ De bdX12_check_25 12 (.iaload) 1 ∧ De bdX12_check_25 13 (.if_icmp .ge 55) 3 ∧ De bdX12_check_25 16 (.aload_n 0) 1 ∧ De bdX12_check_25 17 (.getfield 8) 3 ∧ De bdX12_check_25 20 (.iload 4) 2 ∧ De bdX12_check_25 22 (.invokestatic 342) 3 ∧ De bdX12_check_25 25 (.iconst 1) 1 ∧ De bdX12_check_25 26 (.iadd) 1 := by decide +kernel
theorem dX12_check_25 : decode cX12_check 25 = .ok (.iconst (-1), 1) := dAt wdX12_check_25 adX12_check_25.1 rfl
theorem dX12_check_26 : decode cX12_check 26 = .ok (.istore_n 3, 1) := dAt wdX12_check_25 adX12_check_25.2.1 rfl
theorem dX12_check_27 : decode cX12_check 27 = .ok (.iconst 0, 1) := dAt wdX12_check_25 adX12_check_25.2.2.1 rfl
theorem dX12_check_28 : decode cX12_check 28 = .ok (.istore 4, 2) := dAt wdX12_check_25 adX12_check_25.2.2.2.1 rfl
theorem dX12_check_30 : decode cX12_check 30 = .ok (.iload 4, 2) := dAt wdX12_check_25 adX12_check_25.2.2.2.2.1 rfl
theorem dX12_check_32 : decode cX12_check 32 = .ok (.aload_n 0, 1) := dAt wdX12_check_25 adX12_check_25.2.2.2.2.2.1 rfl
theorem dX12_check_33 : decode cX12_check 33 = .ok (.getfield 8, 3) := dAt wdX12_check_25 adX12_check_25.2.2.2.2.2.2.1 rfl
theorem dX12_check_36 : decode cX12_check 36 = .ok (.iconst 4, 1) := dAt wdX12_check_25 adX12_check_25.2.2.2.2.2.2.2.1 rfl
theorem dX12_check_37 : decode cX12_check 37 = .ok (.iaload, 1) := dAt wdX12_check_25 adX12_check_25.2.2.2.2.2.2.2.2.1 rfl
theorem dX12_check_38 : decode cX12_check 38 = .ok (.if_icmp .ge 55, 3) := dAt wdX12_check_25 adX12_check_25.2.2.2.2.2.2.2.2.2.1 rfl
theorem dX12_check_41 : decode cX12_check 41 = .ok (.aload_n 0, 1) := dAt wdX12_check_25 adX12_check_25.2.2.2.2.2.2.2.2.2.2.1 rfl
theorem dX12_check_42 : decode cX12_check 42 = .ok (.getfield 8, 3) := dAt wdX12_check_25 adX12_check_25.2.2.2.2.2.2.2.2.2.2.2.1 rfl
theorem dX12_check_45 : decode cX12_check 45 = .ok (.iload 4, 2) := dAt wdX12_check_25 adX12_check_25.2.2.2.2.2.2.2.2.2.2.2.2.1 rfl
theorem dX12_check_47 : decode cX12_check 47 = .ok (.invokestatic 342, 3) := dAt wdX12_check_25 adX12_check_25.2.2.2.2.2.2.2.2.2.2.2.2.2.1 rfl
theorem dX12_check_50 : decode cX12_check 50 = .ok (.iconst 1, 1) := dAt wdX12_check_25 adX12_check_25.2.2.2.2.2.2.2.2.2.2.2.2.2.2.1 rfl
theorem dX12_check_51 : decode cX12_check 51 = .ok (.iadd, 1) := dAt wdX12_check_25 adX12_check_25.2.2.2.2.2.2.2.2.2.2.2.2.2.2.2 rfl
def bdX12_check_52 : ByteArray := .mk #[46, 28, 160, 0, 33, 42, 180, 0, 8, 21, 4, 184, 1, 86, 5, 96, 46, 42, 180, 0, 8, 19, 1, 134, 8, 27, 104]
theorem wdX12_check_52 : LocW cX12_check 52 bdX12_check_52 := loc_of (by decide +kernel)
theorem adX12_check_52 : De bdX12_check_52 0 (.iaload) 1 ∧ De bdX12_check_52 1 (.iload_n 2) 1 ∧ De bdX12_check_52 2 (.if_icmp .ne 33) 3 ∧ De bdX12_check_52 5 (.aload_n 0) 1 ∧ De bdX12_check_52 6 (.getfield 8) 3 ∧ De bdX12_check_52 9 (.iload 4) 2 ∧ De bdX12_check_52 11 (.invokestatic 342) 3 ∧ De bdX12_check_52 14 (.iconst 2) 1 ∧ De bdX12_check_52 15 (.iadd) 1 ∧ De bdX12_check_52 16 (.iaload) 1 ∧ De bdX12_check_52 17 (.aload_n 0) 1 ∧ De bdX12_check_52 18 (.getfield 8) 3 ∧ De bdX12_check_52 21 (.ldc_w 390) 3 ∧ De bdX12_check_52 24 (.iconst 5) 1 ∧ De bdX12_check_52 25 (.iload_n 1) 1 ∧ De bdX12_check_52 26 (.imul) 1 := by decide +kernel
theorem dX12_check_52 : decode cX12_check 52 = .ok (.iaload, 1) := dAt wdX12_check_52 adX12_check_52.1 rfl
theorem dX12_check_53 : decode cX12_check 53 = .ok (.iload_n 2, 1) := dAt wdX12_check_52 adX12_check_52.2.1 rfl
theorem dX12_check_54 : decode cX12_check 54 = .ok (.if_icmp .ne 33, 3) := dAt wdX12_check_52 adX12_check_52.2.2.1 rfl
theorem dX12_check_57 : decode cX12_check 57 = .ok (.aload_n 0, 1) := dAt wdX12_check_52 adX12_check_52.2.2.2.1 rfl
theorem dX12_check_58 : decode cX12_check 58 = .ok (.getfield 8, 3) := dAt wdX12_check_52 adX12_check_52.2.2.2.2.1 rfl
theorem dX12_check_61 : decode cX12_check 61 = .ok (.iload 4, 2) := dAt wdX12_check_52 adX12_check_52.2.2.2.2.2.1 rfl
theorem dX12_check_63 : decode cX12_check 63 = .ok (.invokestatic 342, 3) := dAt wdX12_check_52 adX12_check_52.2.2.2.2.2.2.1 rfl
theorem dX12_check_66 : decode cX12_check 66 = .ok (.iconst 2, 1) := dAt wdX12_check_52 adX12_check_52.2.2.2.2.2.2.2.1 rfl
theorem dX12_check_67 : decode cX12_check 67 = .ok (.iadd, 1) := dAt wdX12_check_52 adX12_check_52.2.2.2.2.2.2.2.2.1 rfl
theorem dX12_check_68 : decode cX12_check 68 = .ok (.iaload, 1) := dAt wdX12_check_52 adX12_check_52.2.2.2.2.2.2.2.2.2.1 rfl
theorem dX12_check_69 : decode cX12_check 69 = .ok (.aload_n 0, 1) := dAt wdX12_check_52 adX12_check_52.2.2.2.2.2.2.2.2.2.2.1 rfl
theorem dX12_check_70 : decode cX12_check 70 = .ok (.getfield 8, 3) := dAt wdX12_check_52 adX12_check_52.2.2.2.2.2.2.2.2.2.2.2.1 rfl
theorem dX12_check_73 : decode cX12_check 73 = .ok (.ldc_w 390, 3) := dAt wdX12_check_52 adX12_check_52.2.2.2.2.2.2.2.2.2.2.2.2.1 rfl
theorem dX12_check_76 : decode cX12_check 76 = .ok (.iconst 5, 1) := dAt wdX12_check_52 adX12_check_52.2.2.2.2.2.2.2.2.2.2.2.2.2.1 rfl
theorem dX12_check_77 : decode cX12_check 77 = .ok (.iload_n 1, 1) := dAt wdX12_check_52 adX12_check_52.2.2.2.2.2.2.2.2.2.2.2.2.2.2.1 rfl
theorem dX12_check_78 : decode cX12_check 78 = .ok (.imul, 1) := dAt wdX12_check_52 adX12_check_52.2.2.2.2.2.2.2.2.2.2.2.2.2.2.2 rfl
def bdX12_check_79 : ByteArray := .mk #[96, 46, 160, 0, 6, 21, 4, 62, 132, 4, 1, 167, 255, 196, 42, 180, 0, 8, 19, 1, 134, 8, 27, 104, 96, 4, 96]
theorem wdX12_check_79 : LocW cX12_check 79 bdX12_check_79 := loc_of (by decide +kernel)
theorem adX12_check_79 : De bdX12_check_79 0 (.iadd) 1 ∧ De bdX12_check_79 1 (.iaload) 1 ∧ De bdX12_check_79 2 (.if_icmp .ne 6) 3 ∧ De bdX12_check_79 5 (.iload 4) 2 ∧ De bdX12_check_79 7 (.istore_n 3) 1 ∧ De bdX12_check_79 8 (.iinc 4 1) 3 ∧ De bdX12_check_79 11 (.goto (-60)) 3 ∧ De bdX12_check_79 14 (.aload_n 0) 1 ∧ De bdX12_check_79 15 (.getfield 8) 3 ∧ De bdX12_check_79 18 (.ldc_w 390) 3 ∧ De bdX12_check_79 21 (.iconst 5) 1 ∧ De bdX12_check_79 22 (.iload_n 1) 1 ∧ De bdX12_check_79 23 (.imul) 1 ∧ De bdX12_check_79 24 (.iadd) 1 ∧ De bdX12_check_79 25 (.iconst 1) 1 ∧ De bdX12_check_79 26 (.iadd) 1 := by decide +kernel
theorem dX12_check_79 : decode cX12_check 79 = .ok (.iadd, 1) := dAt wdX12_check_79 adX12_check_79.1 rfl
theorem dX12_check_80 : decode cX12_check 80 = .ok (.iaload, 1) := dAt wdX12_check_79 adX12_check_79.2.1 rfl
theorem dX12_check_81 : decode cX12_check 81 = .ok (.if_icmp .ne 6, 3) := dAt wdX12_check_79 adX12_check_79.2.2.1 rfl
theorem dX12_check_84 : decode cX12_check 84 = .ok (.iload 4, 2) := dAt wdX12_check_79 adX12_check_79.2.2.2.1 rfl
theorem dX12_check_86 : decode cX12_check 86 = .ok (.istore_n 3, 1) := dAt wdX12_check_79 adX12_check_79.2.2.2.2.1 rfl
theorem dX12_check_87 : decode cX12_check 87 = .ok (.iinc 4 1, 3) := dAt wdX12_check_79 adX12_check_79.2.2.2.2.2.1 rfl
theorem dX12_check_90 : decode cX12_check 90 = .ok (.goto (-60), 3) := dAt wdX12_check_79 adX12_check_79.2.2.2.2.2.2.1 rfl
theorem dX12_check_93 : decode cX12_check 93 = .ok (.aload_n 0, 1) := dAt wdX12_check_79 adX12_check_79.2.2.2.2.2.2.2.1 rfl
theorem dX12_check_94 : decode cX12_check 94 = .ok (.getfield 8, 3) := dAt wdX12_check_79 adX12_check_79.2.2.2.2.2.2.2.2.1 rfl
theorem dX12_check_97 : decode cX12_check 97 = .ok (.ldc_w 390, 3) := dAt wdX12_check_79 adX12_check_79.2.2.2.2.2.2.2.2.2.1 rfl
theorem dX12_check_100 : decode cX12_check 100 = .ok (.iconst 5, 1) := dAt wdX12_check_79 adX12_check_79.2.2.2.2.2.2.2.2.2.2.1 rfl
theorem dX12_check_101 : decode cX12_check 101 = .ok (.iload_n 1, 1) := dAt wdX12_check_79 adX12_check_79.2.2.2.2.2.2.2.2.2.2.2.1 rfl
theorem dX12_check_102 : decode cX12_check 102 = .ok (.imul, 1) := dAt wdX12_check_79 adX12_check_79.2.2.2.2.2.2.2.2.2.2.2.2.1 rfl
theorem dX12_check_103 : decode cX12_check 103 = .ok (.iadd, 1) := dAt wdX12_check_79 adX12_check_79.2.2.2.2.2.2.2.2.2.2.2.2.2.1 rfl
theorem dX12_check_104 : decode cX12_check 104 = .ok (.iconst 1, 1) := dAt wdX12_check_79 adX12_check_79.2.2.2.2.2.2.2.2.2.2.2.2.2.2.1 rfl
theorem dX12_check_105 : decode cX12_check 105 = .ok (.iadd, 1) := dAt wdX12_check_79 adX12_check_79.2.2.2.2.2.2.2.2.2.2.2.2.2.2.2 rfl
def bdX12_check_106 : ByteArray := .mk #[28, 96, 46, 29, 159, 0, 9, 7, 27, 104, 28, 96, 172, 132, 2, 1, 167, 255, 154, 132, 1, 1, 167, 255, 135, 2]
theorem wdX12_check_106 : LocW cX12_check 106 bdX12_check_106 := loc_of (by decide +kernel)
theorem adX12_check_106 : De bdX12_check_106 0 (.iload_n 2) 1 ∧ De bdX12_check_106 1 (.iadd) 1 ∧ De bdX12_check_106 2 (.iaload) 1 ∧ De bdX12_check_106 3 (.iload_n 3) 1 ∧ De bdX12_check_106 4 (.if_icmp .eq 9) 3 ∧ De bdX12_check_106 7 (.iconst 4) 1 ∧ De bdX12_check_106 8 (.iload_n 1) 1 ∧ De bdX12_check_106 9 (.imul) 1 ∧ De bdX12_check_106 10 (.iload_n 2) 1 ∧ De bdX12_check_106 11 (.iadd) 1 ∧ De bdX12_check_106 12 (.ireturn) 1 ∧ De bdX12_check_106 13 (.iinc 2 1) 3 ∧ De bdX12_check_106 16 (.goto (-102)) 3 ∧ De bdX12_check_106 19 (.iinc 1 1) 3 ∧ De bdX12_check_106 22 (.goto (-121)) 3 ∧ De bdX12_check_106 25 (.iconst (-1)) 1 := by decide +kernel
theorem dX12_check_106 : decode cX12_check 106 = .ok (.iload_n 2, 1) := dAt wdX12_check_106 adX12_check_106.1 rfl
theorem dX12_check_107 : decode cX12_check 107 = .ok (.iadd, 1) := dAt wdX12_check_106 adX12_check_106.2.1 rfl
theorem dX12_check_108 : decode cX12_check 108 = .ok (.iaload, 1) := dAt wdX12_check_106 adX12_check_106.2.2.1 rfl
theorem dX12_check_109 : decode cX12_check 109 = .ok (.iload_n 3, 1) := dAt wdX12_check_106 adX12_check_106.2.2.2.1 rfl
theorem dX12_check_110 : decode cX12_check 110 = .ok (.if_icmp .eq 9, 3) := dAt wdX12_check_106 adX12_check_106.2.2.2.2.1 rfl
theorem dX12_check_113 : decode cX12_check 113 = .ok (.iconst 4, 1) := dAt wdX12_check_106 adX12_check_106.2.2.2.2.2.1 rfl
theorem dX12_check_114 : decode cX12_check 114 = .ok (.iload_n 1, 1) := dAt wdX12_check_106 adX12_check_106.2.2.2.2.2.2.1 rfl
theorem dX12_check_115 : decode cX12_check 115 = .ok (.imul, 1) := dAt wdX12_check_106 adX12_check_106.2.2.2.2.2.2.2.1 rfl
theorem dX12_check_116 : decode cX12_check 116 = .ok (.iload_n 2, 1) := dAt wdX12_check_106 adX12_check_106.2.2.2.2.2.2.2.2.1 rfl
theorem dX12_check_117 : decode cX12_check 117 = .ok (.iadd, 1) := dAt wdX12_check_106 adX12_check_106.2.2.2.2.2.2.2.2.2.1 rfl
theorem dX12_check_118 : decode cX12_check 118 = .ok (.ireturn, 1) := dAt wdX12_check_106 adX12_check_106.2.2.2.2.2.2.2.2.2.2.1 rfl
theorem dX12_check_119 : decode cX12_check 119 = .ok (.iinc 2 1, 3) := dAt wdX12_check_106 adX12_check_106.2.2.2.2.2.2.2.2.2.2.2.1 rfl
theorem dX12_check_122 : decode cX12_check 122 = .ok (.goto (-102), 3) := dAt wdX12_check_106 adX12_check_106.2.2.2.2.2.2.2.2.2.2.2.2.1 rfl
theorem dX12_check_125 : decode cX12_check 125 = .ok (.iinc 1 1, 3) := dAt wdX12_check_106 adX12_check_106.2.2.2.2.2.2.2.2.2.2.2.2.2.1 rfl
theorem dX12_check_128 : decode cX12_check 128 = .ok (.goto (-121), 3) := dAt wdX12_check_106 adX12_check_106.2.2.2.2.2.2.2.2.2.2.2.2.2.2.1 rfl
theorem dX12_check_131 : decode cX12_check 131 = .ok (.iconst (-1), 1) := dAt wdX12_check_106 adX12_check_106.2.2.2.2.2.2.2.2.2.2.2.2.2.2.2 rfl
def bdX12_check_132 : ByteArray := .mk #[172]
theorem wdX12_check_132 : LocW cX12_check 132 bdX12_check_132 := loc_of (by decide +kernel)
theorem adX12_check_132 : De bdX12_check_132 0 (.ireturn) 1 := by decide +kernel
theorem dX12_check_132 : decode cX12_check 132 = .ok (.ireturn, 1) := dAt wdX12_check_132 adX12_check_132 rfl
def bdX12_image_0 : ByteArray := .mk #[42, 3, 181, 0, 122, 42, 180, 0, 8, 3, 42, 180, 0, 14, 3, 18, 7, 184, 1, 211, 42, 4, 181, 1, 228, 177]
theorem wdX12_image_0 : LocW cX12_image 0 bdX12_image_0 := loc_of (by decide +kernel)
theorem adX12_image_0 : De bdX12_image_0 0 (.aload_n 0) 1 ∧ De bdX12_image_0 1 (.iconst 0) 1 ∧ De bdX12_image_0 2 (.putfield 122) 3 ∧ De bdX12_image_0 5 (.aload_n 0) 1 ∧ De bdX12_image_0 6 (.getfield 8) 3 ∧ De bdX12_image_0 9 (.iconst 0) 1 ∧ De bdX12_image_0 10 (.aload_n 0) 1 ∧ De bdX12_image_0 11 (.getfield 14) 3 ∧ De bdX12_image_0 14 (.iconst 0) 1 ∧ De bdX12_image_0 15 (.ldc 7) 2 ∧ De bdX12_image_0 17 (.invokestatic 467) 3 ∧ De bdX12_image_0 20 (.aload_n 0) 1 ∧ De bdX12_image_0 21 (.iconst 1) 1 ∧ De bdX12_image_0 22 (.putfield 484) 3 ∧ De bdX12_image_0 25 (.return_) 1 := by decide +kernel
theorem dX12_image_0 : decode cX12_image 0 = .ok (.aload_n 0, 1) := dAt wdX12_image_0 adX12_image_0.1 rfl
theorem dX12_image_1 : decode cX12_image 1 = .ok (.iconst 0, 1) := dAt wdX12_image_0 adX12_image_0.2.1 rfl
theorem dX12_image_2 : decode cX12_image 2 = .ok (.putfield 122, 3) := dAt wdX12_image_0 adX12_image_0.2.2.1 rfl
theorem dX12_image_5 : decode cX12_image 5 = .ok (.aload_n 0, 1) := dAt wdX12_image_0 adX12_image_0.2.2.2.1 rfl
theorem dX12_image_6 : decode cX12_image 6 = .ok (.getfield 8, 3) := dAt wdX12_image_0 adX12_image_0.2.2.2.2.1 rfl
theorem dX12_image_9 : decode cX12_image 9 = .ok (.iconst 0, 1) := dAt wdX12_image_0 adX12_image_0.2.2.2.2.2.1 rfl
theorem dX12_image_10 : decode cX12_image 10 = .ok (.aload_n 0, 1) := dAt wdX12_image_0 adX12_image_0.2.2.2.2.2.2.1 rfl
theorem dX12_image_11 : decode cX12_image 11 = .ok (.getfield 14, 3) := dAt wdX12_image_0 adX12_image_0.2.2.2.2.2.2.2.1 rfl
theorem dX12_image_14 : decode cX12_image 14 = .ok (.iconst 0, 1) := dAt wdX12_image_0 adX12_image_0.2.2.2.2.2.2.2.2.1 rfl
theorem dX12_image_15 : decode cX12_image 15 = .ok (.ldc 7, 2) := dAt wdX12_image_0 adX12_image_0.2.2.2.2.2.2.2.2.2.1 rfl
theorem dX12_image_17 : decode cX12_image 17 = .ok (.invokestatic 467, 3) := dAt wdX12_image_0 adX12_image_0.2.2.2.2.2.2.2.2.2.2.1 rfl
theorem dX12_image_20 : decode cX12_image 20 = .ok (.aload_n 0, 1) := dAt wdX12_image_0 adX12_image_0.2.2.2.2.2.2.2.2.2.2.2.1 rfl
theorem dX12_image_21 : decode cX12_image 21 = .ok (.iconst 1, 1) := dAt wdX12_image_0 adX12_image_0.2.2.2.2.2.2.2.2.2.2.2.2.1 rfl
theorem dX12_image_22 : decode cX12_image 22 = .ok (.putfield 484, 3) := dAt wdX12_image_0 adX12_image_0.2.2.2.2.2.2.2.2.2.2.2.2.2.1 rfl
theorem dX12_image_25 : decode cX12_image 25 = .ok (.return_, 1) := dAt wdX12_image_0 adX12_image_0.2.2.2.2.2.2.2.2.2.2.2.2.2.2 rfl
def bdX12_back_0 : ByteArray := .mk #[42, 3, 181, 0, 122, 42, 180, 1, 228, 153, 0, 18, 42, 180, 0, 14, 3, 42, 180, 0, 8, 3, 18, 7, 184, 1, 211, 42, 180, 1, 228]
theorem wdX12_back_0 : LocW cX12_back 0 bdX12_back_0 := loc_of (by decide +kernel)
theorem adX12_back_0 : De bdX12_back_0 0 (.aload_n 0) 1 ∧ De bdX12_back_0 1 (.iconst 0) 1 ∧ De bdX12_back_0 2 (.putfield 122) 3 ∧ De bdX12_back_0 5 (.aload_n 0) 1 ∧ De bdX12_back_0 6 (.getfield 484) 3 ∧ De bdX12_back_0 9 (.ifCond .eq 18) 3 ∧ De bdX12_back_0 12 (.aload_n 0) 1 ∧ De bdX12_back_0 13 (.getfield 14) 3 ∧ De bdX12_back_0 16 (.iconst 0) 1 ∧ De bdX12_back_0 17 (.aload_n 0) 1 ∧ De bdX12_back_0 18 (.getfield 8) 3 ∧ De bdX12_back_0 21 (.iconst 0) 1 ∧ De bdX12_back_0 22 (.ldc 7) 2 ∧ De bdX12_back_0 24 (.invokestatic 467) 3 ∧ De bdX12_back_0 27 (.aload_n 0) 1 ∧ De bdX12_back_0 28 (.getfield 484) 3 := by decide +kernel
theorem dX12_back_0 : decode cX12_back 0 = .ok (.aload_n 0, 1) := dAt wdX12_back_0 adX12_back_0.1 rfl
theorem dX12_back_1 : decode cX12_back 1 = .ok (.iconst 0, 1) := dAt wdX12_back_0 adX12_back_0.2.1 rfl
theorem dX12_back_2 : decode cX12_back 2 = .ok (.putfield 122, 3) := dAt wdX12_back_0 adX12_back_0.2.2.1 rfl
theorem dX12_back_5 : decode cX12_back 5 = .ok (.aload_n 0, 1) := dAt wdX12_back_0 adX12_back_0.2.2.2.1 rfl
theorem dX12_back_6 : decode cX12_back 6 = .ok (.getfield 484, 3) := dAt wdX12_back_0 adX12_back_0.2.2.2.2.1 rfl
theorem dX12_back_9 : decode cX12_back 9 = .ok (.ifCond .eq 18, 3) := dAt wdX12_back_0 adX12_back_0.2.2.2.2.2.1 rfl
theorem dX12_back_12 : decode cX12_back 12 = .ok (.aload_n 0, 1) := dAt wdX12_back_0 adX12_back_0.2.2.2.2.2.2.1 rfl
theorem dX12_back_13 : decode cX12_back 13 = .ok (.getfield 14, 3) := dAt wdX12_back_0 adX12_back_0.2.2.2.2.2.2.2.1 rfl
theorem dX12_back_16 : decode cX12_back 16 = .ok (.iconst 0, 1) := dAt wdX12_back_0 adX12_back_0.2.2.2.2.2.2.2.2.1 rfl
theorem dX12_back_17 : decode cX12_back 17 = .ok (.aload_n 0, 1) := dAt wdX12_back_0 adX12_back_0.2.2.2.2.2.2.2.2.2.1 rfl
theorem dX12_back_18 : decode cX12_back 18 = .ok (.getfield 8, 3) := dAt wdX12_back_0 adX12_back_0.2.2.2.2.2.2.2.2.2.2.1 rfl
theorem dX12_back_21 : decode cX12_back 21 = .ok (.iconst 0, 1) := dAt wdX12_back_0 adX12_back_0.2.2.2.2.2.2.2.2.2.2.2.1 rfl
theorem dX12_back_22 : decode cX12_back 22 = .ok (.ldc 7, 2) := dAt wdX12_back_0 adX12_back_0.2.2.2.2.2.2.2.2.2.2.2.2.1 rfl
theorem dX12_back_24 : decode cX12_back 24 = .ok (.invokestatic 467, 3) := dAt wdX12_back_0 adX12_back_0.2.2.2.2.2.2.2.2.2.2.2.2.2.1 rfl
theorem dX12_back_27 : decode cX12_back 27 = .ok (.aload_n 0, 1) := dAt wdX12_back_0 adX12_back_0.2.2.2.2.2.2.2.2.2.2.2.2.2.2.1 rfl
theorem dX12_back_28 : decode cX12_back 28 = .ok (.getfield 484, 3) := dAt wdX12_back_0 adX12_back_0.2.2.2.2.2.2.2.2.2.2.2.2.2.2.2 rfl
def bdX12_back_31 : ByteArray := .mk #[172]
theorem wdX12_back_31 : LocW cX12_back 31 bdX12_back_31 := loc_of (by decide +kernel)
theorem adX12_back_31 : De bdX12_back_31 0 (.ireturn) 1 := by decide +kernel
theorem dX12_back_31 : decode cX12_back 31 = .ok (.ireturn, 1) := dAt wdX12_back_31 adX12_back_31 rfl
def bdX12_count_0 : ByteArray := .mk #[42, 3, 181, 0, 122, 42, 42, 180, 0, 8, 3, 46, 182, 1, 28, 61, 27, 154, 0, 10, 42, 180, 0, 8, 3, 46]
theorem wdX12_count_0 : LocW cX12_count 0 bdX12_count_0 := loc_of (by decide +kernel)
theorem adX12_count_0 : De bdX12_count_0 0 (.aload_n 0) 1 ∧ De bdX12_count_0 1 (.iconst 0) 1 ∧ De bdX12_count_0 2 (.putfield 122) 3 ∧ De bdX12_count_0 5 (.aload_n 0) 1 ∧ De bdX12_count_0 6 (.aload_n 0) 1 ∧ De bdX12_count_0 7 (.getfield 8) 3 ∧ De bdX12_count_0 10 (.iconst 0) 1 ∧ De bdX12_count_0 11 (.iaload) 1 ∧ De bdX12_count_0 12 (.invokevirtual 284) 3 ∧ De bdX12_count_0 15 (.istore_n 2) 1 ∧ De bdX12_count_0 16 (.iload_n 1) 1 ∧ De bdX12_count_0 17 (.ifCond .ne 10) 3 ∧ De bdX12_count_0 20 (.aload_n 0) 1 ∧ De bdX12_count_0 21 (.getfield 8) 3 ∧ De bdX12_count_0 24 (.iconst 0) 1 ∧ De bdX12_count_0 25 (.iaload) 1 := by decide +kernel
theorem dX12_count_0 : decode cX12_count 0 = .ok (.aload_n 0, 1) := dAt wdX12_count_0 adX12_count_0.1 rfl
theorem dX12_count_1 : decode cX12_count 1 = .ok (.iconst 0, 1) := dAt wdX12_count_0 adX12_count_0.2.1 rfl
theorem dX12_count_2 : decode cX12_count 2 = .ok (.putfield 122, 3) := dAt wdX12_count_0 adX12_count_0.2.2.1 rfl
theorem dX12_count_5 : decode cX12_count 5 = .ok (.aload_n 0, 1) := dAt wdX12_count_0 adX12_count_0.2.2.2.1 rfl
theorem dX12_count_6 : decode cX12_count 6 = .ok (.aload_n 0, 1) := dAt wdX12_count_0 adX12_count_0.2.2.2.2.1 rfl
theorem dX12_count_7 : decode cX12_count 7 = .ok (.getfield 8, 3) := dAt wdX12_count_0 adX12_count_0.2.2.2.2.2.1 rfl
theorem dX12_count_10 : decode cX12_count 10 = .ok (.iconst 0, 1) := dAt wdX12_count_0 adX12_count_0.2.2.2.2.2.2.1 rfl
theorem dX12_count_11 : decode cX12_count 11 = .ok (.iaload, 1) := dAt wdX12_count_0 adX12_count_0.2.2.2.2.2.2.2.1 rfl
theorem dX12_count_12 : decode cX12_count 12 = .ok (.invokevirtual 284, 3) := dAt wdX12_count_0 adX12_count_0.2.2.2.2.2.2.2.2.1 rfl
theorem dX12_count_15 : decode cX12_count 15 = .ok (.istore_n 2, 1) := dAt wdX12_count_0 adX12_count_0.2.2.2.2.2.2.2.2.2.1 rfl
theorem dX12_count_16 : decode cX12_count 16 = .ok (.iload_n 1, 1) := dAt wdX12_count_0 adX12_count_0.2.2.2.2.2.2.2.2.2.2.1 rfl
theorem dX12_count_17 : decode cX12_count 17 = .ok (.ifCond .ne 10, 3) := dAt wdX12_count_0 adX12_count_0.2.2.2.2.2.2.2.2.2.2.2.1 rfl
theorem dX12_count_20 : decode cX12_count 20 = .ok (.aload_n 0, 1) := dAt wdX12_count_0 adX12_count_0.2.2.2.2.2.2.2.2.2.2.2.2.1 rfl
theorem dX12_count_21 : decode cX12_count 21 = .ok (.getfield 8, 3) := dAt wdX12_count_0 adX12_count_0.2.2.2.2.2.2.2.2.2.2.2.2.2.1 rfl
theorem dX12_count_24 : decode cX12_count 24 = .ok (.iconst 0, 1) := dAt wdX12_count_0 adX12_count_0.2.2.2.2.2.2.2.2.2.2.2.2.2.2.1 rfl
theorem dX12_count_25 : decode cX12_count 25 = .ok (.iaload, 1) := dAt wdX12_count_0 adX12_count_0.2.2.2.2.2.2.2.2.2.2.2.2.2.2.2 rfl
def bdX12_count_26 : ByteArray := .mk #[172, 27, 4, 160, 0, 10, 42, 180, 0, 8, 4, 46, 172, 27, 5, 160, 0, 21, 28, 2, 160, 0, 7, 3]
theorem wdX12_count_26 : LocW cX12_count 26 bdX12_count_26 := loc_of (by decide +kernel)
theorem adX12_count_26 : De bdX12_count_26 0 (.ireturn) 1 ∧ De bdX12_count_26 1 (.iload_n 1) 1 ∧ De bdX12_count_26 2 (.iconst 1) 1 ∧ De bdX12_count_26 3 (.if_icmp .ne 10) 3 ∧ De bdX12_count_26 6 (.aload_n 0) 1 ∧ De bdX12_count_26 7 (.getfield 8) 3 ∧ De bdX12_count_26 10 (.iconst 1) 1 ∧ De bdX12_count_26 11 (.iaload) 1 ∧ De bdX12_count_26 12 (.ireturn) 1 ∧ De bdX12_count_26 13 (.iload_n 1) 1 ∧ De bdX12_count_26 14 (.iconst 2) 1 ∧ De bdX12_count_26 15 (.if_icmp .ne 21) 3 ∧ De bdX12_count_26 18 (.iload_n 2) 1 ∧ De bdX12_count_26 19 (.iconst (-1)) 1 ∧ De bdX12_count_26 20 (.if_icmp .ne 7) 3 ∧ De bdX12_count_26 23 (.iconst 0) 1 := by decide +kernel
theorem dX12_count_26 : decode cX12_count 26 = .ok (.ireturn, 1) := dAt wdX12_count_26 adX12_count_26.1 rfl
theorem dX12_count_27 : decode cX12_count 27 = .ok (.iload_n 1, 1) := dAt wdX12_count_26 adX12_count_26.2.1 rfl
theorem dX12_count_28 : decode cX12_count 28 = .ok (.iconst 1, 1) := dAt wdX12_count_26 adX12_count_26.2.2.1 rfl
theorem dX12_count_29 : decode cX12_count 29 = .ok (.if_icmp .ne 10, 3) := dAt wdX12_count_26 adX12_count_26.2.2.2.1 rfl
theorem dX12_count_32 : decode cX12_count 32 = .ok (.aload_n 0, 1) := dAt wdX12_count_26 adX12_count_26.2.2.2.2.1 rfl
theorem dX12_count_33 : decode cX12_count 33 = .ok (.getfield 8, 3) := dAt wdX12_count_26 adX12_count_26.2.2.2.2.2.1 rfl
theorem dX12_count_36 : decode cX12_count 36 = .ok (.iconst 1, 1) := dAt wdX12_count_26 adX12_count_26.2.2.2.2.2.2.1 rfl
theorem dX12_count_37 : decode cX12_count 37 = .ok (.iaload, 1) := dAt wdX12_count_26 adX12_count_26.2.2.2.2.2.2.2.1 rfl
theorem dX12_count_38 : decode cX12_count 38 = .ok (.ireturn, 1) := dAt wdX12_count_26 adX12_count_26.2.2.2.2.2.2.2.2.1 rfl
theorem dX12_count_39 : decode cX12_count 39 = .ok (.iload_n 1, 1) := dAt wdX12_count_26 adX12_count_26.2.2.2.2.2.2.2.2.2.1 rfl
theorem dX12_count_40 : decode cX12_count 40 = .ok (.iconst 2, 1) := dAt wdX12_count_26 adX12_count_26.2.2.2.2.2.2.2.2.2.2.1 rfl
theorem dX12_count_41 : decode cX12_count 41 = .ok (.if_icmp .ne 21, 3) := dAt wdX12_count_26 adX12_count_26.2.2.2.2.2.2.2.2.2.2.2.1 rfl
theorem dX12_count_44 : decode cX12_count 44 = .ok (.iload_n 2, 1) := dAt wdX12_count_26 adX12_count_26.2.2.2.2.2.2.2.2.2.2.2.2.1 rfl
theorem dX12_count_45 : decode cX12_count 45 = .ok (.iconst (-1), 1) := dAt wdX12_count_26 adX12_count_26.2.2.2.2.2.2.2.2.2.2.2.2.2.1 rfl
theorem dX12_count_46 : decode cX12_count 46 = .ok (.if_icmp .ne 7, 3) := dAt wdX12_count_26 adX12_count_26.2.2.2.2.2.2.2.2.2.2.2.2.2.2.1 rfl
theorem dX12_count_49 : decode cX12_count 49 = .ok (.iconst 0, 1) := dAt wdX12_count_26 adX12_count_26.2.2.2.2.2.2.2.2.2.2.2.2.2.2.2 rfl
def bdX12_count_50 : ByteArray := .mk #[167, 0, 11, 42, 180, 0, 8, 28, 4, 96, 46, 172, 27, 6, 160, 0, 10, 42, 180, 0, 8, 6, 46, 172]
theorem wdX12_count_50 : LocW cX12_count 50 bdX12_count_50 := loc_of (by decide +kernel)
theorem adX12_count_50 : De bdX12_count_50 0 (.goto 11) 3 ∧ De bdX12_count_50 3 (.aload_n 0) 1 ∧ De bdX12_count_50 4 (.getfield 8) 3 ∧ De bdX12_count_50 7 (.iload_n 2) 1 ∧ De bdX12_count_50 8 (.iconst 1) 1 ∧ De bdX12_count_50 9 (.iadd) 1 ∧ De bdX12_count_50 10 (.iaload) 1 ∧ De bdX12_count_50 11 (.ireturn) 1 ∧ De bdX12_count_50 12 (.iload_n 1) 1 ∧ De bdX12_count_50 13 (.iconst 3) 1 ∧ De bdX12_count_50 14 (.if_icmp .ne 10) 3 ∧ De bdX12_count_50 17 (.aload_n 0) 1 ∧ De bdX12_count_50 18 (.getfield 8) 3 ∧ De bdX12_count_50 21 (.iconst 3) 1 ∧ De bdX12_count_50 22 (.iaload) 1 ∧ De bdX12_count_50 23 (.ireturn) 1 := by decide +kernel
theorem dX12_count_50 : decode cX12_count 50 = .ok (.goto 11, 3) := dAt wdX12_count_50 adX12_count_50.1 rfl
theorem dX12_count_53 : decode cX12_count 53 = .ok (.aload_n 0, 1) := dAt wdX12_count_50 adX12_count_50.2.1 rfl
theorem dX12_count_54 : decode cX12_count 54 = .ok (.getfield 8, 3) := dAt wdX12_count_50 adX12_count_50.2.2.1 rfl
theorem dX12_count_57 : decode cX12_count 57 = .ok (.iload_n 2, 1) := dAt wdX12_count_50 adX12_count_50.2.2.2.1 rfl
theorem dX12_count_58 : decode cX12_count 58 = .ok (.iconst 1, 1) := dAt wdX12_count_50 adX12_count_50.2.2.2.2.1 rfl
theorem dX12_count_59 : decode cX12_count 59 = .ok (.iadd, 1) := dAt wdX12_count_50 adX12_count_50.2.2.2.2.2.1 rfl
theorem dX12_count_60 : decode cX12_count 60 = .ok (.iaload, 1) := dAt wdX12_count_50 adX12_count_50.2.2.2.2.2.2.1 rfl
theorem dX12_count_61 : decode cX12_count 61 = .ok (.ireturn, 1) := dAt wdX12_count_50 adX12_count_50.2.2.2.2.2.2.2.1 rfl
theorem dX12_count_62 : decode cX12_count 62 = .ok (.iload_n 1, 1) := dAt wdX12_count_50 adX12_count_50.2.2.2.2.2.2.2.2.1 rfl
theorem dX12_count_63 : decode cX12_count 63 = .ok (.iconst 3, 1) := dAt wdX12_count_50 adX12_count_50.2.2.2.2.2.2.2.2.2.1 rfl
theorem dX12_count_64 : decode cX12_count 64 = .ok (.if_icmp .ne 10, 3) := dAt wdX12_count_50 adX12_count_50.2.2.2.2.2.2.2.2.2.2.1 rfl
theorem dX12_count_67 : decode cX12_count 67 = .ok (.aload_n 0, 1) := dAt wdX12_count_50 adX12_count_50.2.2.2.2.2.2.2.2.2.2.2.1 rfl
theorem dX12_count_68 : decode cX12_count 68 = .ok (.getfield 8, 3) := dAt wdX12_count_50 adX12_count_50.2.2.2.2.2.2.2.2.2.2.2.2.1 rfl
theorem dX12_count_71 : decode cX12_count 71 = .ok (.iconst 3, 1) := dAt wdX12_count_50 adX12_count_50.2.2.2.2.2.2.2.2.2.2.2.2.2.1 rfl
theorem dX12_count_72 : decode cX12_count 72 = .ok (.iaload, 1) := dAt wdX12_count_50 adX12_count_50.2.2.2.2.2.2.2.2.2.2.2.2.2.2.1 rfl
theorem dX12_count_73 : decode cX12_count 73 = .ok (.ireturn, 1) := dAt wdX12_count_50 adX12_count_50.2.2.2.2.2.2.2.2.2.2.2.2.2.2.2 rfl
def bdX12_count_74 : ByteArray := .mk #[27, 7, 160, 0, 10, 42, 180, 0, 8, 7, 46, 172, 27, 16, 10, 160, 0, 10, 42, 180, 0, 8, 8, 46, 172]
theorem wdX12_count_74 : LocW cX12_count 74 bdX12_count_74 := loc_of (by decide +kernel)
theorem adX12_count_74 : De bdX12_count_74 0 (.iload_n 1) 1 ∧ De bdX12_count_74 1 (.iconst 4) 1 ∧ De bdX12_count_74 2 (.if_icmp .ne 10) 3 ∧ De bdX12_count_74 5 (.aload_n 0) 1 ∧ De bdX12_count_74 6 (.getfield 8) 3 ∧ De bdX12_count_74 9 (.iconst 4) 1 ∧ De bdX12_count_74 10 (.iaload) 1 ∧ De bdX12_count_74 11 (.ireturn) 1 ∧ De bdX12_count_74 12 (.iload_n 1) 1 ∧ De bdX12_count_74 13 (.bipush 10) 2 ∧ De bdX12_count_74 15 (.if_icmp .ne 10) 3 ∧ De bdX12_count_74 18 (.aload_n 0) 1 ∧ De bdX12_count_74 19 (.getfield 8) 3 ∧ De bdX12_count_74 22 (.iconst 5) 1 ∧ De bdX12_count_74 23 (.iaload) 1 ∧ De bdX12_count_74 24 (.ireturn) 1 := by decide +kernel
theorem dX12_count_74 : decode cX12_count 74 = .ok (.iload_n 1, 1) := dAt wdX12_count_74 adX12_count_74.1 rfl
theorem dX12_count_75 : decode cX12_count 75 = .ok (.iconst 4, 1) := dAt wdX12_count_74 adX12_count_74.2.1 rfl
theorem dX12_count_76 : decode cX12_count 76 = .ok (.if_icmp .ne 10, 3) := dAt wdX12_count_74 adX12_count_74.2.2.1 rfl
theorem dX12_count_79 : decode cX12_count 79 = .ok (.aload_n 0, 1) := dAt wdX12_count_74 adX12_count_74.2.2.2.1 rfl
theorem dX12_count_80 : decode cX12_count 80 = .ok (.getfield 8, 3) := dAt wdX12_count_74 adX12_count_74.2.2.2.2.1 rfl
theorem dX12_count_83 : decode cX12_count 83 = .ok (.iconst 4, 1) := dAt wdX12_count_74 adX12_count_74.2.2.2.2.2.1 rfl
theorem dX12_count_84 : decode cX12_count 84 = .ok (.iaload, 1) := dAt wdX12_count_74 adX12_count_74.2.2.2.2.2.2.1 rfl
theorem dX12_count_85 : decode cX12_count 85 = .ok (.ireturn, 1) := dAt wdX12_count_74 adX12_count_74.2.2.2.2.2.2.2.1 rfl
theorem dX12_count_86 : decode cX12_count 86 = .ok (.iload_n 1, 1) := dAt wdX12_count_74 adX12_count_74.2.2.2.2.2.2.2.2.1 rfl
theorem dX12_count_87 : decode cX12_count 87 = .ok (.bipush 10, 2) := dAt wdX12_count_74 adX12_count_74.2.2.2.2.2.2.2.2.2.1 rfl
theorem dX12_count_89 : decode cX12_count 89 = .ok (.if_icmp .ne 10, 3) := dAt wdX12_count_74 adX12_count_74.2.2.2.2.2.2.2.2.2.2.1 rfl
theorem dX12_count_92 : decode cX12_count 92 = .ok (.aload_n 0, 1) := dAt wdX12_count_74 adX12_count_74.2.2.2.2.2.2.2.2.2.2.2.1 rfl
theorem dX12_count_93 : decode cX12_count 93 = .ok (.getfield 8, 3) := dAt wdX12_count_74 adX12_count_74.2.2.2.2.2.2.2.2.2.2.2.2.1 rfl
theorem dX12_count_96 : decode cX12_count 96 = .ok (.iconst 5, 1) := dAt wdX12_count_74 adX12_count_74.2.2.2.2.2.2.2.2.2.2.2.2.2.1 rfl
theorem dX12_count_97 : decode cX12_count 97 = .ok (.iaload, 1) := dAt wdX12_count_74 adX12_count_74.2.2.2.2.2.2.2.2.2.2.2.2.2.2.1 rfl
theorem dX12_count_98 : decode cX12_count 98 = .ok (.ireturn, 1) := dAt wdX12_count_74 adX12_count_74.2.2.2.2.2.2.2.2.2.2.2.2.2.2.2 rfl
def bdX12_count_99 : ByteArray := .mk #[27, 16, 11, 160, 0, 11, 42, 180, 0, 8, 16, 6, 46, 172, 27, 16, 12, 160, 0, 8, 42, 182, 1, 217, 172, 27, 16, 13]
theorem wdX12_count_99 : LocW cX12_count 99 bdX12_count_99 := loc_of (by decide +kernel)
theorem adX12_count_99 : De bdX12_count_99 0 (.iload_n 1) 1 ∧ De bdX12_count_99 1 (.bipush 11) 2 ∧ De bdX12_count_99 3 (.if_icmp .ne 11) 3 ∧ De bdX12_count_99 6 (.aload_n 0) 1 ∧ De bdX12_count_99 7 (.getfield 8) 3 ∧ De bdX12_count_99 10 (.bipush 6) 2 ∧ De bdX12_count_99 12 (.iaload) 1 ∧ De bdX12_count_99 13 (.ireturn) 1 ∧ De bdX12_count_99 14 (.iload_n 1) 1 ∧ De bdX12_count_99 15 (.bipush 12) 2 ∧ De bdX12_count_99 17 (.if_icmp .ne 8) 3 ∧ De bdX12_count_99 20 (.aload_n 0) 1 ∧ De bdX12_count_99 21 (.invokevirtual 473) 3 ∧ De bdX12_count_99 24 (.ireturn) 1 ∧ De bdX12_count_99 25 (.iload_n 1) 1 ∧ De bdX12_count_99 26 (.bipush 13) 2 := by decide +kernel
theorem dX12_count_99 : decode cX12_count 99 = .ok (.iload_n 1, 1) := dAt wdX12_count_99 adX12_count_99.1 rfl
theorem dX12_count_100 : decode cX12_count 100 = .ok (.bipush 11, 2) := dAt wdX12_count_99 adX12_count_99.2.1 rfl
theorem dX12_count_102 : decode cX12_count 102 = .ok (.if_icmp .ne 11, 3) := dAt wdX12_count_99 adX12_count_99.2.2.1 rfl
theorem dX12_count_105 : decode cX12_count 105 = .ok (.aload_n 0, 1) := dAt wdX12_count_99 adX12_count_99.2.2.2.1 rfl
theorem dX12_count_106 : decode cX12_count 106 = .ok (.getfield 8, 3) := dAt wdX12_count_99 adX12_count_99.2.2.2.2.1 rfl
theorem dX12_count_109 : decode cX12_count 109 = .ok (.bipush 6, 2) := dAt wdX12_count_99 adX12_count_99.2.2.2.2.2.1 rfl
theorem dX12_count_111 : decode cX12_count 111 = .ok (.iaload, 1) := dAt wdX12_count_99 adX12_count_99.2.2.2.2.2.2.1 rfl
theorem dX12_count_112 : decode cX12_count 112 = .ok (.ireturn, 1) := dAt wdX12_count_99 adX12_count_99.2.2.2.2.2.2.2.1 rfl
theorem dX12_count_113 : decode cX12_count 113 = .ok (.iload_n 1, 1) := dAt wdX12_count_99 adX12_count_99.2.2.2.2.2.2.2.2.1 rfl
theorem dX12_count_114 : decode cX12_count 114 = .ok (.bipush 12, 2) := dAt wdX12_count_99 adX12_count_99.2.2.2.2.2.2.2.2.2.1 rfl
theorem dX12_count_116 : decode cX12_count 116 = .ok (.if_icmp .ne 8, 3) := dAt wdX12_count_99 adX12_count_99.2.2.2.2.2.2.2.2.2.2.1 rfl
theorem dX12_count_119 : decode cX12_count 119 = .ok (.aload_n 0, 1) := dAt wdX12_count_99 adX12_count_99.2.2.2.2.2.2.2.2.2.2.2.1 rfl
theorem dX12_count_120 : decode cX12_count 120 = .ok (.invokevirtual 473, 3) := dAt wdX12_count_99 adX12_count_99.2.2.2.2.2.2.2.2.2.2.2.2.1 rfl
theorem dX12_count_123 : decode cX12_count 123 = .ok (.ireturn, 1) := dAt wdX12_count_99 adX12_count_99.2.2.2.2.2.2.2.2.2.2.2.2.2.1 rfl
theorem dX12_count_124 : decode cX12_count 124 = .ok (.iload_n 1, 1) := dAt wdX12_count_99 adX12_count_99.2.2.2.2.2.2.2.2.2.2.2.2.2.2.1 rfl
theorem dX12_count_125 : decode cX12_count 125 = .ok (.bipush 13, 2) := dAt wdX12_count_99 adX12_count_99.2.2.2.2.2.2.2.2.2.2.2.2.2.2.2 rfl
def bdX12_count_127 : ByteArray := .mk #[160, 0, 10, 42, 180, 0, 8, 5, 46, 172, 27, 16, 14, 160, 0, 11, 42, 180, 0, 8, 16, 7, 46, 172, 27, 8]
theorem wdX12_count_127 : LocW cX12_count 127 bdX12_count_127 := loc_of (by decide +kernel)
theorem adX12_count_127 : De bdX12_count_127 0 (.if_icmp .ne 10) 3 ∧ De bdX12_count_127 3 (.aload_n 0) 1 ∧ De bdX12_count_127 4 (.getfield 8) 3 ∧ De bdX12_count_127 7 (.iconst 2) 1 ∧ De bdX12_count_127 8 (.iaload) 1 ∧ De bdX12_count_127 9 (.ireturn) 1 ∧ De bdX12_count_127 10 (.iload_n 1) 1 ∧ De bdX12_count_127 11 (.bipush 14) 2 ∧ De bdX12_count_127 13 (.if_icmp .ne 11) 3 ∧ De bdX12_count_127 16 (.aload_n 0) 1 ∧ De bdX12_count_127 17 (.getfield 8) 3 ∧ De bdX12_count_127 20 (.bipush 7) 2 ∧ De bdX12_count_127 22 (.iaload) 1 ∧ De bdX12_count_127 23 (.ireturn) 1 ∧ De bdX12_count_127 24 (.iload_n 1) 1 ∧ De bdX12_count_127 25 (.iconst 5) 1 := by decide +kernel
theorem dX12_count_127 : decode cX12_count 127 = .ok (.if_icmp .ne 10, 3) := dAt wdX12_count_127 adX12_count_127.1 rfl
theorem dX12_count_130 : decode cX12_count 130 = .ok (.aload_n 0, 1) := dAt wdX12_count_127 adX12_count_127.2.1 rfl
theorem dX12_count_131 : decode cX12_count 131 = .ok (.getfield 8, 3) := dAt wdX12_count_127 adX12_count_127.2.2.1 rfl
theorem dX12_count_134 : decode cX12_count 134 = .ok (.iconst 2, 1) := dAt wdX12_count_127 adX12_count_127.2.2.2.1 rfl
theorem dX12_count_135 : decode cX12_count 135 = .ok (.iaload, 1) := dAt wdX12_count_127 adX12_count_127.2.2.2.2.1 rfl
theorem dX12_count_136 : decode cX12_count 136 = .ok (.ireturn, 1) := dAt wdX12_count_127 adX12_count_127.2.2.2.2.2.1 rfl
theorem dX12_count_137 : decode cX12_count 137 = .ok (.iload_n 1, 1) := dAt wdX12_count_127 adX12_count_127.2.2.2.2.2.2.1 rfl
theorem dX12_count_138 : decode cX12_count 138 = .ok (.bipush 14, 2) := dAt wdX12_count_127 adX12_count_127.2.2.2.2.2.2.2.1 rfl
theorem dX12_count_140 : decode cX12_count 140 = .ok (.if_icmp .ne 11, 3) := dAt wdX12_count_127 adX12_count_127.2.2.2.2.2.2.2.2.1 rfl
theorem dX12_count_143 : decode cX12_count 143 = .ok (.aload_n 0, 1) := dAt wdX12_count_127 adX12_count_127.2.2.2.2.2.2.2.2.2.1 rfl
theorem dX12_count_144 : decode cX12_count 144 = .ok (.getfield 8, 3) := dAt wdX12_count_127 adX12_count_127.2.2.2.2.2.2.2.2.2.2.1 rfl
theorem dX12_count_147 : decode cX12_count 147 = .ok (.bipush 7, 2) := dAt wdX12_count_127 adX12_count_127.2.2.2.2.2.2.2.2.2.2.2.1 rfl
theorem dX12_count_149 : decode cX12_count 149 = .ok (.iaload, 1) := dAt wdX12_count_127 adX12_count_127.2.2.2.2.2.2.2.2.2.2.2.2.1 rfl
theorem dX12_count_150 : decode cX12_count 150 = .ok (.ireturn, 1) := dAt wdX12_count_127 adX12_count_127.2.2.2.2.2.2.2.2.2.2.2.2.2.1 rfl
theorem dX12_count_151 : decode cX12_count 151 = .ok (.iload_n 1, 1) := dAt wdX12_count_127 adX12_count_127.2.2.2.2.2.2.2.2.2.2.2.2.2.2.1 rfl
theorem dX12_count_152 : decode cX12_count 152 = .ok (.iconst 5, 1) := dAt wdX12_count_127 adX12_count_127.2.2.2.2.2.2.2.2.2.2.2.2.2.2.2 rfl
def bdX12_count_153 : ByteArray := .mk #[16, 9, 184, 0, 157, 154, 0, 5, 2, 172, 3, 62, 3, 54, 4, 21, 4, 42, 180, 0, 8, 7, 46, 162, 0, 114, 21, 4]
theorem wdX12_count_153 : LocW cX12_count 153 bdX12_count_153 := loc_of (by decide +kernel)
theorem adX12_count_153 : De bdX12_count_153 0 (.bipush 9) 2 ∧ De bdX12_count_153 2 (.invokestatic 157) 3 ∧ De bdX12_count_153 5 (.ifCond .ne 5) 3 ∧ De bdX12_count_153 8 (.iconst (-1)) 1 ∧ De bdX12_count_153 9 (.ireturn) 1 ∧ De bdX12_count_153 10 (.iconst 0) 1 ∧ De bdX12_count_153 11 (.istore_n 3) 1 ∧ De bdX12_count_153 12 (.iconst 0) 1 ∧ De bdX12_count_153 13 (.istore 4) 2 ∧ De bdX12_count_153 15 (.iload 4) 2 ∧ De bdX12_count_153 17 (.aload_n 0) 1 ∧ De bdX12_count_153 18 (.getfield 8) 3 ∧ De bdX12_count_153 21 (.iconst 4) 1 ∧ De bdX12_count_153 22 (.iaload) 1 ∧ De bdX12_count_153 23 (.if_icmp .ge 114) 3 ∧ De bdX12_count_153 26 (.iload 4) 2 := by decide +kernel
theorem dX12_count_153 : decode cX12_count 153 = .ok (.bipush 9, 2) := dAt wdX12_count_153 adX12_count_153.1 rfl
theorem dX12_count_155 : decode cX12_count 155 = .ok (.invokestatic 157, 3) := dAt wdX12_count_153 adX12_count_153.2.1 rfl
theorem dX12_count_158 : decode cX12_count 158 = .ok (.ifCond .ne 5, 3) := dAt wdX12_count_153 adX12_count_153.2.2.1 rfl
theorem dX12_count_161 : decode cX12_count 161 = .ok (.iconst (-1), 1) := dAt wdX12_count_153 adX12_count_153.2.2.2.1 rfl
theorem dX12_count_162 : decode cX12_count 162 = .ok (.ireturn, 1) := dAt wdX12_count_153 adX12_count_153.2.2.2.2.1 rfl
theorem dX12_count_163 : decode cX12_count 163 = .ok (.iconst 0, 1) := dAt wdX12_count_153 adX12_count_153.2.2.2.2.2.1 rfl
theorem dX12_count_164 : decode cX12_count 164 = .ok (.istore_n 3, 1) := dAt wdX12_count_153 adX12_count_153.2.2.2.2.2.2.1 rfl
theorem dX12_count_165 : decode cX12_count 165 = .ok (.iconst 0, 1) := dAt wdX12_count_153 adX12_count_153.2.2.2.2.2.2.2.1 rfl
theorem dX12_count_166 : decode cX12_count 166 = .ok (.istore 4, 2) := dAt wdX12_count_153 adX12_count_153.2.2.2.2.2.2.2.2.1 rfl
theorem dX12_count_168 : decode cX12_count 168 = .ok (.iload 4, 2) := dAt wdX12_count_153 adX12_count_153.2.2.2.2.2.2.2.2.2.1 rfl
theorem dX12_count_170 : decode cX12_count 170 = .ok (.aload_n 0, 1) := dAt wdX12_count_153 adX12_count_153.2.2.2.2.2.2.2.2.2.2.1 rfl
theorem dX12_count_171 : decode cX12_count 171 = .ok (.getfield 8, 3) := dAt wdX12_count_153 adX12_count_153.2.2.2.2.2.2.2.2.2.2.2.1 rfl
theorem dX12_count_174 : decode cX12_count 174 = .ok (.iconst 4, 1) := dAt wdX12_count_153 adX12_count_153.2.2.2.2.2.2.2.2.2.2.2.2.1 rfl
theorem dX12_count_175 : decode cX12_count 175 = .ok (.iaload, 1) := dAt wdX12_count_153 adX12_count_153.2.2.2.2.2.2.2.2.2.2.2.2.2.1 rfl
theorem dX12_count_176 : decode cX12_count 176 = .ok (.if_icmp .ge 114, 3) := dAt wdX12_count_153 adX12_count_153.2.2.2.2.2.2.2.2.2.2.2.2.2.2.1 rfl
theorem dX12_count_179 : decode cX12_count 179 = .ok (.iload 4, 2) := dAt wdX12_count_153 adX12_count_153.2.2.2.2.2.2.2.2.2.2.2.2.2.2.2 rfl
def bdX12_count_181 : ByteArray := .mk #[184, 1, 86, 54, 5, 27, 16, 8, 162, 0, 26, 42, 180, 0, 8, 21, 5, 7, 96, 46, 27, 8, 100, 160, 0, 7, 4]
theorem wdX12_count_181 : LocW cX12_count 181 bdX12_count_181 := loc_of (by decide +kernel)
theorem adX12_count_181 : De bdX12_count_181 0 (.invokestatic 342) 3 ∧ De bdX12_count_181 3 (.istore 5) 2 ∧ De bdX12_count_181 5 (.iload_n 1) 1 ∧ De bdX12_count_181 6 (.bipush 8) 2 ∧ De bdX12_count_181 8 (.if_icmp .ge 26) 3 ∧ De bdX12_count_181 11 (.aload_n 0) 1 ∧ De bdX12_count_181 12 (.getfield 8) 3 ∧ De bdX12_count_181 15 (.iload 5) 2 ∧ De bdX12_count_181 17 (.iconst 4) 1 ∧ De bdX12_count_181 18 (.iadd) 1 ∧ De bdX12_count_181 19 (.iaload) 1 ∧ De bdX12_count_181 20 (.iload_n 1) 1 ∧ De bdX12_count_181 21 (.iconst 5) 1 ∧ De bdX12_count_181 22 (.isub) 1 ∧ De bdX12_count_181 23 (.if_icmp .ne 7) 3 ∧ De bdX12_count_181 26 (.iconst 1) 1 := by decide +kernel
theorem dX12_count_181 : decode cX12_count 181 = .ok (.invokestatic 342, 3) := dAt wdX12_count_181 adX12_count_181.1 rfl
theorem dX12_count_184 : decode cX12_count 184 = .ok (.istore 5, 2) := dAt wdX12_count_181 adX12_count_181.2.1 rfl
theorem dX12_count_186 : decode cX12_count 186 = .ok (.iload_n 1, 1) := dAt wdX12_count_181 adX12_count_181.2.2.1 rfl
theorem dX12_count_187 : decode cX12_count 187 = .ok (.bipush 8, 2) := dAt wdX12_count_181 adX12_count_181.2.2.2.1 rfl
theorem dX12_count_189 : decode cX12_count 189 = .ok (.if_icmp .ge 26, 3) := dAt wdX12_count_181 adX12_count_181.2.2.2.2.1 rfl
theorem dX12_count_192 : decode cX12_count 192 = .ok (.aload_n 0, 1) := dAt wdX12_count_181 adX12_count_181.2.2.2.2.2.1 rfl
theorem dX12_count_193 : decode cX12_count 193 = .ok (.getfield 8, 3) := dAt wdX12_count_181 adX12_count_181.2.2.2.2.2.2.1 rfl
theorem dX12_count_196 : decode cX12_count 196 = .ok (.iload 5, 2) := dAt wdX12_count_181 adX12_count_181.2.2.2.2.2.2.2.1 rfl
theorem dX12_count_198 : decode cX12_count 198 = .ok (.iconst 4, 1) := dAt wdX12_count_181 adX12_count_181.2.2.2.2.2.2.2.2.1 rfl
theorem dX12_count_199 : decode cX12_count 199 = .ok (.iadd, 1) := dAt wdX12_count_181 adX12_count_181.2.2.2.2.2.2.2.2.2.1 rfl
theorem dX12_count_200 : decode cX12_count 200 = .ok (.iaload, 1) := dAt wdX12_count_181 adX12_count_181.2.2.2.2.2.2.2.2.2.2.1 rfl
theorem dX12_count_201 : decode cX12_count 201 = .ok (.iload_n 1, 1) := dAt wdX12_count_181 adX12_count_181.2.2.2.2.2.2.2.2.2.2.2.1 rfl
theorem dX12_count_202 : decode cX12_count 202 = .ok (.iconst 5, 1) := dAt wdX12_count_181 adX12_count_181.2.2.2.2.2.2.2.2.2.2.2.2.1 rfl
theorem dX12_count_203 : decode cX12_count 203 = .ok (.isub, 1) := dAt wdX12_count_181 adX12_count_181.2.2.2.2.2.2.2.2.2.2.2.2.2.1 rfl
theorem dX12_count_204 : decode cX12_count 204 = .ok (.if_icmp .ne 7, 3) := dAt wdX12_count_181 adX12_count_181.2.2.2.2.2.2.2.2.2.2.2.2.2.2.1 rfl
theorem dX12_count_207 : decode cX12_count 207 = .ok (.iconst 1, 1) := dAt wdX12_count_181 adX12_count_181.2.2.2.2.2.2.2.2.2.2.2.2.2.2.2 rfl
def bdX12_count_208 : ByteArray := .mk #[167, 0, 61, 3, 167, 0, 57, 27, 16, 8, 160, 0, 25, 42, 180, 0, 8, 21, 5, 16, 7, 96, 46, 4, 160, 0, 7, 4, 167, 0, 33]
theorem wdX12_count_208 : LocW cX12_count 208 bdX12_count_208 := loc_of (by decide +kernel)
theorem adX12_count_208 : De bdX12_count_208 0 (.goto 61) 3 ∧ De bdX12_count_208 3 (.iconst 0) 1 ∧ De bdX12_count_208 4 (.goto 57) 3 ∧ De bdX12_count_208 7 (.iload_n 1) 1 ∧ De bdX12_count_208 8 (.bipush 8) 2 ∧ De bdX12_count_208 10 (.if_icmp .ne 25) 3 ∧ De bdX12_count_208 13 (.aload_n 0) 1 ∧ De bdX12_count_208 14 (.getfield 8) 3 ∧ De bdX12_count_208 17 (.iload 5) 2 ∧ De bdX12_count_208 19 (.bipush 7) 2 ∧ De bdX12_count_208 21 (.iadd) 1 ∧ De bdX12_count_208 22 (.iaload) 1 ∧ De bdX12_count_208 23 (.iconst 1) 1 ∧ De bdX12_count_208 24 (.if_icmp .ne 7) 3 ∧ De bdX12_count_208 27 (.iconst 1) 1 ∧ De bdX12_count_208 28 (.goto 33) 3 := by decide +kernel
theorem dX12_count_208 : decode cX12_count 208 = .ok (.goto 61, 3) := dAt wdX12_count_208 adX12_count_208.1 rfl
theorem dX12_count_211 : decode cX12_count 211 = .ok (.iconst 0, 1) := dAt wdX12_count_208 adX12_count_208.2.1 rfl
theorem dX12_count_212 : decode cX12_count 212 = .ok (.goto 57, 3) := dAt wdX12_count_208 adX12_count_208.2.2.1 rfl
theorem dX12_count_215 : decode cX12_count 215 = .ok (.iload_n 1, 1) := dAt wdX12_count_208 adX12_count_208.2.2.2.1 rfl
theorem dX12_count_216 : decode cX12_count 216 = .ok (.bipush 8, 2) := dAt wdX12_count_208 adX12_count_208.2.2.2.2.1 rfl
theorem dX12_count_218 : decode cX12_count 218 = .ok (.if_icmp .ne 25, 3) := dAt wdX12_count_208 adX12_count_208.2.2.2.2.2.1 rfl
theorem dX12_count_221 : decode cX12_count 221 = .ok (.aload_n 0, 1) := dAt wdX12_count_208 adX12_count_208.2.2.2.2.2.2.1 rfl
theorem dX12_count_222 : decode cX12_count 222 = .ok (.getfield 8, 3) := dAt wdX12_count_208 adX12_count_208.2.2.2.2.2.2.2.1 rfl
theorem dX12_count_225 : decode cX12_count 225 = .ok (.iload 5, 2) := dAt wdX12_count_208 adX12_count_208.2.2.2.2.2.2.2.2.1 rfl
theorem dX12_count_227 : decode cX12_count 227 = .ok (.bipush 7, 2) := dAt wdX12_count_208 adX12_count_208.2.2.2.2.2.2.2.2.2.1 rfl
theorem dX12_count_229 : decode cX12_count 229 = .ok (.iadd, 1) := dAt wdX12_count_208 adX12_count_208.2.2.2.2.2.2.2.2.2.2.1 rfl
theorem dX12_count_230 : decode cX12_count 230 = .ok (.iaload, 1) := dAt wdX12_count_208 adX12_count_208.2.2.2.2.2.2.2.2.2.2.2.1 rfl
theorem dX12_count_231 : decode cX12_count 231 = .ok (.iconst 1, 1) := dAt wdX12_count_208 adX12_count_208.2.2.2.2.2.2.2.2.2.2.2.2.1 rfl
theorem dX12_count_232 : decode cX12_count 232 = .ok (.if_icmp .ne 7, 3) := dAt wdX12_count_208 adX12_count_208.2.2.2.2.2.2.2.2.2.2.2.2.2.1 rfl
theorem dX12_count_235 : decode cX12_count 235 = .ok (.iconst 1, 1) := dAt wdX12_count_208 adX12_count_208.2.2.2.2.2.2.2.2.2.2.2.2.2.2.1 rfl
theorem dX12_count_236 : decode cX12_count 236 = .ok (.goto 33, 3) := dAt wdX12_count_208 adX12_count_208.2.2.2.2.2.2.2.2.2.2.2.2.2.2.2 rfl
def bdX12_count_239 : ByteArray := .mk #[3, 167, 0, 29, 42, 180, 0, 8, 21, 5, 7, 96, 46, 154, 0, 16, 42, 21, 4, 182, 1, 143, 153, 0, 7, 4, 167, 0, 4, 3]
theorem wdX12_count_239 : LocW cX12_count 239 bdX12_count_239 := loc_of (by decide +kernel)
theorem adX12_count_239 : De bdX12_count_239 0 (.iconst 0) 1 ∧ De bdX12_count_239 1 (.goto 29) 3 ∧ De bdX12_count_239 4 (.aload_n 0) 1 ∧ De bdX12_count_239 5 (.getfield 8) 3 ∧ De bdX12_count_239 8 (.iload 5) 2 ∧ De bdX12_count_239 10 (.iconst 4) 1 ∧ De bdX12_count_239 11 (.iadd) 1 ∧ De bdX12_count_239 12 (.iaload) 1 ∧ De bdX12_count_239 13 (.ifCond .ne 16) 3 ∧ De bdX12_count_239 16 (.aload_n 0) 1 ∧ De bdX12_count_239 17 (.iload 4) 2 ∧ De bdX12_count_239 19 (.invokevirtual 399) 3 ∧ De bdX12_count_239 22 (.ifCond .eq 7) 3 ∧ De bdX12_count_239 25 (.iconst 1) 1 ∧ De bdX12_count_239 26 (.goto 4) 3 ∧ De bdX12_count_239 29 (.iconst 0) 1 := by decide +kernel
theorem dX12_count_239 : decode cX12_count 239 = .ok (.iconst 0, 1) := dAt wdX12_count_239 adX12_count_239.1 rfl
theorem dX12_count_240 : decode cX12_count 240 = .ok (.goto 29, 3) := dAt wdX12_count_239 adX12_count_239.2.1 rfl
theorem dX12_count_243 : decode cX12_count 243 = .ok (.aload_n 0, 1) := dAt wdX12_count_239 adX12_count_239.2.2.1 rfl
theorem dX12_count_244 : decode cX12_count 244 = .ok (.getfield 8, 3) := dAt wdX12_count_239 adX12_count_239.2.2.2.1 rfl
theorem dX12_count_247 : decode cX12_count 247 = .ok (.iload 5, 2) := dAt wdX12_count_239 adX12_count_239.2.2.2.2.1 rfl
theorem dX12_count_249 : decode cX12_count 249 = .ok (.iconst 4, 1) := dAt wdX12_count_239 adX12_count_239.2.2.2.2.2.1 rfl
theorem dX12_count_250 : decode cX12_count 250 = .ok (.iadd, 1) := dAt wdX12_count_239 adX12_count_239.2.2.2.2.2.2.1 rfl
theorem dX12_count_251 : decode cX12_count 251 = .ok (.iaload, 1) := dAt wdX12_count_239 adX12_count_239.2.2.2.2.2.2.2.1 rfl
theorem dX12_count_252 : decode cX12_count 252 = .ok (.ifCond .ne 16, 3) := dAt wdX12_count_239 adX12_count_239.2.2.2.2.2.2.2.2.1 rfl
theorem dX12_count_255 : decode cX12_count 255 = .ok (.aload_n 0, 1) := dAt wdX12_count_239 adX12_count_239.2.2.2.2.2.2.2.2.2.1 rfl
theorem dX12_count_256 : decode cX12_count 256 = .ok (.iload 4, 2) := dAt wdX12_count_239 adX12_count_239.2.2.2.2.2.2.2.2.2.2.1 rfl
theorem dX12_count_258 : decode cX12_count 258 = .ok (.invokevirtual 399, 3) := dAt wdX12_count_239 adX12_count_239.2.2.2.2.2.2.2.2.2.2.2.1 rfl
theorem dX12_count_261 : decode cX12_count 261 = .ok (.ifCond .eq 7, 3) := dAt wdX12_count_239 adX12_count_239.2.2.2.2.2.2.2.2.2.2.2.2.1 rfl
theorem dX12_count_264 : decode cX12_count 264 = .ok (.iconst 1, 1) := dAt wdX12_count_239 adX12_count_239.2.2.2.2.2.2.2.2.2.2.2.2.2.1 rfl
theorem dX12_count_265 : decode cX12_count 265 = .ok (.goto 4, 3) := dAt wdX12_count_239 adX12_count_239.2.2.2.2.2.2.2.2.2.2.2.2.2.2.1 rfl
theorem dX12_count_268 : decode cX12_count 268 = .ok (.iconst 0, 1) := dAt wdX12_count_239 adX12_count_239.2.2.2.2.2.2.2.2.2.2.2.2.2.2.2 rfl
def bdX12_count_269 : ByteArray := .mk #[54, 6, 29, 21, 6, 153, 0, 7, 4, 167, 0, 4, 3, 96, 62, 132, 4, 1, 167, 255, 137, 29, 172]
theorem wdX12_count_269 : LocW cX12_count 269 bdX12_count_269 := loc_of (by decide +kernel)
theorem adX12_count_269 : De bdX12_count_269 0 (.istore 6) 2 ∧ De bdX12_count_269 2 (.iload_n 3) 1 ∧ De bdX12_count_269 3 (.iload 6) 2 ∧ De bdX12_count_269 5 (.ifCond .eq 7) 3 ∧ De bdX12_count_269 8 (.iconst 1) 1 ∧ De bdX12_count_269 9 (.goto 4) 3 ∧ De bdX12_count_269 12 (.iconst 0) 1 ∧ De bdX12_count_269 13 (.iadd) 1 ∧ De bdX12_count_269 14 (.istore_n 3) 1 ∧ De bdX12_count_269 15 (.iinc 4 1) 3 ∧ De bdX12_count_269 18 (.goto (-119)) 3 ∧ De bdX12_count_269 21 (.iload_n 3) 1 ∧ De bdX12_count_269 22 (.ireturn) 1 := by decide +kernel
theorem dX12_count_269 : decode cX12_count 269 = .ok (.istore 6, 2) := dAt wdX12_count_269 adX12_count_269.1 rfl
theorem dX12_count_271 : decode cX12_count 271 = .ok (.iload_n 3, 1) := dAt wdX12_count_269 adX12_count_269.2.1 rfl
theorem dX12_count_272 : decode cX12_count 272 = .ok (.iload 6, 2) := dAt wdX12_count_269 adX12_count_269.2.2.1 rfl
theorem dX12_count_274 : decode cX12_count 274 = .ok (.ifCond .eq 7, 3) := dAt wdX12_count_269 adX12_count_269.2.2.2.1 rfl
theorem dX12_count_277 : decode cX12_count 277 = .ok (.iconst 1, 1) := dAt wdX12_count_269 adX12_count_269.2.2.2.2.1 rfl
theorem dX12_count_278 : decode cX12_count 278 = .ok (.goto 4, 3) := dAt wdX12_count_269 adX12_count_269.2.2.2.2.2.1 rfl
theorem dX12_count_281 : decode cX12_count 281 = .ok (.iconst 0, 1) := dAt wdX12_count_269 adX12_count_269.2.2.2.2.2.2.1 rfl
theorem dX12_count_282 : decode cX12_count 282 = .ok (.iadd, 1) := dAt wdX12_count_269 adX12_count_269.2.2.2.2.2.2.2.1 rfl
theorem dX12_count_283 : decode cX12_count 283 = .ok (.istore_n 3, 1) := dAt wdX12_count_269 adX12_count_269.2.2.2.2.2.2.2.2.1 rfl
theorem dX12_count_284 : decode cX12_count 284 = .ok (.iinc 4 1, 3) := dAt wdX12_count_269 adX12_count_269.2.2.2.2.2.2.2.2.2.1 rfl
theorem dX12_count_287 : decode cX12_count 287 = .ok (.goto (-119), 3) := dAt wdX12_count_269 adX12_count_269.2.2.2.2.2.2.2.2.2.2.1 rfl
theorem dX12_count_290 : decode cX12_count 290 = .ok (.iload_n 3, 1) := dAt wdX12_count_269 adX12_count_269.2.2.2.2.2.2.2.2.2.2.2.1 rfl
theorem dX12_count_291 : decode cX12_count 291 = .ok (.ireturn, 1) := dAt wdX12_count_269 adX12_count_269.2.2.2.2.2.2.2.2.2.2.2.2 rfl
def bdJ6_bitCount_0f7a4_0 : ByteArray := .mk #[26, 26, 4, 124, 19, 1, 9, 126, 100, 59, 26, 19, 1, 10, 126, 26, 5, 124, 19, 1, 10, 126]
theorem wdJ6_bitCount_0f7a4_0 : LocW cJ6_bitCount_0f7a4 0 bdJ6_bitCount_0f7a4_0 := loc_of (by decide +kernel)
theorem adJ6_bitCount_0f7a4_0 : De bdJ6_bitCount_0f7a4_0 0 (.iload_n 0) 1 ∧ De bdJ6_bitCount_0f7a4_0 1 (.iload_n 0) 1 ∧ De bdJ6_bitCount_0f7a4_0 2 (.iconst 1) 1 ∧ De bdJ6_bitCount_0f7a4_0 3 (.iushr) 1 ∧ De bdJ6_bitCount_0f7a4_0 4 (.ldc_w 265) 3 ∧ De bdJ6_bitCount_0f7a4_0 7 (.iand) 1 ∧ De bdJ6_bitCount_0f7a4_0 8 (.isub) 1 ∧ De bdJ6_bitCount_0f7a4_0 9 (.istore_n 0) 1 ∧ De bdJ6_bitCount_0f7a4_0 10 (.iload_n 0) 1 ∧ De bdJ6_bitCount_0f7a4_0 11 (.ldc_w 266) 3 ∧ De bdJ6_bitCount_0f7a4_0 14 (.iand) 1 ∧ De bdJ6_bitCount_0f7a4_0 15 (.iload_n 0) 1 ∧ De bdJ6_bitCount_0f7a4_0 16 (.iconst 2) 1 ∧ De bdJ6_bitCount_0f7a4_0 17 (.iushr) 1 ∧ De bdJ6_bitCount_0f7a4_0 18 (.ldc_w 266) 3 ∧ De bdJ6_bitCount_0f7a4_0 21 (.iand) 1 := by decide +kernel
theorem dJ6_bitCount_0f7a4_0 : decode cJ6_bitCount_0f7a4 0 = .ok (.iload_n 0, 1) := dAt wdJ6_bitCount_0f7a4_0 adJ6_bitCount_0f7a4_0.1 rfl
theorem dJ6_bitCount_0f7a4_1 : decode cJ6_bitCount_0f7a4 1 = .ok (.iload_n 0, 1) := dAt wdJ6_bitCount_0f7a4_0 adJ6_bitCount_0f7a4_0.2.1 rfl
theorem dJ6_bitCount_0f7a4_2 : decode cJ6_bitCount_0f7a4 2 = .ok (.iconst 1, 1) := dAt wdJ6_bitCount_0f7a4_0 adJ6_bitCount_0f7a4_0.2.2.1 rfl
theorem dJ6_bitCount_0f7a4_3 : decode cJ6_bitCount_0f7a4 3 = .ok (.iushr, 1) := dAt wdJ6_bitCount_0f7a4_0 adJ6_bitCount_0f7a4_0.2.2.2.1 rfl
theorem dJ6_bitCount_0f7a4_4 : decode cJ6_bitCount_0f7a4 4 = .ok (.ldc_w 265, 3) := dAt wdJ6_bitCount_0f7a4_0 adJ6_bitCount_0f7a4_0.2.2.2.2.1 rfl
theorem dJ6_bitCount_0f7a4_7 : decode cJ6_bitCount_0f7a4 7 = .ok (.iand, 1) := dAt wdJ6_bitCount_0f7a4_0 adJ6_bitCount_0f7a4_0.2.2.2.2.2.1 rfl
theorem dJ6_bitCount_0f7a4_8 : decode cJ6_bitCount_0f7a4 8 = .ok (.isub, 1) := dAt wdJ6_bitCount_0f7a4_0 adJ6_bitCount_0f7a4_0.2.2.2.2.2.2.1 rfl
theorem dJ6_bitCount_0f7a4_9 : decode cJ6_bitCount_0f7a4 9 = .ok (.istore_n 0, 1) := dAt wdJ6_bitCount_0f7a4_0 adJ6_bitCount_0f7a4_0.2.2.2.2.2.2.2.1 rfl
theorem dJ6_bitCount_0f7a4_10 : decode cJ6_bitCount_0f7a4 10 = .ok (.iload_n 0, 1) := dAt wdJ6_bitCount_0f7a4_0 adJ6_bitCount_0f7a4_0.2.2.2.2.2.2.2.2.1 rfl
theorem dJ6_bitCount_0f7a4_11 : decode cJ6_bitCount_0f7a4 11 = .ok (.ldc_w 266, 3) := dAt wdJ6_bitCount_0f7a4_0 adJ6_bitCount_0f7a4_0.2.2.2.2.2.2.2.2.2.1 rfl
theorem dJ6_bitCount_0f7a4_14 : decode cJ6_bitCount_0f7a4 14 = .ok (.iand, 1) := dAt wdJ6_bitCount_0f7a4_0 adJ6_bitCount_0f7a4_0.2.2.2.2.2.2.2.2.2.2.1 rfl
theorem dJ6_bitCount_0f7a4_15 : decode cJ6_bitCount_0f7a4 15 = .ok (.iload_n 0, 1) := dAt wdJ6_bitCount_0f7a4_0 adJ6_bitCount_0f7a4_0.2.2.2.2.2.2.2.2.2.2.2.1 rfl
theorem dJ6_bitCount_0f7a4_16 : decode cJ6_bitCount_0f7a4 16 = .ok (.iconst 2, 1) := dAt wdJ6_bitCount_0f7a4_0 adJ6_bitCount_0f7a4_0.2.2.2.2.2.2.2.2.2.2.2.2.1 rfl
theorem dJ6_bitCount_0f7a4_17 : decode cJ6_bitCount_0f7a4 17 = .ok (.iushr, 1) := dAt wdJ6_bitCount_0f7a4_0 adJ6_bitCount_0f7a4_0.2.2.2.2.2.2.2.2.2.2.2.2.2.1 rfl
theorem dJ6_bitCount_0f7a4_18 : decode cJ6_bitCount_0f7a4 18 = .ok (.ldc_w 266, 3) := dAt wdJ6_bitCount_0f7a4_0 adJ6_bitCount_0f7a4_0.2.2.2.2.2.2.2.2.2.2.2.2.2.2.1 rfl
theorem dJ6_bitCount_0f7a4_21 : decode cJ6_bitCount_0f7a4 21 = .ok (.iand, 1) := dAt wdJ6_bitCount_0f7a4_0 adJ6_bitCount_0f7a4_0.2.2.2.2.2.2.2.2.2.2.2.2.2.2.2 rfl
def bdJ6_bitCount_0f7a4_22 : ByteArray := .mk #[96, 59, 26, 26, 7, 124, 96, 19, 1, 11, 126, 59, 26, 26, 16, 8, 124, 96, 59]
theorem wdJ6_bitCount_0f7a4_22 : LocW cJ6_bitCount_0f7a4 22 bdJ6_bitCount_0f7a4_22 := loc_of (by decide +kernel)
theorem adJ6_bitCount_0f7a4_22 : De bdJ6_bitCount_0f7a4_22 0 (.iadd) 1 ∧ De bdJ6_bitCount_0f7a4_22 1 (.istore_n 0) 1 ∧ De bdJ6_bitCount_0f7a4_22 2 (.iload_n 0) 1 ∧ De bdJ6_bitCount_0f7a4_22 3 (.iload_n 0) 1 ∧ De bdJ6_bitCount_0f7a4_22 4 (.iconst 4) 1 ∧ De bdJ6_bitCount_0f7a4_22 5 (.iushr) 1 ∧ De bdJ6_bitCount_0f7a4_22 6 (.iadd) 1 ∧ De bdJ6_bitCount_0f7a4_22 7 (.ldc_w 267) 3 ∧ De bdJ6_bitCount_0f7a4_22 10 (.iand) 1 ∧ De bdJ6_bitCount_0f7a4_22 11 (.istore_n 0) 1 ∧ De bdJ6_bitCount_0f7a4_22 12 (.iload_n 0) 1 ∧ De bdJ6_bitCount_0f7a4_22 13 (.iload_n 0) 1 ∧ De bdJ6_bitCount_0f7a4_22 14 (.bipush 8) 2 ∧ De bdJ6_bitCount_0f7a4_22 16 (.iushr) 1 ∧ De bdJ6_bitCount_0f7a4_22 17 (.iadd) 1 ∧ De bdJ6_bitCount_0f7a4_22 18 (.istore_n 0) 1 := by decide +kernel
theorem dJ6_bitCount_0f7a4_22 : decode cJ6_bitCount_0f7a4 22 = .ok (.iadd, 1) := dAt wdJ6_bitCount_0f7a4_22 adJ6_bitCount_0f7a4_22.1 rfl
theorem dJ6_bitCount_0f7a4_23 : decode cJ6_bitCount_0f7a4 23 = .ok (.istore_n 0, 1) := dAt wdJ6_bitCount_0f7a4_22 adJ6_bitCount_0f7a4_22.2.1 rfl
theorem dJ6_bitCount_0f7a4_24 : decode cJ6_bitCount_0f7a4 24 = .ok (.iload_n 0, 1) := dAt wdJ6_bitCount_0f7a4_22 adJ6_bitCount_0f7a4_22.2.2.1 rfl
theorem dJ6_bitCount_0f7a4_25 : decode cJ6_bitCount_0f7a4 25 = .ok (.iload_n 0, 1) := dAt wdJ6_bitCount_0f7a4_22 adJ6_bitCount_0f7a4_22.2.2.2.1 rfl
theorem dJ6_bitCount_0f7a4_26 : decode cJ6_bitCount_0f7a4 26 = .ok (.iconst 4, 1) := dAt wdJ6_bitCount_0f7a4_22 adJ6_bitCount_0f7a4_22.2.2.2.2.1 rfl
theorem dJ6_bitCount_0f7a4_27 : decode cJ6_bitCount_0f7a4 27 = .ok (.iushr, 1) := dAt wdJ6_bitCount_0f7a4_22 adJ6_bitCount_0f7a4_22.2.2.2.2.2.1 rfl
theorem dJ6_bitCount_0f7a4_28 : decode cJ6_bitCount_0f7a4 28 = .ok (.iadd, 1) := dAt wdJ6_bitCount_0f7a4_22 adJ6_bitCount_0f7a4_22.2.2.2.2.2.2.1 rfl
theorem dJ6_bitCount_0f7a4_29 : decode cJ6_bitCount_0f7a4 29 = .ok (.ldc_w 267, 3) := dAt wdJ6_bitCount_0f7a4_22 adJ6_bitCount_0f7a4_22.2.2.2.2.2.2.2.1 rfl
theorem dJ6_bitCount_0f7a4_32 : decode cJ6_bitCount_0f7a4 32 = .ok (.iand, 1) := dAt wdJ6_bitCount_0f7a4_22 adJ6_bitCount_0f7a4_22.2.2.2.2.2.2.2.2.1 rfl
theorem dJ6_bitCount_0f7a4_33 : decode cJ6_bitCount_0f7a4 33 = .ok (.istore_n 0, 1) := dAt wdJ6_bitCount_0f7a4_22 adJ6_bitCount_0f7a4_22.2.2.2.2.2.2.2.2.2.1 rfl
theorem dJ6_bitCount_0f7a4_34 : decode cJ6_bitCount_0f7a4 34 = .ok (.iload_n 0, 1) := dAt wdJ6_bitCount_0f7a4_22 adJ6_bitCount_0f7a4_22.2.2.2.2.2.2.2.2.2.2.1 rfl
theorem dJ6_bitCount_0f7a4_35 : decode cJ6_bitCount_0f7a4 35 = .ok (.iload_n 0, 1) := dAt wdJ6_bitCount_0f7a4_22 adJ6_bitCount_0f7a4_22.2.2.2.2.2.2.2.2.2.2.2.1 rfl
theorem dJ6_bitCount_0f7a4_36 : decode cJ6_bitCount_0f7a4 36 = .ok (.bipush 8, 2) := dAt wdJ6_bitCount_0f7a4_22 adJ6_bitCount_0f7a4_22.2.2.2.2.2.2.2.2.2.2.2.2.1 rfl
theorem dJ6_bitCount_0f7a4_38 : decode cJ6_bitCount_0f7a4 38 = .ok (.iushr, 1) := dAt wdJ6_bitCount_0f7a4_22 adJ6_bitCount_0f7a4_22.2.2.2.2.2.2.2.2.2.2.2.2.2.1 rfl
theorem dJ6_bitCount_0f7a4_39 : decode cJ6_bitCount_0f7a4 39 = .ok (.iadd, 1) := dAt wdJ6_bitCount_0f7a4_22 adJ6_bitCount_0f7a4_22.2.2.2.2.2.2.2.2.2.2.2.2.2.2.1 rfl
theorem dJ6_bitCount_0f7a4_40 : decode cJ6_bitCount_0f7a4 40 = .ok (.istore_n 0, 1) := dAt wdJ6_bitCount_0f7a4_22 adJ6_bitCount_0f7a4_22.2.2.2.2.2.2.2.2.2.2.2.2.2.2.2 rfl
def bdJ6_bitCount_0f7a4_41 : ByteArray := .mk #[26, 26, 16, 16, 124, 96, 59, 26, 16, 63, 126, 172]
theorem wdJ6_bitCount_0f7a4_41 : LocW cJ6_bitCount_0f7a4 41 bdJ6_bitCount_0f7a4_41 := loc_of (by decide +kernel)
theorem adJ6_bitCount_0f7a4_41 : De bdJ6_bitCount_0f7a4_41 0 (.iload_n 0) 1 ∧ De bdJ6_bitCount_0f7a4_41 1 (.iload_n 0) 1 ∧ De bdJ6_bitCount_0f7a4_41 2 (.bipush 16) 2 ∧ De bdJ6_bitCount_0f7a4_41 4 (.iushr) 1 ∧ De bdJ6_bitCount_0f7a4_41 5 (.iadd) 1 ∧ De bdJ6_bitCount_0f7a4_41 6 (.istore_n 0) 1 ∧ De bdJ6_bitCount_0f7a4_41 7 (.iload_n 0) 1 ∧ De bdJ6_bitCount_0f7a4_41 8 (.bipush 63) 2 ∧ De bdJ6_bitCount_0f7a4_41 10 (.iand) 1 ∧ De bdJ6_bitCount_0f7a4_41 11 (.ireturn) 1 := by decide +kernel
theorem dJ6_bitCount_0f7a4_41 : decode cJ6_bitCount_0f7a4 41 = .ok (.iload_n 0, 1) := dAt wdJ6_bitCount_0f7a4_41 adJ6_bitCount_0f7a4_41.1 rfl
theorem dJ6_bitCount_0f7a4_42 : decode cJ6_bitCount_0f7a4 42 = .ok (.iload_n 0, 1) := dAt wdJ6_bitCount_0f7a4_41 adJ6_bitCount_0f7a4_41.2.1 rfl
theorem dJ6_bitCount_0f7a4_43 : decode cJ6_bitCount_0f7a4 43 = .ok (.bipush 16, 2) := dAt wdJ6_bitCount_0f7a4_41 adJ6_bitCount_0f7a4_41.2.2.1 rfl
theorem dJ6_bitCount_0f7a4_45 : decode cJ6_bitCount_0f7a4 45 = .ok (.iushr, 1) := dAt wdJ6_bitCount_0f7a4_41 adJ6_bitCount_0f7a4_41.2.2.2.1 rfl
theorem dJ6_bitCount_0f7a4_46 : decode cJ6_bitCount_0f7a4 46 = .ok (.iadd, 1) := dAt wdJ6_bitCount_0f7a4_41 adJ6_bitCount_0f7a4_41.2.2.2.2.1 rfl
theorem dJ6_bitCount_0f7a4_47 : decode cJ6_bitCount_0f7a4 47 = .ok (.istore_n 0, 1) := dAt wdJ6_bitCount_0f7a4_41 adJ6_bitCount_0f7a4_41.2.2.2.2.2.1 rfl
theorem dJ6_bitCount_0f7a4_48 : decode cJ6_bitCount_0f7a4 48 = .ok (.iload_n 0, 1) := dAt wdJ6_bitCount_0f7a4_41 adJ6_bitCount_0f7a4_41.2.2.2.2.2.2.1 rfl
theorem dJ6_bitCount_0f7a4_49 : decode cJ6_bitCount_0f7a4 49 = .ok (.bipush 63, 2) := dAt wdJ6_bitCount_0f7a4_41 adJ6_bitCount_0f7a4_41.2.2.2.2.2.2.2.1 rfl
theorem dJ6_bitCount_0f7a4_51 : decode cJ6_bitCount_0f7a4 51 = .ok (.iand, 1) := dAt wdJ6_bitCount_0f7a4_41 adJ6_bitCount_0f7a4_41.2.2.2.2.2.2.2.2.1 rfl
theorem dJ6_bitCount_0f7a4_52 : decode cJ6_bitCount_0f7a4 52 = .ok (.ireturn, 1) := dAt wdJ6_bitCount_0f7a4_41 adJ6_bitCount_0f7a4_41.2.2.2.2.2.2.2.2.2 rfl
def bdJ9_max_7cf53_0 : ByteArray := .mk #[26, 27, 161, 0, 7, 26, 167, 0, 4, 27, 172]
theorem wdJ9_max_7cf53_0 : LocW cJ9_max_7cf53 0 bdJ9_max_7cf53_0 := loc_of (by decide +kernel)
theorem adJ9_max_7cf53_0 : De bdJ9_max_7cf53_0 0 (.iload_n 0) 1 ∧ De bdJ9_max_7cf53_0 1 (.iload_n 1) 1 ∧ De bdJ9_max_7cf53_0 2 (.if_icmp .lt 7) 3 ∧ De bdJ9_max_7cf53_0 5 (.iload_n 0) 1 ∧ De bdJ9_max_7cf53_0 6 (.goto 4) 3 ∧ De bdJ9_max_7cf53_0 9 (.iload_n 1) 1 ∧ De bdJ9_max_7cf53_0 10 (.ireturn) 1 := by decide +kernel
theorem dJ9_max_7cf53_0 : decode cJ9_max_7cf53 0 = .ok (.iload_n 0, 1) := dAt wdJ9_max_7cf53_0 adJ9_max_7cf53_0.1 rfl
theorem dJ9_max_7cf53_1 : decode cJ9_max_7cf53 1 = .ok (.iload_n 1, 1) := dAt wdJ9_max_7cf53_0 adJ9_max_7cf53_0.2.1 rfl
theorem dJ9_max_7cf53_2 : decode cJ9_max_7cf53 2 = .ok (.if_icmp .lt 7, 3) := dAt wdJ9_max_7cf53_0 adJ9_max_7cf53_0.2.2.1 rfl
theorem dJ9_max_7cf53_5 : decode cJ9_max_7cf53 5 = .ok (.iload_n 0, 1) := dAt wdJ9_max_7cf53_0 adJ9_max_7cf53_0.2.2.2.1 rfl
theorem dJ9_max_7cf53_6 : decode cJ9_max_7cf53 6 = .ok (.goto 4, 3) := dAt wdJ9_max_7cf53_0 adJ9_max_7cf53_0.2.2.2.2.1 rfl
theorem dJ9_max_7cf53_9 : decode cJ9_max_7cf53 9 = .ok (.iload_n 1, 1) := dAt wdJ9_max_7cf53_0 adJ9_max_7cf53_0.2.2.2.2.2.1 rfl
theorem dJ9_max_7cf53_10 : decode cJ9_max_7cf53 10 = .ok (.ireturn, 1) := dAt wdJ9_max_7cf53_0 adJ9_max_7cf53_0.2.2.2.2.2.2 rfl
def bdJ9_min_7cf53_0 : ByteArray := .mk #[26, 27, 163, 0, 7, 26, 167, 0, 4, 27, 172]
theorem wdJ9_min_7cf53_0 : LocW cJ9_min_7cf53 0 bdJ9_min_7cf53_0 := loc_of (by decide +kernel)
theorem adJ9_min_7cf53_0 : De bdJ9_min_7cf53_0 0 (.iload_n 0) 1 ∧ De bdJ9_min_7cf53_0 1 (.iload_n 1) 1 ∧ De bdJ9_min_7cf53_0 2 (.if_icmp .gt 7) 3 ∧ De bdJ9_min_7cf53_0 5 (.iload_n 0) 1 ∧ De bdJ9_min_7cf53_0 6 (.goto 4) 3 ∧ De bdJ9_min_7cf53_0 9 (.iload_n 1) 1 ∧ De bdJ9_min_7cf53_0 10 (.ireturn) 1 := by decide +kernel
theorem dJ9_min_7cf53_0 : decode cJ9_min_7cf53 0 = .ok (.iload_n 0, 1) := dAt wdJ9_min_7cf53_0 adJ9_min_7cf53_0.1 rfl
theorem dJ9_min_7cf53_1 : decode cJ9_min_7cf53 1 = .ok (.iload_n 1, 1) := dAt wdJ9_min_7cf53_0 adJ9_min_7cf53_0.2.1 rfl
theorem dJ9_min_7cf53_2 : decode cJ9_min_7cf53 2 = .ok (.if_icmp .gt 7, 3) := dAt wdJ9_min_7cf53_0 adJ9_min_7cf53_0.2.2.1 rfl
theorem dJ9_min_7cf53_5 : decode cJ9_min_7cf53 5 = .ok (.iload_n 0, 1) := dAt wdJ9_min_7cf53_0 adJ9_min_7cf53_0.2.2.2.1 rfl
theorem dJ9_min_7cf53_6 : decode cJ9_min_7cf53 6 = .ok (.goto 4, 3) := dAt wdJ9_min_7cf53_0 adJ9_min_7cf53_0.2.2.2.2.1 rfl
theorem dJ9_min_7cf53_9 : decode cJ9_min_7cf53 9 = .ok (.iload_n 1, 1) := dAt wdJ9_min_7cf53_0 adJ9_min_7cf53_0.2.2.2.2.2.1 rfl
theorem dJ9_min_7cf53_10 : decode cJ9_min_7cf53 10 = .ok (.ireturn, 1) := dAt wdJ9_min_7cf53_0 adJ9_min_7cf53_0.2.2.2.2.2.2 rfl
def bdJ0_length_8abf5_0 : ByteArray := .mk #[42, 180, 0, 9, 190, 42, 182, 1, 79, 122, 172]
theorem wdJ0_length_8abf5_0 : LocW cJ0_length_8abf5 0 bdJ0_length_8abf5_0 := loc_of (by decide +kernel)
theorem adJ0_length_8abf5_0 : De bdJ0_length_8abf5_0 0 (.aload_n 0) 1 ∧ De bdJ0_length_8abf5_0 1 (.getfield 9) 3 ∧ De bdJ0_length_8abf5_0 4 (.arraylength) 1 ∧ De bdJ0_length_8abf5_0 5 (.aload_n 0) 1 ∧ De bdJ0_length_8abf5_0 6 (.invokevirtual 335) 3 ∧ De bdJ0_length_8abf5_0 9 (.ishr) 1 ∧ De bdJ0_length_8abf5_0 10 (.ireturn) 1 := by decide +kernel
theorem dJ0_length_8abf5_0 : decode cJ0_length_8abf5 0 = .ok (.aload_n 0, 1) := dAt wdJ0_length_8abf5_0 adJ0_length_8abf5_0.1 rfl
theorem dJ0_length_8abf5_1 : decode cJ0_length_8abf5 1 = .ok (.getfield 9, 3) := dAt wdJ0_length_8abf5_0 adJ0_length_8abf5_0.2.1 rfl
theorem dJ0_length_8abf5_4 : decode cJ0_length_8abf5 4 = .ok (.arraylength, 1) := dAt wdJ0_length_8abf5_0 adJ0_length_8abf5_0.2.2.1 rfl
theorem dJ0_length_8abf5_5 : decode cJ0_length_8abf5 5 = .ok (.aload_n 0, 1) := dAt wdJ0_length_8abf5_0 adJ0_length_8abf5_0.2.2.2.1 rfl
theorem dJ0_length_8abf5_6 : decode cJ0_length_8abf5 6 = .ok (.invokevirtual 335, 3) := dAt wdJ0_length_8abf5_0 adJ0_length_8abf5_0.2.2.2.2.1 rfl
theorem dJ0_length_8abf5_9 : decode cJ0_length_8abf5 9 = .ok (.ishr, 1) := dAt wdJ0_length_8abf5_0 adJ0_length_8abf5_0.2.2.2.2.2.1 rfl
theorem dJ0_length_8abf5_10 : decode cJ0_length_8abf5 10 = .ok (.ireturn, 1) := dAt wdJ0_length_8abf5_0 adJ0_length_8abf5_0.2.2.2.2.2.2 rfl
def bdJ0_charAt_5068e_0 : ByteArray := .mk #[42, 182, 1, 236, 153, 0, 12, 42, 180, 0, 9, 27, 184, 1, 239, 172, 42, 180, 0, 9, 27, 184, 1, 242, 172]
theorem wdJ0_charAt_5068e_0 : LocW cJ0_charAt_5068e 0 bdJ0_charAt_5068e_0 := loc_of (by decide +kernel)
theorem adJ0_charAt_5068e_0 : De bdJ0_charAt_5068e_0 0 (.aload_n 0) 1 ∧ De bdJ0_charAt_5068e_0 1 (.invokevirtual 492) 3 ∧ De bdJ0_charAt_5068e_0 4 (.ifCond .eq 12) 3 ∧ De bdJ0_charAt_5068e_0 7 (.aload_n 0) 1 ∧ De bdJ0_charAt_5068e_0 8 (.getfield 9) 3 ∧ De bdJ0_charAt_5068e_0 11 (.iload_n 1) 1 ∧ De bdJ0_charAt_5068e_0 12 (.invokestatic 495) 3 ∧ De bdJ0_charAt_5068e_0 15 (.ireturn) 1 ∧ De bdJ0_charAt_5068e_0 16 (.aload_n 0) 1 ∧ De bdJ0_charAt_5068e_0 17 (.getfield 9) 3 ∧ De bdJ0_charAt_5068e_0 20 (.iload_n 1) 1 ∧ De bdJ0_charAt_5068e_0 21 (.invokestatic 498) 3 ∧ De bdJ0_charAt_5068e_0 24 (.ireturn) 1 := by decide +kernel
theorem dJ0_charAt_5068e_0 : decode cJ0_charAt_5068e 0 = .ok (.aload_n 0, 1) := dAt wdJ0_charAt_5068e_0 adJ0_charAt_5068e_0.1 rfl
theorem dJ0_charAt_5068e_1 : decode cJ0_charAt_5068e 1 = .ok (.invokevirtual 492, 3) := dAt wdJ0_charAt_5068e_0 adJ0_charAt_5068e_0.2.1 rfl
theorem dJ0_charAt_5068e_4 : decode cJ0_charAt_5068e 4 = .ok (.ifCond .eq 12, 3) := dAt wdJ0_charAt_5068e_0 adJ0_charAt_5068e_0.2.2.1 rfl
theorem dJ0_charAt_5068e_7 : decode cJ0_charAt_5068e 7 = .ok (.aload_n 0, 1) := dAt wdJ0_charAt_5068e_0 adJ0_charAt_5068e_0.2.2.2.1 rfl
theorem dJ0_charAt_5068e_8 : decode cJ0_charAt_5068e 8 = .ok (.getfield 9, 3) := dAt wdJ0_charAt_5068e_0 adJ0_charAt_5068e_0.2.2.2.2.1 rfl
theorem dJ0_charAt_5068e_11 : decode cJ0_charAt_5068e 11 = .ok (.iload_n 1, 1) := dAt wdJ0_charAt_5068e_0 adJ0_charAt_5068e_0.2.2.2.2.2.1 rfl
theorem dJ0_charAt_5068e_12 : decode cJ0_charAt_5068e 12 = .ok (.invokestatic 495, 3) := dAt wdJ0_charAt_5068e_0 adJ0_charAt_5068e_0.2.2.2.2.2.2.1 rfl
theorem dJ0_charAt_5068e_15 : decode cJ0_charAt_5068e 15 = .ok (.ireturn, 1) := dAt wdJ0_charAt_5068e_0 adJ0_charAt_5068e_0.2.2.2.2.2.2.2.1 rfl
theorem dJ0_charAt_5068e_16 : decode cJ0_charAt_5068e 16 = .ok (.aload_n 0, 1) := dAt wdJ0_charAt_5068e_0 adJ0_charAt_5068e_0.2.2.2.2.2.2.2.2.1 rfl
theorem dJ0_charAt_5068e_17 : decode cJ0_charAt_5068e 17 = .ok (.getfield 9, 3) := dAt wdJ0_charAt_5068e_0 adJ0_charAt_5068e_0.2.2.2.2.2.2.2.2.2.1 rfl
theorem dJ0_charAt_5068e_20 : decode cJ0_charAt_5068e 20 = .ok (.iload_n 1, 1) := dAt wdJ0_charAt_5068e_0 adJ0_charAt_5068e_0.2.2.2.2.2.2.2.2.2.2.1 rfl
theorem dJ0_charAt_5068e_21 : decode cJ0_charAt_5068e 21 = .ok (.invokestatic 498, 3) := dAt wdJ0_charAt_5068e_0 adJ0_charAt_5068e_0.2.2.2.2.2.2.2.2.2.2.2.1 rfl
theorem dJ0_charAt_5068e_24 : decode cJ0_charAt_5068e 24 = .ok (.ireturn, 1) := dAt wdJ0_charAt_5068e_0 adJ0_charAt_5068e_0.2.2.2.2.2.2.2.2.2.2.2.2 rfl
def bdJ0_coder_7d493_0 : ByteArray := .mk #[178, 0, 38, 153, 0, 10, 42, 180, 0, 15, 167, 0, 4, 4, 172]
theorem wdJ0_coder_7d493_0 : LocW cJ0_coder_7d493 0 bdJ0_coder_7d493_0 := loc_of (by decide +kernel)
theorem adJ0_coder_7d493_0 : De bdJ0_coder_7d493_0 0 (.getstatic 38) 3 ∧ De bdJ0_coder_7d493_0 3 (.ifCond .eq 10) 3 ∧ De bdJ0_coder_7d493_0 6 (.aload_n 0) 1 ∧ De bdJ0_coder_7d493_0 7 (.getfield 15) 3 ∧ De bdJ0_coder_7d493_0 10 (.goto 4) 3 ∧ De bdJ0_coder_7d493_0 13 (.iconst 1) 1 ∧ De bdJ0_coder_7d493_0 14 (.ireturn) 1 := by decide +kernel
theorem dJ0_coder_7d493_0 : decode cJ0_coder_7d493 0 = .ok (.getstatic 38, 3) := dAt wdJ0_coder_7d493_0 adJ0_coder_7d493_0.1 rfl
theorem dJ0_coder_7d493_3 : decode cJ0_coder_7d493 3 = .ok (.ifCond .eq 10, 3) := dAt wdJ0_coder_7d493_0 adJ0_coder_7d493_0.2.1 rfl
theorem dJ0_coder_7d493_6 : decode cJ0_coder_7d493 6 = .ok (.aload_n 0, 1) := dAt wdJ0_coder_7d493_0 adJ0_coder_7d493_0.2.2.1 rfl
theorem dJ0_coder_7d493_7 : decode cJ0_coder_7d493 7 = .ok (.getfield 15, 3) := dAt wdJ0_coder_7d493_0 adJ0_coder_7d493_0.2.2.2.1 rfl
theorem dJ0_coder_7d493_10 : decode cJ0_coder_7d493 10 = .ok (.goto 4, 3) := dAt wdJ0_coder_7d493_0 adJ0_coder_7d493_0.2.2.2.2.1 rfl
theorem dJ0_coder_7d493_13 : decode cJ0_coder_7d493 13 = .ok (.iconst 1, 1) := dAt wdJ0_coder_7d493_0 adJ0_coder_7d493_0.2.2.2.2.2.1 rfl
theorem dJ0_coder_7d493_14 : decode cJ0_coder_7d493 14 = .ok (.ireturn, 1) := dAt wdJ0_coder_7d493_0 adJ0_coder_7d493_0.2.2.2.2.2.2 rfl
def bdJ0_isLatin1_aae02_0 : ByteArray := .mk #[178, 0, 38, 153, 0, 14, 42, 180, 0, 15, 154, 0, 7, 4, 167, 0, 4, 3, 172]
theorem wdJ0_isLatin1_aae02_0 : LocW cJ0_isLatin1_aae02 0 bdJ0_isLatin1_aae02_0 := loc_of (by decide +kernel)
theorem adJ0_isLatin1_aae02_0 : De bdJ0_isLatin1_aae02_0 0 (.getstatic 38) 3 ∧ De bdJ0_isLatin1_aae02_0 3 (.ifCond .eq 14) 3 ∧ De bdJ0_isLatin1_aae02_0 6 (.aload_n 0) 1 ∧ De bdJ0_isLatin1_aae02_0 7 (.getfield 15) 3 ∧ De bdJ0_isLatin1_aae02_0 10 (.ifCond .ne 7) 3 ∧ De bdJ0_isLatin1_aae02_0 13 (.iconst 1) 1 ∧ De bdJ0_isLatin1_aae02_0 14 (.goto 4) 3 ∧ De bdJ0_isLatin1_aae02_0 17 (.iconst 0) 1 ∧ De bdJ0_isLatin1_aae02_0 18 (.ireturn) 1 := by decide +kernel
theorem dJ0_isLatin1_aae02_0 : decode cJ0_isLatin1_aae02 0 = .ok (.getstatic 38, 3) := dAt wdJ0_isLatin1_aae02_0 adJ0_isLatin1_aae02_0.1 rfl
theorem dJ0_isLatin1_aae02_3 : decode cJ0_isLatin1_aae02 3 = .ok (.ifCond .eq 14, 3) := dAt wdJ0_isLatin1_aae02_0 adJ0_isLatin1_aae02_0.2.1 rfl
theorem dJ0_isLatin1_aae02_6 : decode cJ0_isLatin1_aae02 6 = .ok (.aload_n 0, 1) := dAt wdJ0_isLatin1_aae02_0 adJ0_isLatin1_aae02_0.2.2.1 rfl
theorem dJ0_isLatin1_aae02_7 : decode cJ0_isLatin1_aae02 7 = .ok (.getfield 15, 3) := dAt wdJ0_isLatin1_aae02_0 adJ0_isLatin1_aae02_0.2.2.2.1 rfl
theorem dJ0_isLatin1_aae02_10 : decode cJ0_isLatin1_aae02 10 = .ok (.ifCond .ne 7, 3) := dAt wdJ0_isLatin1_aae02_0 adJ0_isLatin1_aae02_0.2.2.2.2.1 rfl
theorem dJ0_isLatin1_aae02_13 : decode cJ0_isLatin1_aae02 13 = .ok (.iconst 1, 1) := dAt wdJ0_isLatin1_aae02_0 adJ0_isLatin1_aae02_0.2.2.2.2.2.1 rfl
theorem dJ0_isLatin1_aae02_14 : decode cJ0_isLatin1_aae02 14 = .ok (.goto 4, 3) := dAt wdJ0_isLatin1_aae02_0 adJ0_isLatin1_aae02_0.2.2.2.2.2.2.1 rfl
theorem dJ0_isLatin1_aae02_17 : decode cJ0_isLatin1_aae02 17 = .ok (.iconst 0, 1) := dAt wdJ0_isLatin1_aae02_0 adJ0_isLatin1_aae02_0.2.2.2.2.2.2.2.1 rfl
theorem dJ0_isLatin1_aae02_18 : decode cJ0_isLatin1_aae02 18 = .ok (.ireturn, 1) := dAt wdJ0_isLatin1_aae02_0 adJ0_isLatin1_aae02_0.2.2.2.2.2.2.2.2 rfl
def bdJ0_checkIndex_df160_0 : ByteArray := .mk #[26, 27, 178, 4, 29, 184, 4, 35, 87, 177]
theorem wdJ0_checkIndex_df160_0 : LocW cJ0_checkIndex_df160 0 bdJ0_checkIndex_df160_0 := loc_of (by decide +kernel)
theorem adJ0_checkIndex_df160_0 : De bdJ0_checkIndex_df160_0 0 (.iload_n 0) 1 ∧ De bdJ0_checkIndex_df160_0 1 (.iload_n 1) 1 ∧ De bdJ0_checkIndex_df160_0 2 (.getstatic 1053) 3 ∧ De bdJ0_checkIndex_df160_0 5 (.invokestatic 1059) 3 ∧ De bdJ0_checkIndex_df160_0 8 (.pop) 1 ∧ De bdJ0_checkIndex_df160_0 9 (.return_) 1 := by decide +kernel
theorem dJ0_checkIndex_df160_0 : decode cJ0_checkIndex_df160 0 = .ok (.iload_n 0, 1) := dAt wdJ0_checkIndex_df160_0 adJ0_checkIndex_df160_0.1 rfl
theorem dJ0_checkIndex_df160_1 : decode cJ0_checkIndex_df160 1 = .ok (.iload_n 1, 1) := dAt wdJ0_checkIndex_df160_0 adJ0_checkIndex_df160_0.2.1 rfl
theorem dJ0_checkIndex_df160_2 : decode cJ0_checkIndex_df160 2 = .ok (.getstatic 1053, 3) := dAt wdJ0_checkIndex_df160_0 adJ0_checkIndex_df160_0.2.2.1 rfl
theorem dJ0_checkIndex_df160_5 : decode cJ0_checkIndex_df160 5 = .ok (.invokestatic 1059, 3) := dAt wdJ0_checkIndex_df160_0 adJ0_checkIndex_df160_0.2.2.2.1 rfl
theorem dJ0_checkIndex_df160_8 : decode cJ0_checkIndex_df160 8 = .ok (.pop, 1) := dAt wdJ0_checkIndex_df160_0 adJ0_checkIndex_df160_0.2.2.2.2.1 rfl
theorem dJ0_checkIndex_df160_9 : decode cJ0_checkIndex_df160 9 = .ok (.return_, 1) := dAt wdJ0_checkIndex_df160_0 adJ0_checkIndex_df160_0.2.2.2.2.2 rfl
def bdJ1_charAt_3b067_0 : ByteArray := .mk #[27, 42, 190, 184, 0, 9, 42, 27, 51, 17, 0, 255, 126, 146, 172]
theorem wdJ1_charAt_3b067_0 : LocW cJ1_charAt_3b067 0 bdJ1_charAt_3b067_0 := loc_of (by decide +kernel)
theorem adJ1_charAt_3b067_0 : De bdJ1_charAt_3b067_0 0 (.iload_n 1) 1 ∧ De bdJ1_charAt_3b067_0 1 (.aload_n 0) 1 ∧ De bdJ1_charAt_3b067_0 2 (.arraylength) 1 ∧ De bdJ1_charAt_3b067_0 3 (.invokestatic 9) 3 ∧ De bdJ1_charAt_3b067_0 6 (.aload_n 0) 1 ∧ De bdJ1_charAt_3b067_0 7 (.iload_n 1) 1 ∧ De bdJ1_charAt_3b067_0 8 (.baload) 1 ∧ De bdJ1_charAt_3b067_0 9 (.sipush 255) 3 ∧ De bdJ1_charAt_3b067_0 12 (.iand) 1 ∧ De bdJ1_charAt_3b067_0 13 (.i2c) 1 ∧ De bdJ1_charAt_3b067_0 14 (.ireturn) 1 := by decide +kernel
theorem dJ1_charAt_3b067_0 : decode cJ1_charAt_3b067 0 = .ok (.iload_n 1, 1) := dAt wdJ1_charAt_3b067_0 adJ1_charAt_3b067_0.1 rfl
theorem dJ1_charAt_3b067_1 : decode cJ1_charAt_3b067 1 = .ok (.aload_n 0, 1) := dAt wdJ1_charAt_3b067_0 adJ1_charAt_3b067_0.2.1 rfl
theorem dJ1_charAt_3b067_2 : decode cJ1_charAt_3b067 2 = .ok (.arraylength, 1) := dAt wdJ1_charAt_3b067_0 adJ1_charAt_3b067_0.2.2.1 rfl
theorem dJ1_charAt_3b067_3 : decode cJ1_charAt_3b067 3 = .ok (.invokestatic 9, 3) := dAt wdJ1_charAt_3b067_0 adJ1_charAt_3b067_0.2.2.2.1 rfl
theorem dJ1_charAt_3b067_6 : decode cJ1_charAt_3b067 6 = .ok (.aload_n 0, 1) := dAt wdJ1_charAt_3b067_0 adJ1_charAt_3b067_0.2.2.2.2.1 rfl
theorem dJ1_charAt_3b067_7 : decode cJ1_charAt_3b067 7 = .ok (.iload_n 1, 1) := dAt wdJ1_charAt_3b067_0 adJ1_charAt_3b067_0.2.2.2.2.2.1 rfl
theorem dJ1_charAt_3b067_8 : decode cJ1_charAt_3b067 8 = .ok (.baload, 1) := dAt wdJ1_charAt_3b067_0 adJ1_charAt_3b067_0.2.2.2.2.2.2.1 rfl
theorem dJ1_charAt_3b067_9 : decode cJ1_charAt_3b067 9 = .ok (.sipush 255, 3) := dAt wdJ1_charAt_3b067_0 adJ1_charAt_3b067_0.2.2.2.2.2.2.2.1 rfl
theorem dJ1_charAt_3b067_12 : decode cJ1_charAt_3b067 12 = .ok (.iand, 1) := dAt wdJ1_charAt_3b067_0 adJ1_charAt_3b067_0.2.2.2.2.2.2.2.2.1 rfl
theorem dJ1_charAt_3b067_13 : decode cJ1_charAt_3b067 13 = .ok (.i2c, 1) := dAt wdJ1_charAt_3b067_0 adJ1_charAt_3b067_0.2.2.2.2.2.2.2.2.2.1 rfl
theorem dJ1_charAt_3b067_14 : decode cJ1_charAt_3b067 14 = .ok (.ireturn, 1) := dAt wdJ1_charAt_3b067_0 adJ1_charAt_3b067_0.2.2.2.2.2.2.2.2.2.2 rfl
def bdJ2_getChar_3b067_0 : ByteArray := .mk #[178, 0, 44, 154, 0, 25, 27, 155, 0, 11, 27, 42, 184, 0, 48, 161, 0, 13, 187, 0, 52, 89, 18, 54, 183, 0, 56, 191, 27, 4, 120]
theorem wdJ2_getChar_3b067_0 : LocW cJ2_getChar_3b067 0 bdJ2_getChar_3b067_0 := loc_of (by decide +kernel)
theorem adJ2_getChar_3b067_0 : De bdJ2_getChar_3b067_0 0 (.getstatic 44) 3 ∧ De bdJ2_getChar_3b067_0 3 (.ifCond .ne 25) 3 ∧ De bdJ2_getChar_3b067_0 6 (.iload_n 1) 1 ∧ De bdJ2_getChar_3b067_0 7 (.ifCond .lt 11) 3 ∧ De bdJ2_getChar_3b067_0 10 (.iload_n 1) 1 ∧ De bdJ2_getChar_3b067_0 11 (.aload_n 0) 1 ∧ De bdJ2_getChar_3b067_0 12 (.invokestatic 48) 3 ∧ De bdJ2_getChar_3b067_0 15 (.if_icmp .lt 13) 3 ∧ De bdJ2_getChar_3b067_0 18 (.new 52) 3 ∧ De bdJ2_getChar_3b067_0 21 (.dup) 1 ∧ De bdJ2_getChar_3b067_0 22 (.ldc 54) 2 ∧ De bdJ2_getChar_3b067_0 24 (.invokespecial 56) 3 ∧ De bdJ2_getChar_3b067_0 27 (.athrow) 1 ∧ De bdJ2_getChar_3b067_0 28 (.iload_n 1) 1 ∧ De bdJ2_getChar_3b067_0 29 (.iconst 1) 1 ∧ De bdJ2_getChar_3b067_0 30 (.ishl) 1 := by decide +kernel
theorem dJ2_getChar_3b067_0 : decode cJ2_getChar_3b067 0 = .ok (.getstatic 44, 3) := dAt wdJ2_getChar_3b067_0 adJ2_getChar_3b067_0.1 rfl
theorem dJ2_getChar_3b067_3 : decode cJ2_getChar_3b067 3 = .ok (.ifCond .ne 25, 3) := dAt wdJ2_getChar_3b067_0 adJ2_getChar_3b067_0.2.1 rfl
theorem dJ2_getChar_3b067_6 : decode cJ2_getChar_3b067 6 = .ok (.iload_n 1, 1) := dAt wdJ2_getChar_3b067_0 adJ2_getChar_3b067_0.2.2.1 rfl
theorem dJ2_getChar_3b067_7 : decode cJ2_getChar_3b067 7 = .ok (.ifCond .lt 11, 3) := dAt wdJ2_getChar_3b067_0 adJ2_getChar_3b067_0.2.2.2.1 rfl
theorem dJ2_getChar_3b067_10 : decode cJ2_getChar_3b067 10 = .ok (.iload_n 1, 1) := dAt wdJ2_getChar_3b067_0 adJ2_getChar_3b067_0.2.2.2.2.1 rfl
theorem dJ2_getChar_3b067_11 : decode cJ2_getChar_3b067 11 = .ok (.aload_n 0, 1) := dAt wdJ2_getChar_3b067_0 adJ2_getChar_3b067_0.2.2.2.2.2.1 rfl
theorem dJ2_getChar_3b067_12 : decode cJ2_getChar_3b067 12 = .ok (.invokestatic 48, 3) := dAt wdJ2_getChar_3b067_0 adJ2_getChar_3b067_0.2.2.2.2.2.2.1 rfl
theorem dJ2_getChar_3b067_15 : decode cJ2_getChar_3b067 15 = .ok (.if_icmp .lt 13, 3) := dAt wdJ2_getChar_3b067_0 adJ2_getChar_3b067_0.2.2.2.2.2.2.2.1 rfl
theorem dJ2_getChar_3b067_18 : decode cJ2_getChar_3b067 18 = .ok (.new 52, 3) := dAt wdJ2_getChar_3b067_0 adJ2_getChar_3b067_0.2.2.2.2.2.2.2.2.1 rfl
theorem dJ2_getChar_3b067_21 : decode cJ2_getChar_3b067 21 = .ok (.dup, 1) := dAt wdJ2_getChar_3b067_0 adJ2_getChar_3b067_0.2.2.2.2.2.2.2.2.2.1 rfl
theorem dJ2_getChar_3b067_22 : decode cJ2_getChar_3b067 22 = .ok (.ldc 54, 2) := dAt wdJ2_getChar_3b067_0 adJ2_getChar_3b067_0.2.2.2.2.2.2.2.2.2.2.1 rfl
theorem dJ2_getChar_3b067_24 : decode cJ2_getChar_3b067 24 = .ok (.invokespecial 56, 3) := dAt wdJ2_getChar_3b067_0 adJ2_getChar_3b067_0.2.2.2.2.2.2.2.2.2.2.2.1 rfl
theorem dJ2_getChar_3b067_27 : decode cJ2_getChar_3b067 27 = .ok (.athrow, 1) := dAt wdJ2_getChar_3b067_0 adJ2_getChar_3b067_0.2.2.2.2.2.2.2.2.2.2.2.2.1 rfl
theorem dJ2_getChar_3b067_28 : decode cJ2_getChar_3b067 28 = .ok (.iload_n 1, 1) := dAt wdJ2_getChar_3b067_0 adJ2_getChar_3b067_0.2.2.2.2.2.2.2.2.2.2.2.2.2.1 rfl
theorem dJ2_getChar_3b067_29 : decode cJ2_getChar_3b067 29 = .ok (.iconst 1, 1) := dAt wdJ2_getChar_3b067_0 adJ2_getChar_3b067_0.2.2.2.2.2.2.2.2.2.2.2.2.2.2.1 rfl
theorem dJ2_getChar_3b067_30 : decode cJ2_getChar_3b067 30 = .ok (.ishl, 1) := dAt wdJ2_getChar_3b067_0 adJ2_getChar_3b067_0.2.2.2.2.2.2.2.2.2.2.2.2.2.2.2 rfl
def bdJ2_getChar_3b067_31 : ByteArray := .mk #[60, 42, 27, 132, 1, 1, 51, 17, 0, 255, 126, 178, 0, 59, 120, 42, 27, 51, 17, 0, 255, 126, 178, 0, 63, 120]
theorem wdJ2_getChar_3b067_31 : LocW cJ2_getChar_3b067 31 bdJ2_getChar_3b067_31 := loc_of (by decide +kernel)
theorem adJ2_getChar_3b067_31 : De bdJ2_getChar_3b067_31 0 (.istore_n 1) 1 ∧ De bdJ2_getChar_3b067_31 1 (.aload_n 0) 1 ∧ De bdJ2_getChar_3b067_31 2 (.iload_n 1) 1 ∧ De bdJ2_getChar_3b067_31 3 (.iinc 1 1) 3 ∧ De bdJ2_getChar_3b067_31 6 (.baload) 1 ∧ De bdJ2_getChar_3b067_31 7 (.sipush 255) 3 ∧ De bdJ2_getChar_3b067_31 10 (.iand) 1 ∧ De bdJ2_getChar_3b067_31 11 (.getstatic 59) 3 ∧ De bdJ2_getChar_3b067_31 14 (.ishl) 1 ∧ De bdJ2_getChar_3b067_31 15 (.aload_n 0) 1 ∧ De bdJ2_getChar_3b067_31 16 (.iload_n 1) 1 ∧ De bdJ2_getChar_3b067_31 17 (.baload) 1 ∧ De bdJ2_getChar_3b067_31 18 (.sipush 255) 3 ∧ De bdJ2_getChar_3b067_31 21 (.iand) 1 ∧ De bdJ2_getChar_3b067_31 22 (.getstatic 63) 3 ∧ De bdJ2_getChar_3b067_31 25 (.ishl) 1 := by decide +kernel
theorem dJ2_getChar_3b067_31 : decode cJ2_getChar_3b067 31 = .ok (.istore_n 1, 1) := dAt wdJ2_getChar_3b067_31 adJ2_getChar_3b067_31.1 rfl
theorem dJ2_getChar_3b067_32 : decode cJ2_getChar_3b067 32 = .ok (.aload_n 0, 1) := dAt wdJ2_getChar_3b067_31 adJ2_getChar_3b067_31.2.1 rfl
theorem dJ2_getChar_3b067_33 : decode cJ2_getChar_3b067 33 = .ok (.iload_n 1, 1) := dAt wdJ2_getChar_3b067_31 adJ2_getChar_3b067_31.2.2.1 rfl
theorem dJ2_getChar_3b067_34 : decode cJ2_getChar_3b067 34 = .ok (.iinc 1 1, 3) := dAt wdJ2_getChar_3b067_31 adJ2_getChar_3b067_31.2.2.2.1 rfl
theorem dJ2_getChar_3b067_37 : decode cJ2_getChar_3b067 37 = .ok (.baload, 1) := dAt wdJ2_getChar_3b067_31 adJ2_getChar_3b067_31.2.2.2.2.1 rfl
theorem dJ2_getChar_3b067_38 : decode cJ2_getChar_3b067 38 = .ok (.sipush 255, 3) := dAt wdJ2_getChar_3b067_31 adJ2_getChar_3b067_31.2.2.2.2.2.1 rfl
theorem dJ2_getChar_3b067_41 : decode cJ2_getChar_3b067 41 = .ok (.iand, 1) := dAt wdJ2_getChar_3b067_31 adJ2_getChar_3b067_31.2.2.2.2.2.2.1 rfl
theorem dJ2_getChar_3b067_42 : decode cJ2_getChar_3b067 42 = .ok (.getstatic 59, 3) := dAt wdJ2_getChar_3b067_31 adJ2_getChar_3b067_31.2.2.2.2.2.2.2.1 rfl
theorem dJ2_getChar_3b067_45 : decode cJ2_getChar_3b067 45 = .ok (.ishl, 1) := dAt wdJ2_getChar_3b067_31 adJ2_getChar_3b067_31.2.2.2.2.2.2.2.2.1 rfl
theorem dJ2_getChar_3b067_46 : decode cJ2_getChar_3b067 46 = .ok (.aload_n 0, 1) := dAt wdJ2_getChar_3b067_31 adJ2_getChar_3b067_31.2.2.2.2.2.2.2.2.2.1 rfl
theorem dJ2_getChar_3b067_47 : decode cJ2_getChar_3b067 47 = .ok (.iload_n 1, 1) := dAt wdJ2_getChar_3b067_31 adJ2_getChar_3b067_31.2.2.2.2.2.2.2.2.2.2.1 rfl
theorem dJ2_getChar_3b067_48 : decode cJ2_getChar_3b067 48 = .ok (.baload, 1) := dAt wdJ2_getChar_3b067_31 adJ2_getChar_3b067_31.2.2.2.2.2.2.2.2.2.2.2.1 rfl
theorem dJ2_getChar_3b067_49 : decode cJ2_getChar_3b067 49 = .ok (.sipush 255, 3) := dAt wdJ2_getChar_3b067_31 adJ2_getChar_3b067_31.2.2.2.2.2.2.2.2.2.2.2.2.1 rfl
theorem dJ2_getChar_3b067_52 : decode cJ2_getChar_3b067 52 = .ok (.iand, 1) := dAt wdJ2_getChar_3b067_31 adJ2_getChar_3b067_31.2.2.2.2.2.2.2.2.2.2.2.2.2.1 rfl
theorem dJ2_getChar_3b067_53 : decode cJ2_getChar_3b067 53 = .ok (.getstatic 63, 3) := dAt wdJ2_getChar_3b067_31 adJ2_getChar_3b067_31.2.2.2.2.2.2.2.2.2.2.2.2.2.2.1 rfl
theorem dJ2_getChar_3b067_56 : decode cJ2_getChar_3b067 56 = .ok (.ishl, 1) := dAt wdJ2_getChar_3b067_31 adJ2_getChar_3b067_31.2.2.2.2.2.2.2.2.2.2.2.2.2.2.2 rfl
def bdJ2_getChar_3b067_57 : ByteArray := .mk #[128, 146, 172]
theorem wdJ2_getChar_3b067_57 : LocW cJ2_getChar_3b067 57 bdJ2_getChar_3b067_57 := loc_of (by decide +kernel)
theorem adJ2_getChar_3b067_57 : De bdJ2_getChar_3b067_57 0 (.ior) 1 ∧ De bdJ2_getChar_3b067_57 1 (.i2c) 1 ∧ De bdJ2_getChar_3b067_57 2 (.ireturn) 1 := by decide +kernel
theorem dJ2_getChar_3b067_57 : decode cJ2_getChar_3b067 57 = .ok (.ior, 1) := dAt wdJ2_getChar_3b067_57 adJ2_getChar_3b067_57.1 rfl
theorem dJ2_getChar_3b067_58 : decode cJ2_getChar_3b067 58 = .ok (.i2c, 1) := dAt wdJ2_getChar_3b067_57 adJ2_getChar_3b067_57.2.1 rfl
theorem dJ2_getChar_3b067_59 : decode cJ2_getChar_3b067 59 = .ok (.ireturn, 1) := dAt wdJ2_getChar_3b067_57 adJ2_getChar_3b067_57.2.2 rfl
def bdJ2_length_9d52b_0 : ByteArray := .mk #[42, 190, 4, 122, 172]
theorem wdJ2_length_9d52b_0 : LocW cJ2_length_9d52b 0 bdJ2_length_9d52b_0 := loc_of (by decide +kernel)
theorem adJ2_length_9d52b_0 : De bdJ2_length_9d52b_0 0 (.aload_n 0) 1 ∧ De bdJ2_length_9d52b_0 1 (.arraylength) 1 ∧ De bdJ2_length_9d52b_0 2 (.iconst 1) 1 ∧ De bdJ2_length_9d52b_0 3 (.ishr) 1 ∧ De bdJ2_length_9d52b_0 4 (.ireturn) 1 := by decide +kernel
theorem dJ2_length_9d52b_0 : decode cJ2_length_9d52b 0 = .ok (.aload_n 0, 1) := dAt wdJ2_length_9d52b_0 adJ2_length_9d52b_0.1 rfl
theorem dJ2_length_9d52b_1 : decode cJ2_length_9d52b 1 = .ok (.arraylength, 1) := dAt wdJ2_length_9d52b_0 adJ2_length_9d52b_0.2.1 rfl
theorem dJ2_length_9d52b_2 : decode cJ2_length_9d52b 2 = .ok (.iconst 1, 1) := dAt wdJ2_length_9d52b_0 adJ2_length_9d52b_0.2.2.1 rfl
theorem dJ2_length_9d52b_3 : decode cJ2_length_9d52b 3 = .ok (.ishr, 1) := dAt wdJ2_length_9d52b_0 adJ2_length_9d52b_0.2.2.2.1 rfl
theorem dJ2_length_9d52b_4 : decode cJ2_length_9d52b 4 = .ok (.ireturn, 1) := dAt wdJ2_length_9d52b_0 adJ2_length_9d52b_0.2.2.2.2 rfl
def bdJ2_charAt_3b067_0 : ByteArray := .mk #[27, 42, 184, 0, 67, 42, 27, 184, 0, 71, 172]
theorem wdJ2_charAt_3b067_0 : LocW cJ2_charAt_3b067 0 bdJ2_charAt_3b067_0 := loc_of (by decide +kernel)
theorem adJ2_charAt_3b067_0 : De bdJ2_charAt_3b067_0 0 (.iload_n 1) 1 ∧ De bdJ2_charAt_3b067_0 1 (.aload_n 0) 1 ∧ De bdJ2_charAt_3b067_0 2 (.invokestatic 67) 3 ∧ De bdJ2_charAt_3b067_0 5 (.aload_n 0) 1 ∧ De bdJ2_charAt_3b067_0 6 (.iload_n 1) 1 ∧ De bdJ2_charAt_3b067_0 7 (.invokestatic 71) 3 ∧ De bdJ2_charAt_3b067_0 10 (.ireturn) 1 := by decide +kernel
theorem dJ2_charAt_3b067_0 : decode cJ2_charAt_3b067 0 = .ok (.iload_n 1, 1) := dAt wdJ2_charAt_3b067_0 adJ2_charAt_3b067_0.1 rfl
theorem dJ2_charAt_3b067_1 : decode cJ2_charAt_3b067 1 = .ok (.aload_n 0, 1) := dAt wdJ2_charAt_3b067_0 adJ2_charAt_3b067_0.2.1 rfl
theorem dJ2_charAt_3b067_2 : decode cJ2_charAt_3b067 2 = .ok (.invokestatic 67, 3) := dAt wdJ2_charAt_3b067_0 adJ2_charAt_3b067_0.2.2.1 rfl
theorem dJ2_charAt_3b067_5 : decode cJ2_charAt_3b067 5 = .ok (.aload_n 0, 1) := dAt wdJ2_charAt_3b067_0 adJ2_charAt_3b067_0.2.2.2.1 rfl
theorem dJ2_charAt_3b067_6 : decode cJ2_charAt_3b067 6 = .ok (.iload_n 1, 1) := dAt wdJ2_charAt_3b067_0 adJ2_charAt_3b067_0.2.2.2.2.1 rfl
theorem dJ2_charAt_3b067_7 : decode cJ2_charAt_3b067 7 = .ok (.invokestatic 71, 3) := dAt wdJ2_charAt_3b067_0 adJ2_charAt_3b067_0.2.2.2.2.2.1 rfl
theorem dJ2_charAt_3b067_10 : decode cJ2_charAt_3b067 10 = .ok (.ireturn, 1) := dAt wdJ2_charAt_3b067_0 adJ2_charAt_3b067_0.2.2.2.2.2.2 rfl
def bdJ2_checkIndex_2214a_0 : ByteArray := .mk #[26, 43, 184, 0, 48, 184, 1, 158, 177]
theorem wdJ2_checkIndex_2214a_0 : LocW cJ2_checkIndex_2214a 0 bdJ2_checkIndex_2214a_0 := loc_of (by decide +kernel)
theorem adJ2_checkIndex_2214a_0 : De bdJ2_checkIndex_2214a_0 0 (.iload_n 0) 1 ∧ De bdJ2_checkIndex_2214a_0 1 (.aload_n 1) 1 ∧ De bdJ2_checkIndex_2214a_0 2 (.invokestatic 48) 3 ∧ De bdJ2_checkIndex_2214a_0 5 (.invokestatic 414) 3 ∧ De bdJ2_checkIndex_2214a_0 8 (.return_) 1 := by decide +kernel
theorem dJ2_checkIndex_2214a_0 : decode cJ2_checkIndex_2214a 0 = .ok (.iload_n 0, 1) := dAt wdJ2_checkIndex_2214a_0 adJ2_checkIndex_2214a_0.1 rfl
theorem dJ2_checkIndex_2214a_1 : decode cJ2_checkIndex_2214a 1 = .ok (.aload_n 1, 1) := dAt wdJ2_checkIndex_2214a_0 adJ2_checkIndex_2214a_0.2.1 rfl
theorem dJ2_checkIndex_2214a_2 : decode cJ2_checkIndex_2214a 2 = .ok (.invokestatic 48, 3) := dAt wdJ2_checkIndex_2214a_0 adJ2_checkIndex_2214a_0.2.2.1 rfl
theorem dJ2_checkIndex_2214a_5 : decode cJ2_checkIndex_2214a 5 = .ok (.invokestatic 414, 3) := dAt wdJ2_checkIndex_2214a_0 adJ2_checkIndex_2214a_0.2.2.2.1 rfl
theorem dJ2_checkIndex_2214a_8 : decode cJ2_checkIndex_2214a 8 = .ok (.return_, 1) := dAt wdJ2_checkIndex_2214a_0 adJ2_checkIndex_2214a_0.2.2.2.2 rfl
def bdJ3_checkIndex_8e157_0 : ByteArray := .mk #[26, 155, 0, 8, 26, 27, 161, 0, 10, 44, 26, 27, 184, 0, 95, 191, 26, 172]
theorem wdJ3_checkIndex_8e157_0 : LocW cJ3_checkIndex_8e157 0 bdJ3_checkIndex_8e157_0 := loc_of (by decide +kernel)
theorem adJ3_checkIndex_8e157_0 : De bdJ3_checkIndex_8e157_0 0 (.iload_n 0) 1 ∧ De bdJ3_checkIndex_8e157_0 1 (.ifCond .lt 8) 3 ∧ De bdJ3_checkIndex_8e157_0 4 (.iload_n 0) 1 ∧ De bdJ3_checkIndex_8e157_0 5 (.iload_n 1) 1 ∧ De bdJ3_checkIndex_8e157_0 6 (.if_icmp .lt 10) 3 ∧ De bdJ3_checkIndex_8e157_0 9 (.aload_n 2) 1 ∧ De bdJ3_checkIndex_8e157_0 10 (.iload_n 0) 1 ∧ De bdJ3_checkIndex_8e157_0 11 (.iload_n 1) 1 ∧ De bdJ3_checkIndex_8e157_0 12 (.invokestatic 95) 3 ∧ De bdJ3_checkIndex_8e157_0 15 (.athrow) 1 ∧ De bdJ3_checkIndex_8e157_0 16 (.iload_n 0) 1 ∧ De bdJ3_checkIndex_8e157_0 17 (.ireturn) 1 := by decide +kernel
theorem dJ3_checkIndex_8e157_0 : decode cJ3_checkIndex_8e157 0 = .ok (.iload_n 0, 1) := dAt wdJ3_checkIndex_8e157_0 adJ3_checkIndex_8e157_0.1 rfl
theorem dJ3_checkIndex_8e157_1 : decode cJ3_checkIndex_8e157 1 = .ok (.ifCond .lt 8, 3) := dAt wdJ3_checkIndex_8e157_0 adJ3_checkIndex_8e157_0.2.1 rfl
theorem dJ3_checkIndex_8e157_4 : decode cJ3_checkIndex_8e157 4 = .ok (.iload_n 0, 1) := dAt wdJ3_checkIndex_8e157_0 adJ3_checkIndex_8e157_0.2.2.1 rfl
theorem dJ3_checkIndex_8e157_5 : decode cJ3_checkIndex_8e157 5 = .ok (.iload_n 1, 1) := dAt wdJ3_checkIndex_8e157_0 adJ3_checkIndex_8e157_0.2.2.2.1 rfl
theorem dJ3_checkIndex_8e157_6 : decode cJ3_checkIndex_8e157 6 = .ok (.if_icmp .lt 10, 3) := dAt wdJ3_checkIndex_8e157_0 adJ3_checkIndex_8e157_0.2.2.2.2.1 rfl
theorem dJ3_checkIndex_8e157_9 : decode cJ3_checkIndex_8e157 9 = .ok (.aload_n 2, 1) := dAt wdJ3_checkIndex_8e157_0 adJ3_checkIndex_8e157_0.2.2.2.2.2.1 rfl
theorem dJ3_checkIndex_8e157_10 : decode cJ3_checkIndex_8e157 10 = .ok (.iload_n 0, 1) := dAt wdJ3_checkIndex_8e157_0 adJ3_checkIndex_8e157_0.2.2.2.2.2.2.1 rfl
theorem dJ3_checkIndex_8e157_11 : decode cJ3_checkIndex_8e157 11 = .ok (.iload_n 1, 1) := dAt wdJ3_checkIndex_8e157_0 adJ3_checkIndex_8e157_0.2.2.2.2.2.2.2.1 rfl
theorem dJ3_checkIndex_8e157_12 : decode cJ3_checkIndex_8e157 12 = .ok (.invokestatic 95, 3) := dAt wdJ3_checkIndex_8e157_0 adJ3_checkIndex_8e157_0.2.2.2.2.2.2.2.2.1 rfl
theorem dJ3_checkIndex_8e157_15 : decode cJ3_checkIndex_8e157 15 = .ok (.athrow, 1) := dAt wdJ3_checkIndex_8e157_0 adJ3_checkIndex_8e157_0.2.2.2.2.2.2.2.2.2.1 rfl
theorem dJ3_checkIndex_8e157_16 : decode cJ3_checkIndex_8e157 16 = .ok (.iload_n 0, 1) := dAt wdJ3_checkIndex_8e157_0 adJ3_checkIndex_8e157_0.2.2.2.2.2.2.2.2.2.2.1 rfl
theorem dJ3_checkIndex_8e157_17 : decode cJ3_checkIndex_8e157 17 = .ok (.ireturn, 1) := dAt wdJ3_checkIndex_8e157_0 adJ3_checkIndex_8e157_0.2.2.2.2.2.2.2.2.2.2.2 rfl
def bdL_width_0 : ByteArray := .mk #[42, 27, 28, 29, 182, 0, 7, 167, 0, 11, 58, 4, 4, 172, 58, 4, 5, 172, 3, 172]
theorem wdL_width_0 : LocW cL_width 0 bdL_width_0 := loc_of (by decide +kernel)
theorem adL_width_0 : De bdL_width_0 0 (.aload_n 0) 1 ∧ De bdL_width_0 1 (.iload_n 1) 1 ∧ De bdL_width_0 2 (.iload_n 2) 1 ∧ De bdL_width_0 3 (.iload_n 3) 1 ∧ De bdL_width_0 4 (.invokevirtual 7) 3 ∧ De bdL_width_0 7 (.goto 11) 3 ∧ De bdL_width_0 10 (.astore 4) 2 ∧ De bdL_width_0 12 (.iconst 1) 1 ∧ De bdL_width_0 13 (.ireturn) 1 ∧ De bdL_width_0 14 (.astore 4) 2 ∧ De bdL_width_0 16 (.iconst 2) 1 ∧ De bdL_width_0 17 (.ireturn) 1 ∧ De bdL_width_0 18 (.iconst 0) 1 ∧ De bdL_width_0 19 (.ireturn) 1 := by decide +kernel
theorem dL_width_0 : decode cL_width 0 = .ok (.aload_n 0, 1) := dAt wdL_width_0 adL_width_0.1 rfl
theorem dL_width_1 : decode cL_width 1 = .ok (.iload_n 1, 1) := dAt wdL_width_0 adL_width_0.2.1 rfl
theorem dL_width_2 : decode cL_width 2 = .ok (.iload_n 2, 1) := dAt wdL_width_0 adL_width_0.2.2.1 rfl
theorem dL_width_3 : decode cL_width 3 = .ok (.iload_n 3, 1) := dAt wdL_width_0 adL_width_0.2.2.2.1 rfl
theorem dL_width_4 : decode cL_width 4 = .ok (.invokevirtual 7, 3) := dAt wdL_width_0 adL_width_0.2.2.2.2.1 rfl
theorem dL_width_7 : decode cL_width 7 = .ok (.goto 11, 3) := dAt wdL_width_0 adL_width_0.2.2.2.2.2.1 rfl
theorem dL_width_10 : decode cL_width 10 = .ok (.astore 4, 2) := dAt wdL_width_0 adL_width_0.2.2.2.2.2.2.1 rfl
theorem dL_width_12 : decode cL_width 12 = .ok (.iconst 1, 1) := dAt wdL_width_0 adL_width_0.2.2.2.2.2.2.2.1 rfl
theorem dL_width_13 : decode cL_width 13 = .ok (.ireturn, 1) := dAt wdL_width_0 adL_width_0.2.2.2.2.2.2.2.2.1 rfl
theorem dL_width_14 : decode cL_width 14 = .ok (.astore 4, 2) := dAt wdL_width_0 adL_width_0.2.2.2.2.2.2.2.2.2.1 rfl
theorem dL_width_16 : decode cL_width 16 = .ok (.iconst 2, 1) := dAt wdL_width_0 adL_width_0.2.2.2.2.2.2.2.2.2.2.1 rfl
theorem dL_width_17 : decode cL_width 17 = .ok (.ireturn, 1) := dAt wdL_width_0 adL_width_0.2.2.2.2.2.2.2.2.2.2.2.1 rfl
theorem dL_width_18 : decode cL_width 18 = .ok (.iconst 0, 1) := dAt wdL_width_0 adL_width_0.2.2.2.2.2.2.2.2.2.2.2.2.1 rfl
theorem dL_width_19 : decode cL_width 19 = .ok (.ireturn, 1) := dAt wdL_width_0 adL_width_0.2.2.2.2.2.2.2.2.2.2.2.2.2 rfl
def bdL_story_0 : ByteArray := .mk #[45, 3, 42, 27, 28, 182, 0, 17, 133, 80, 167, 0, 15, 58, 4, 4, 172, 58, 4, 5, 172, 58, 4]
theorem wdL_story_0 : LocW cL_story 0 bdL_story_0 := loc_of (by decide +kernel)
theorem adL_story_0 : De bdL_story_0 0 (.aload_n 3) 1 ∧ De bdL_story_0 1 (.iconst 0) 1 ∧ De bdL_story_0 2 (.aload_n 0) 1 ∧ De bdL_story_0 3 (.iload_n 1) 1 ∧ De bdL_story_0 4 (.iload_n 2) 1 ∧ De bdL_story_0 5 (.invokevirtual 17) 3 ∧ De bdL_story_0 8 (.i2l) 1 ∧ De bdL_story_0 9 (.lastore) 1 ∧ De bdL_story_0 10 (.goto 15) 3 ∧ De bdL_story_0 13 (.astore 4) 2 ∧ De bdL_story_0 15 (.iconst 1) 1 ∧ De bdL_story_0 16 (.ireturn) 1 ∧ De bdL_story_0 17 (.astore 4) 2 ∧ De bdL_story_0 19 (.iconst 2) 1 ∧ De bdL_story_0 20 (.ireturn) 1 ∧ De bdL_story_0 21 (.astore 4) 2 := by decide +kernel
theorem dL_story_0 : decode cL_story 0 = .ok (.aload_n 3, 1) := dAt wdL_story_0 adL_story_0.1 rfl
theorem dL_story_1 : decode cL_story 1 = .ok (.iconst 0, 1) := dAt wdL_story_0 adL_story_0.2.1 rfl
theorem dL_story_2 : decode cL_story 2 = .ok (.aload_n 0, 1) := dAt wdL_story_0 adL_story_0.2.2.1 rfl
theorem dL_story_3 : decode cL_story 3 = .ok (.iload_n 1, 1) := dAt wdL_story_0 adL_story_0.2.2.2.1 rfl
theorem dL_story_4 : decode cL_story 4 = .ok (.iload_n 2, 1) := dAt wdL_story_0 adL_story_0.2.2.2.2.1 rfl
theorem dL_story_5 : decode cL_story 5 = .ok (.invokevirtual 17, 3) := dAt wdL_story_0 adL_story_0.2.2.2.2.2.1 rfl
theorem dL_story_8 : decode cL_story 8 = .ok (.i2l, 1) := dAt wdL_story_0 adL_story_0.2.2.2.2.2.2.1 rfl
theorem dL_story_9 : decode cL_story 9 = .ok (.lastore, 1) := dAt wdL_story_0 adL_story_0.2.2.2.2.2.2.2.1 rfl
theorem dL_story_10 : decode cL_story 10 = .ok (.goto 15, 3) := dAt wdL_story_0 adL_story_0.2.2.2.2.2.2.2.2.1 rfl
theorem dL_story_13 : decode cL_story 13 = .ok (.astore 4, 2) := dAt wdL_story_0 adL_story_0.2.2.2.2.2.2.2.2.2.1 rfl
theorem dL_story_15 : decode cL_story 15 = .ok (.iconst 1, 1) := dAt wdL_story_0 adL_story_0.2.2.2.2.2.2.2.2.2.2.1 rfl
theorem dL_story_16 : decode cL_story 16 = .ok (.ireturn, 1) := dAt wdL_story_0 adL_story_0.2.2.2.2.2.2.2.2.2.2.2.1 rfl
theorem dL_story_17 : decode cL_story 17 = .ok (.astore 4, 2) := dAt wdL_story_0 adL_story_0.2.2.2.2.2.2.2.2.2.2.2.2.1 rfl
theorem dL_story_19 : decode cL_story 19 = .ok (.iconst 2, 1) := dAt wdL_story_0 adL_story_0.2.2.2.2.2.2.2.2.2.2.2.2.2.1 rfl
theorem dL_story_20 : decode cL_story 20 = .ok (.ireturn, 1) := dAt wdL_story_0 adL_story_0.2.2.2.2.2.2.2.2.2.2.2.2.2.2.1 rfl
theorem dL_story_21 : decode cL_story 21 = .ok (.astore 4, 2) := dAt wdL_story_0 adL_story_0.2.2.2.2.2.2.2.2.2.2.2.2.2.2.2 rfl
def bdL_story_23 : ByteArray := .mk #[6, 172, 3, 172]
theorem wdL_story_23 : LocW cL_story 23 bdL_story_23 := loc_of (by decide +kernel)
theorem adL_story_23 : De bdL_story_23 0 (.iconst 3) 1 ∧ De bdL_story_23 1 (.ireturn) 1 ∧ De bdL_story_23 2 (.iconst 0) 1 ∧ De bdL_story_23 3 (.ireturn) 1 := by decide +kernel
theorem dL_story_23 : decode cL_story 23 = .ok (.iconst 3, 1) := dAt wdL_story_23 adL_story_23.1 rfl
theorem dL_story_24 : decode cL_story 24 = .ok (.ireturn, 1) := dAt wdL_story_23 adL_story_23.2.1 rfl
theorem dL_story_25 : decode cL_story 25 = .ok (.iconst 0, 1) := dAt wdL_story_23 adL_story_23.2.2.1 rfl
theorem dL_story_26 : decode cL_story 26 = .ok (.ireturn, 1) := dAt wdL_story_23 adL_story_23.2.2.2 rfl
def bdL_style_0 : ByteArray := .mk #[44, 3, 42, 27, 182, 0, 23, 133, 80, 167, 0, 9, 78, 4, 172, 78, 5, 172, 3, 172]
theorem wdL_style_0 : LocW cL_style 0 bdL_style_0 := loc_of (by decide +kernel)
theorem adL_style_0 : De bdL_style_0 0 (.aload_n 2) 1 ∧ De bdL_style_0 1 (.iconst 0) 1 ∧ De bdL_style_0 2 (.aload_n 0) 1 ∧ De bdL_style_0 3 (.iload_n 1) 1 ∧ De bdL_style_0 4 (.invokevirtual 23) 3 ∧ De bdL_style_0 7 (.i2l) 1 ∧ De bdL_style_0 8 (.lastore) 1 ∧ De bdL_style_0 9 (.goto 9) 3 ∧ De bdL_style_0 12 (.astore_n 3) 1 ∧ De bdL_style_0 13 (.iconst 1) 1 ∧ De bdL_style_0 14 (.ireturn) 1 ∧ De bdL_style_0 15 (.astore_n 3) 1 ∧ De bdL_style_0 16 (.iconst 2) 1 ∧ De bdL_style_0 17 (.ireturn) 1 ∧ De bdL_style_0 18 (.iconst 0) 1 ∧ De bdL_style_0 19 (.ireturn) 1 := by decide +kernel
theorem dL_style_0 : decode cL_style 0 = .ok (.aload_n 2, 1) := dAt wdL_style_0 adL_style_0.1 rfl
theorem dL_style_1 : decode cL_style 1 = .ok (.iconst 0, 1) := dAt wdL_style_0 adL_style_0.2.1 rfl
theorem dL_style_2 : decode cL_style 2 = .ok (.aload_n 0, 1) := dAt wdL_style_0 adL_style_0.2.2.1 rfl
theorem dL_style_3 : decode cL_style 3 = .ok (.iload_n 1, 1) := dAt wdL_style_0 adL_style_0.2.2.2.1 rfl
theorem dL_style_4 : decode cL_style 4 = .ok (.invokevirtual 23, 3) := dAt wdL_style_0 adL_style_0.2.2.2.2.1 rfl
theorem dL_style_7 : decode cL_style 7 = .ok (.i2l, 1) := dAt wdL_style_0 adL_style_0.2.2.2.2.2.1 rfl
theorem dL_style_8 : decode cL_style 8 = .ok (.lastore, 1) := dAt wdL_style_0 adL_style_0.2.2.2.2.2.2.1 rfl
theorem dL_style_9 : decode cL_style 9 = .ok (.goto 9, 3) := dAt wdL_style_0 adL_style_0.2.2.2.2.2.2.2.1 rfl
theorem dL_style_12 : decode cL_style 12 = .ok (.astore_n 3, 1) := dAt wdL_style_0 adL_style_0.2.2.2.2.2.2.2.2.1 rfl
theorem dL_style_13 : decode cL_style 13 = .ok (.iconst 1, 1) := dAt wdL_style_0 adL_style_0.2.2.2.2.2.2.2.2.2.1 rfl
theorem dL_style_14 : decode cL_style 14 = .ok (.ireturn, 1) := dAt wdL_style_0 adL_style_0.2.2.2.2.2.2.2.2.2.2.1 rfl
theorem dL_style_15 : decode cL_style 15 = .ok (.astore_n 3, 1) := dAt wdL_style_0 adL_style_0.2.2.2.2.2.2.2.2.2.2.2.1 rfl
theorem dL_style_16 : decode cL_style 16 = .ok (.iconst 2, 1) := dAt wdL_style_0 adL_style_0.2.2.2.2.2.2.2.2.2.2.2.2.1 rfl
theorem dL_style_17 : decode cL_style 17 = .ok (.ireturn, 1) := dAt wdL_style_0 adL_style_0.2.2.2.2.2.2.2.2.2.2.2.2.2.1 rfl
theorem dL_style_18 : decode cL_style 18 = .ok (.iconst 0, 1) := dAt wdL_style_0 adL_style_0.2.2.2.2.2.2.2.2.2.2.2.2.2.2.1 rfl
theorem dL_style_19 : decode cL_style 19 = .ok (.ireturn, 1) := dAt wdL_style_0 adL_style_0.2.2.2.2.2.2.2.2.2.2.2.2.2.2.2 rfl
def bdL_part_0 : ByteArray := .mk #[45, 3, 42, 27, 28, 182, 0, 27, 133, 80, 167, 0, 11, 58, 4, 4, 172, 58, 4, 5, 172, 3]
theorem wdL_part_0 : LocW cL_part 0 bdL_part_0 := loc_of (by decide +kernel)
theorem adL_part_0 : De bdL_part_0 0 (.aload_n 3) 1 ∧ De bdL_part_0 1 (.iconst 0) 1 ∧ De bdL_part_0 2 (.aload_n 0) 1 ∧ De bdL_part_0 3 (.iload_n 1) 1 ∧ De bdL_part_0 4 (.iload_n 2) 1 ∧ De bdL_part_0 5 (.invokevirtual 27) 3 ∧ De bdL_part_0 8 (.i2l) 1 ∧ De bdL_part_0 9 (.lastore) 1 ∧ De bdL_part_0 10 (.goto 11) 3 ∧ De bdL_part_0 13 (.astore 4) 2 ∧ De bdL_part_0 15 (.iconst 1) 1 ∧ De bdL_part_0 16 (.ireturn) 1 ∧ De bdL_part_0 17 (.astore 4) 2 ∧ De bdL_part_0 19 (.iconst 2) 1 ∧ De bdL_part_0 20 (.ireturn) 1 ∧ De bdL_part_0 21 (.iconst 0) 1 := by decide +kernel
theorem dL_part_0 : decode cL_part 0 = .ok (.aload_n 3, 1) := dAt wdL_part_0 adL_part_0.1 rfl
theorem dL_part_1 : decode cL_part 1 = .ok (.iconst 0, 1) := dAt wdL_part_0 adL_part_0.2.1 rfl
theorem dL_part_2 : decode cL_part 2 = .ok (.aload_n 0, 1) := dAt wdL_part_0 adL_part_0.2.2.1 rfl
theorem dL_part_3 : decode cL_part 3 = .ok (.iload_n 1, 1) := dAt wdL_part_0 adL_part_0.2.2.2.1 rfl
theorem dL_part_4 : decode cL_part 4 = .ok (.iload_n 2, 1) := dAt wdL_part_0 adL_part_0.2.2.2.2.1 rfl
theorem dL_part_5 : decode cL_part 5 = .ok (.invokevirtual 27, 3) := dAt wdL_part_0 adL_part_0.2.2.2.2.2.1 rfl
theorem dL_part_8 : decode cL_part 8 = .ok (.i2l, 1) := dAt wdL_part_0 adL_part_0.2.2.2.2.2.2.1 rfl
theorem dL_part_9 : decode cL_part 9 = .ok (.lastore, 1) := dAt wdL_part_0 adL_part_0.2.2.2.2.2.2.2.1 rfl
theorem dL_part_10 : decode cL_part 10 = .ok (.goto 11, 3) := dAt wdL_part_0 adL_part_0.2.2.2.2.2.2.2.2.1 rfl
theorem dL_part_13 : decode cL_part 13 = .ok (.astore 4, 2) := dAt wdL_part_0 adL_part_0.2.2.2.2.2.2.2.2.2.1 rfl
theorem dL_part_15 : decode cL_part 15 = .ok (.iconst 1, 1) := dAt wdL_part_0 adL_part_0.2.2.2.2.2.2.2.2.2.2.1 rfl
theorem dL_part_16 : decode cL_part 16 = .ok (.ireturn, 1) := dAt wdL_part_0 adL_part_0.2.2.2.2.2.2.2.2.2.2.2.1 rfl
theorem dL_part_17 : decode cL_part 17 = .ok (.astore 4, 2) := dAt wdL_part_0 adL_part_0.2.2.2.2.2.2.2.2.2.2.2.2.1 rfl
theorem dL_part_19 : decode cL_part 19 = .ok (.iconst 2, 1) := dAt wdL_part_0 adL_part_0.2.2.2.2.2.2.2.2.2.2.2.2.2.1 rfl
theorem dL_part_20 : decode cL_part 20 = .ok (.ireturn, 1) := dAt wdL_part_0 adL_part_0.2.2.2.2.2.2.2.2.2.2.2.2.2.2.1 rfl
theorem dL_part_21 : decode cL_part 21 = .ok (.iconst 0, 1) := dAt wdL_part_0 adL_part_0.2.2.2.2.2.2.2.2.2.2.2.2.2.2.2 rfl
def bdL_part_22 : ByteArray := .mk #[172]
theorem wdL_part_22 : LocW cL_part 22 bdL_part_22 := loc_of (by decide +kernel)
theorem adL_part_22 : De bdL_part_22 0 (.ireturn) 1 := by decide +kernel
theorem dL_part_22 : decode cL_part 22 = .ok (.ireturn, 1) := dAt wdL_part_22 adL_part_22 rfl
def bdL_rule_0 : ByteArray := .mk #[25, 4, 3, 42, 27, 28, 29, 182, 0, 32, 133, 80, 167, 0, 15, 58, 5, 4, 172, 58, 5, 5, 172]
theorem wdL_rule_0 : LocW cL_rule 0 bdL_rule_0 := loc_of (by decide +kernel)
theorem adL_rule_0 : De bdL_rule_0 0 (.aload 4) 2 ∧ De bdL_rule_0 2 (.iconst 0) 1 ∧ De bdL_rule_0 3 (.aload_n 0) 1 ∧ De bdL_rule_0 4 (.iload_n 1) 1 ∧ De bdL_rule_0 5 (.iload_n 2) 1 ∧ De bdL_rule_0 6 (.iload_n 3) 1 ∧ De bdL_rule_0 7 (.invokevirtual 32) 3 ∧ De bdL_rule_0 10 (.i2l) 1 ∧ De bdL_rule_0 11 (.lastore) 1 ∧ De bdL_rule_0 12 (.goto 15) 3 ∧ De bdL_rule_0 15 (.astore 5) 2 ∧ De bdL_rule_0 17 (.iconst 1) 1 ∧ De bdL_rule_0 18 (.ireturn) 1 ∧ De bdL_rule_0 19 (.astore 5) 2 ∧ De bdL_rule_0 21 (.iconst 2) 1 ∧ De bdL_rule_0 22 (.ireturn) 1 := by decide +kernel
theorem dL_rule_0 : decode cL_rule 0 = .ok (.aload 4, 2) := dAt wdL_rule_0 adL_rule_0.1 rfl
theorem dL_rule_2 : decode cL_rule 2 = .ok (.iconst 0, 1) := dAt wdL_rule_0 adL_rule_0.2.1 rfl
theorem dL_rule_3 : decode cL_rule 3 = .ok (.aload_n 0, 1) := dAt wdL_rule_0 adL_rule_0.2.2.1 rfl
theorem dL_rule_4 : decode cL_rule 4 = .ok (.iload_n 1, 1) := dAt wdL_rule_0 adL_rule_0.2.2.2.1 rfl
theorem dL_rule_5 : decode cL_rule 5 = .ok (.iload_n 2, 1) := dAt wdL_rule_0 adL_rule_0.2.2.2.2.1 rfl
theorem dL_rule_6 : decode cL_rule 6 = .ok (.iload_n 3, 1) := dAt wdL_rule_0 adL_rule_0.2.2.2.2.2.1 rfl
theorem dL_rule_7 : decode cL_rule 7 = .ok (.invokevirtual 32, 3) := dAt wdL_rule_0 adL_rule_0.2.2.2.2.2.2.1 rfl
theorem dL_rule_10 : decode cL_rule 10 = .ok (.i2l, 1) := dAt wdL_rule_0 adL_rule_0.2.2.2.2.2.2.2.1 rfl
theorem dL_rule_11 : decode cL_rule 11 = .ok (.lastore, 1) := dAt wdL_rule_0 adL_rule_0.2.2.2.2.2.2.2.2.1 rfl
theorem dL_rule_12 : decode cL_rule 12 = .ok (.goto 15, 3) := dAt wdL_rule_0 adL_rule_0.2.2.2.2.2.2.2.2.2.1 rfl
theorem dL_rule_15 : decode cL_rule 15 = .ok (.astore 5, 2) := dAt wdL_rule_0 adL_rule_0.2.2.2.2.2.2.2.2.2.2.1 rfl
theorem dL_rule_17 : decode cL_rule 17 = .ok (.iconst 1, 1) := dAt wdL_rule_0 adL_rule_0.2.2.2.2.2.2.2.2.2.2.2.1 rfl
theorem dL_rule_18 : decode cL_rule 18 = .ok (.ireturn, 1) := dAt wdL_rule_0 adL_rule_0.2.2.2.2.2.2.2.2.2.2.2.2.1 rfl
theorem dL_rule_19 : decode cL_rule 19 = .ok (.astore 5, 2) := dAt wdL_rule_0 adL_rule_0.2.2.2.2.2.2.2.2.2.2.2.2.2.1 rfl
theorem dL_rule_21 : decode cL_rule 21 = .ok (.iconst 2, 1) := dAt wdL_rule_0 adL_rule_0.2.2.2.2.2.2.2.2.2.2.2.2.2.2.1 rfl
theorem dL_rule_22 : decode cL_rule 22 = .ok (.ireturn, 1) := dAt wdL_rule_0 adL_rule_0.2.2.2.2.2.2.2.2.2.2.2.2.2.2.2 rfl
def bdL_rule_23 : ByteArray := .mk #[58, 5, 6, 172, 3, 172]
theorem wdL_rule_23 : LocW cL_rule 23 bdL_rule_23 := loc_of (by decide +kernel)
theorem adL_rule_23 : De bdL_rule_23 0 (.astore 5) 2 ∧ De bdL_rule_23 2 (.iconst 3) 1 ∧ De bdL_rule_23 3 (.ireturn) 1 ∧ De bdL_rule_23 4 (.iconst 0) 1 ∧ De bdL_rule_23 5 (.ireturn) 1 := by decide +kernel
theorem dL_rule_23 : decode cL_rule 23 = .ok (.astore 5, 2) := dAt wdL_rule_23 adL_rule_23.1 rfl
theorem dL_rule_25 : decode cL_rule 25 = .ok (.iconst 3, 1) := dAt wdL_rule_23 adL_rule_23.2.1 rfl
theorem dL_rule_26 : decode cL_rule 26 = .ok (.ireturn, 1) := dAt wdL_rule_23 adL_rule_23.2.2.1 rfl
theorem dL_rule_27 : decode cL_rule 27 = .ok (.iconst 0, 1) := dAt wdL_rule_23 adL_rule_23.2.2.2.1 rfl
theorem dL_rule_28 : decode cL_rule 28 = .ok (.ireturn, 1) := dAt wdL_rule_23 adL_rule_23.2.2.2.2 rfl
def bdL_best_0 : ByteArray := .mk #[45, 3, 42, 27, 28, 182, 0, 36, 133, 80, 167, 0, 11, 58, 4, 4, 172, 58, 4, 5, 172, 3]
theorem wdL_best_0 : LocW cL_best 0 bdL_best_0 := loc_of (by decide +kernel)
theorem adL_best_0 : De bdL_best_0 0 (.aload_n 3) 1 ∧ De bdL_best_0 1 (.iconst 0) 1 ∧ De bdL_best_0 2 (.aload_n 0) 1 ∧ De bdL_best_0 3 (.iload_n 1) 1 ∧ De bdL_best_0 4 (.iload_n 2) 1 ∧ De bdL_best_0 5 (.invokevirtual 36) 3 ∧ De bdL_best_0 8 (.i2l) 1 ∧ De bdL_best_0 9 (.lastore) 1 ∧ De bdL_best_0 10 (.goto 11) 3 ∧ De bdL_best_0 13 (.astore 4) 2 ∧ De bdL_best_0 15 (.iconst 1) 1 ∧ De bdL_best_0 16 (.ireturn) 1 ∧ De bdL_best_0 17 (.astore 4) 2 ∧ De bdL_best_0 19 (.iconst 2) 1 ∧ De bdL_best_0 20 (.ireturn) 1 ∧ De bdL_best_0 21 (.iconst 0) 1 := by decide +kernel
theorem dL_best_0 : decode cL_best 0 = .ok (.aload_n 3, 1) := dAt wdL_best_0 adL_best_0.1 rfl
theorem dL_best_1 : decode cL_best 1 = .ok (.iconst 0, 1) := dAt wdL_best_0 adL_best_0.2.1 rfl
theorem dL_best_2 : decode cL_best 2 = .ok (.aload_n 0, 1) := dAt wdL_best_0 adL_best_0.2.2.1 rfl
theorem dL_best_3 : decode cL_best 3 = .ok (.iload_n 1, 1) := dAt wdL_best_0 adL_best_0.2.2.2.1 rfl
theorem dL_best_4 : decode cL_best 4 = .ok (.iload_n 2, 1) := dAt wdL_best_0 adL_best_0.2.2.2.2.1 rfl
theorem dL_best_5 : decode cL_best 5 = .ok (.invokevirtual 36, 3) := dAt wdL_best_0 adL_best_0.2.2.2.2.2.1 rfl
theorem dL_best_8 : decode cL_best 8 = .ok (.i2l, 1) := dAt wdL_best_0 adL_best_0.2.2.2.2.2.2.1 rfl
theorem dL_best_9 : decode cL_best 9 = .ok (.lastore, 1) := dAt wdL_best_0 adL_best_0.2.2.2.2.2.2.2.1 rfl
theorem dL_best_10 : decode cL_best 10 = .ok (.goto 11, 3) := dAt wdL_best_0 adL_best_0.2.2.2.2.2.2.2.2.1 rfl
theorem dL_best_13 : decode cL_best 13 = .ok (.astore 4, 2) := dAt wdL_best_0 adL_best_0.2.2.2.2.2.2.2.2.2.1 rfl
theorem dL_best_15 : decode cL_best 15 = .ok (.iconst 1, 1) := dAt wdL_best_0 adL_best_0.2.2.2.2.2.2.2.2.2.2.1 rfl
theorem dL_best_16 : decode cL_best 16 = .ok (.ireturn, 1) := dAt wdL_best_0 adL_best_0.2.2.2.2.2.2.2.2.2.2.2.1 rfl
theorem dL_best_17 : decode cL_best 17 = .ok (.astore 4, 2) := dAt wdL_best_0 adL_best_0.2.2.2.2.2.2.2.2.2.2.2.2.1 rfl
theorem dL_best_19 : decode cL_best 19 = .ok (.iconst 2, 1) := dAt wdL_best_0 adL_best_0.2.2.2.2.2.2.2.2.2.2.2.2.2.1 rfl
theorem dL_best_20 : decode cL_best 20 = .ok (.ireturn, 1) := dAt wdL_best_0 adL_best_0.2.2.2.2.2.2.2.2.2.2.2.2.2.2.1 rfl
theorem dL_best_21 : decode cL_best 21 = .ok (.iconst 0, 1) := dAt wdL_best_0 adL_best_0.2.2.2.2.2.2.2.2.2.2.2.2.2.2.2 rfl
def bdL_best_22 : ByteArray := .mk #[172]
theorem wdL_best_22 : LocW cL_best 22 bdL_best_22 := loc_of (by decide +kernel)
theorem adL_best_22 : De bdL_best_22 0 (.ireturn) 1 := by decide +kernel
theorem dL_best_22 : decode cL_best 22 = .ok (.ireturn, 1) := dAt wdL_best_22 adL_best_22 rfl
def bdL_ends_0 : ByteArray := .mk #[45, 3, 42, 27, 28, 182, 0, 39, 133, 80, 167, 0, 7, 58, 4, 4, 172, 3, 172]
theorem wdL_ends_0 : LocW cL_ends 0 bdL_ends_0 := loc_of (by decide +kernel)
theorem adL_ends_0 : De bdL_ends_0 0 (.aload_n 3) 1 ∧ De bdL_ends_0 1 (.iconst 0) 1 ∧ De bdL_ends_0 2 (.aload_n 0) 1 ∧ De bdL_ends_0 3 (.iload_n 1) 1 ∧ De bdL_ends_0 4 (.iload_n 2) 1 ∧ De bdL_ends_0 5 (.invokevirtual 39) 3 ∧ De bdL_ends_0 8 (.i2l) 1 ∧ De bdL_ends_0 9 (.lastore) 1 ∧ De bdL_ends_0 10 (.goto 7) 3 ∧ De bdL_ends_0 13 (.astore 4) 2 ∧ De bdL_ends_0 15 (.iconst 1) 1 ∧ De bdL_ends_0 16 (.ireturn) 1 ∧ De bdL_ends_0 17 (.iconst 0) 1 ∧ De bdL_ends_0 18 (.ireturn) 1 := by decide +kernel
theorem dL_ends_0 : decode cL_ends 0 = .ok (.aload_n 3, 1) := dAt wdL_ends_0 adL_ends_0.1 rfl
theorem dL_ends_1 : decode cL_ends 1 = .ok (.iconst 0, 1) := dAt wdL_ends_0 adL_ends_0.2.1 rfl
theorem dL_ends_2 : decode cL_ends 2 = .ok (.aload_n 0, 1) := dAt wdL_ends_0 adL_ends_0.2.2.1 rfl
theorem dL_ends_3 : decode cL_ends 3 = .ok (.iload_n 1, 1) := dAt wdL_ends_0 adL_ends_0.2.2.2.1 rfl
theorem dL_ends_4 : decode cL_ends 4 = .ok (.iload_n 2, 1) := dAt wdL_ends_0 adL_ends_0.2.2.2.2.1 rfl
theorem dL_ends_5 : decode cL_ends 5 = .ok (.invokevirtual 39, 3) := dAt wdL_ends_0 adL_ends_0.2.2.2.2.2.1 rfl
theorem dL_ends_8 : decode cL_ends 8 = .ok (.i2l, 1) := dAt wdL_ends_0 adL_ends_0.2.2.2.2.2.2.1 rfl
theorem dL_ends_9 : decode cL_ends 9 = .ok (.lastore, 1) := dAt wdL_ends_0 adL_ends_0.2.2.2.2.2.2.2.1 rfl
theorem dL_ends_10 : decode cL_ends 10 = .ok (.goto 7, 3) := dAt wdL_ends_0 adL_ends_0.2.2.2.2.2.2.2.2.1 rfl
theorem dL_ends_13 : decode cL_ends 13 = .ok (.astore 4, 2) := dAt wdL_ends_0 adL_ends_0.2.2.2.2.2.2.2.2.2.1 rfl
theorem dL_ends_15 : decode cL_ends 15 = .ok (.iconst 1, 1) := dAt wdL_ends_0 adL_ends_0.2.2.2.2.2.2.2.2.2.2.1 rfl
theorem dL_ends_16 : decode cL_ends 16 = .ok (.ireturn, 1) := dAt wdL_ends_0 adL_ends_0.2.2.2.2.2.2.2.2.2.2.2.1 rfl
theorem dL_ends_17 : decode cL_ends 17 = .ok (.iconst 0, 1) := dAt wdL_ends_0 adL_ends_0.2.2.2.2.2.2.2.2.2.2.2.2.1 rfl
theorem dL_ends_18 : decode cL_ends 18 = .ok (.ireturn, 1) := dAt wdL_ends_0 adL_ends_0.2.2.2.2.2.2.2.2.2.2.2.2.2 rfl
def bdL_hand_0 : ByteArray := .mk #[45, 3, 42, 27, 28, 182, 0, 42, 133, 80, 167, 0, 7, 58, 4, 4, 172, 3, 172]
theorem wdL_hand_0 : LocW cL_hand 0 bdL_hand_0 := loc_of (by decide +kernel)
theorem adL_hand_0 : De bdL_hand_0 0 (.aload_n 3) 1 ∧ De bdL_hand_0 1 (.iconst 0) 1 ∧ De bdL_hand_0 2 (.aload_n 0) 1 ∧ De bdL_hand_0 3 (.iload_n 1) 1 ∧ De bdL_hand_0 4 (.iload_n 2) 1 ∧ De bdL_hand_0 5 (.invokevirtual 42) 3 ∧ De bdL_hand_0 8 (.i2l) 1 ∧ De bdL_hand_0 9 (.lastore) 1 ∧ De bdL_hand_0 10 (.goto 7) 3 ∧ De bdL_hand_0 13 (.astore 4) 2 ∧ De bdL_hand_0 15 (.iconst 1) 1 ∧ De bdL_hand_0 16 (.ireturn) 1 ∧ De bdL_hand_0 17 (.iconst 0) 1 ∧ De bdL_hand_0 18 (.ireturn) 1 := by decide +kernel
theorem dL_hand_0 : decode cL_hand 0 = .ok (.aload_n 3, 1) := dAt wdL_hand_0 adL_hand_0.1 rfl
theorem dL_hand_1 : decode cL_hand 1 = .ok (.iconst 0, 1) := dAt wdL_hand_0 adL_hand_0.2.1 rfl
theorem dL_hand_2 : decode cL_hand 2 = .ok (.aload_n 0, 1) := dAt wdL_hand_0 adL_hand_0.2.2.1 rfl
theorem dL_hand_3 : decode cL_hand 3 = .ok (.iload_n 1, 1) := dAt wdL_hand_0 adL_hand_0.2.2.2.1 rfl
theorem dL_hand_4 : decode cL_hand 4 = .ok (.iload_n 2, 1) := dAt wdL_hand_0 adL_hand_0.2.2.2.2.1 rfl
theorem dL_hand_5 : decode cL_hand 5 = .ok (.invokevirtual 42, 3) := dAt wdL_hand_0 adL_hand_0.2.2.2.2.2.1 rfl
theorem dL_hand_8 : decode cL_hand 8 = .ok (.i2l, 1) := dAt wdL_hand_0 adL_hand_0.2.2.2.2.2.2.1 rfl
theorem dL_hand_9 : decode cL_hand 9 = .ok (.lastore, 1) := dAt wdL_hand_0 adL_hand_0.2.2.2.2.2.2.2.1 rfl
theorem dL_hand_10 : decode cL_hand 10 = .ok (.goto 7, 3) := dAt wdL_hand_0 adL_hand_0.2.2.2.2.2.2.2.2.1 rfl
theorem dL_hand_13 : decode cL_hand 13 = .ok (.astore 4, 2) := dAt wdL_hand_0 adL_hand_0.2.2.2.2.2.2.2.2.2.1 rfl
theorem dL_hand_15 : decode cL_hand 15 = .ok (.iconst 1, 1) := dAt wdL_hand_0 adL_hand_0.2.2.2.2.2.2.2.2.2.2.1 rfl
theorem dL_hand_16 : decode cL_hand 16 = .ok (.ireturn, 1) := dAt wdL_hand_0 adL_hand_0.2.2.2.2.2.2.2.2.2.2.2.1 rfl
theorem dL_hand_17 : decode cL_hand 17 = .ok (.iconst 0, 1) := dAt wdL_hand_0 adL_hand_0.2.2.2.2.2.2.2.2.2.2.2.2.1 rfl
theorem dL_hand_18 : decode cL_hand 18 = .ok (.ireturn, 1) := dAt wdL_hand_0 adL_hand_0.2.2.2.2.2.2.2.2.2.2.2.2.2 rfl
def bdL_machine_0 : ByteArray := .mk #[45, 3, 42, 27, 28, 182, 0, 46, 133, 80, 167, 0, 11, 58, 4, 4, 172, 58, 4, 5, 172, 3]
theorem wdL_machine_0 : LocW cL_machine 0 bdL_machine_0 := loc_of (by decide +kernel)
theorem adL_machine_0 : De bdL_machine_0 0 (.aload_n 3) 1 ∧ De bdL_machine_0 1 (.iconst 0) 1 ∧ De bdL_machine_0 2 (.aload_n 0) 1 ∧ De bdL_machine_0 3 (.iload_n 1) 1 ∧ De bdL_machine_0 4 (.iload_n 2) 1 ∧ De bdL_machine_0 5 (.invokevirtual 46) 3 ∧ De bdL_machine_0 8 (.i2l) 1 ∧ De bdL_machine_0 9 (.lastore) 1 ∧ De bdL_machine_0 10 (.goto 11) 3 ∧ De bdL_machine_0 13 (.astore 4) 2 ∧ De bdL_machine_0 15 (.iconst 1) 1 ∧ De bdL_machine_0 16 (.ireturn) 1 ∧ De bdL_machine_0 17 (.astore 4) 2 ∧ De bdL_machine_0 19 (.iconst 2) 1 ∧ De bdL_machine_0 20 (.ireturn) 1 ∧ De bdL_machine_0 21 (.iconst 0) 1 := by decide +kernel
theorem dL_machine_0 : decode cL_machine 0 = .ok (.aload_n 3, 1) := dAt wdL_machine_0 adL_machine_0.1 rfl
theorem dL_machine_1 : decode cL_machine 1 = .ok (.iconst 0, 1) := dAt wdL_machine_0 adL_machine_0.2.1 rfl
theorem dL_machine_2 : decode cL_machine 2 = .ok (.aload_n 0, 1) := dAt wdL_machine_0 adL_machine_0.2.2.1 rfl
theorem dL_machine_3 : decode cL_machine 3 = .ok (.iload_n 1, 1) := dAt wdL_machine_0 adL_machine_0.2.2.2.1 rfl
theorem dL_machine_4 : decode cL_machine 4 = .ok (.iload_n 2, 1) := dAt wdL_machine_0 adL_machine_0.2.2.2.2.1 rfl
theorem dL_machine_5 : decode cL_machine 5 = .ok (.invokevirtual 46, 3) := dAt wdL_machine_0 adL_machine_0.2.2.2.2.2.1 rfl
theorem dL_machine_8 : decode cL_machine 8 = .ok (.i2l, 1) := dAt wdL_machine_0 adL_machine_0.2.2.2.2.2.2.1 rfl
theorem dL_machine_9 : decode cL_machine 9 = .ok (.lastore, 1) := dAt wdL_machine_0 adL_machine_0.2.2.2.2.2.2.2.1 rfl
theorem dL_machine_10 : decode cL_machine 10 = .ok (.goto 11, 3) := dAt wdL_machine_0 adL_machine_0.2.2.2.2.2.2.2.2.1 rfl
theorem dL_machine_13 : decode cL_machine 13 = .ok (.astore 4, 2) := dAt wdL_machine_0 adL_machine_0.2.2.2.2.2.2.2.2.2.1 rfl
theorem dL_machine_15 : decode cL_machine 15 = .ok (.iconst 1, 1) := dAt wdL_machine_0 adL_machine_0.2.2.2.2.2.2.2.2.2.2.1 rfl
theorem dL_machine_16 : decode cL_machine 16 = .ok (.ireturn, 1) := dAt wdL_machine_0 adL_machine_0.2.2.2.2.2.2.2.2.2.2.2.1 rfl
theorem dL_machine_17 : decode cL_machine 17 = .ok (.astore 4, 2) := dAt wdL_machine_0 adL_machine_0.2.2.2.2.2.2.2.2.2.2.2.2.1 rfl
theorem dL_machine_19 : decode cL_machine 19 = .ok (.iconst 2, 1) := dAt wdL_machine_0 adL_machine_0.2.2.2.2.2.2.2.2.2.2.2.2.2.1 rfl
theorem dL_machine_20 : decode cL_machine 20 = .ok (.ireturn, 1) := dAt wdL_machine_0 adL_machine_0.2.2.2.2.2.2.2.2.2.2.2.2.2.2.1 rfl
theorem dL_machine_21 : decode cL_machine 21 = .ok (.iconst 0, 1) := dAt wdL_machine_0 adL_machine_0.2.2.2.2.2.2.2.2.2.2.2.2.2.2.2 rfl
def bdL_machine_22 : ByteArray := .mk #[172]
theorem wdL_machine_22 : LocW cL_machine 22 bdL_machine_22 := loc_of (by decide +kernel)
theorem adL_machine_22 : De bdL_machine_22 0 (.ireturn) 1 := by decide +kernel
theorem dL_machine_22 : decode cL_machine 22 = .ok (.ireturn, 1) := dAt wdL_machine_22 adL_machine_22 rfl
def bdL_brass_0 : ByteArray := .mk #[25, 4, 3, 42, 27, 28, 29, 182, 0, 49, 133, 80, 167, 0, 11, 58, 5, 4, 172, 58, 5, 5, 172]
theorem wdL_brass_0 : LocW cL_brass 0 bdL_brass_0 := loc_of (by decide +kernel)
theorem adL_brass_0 : De bdL_brass_0 0 (.aload 4) 2 ∧ De bdL_brass_0 2 (.iconst 0) 1 ∧ De bdL_brass_0 3 (.aload_n 0) 1 ∧ De bdL_brass_0 4 (.iload_n 1) 1 ∧ De bdL_brass_0 5 (.iload_n 2) 1 ∧ De bdL_brass_0 6 (.iload_n 3) 1 ∧ De bdL_brass_0 7 (.invokevirtual 49) 3 ∧ De bdL_brass_0 10 (.i2l) 1 ∧ De bdL_brass_0 11 (.lastore) 1 ∧ De bdL_brass_0 12 (.goto 11) 3 ∧ De bdL_brass_0 15 (.astore 5) 2 ∧ De bdL_brass_0 17 (.iconst 1) 1 ∧ De bdL_brass_0 18 (.ireturn) 1 ∧ De bdL_brass_0 19 (.astore 5) 2 ∧ De bdL_brass_0 21 (.iconst 2) 1 ∧ De bdL_brass_0 22 (.ireturn) 1 := by decide +kernel
theorem dL_brass_0 : decode cL_brass 0 = .ok (.aload 4, 2) := dAt wdL_brass_0 adL_brass_0.1 rfl
theorem dL_brass_2 : decode cL_brass 2 = .ok (.iconst 0, 1) := dAt wdL_brass_0 adL_brass_0.2.1 rfl
theorem dL_brass_3 : decode cL_brass 3 = .ok (.aload_n 0, 1) := dAt wdL_brass_0 adL_brass_0.2.2.1 rfl
theorem dL_brass_4 : decode cL_brass 4 = .ok (.iload_n 1, 1) := dAt wdL_brass_0 adL_brass_0.2.2.2.1 rfl
theorem dL_brass_5 : decode cL_brass 5 = .ok (.iload_n 2, 1) := dAt wdL_brass_0 adL_brass_0.2.2.2.2.1 rfl
theorem dL_brass_6 : decode cL_brass 6 = .ok (.iload_n 3, 1) := dAt wdL_brass_0 adL_brass_0.2.2.2.2.2.1 rfl
theorem dL_brass_7 : decode cL_brass 7 = .ok (.invokevirtual 49, 3) := dAt wdL_brass_0 adL_brass_0.2.2.2.2.2.2.1 rfl
theorem dL_brass_10 : decode cL_brass 10 = .ok (.i2l, 1) := dAt wdL_brass_0 adL_brass_0.2.2.2.2.2.2.2.1 rfl
theorem dL_brass_11 : decode cL_brass 11 = .ok (.lastore, 1) := dAt wdL_brass_0 adL_brass_0.2.2.2.2.2.2.2.2.1 rfl
theorem dL_brass_12 : decode cL_brass 12 = .ok (.goto 11, 3) := dAt wdL_brass_0 adL_brass_0.2.2.2.2.2.2.2.2.2.1 rfl
theorem dL_brass_15 : decode cL_brass 15 = .ok (.astore 5, 2) := dAt wdL_brass_0 adL_brass_0.2.2.2.2.2.2.2.2.2.2.1 rfl
theorem dL_brass_17 : decode cL_brass 17 = .ok (.iconst 1, 1) := dAt wdL_brass_0 adL_brass_0.2.2.2.2.2.2.2.2.2.2.2.1 rfl
theorem dL_brass_18 : decode cL_brass 18 = .ok (.ireturn, 1) := dAt wdL_brass_0 adL_brass_0.2.2.2.2.2.2.2.2.2.2.2.2.1 rfl
theorem dL_brass_19 : decode cL_brass 19 = .ok (.astore 5, 2) := dAt wdL_brass_0 adL_brass_0.2.2.2.2.2.2.2.2.2.2.2.2.2.1 rfl
theorem dL_brass_21 : decode cL_brass 21 = .ok (.iconst 2, 1) := dAt wdL_brass_0 adL_brass_0.2.2.2.2.2.2.2.2.2.2.2.2.2.2.1 rfl
theorem dL_brass_22 : decode cL_brass 22 = .ok (.ireturn, 1) := dAt wdL_brass_0 adL_brass_0.2.2.2.2.2.2.2.2.2.2.2.2.2.2.2 rfl
def bdL_brass_23 : ByteArray := .mk #[3, 172]
theorem wdL_brass_23 : LocW cL_brass 23 bdL_brass_23 := loc_of (by decide +kernel)
theorem adL_brass_23 : De bdL_brass_23 0 (.iconst 0) 1 ∧ De bdL_brass_23 1 (.ireturn) 1 := by decide +kernel
theorem dL_brass_23 : decode cL_brass 23 = .ok (.iconst 0, 1) := dAt wdL_brass_23 adL_brass_23.1 rfl
theorem dL_brass_24 : decode cL_brass 24 = .ok (.ireturn, 1) := dAt wdL_brass_23 adL_brass_23.2 rfl
def bdL_broken_0 : ByteArray := .mk #[45, 3, 42, 27, 28, 182, 0, 52, 153, 0, 7, 10, 167, 0, 4, 9, 80, 167, 0, 7, 58, 4, 4, 172, 3]
theorem wdL_broken_0 : LocW cL_broken 0 bdL_broken_0 := loc_of (by decide +kernel)
theorem adL_broken_0 : De bdL_broken_0 0 (.aload_n 3) 1 ∧ De bdL_broken_0 1 (.iconst 0) 1 ∧ De bdL_broken_0 2 (.aload_n 0) 1 ∧ De bdL_broken_0 3 (.iload_n 1) 1 ∧ De bdL_broken_0 4 (.iload_n 2) 1 ∧ De bdL_broken_0 5 (.invokevirtual 52) 3 ∧ De bdL_broken_0 8 (.ifCond .eq 7) 3 ∧ De bdL_broken_0 11 (.lconst 1) 1 ∧ De bdL_broken_0 12 (.goto 4) 3 ∧ De bdL_broken_0 15 (.lconst 0) 1 ∧ De bdL_broken_0 16 (.lastore) 1 ∧ De bdL_broken_0 17 (.goto 7) 3 ∧ De bdL_broken_0 20 (.astore 4) 2 ∧ De bdL_broken_0 22 (.iconst 1) 1 ∧ De bdL_broken_0 23 (.ireturn) 1 ∧ De bdL_broken_0 24 (.iconst 0) 1 := by decide +kernel
theorem dL_broken_0 : decode cL_broken 0 = .ok (.aload_n 3, 1) := dAt wdL_broken_0 adL_broken_0.1 rfl
theorem dL_broken_1 : decode cL_broken 1 = .ok (.iconst 0, 1) := dAt wdL_broken_0 adL_broken_0.2.1 rfl
theorem dL_broken_2 : decode cL_broken 2 = .ok (.aload_n 0, 1) := dAt wdL_broken_0 adL_broken_0.2.2.1 rfl
theorem dL_broken_3 : decode cL_broken 3 = .ok (.iload_n 1, 1) := dAt wdL_broken_0 adL_broken_0.2.2.2.1 rfl
theorem dL_broken_4 : decode cL_broken 4 = .ok (.iload_n 2, 1) := dAt wdL_broken_0 adL_broken_0.2.2.2.2.1 rfl
theorem dL_broken_5 : decode cL_broken 5 = .ok (.invokevirtual 52, 3) := dAt wdL_broken_0 adL_broken_0.2.2.2.2.2.1 rfl
theorem dL_broken_8 : decode cL_broken 8 = .ok (.ifCond .eq 7, 3) := dAt wdL_broken_0 adL_broken_0.2.2.2.2.2.2.1 rfl
theorem dL_broken_11 : decode cL_broken 11 = .ok (.lconst 1, 1) := dAt wdL_broken_0 adL_broken_0.2.2.2.2.2.2.2.1 rfl
theorem dL_broken_12 : decode cL_broken 12 = .ok (.goto 4, 3) := dAt wdL_broken_0 adL_broken_0.2.2.2.2.2.2.2.2.1 rfl
theorem dL_broken_15 : decode cL_broken 15 = .ok (.lconst 0, 1) := dAt wdL_broken_0 adL_broken_0.2.2.2.2.2.2.2.2.2.1 rfl
theorem dL_broken_16 : decode cL_broken 16 = .ok (.lastore, 1) := dAt wdL_broken_0 adL_broken_0.2.2.2.2.2.2.2.2.2.2.1 rfl
theorem dL_broken_17 : decode cL_broken 17 = .ok (.goto 7, 3) := dAt wdL_broken_0 adL_broken_0.2.2.2.2.2.2.2.2.2.2.2.1 rfl
theorem dL_broken_20 : decode cL_broken 20 = .ok (.astore 4, 2) := dAt wdL_broken_0 adL_broken_0.2.2.2.2.2.2.2.2.2.2.2.2.1 rfl
theorem dL_broken_22 : decode cL_broken 22 = .ok (.iconst 1, 1) := dAt wdL_broken_0 adL_broken_0.2.2.2.2.2.2.2.2.2.2.2.2.2.1 rfl
theorem dL_broken_23 : decode cL_broken 23 = .ok (.ireturn, 1) := dAt wdL_broken_0 adL_broken_0.2.2.2.2.2.2.2.2.2.2.2.2.2.2.1 rfl
theorem dL_broken_24 : decode cL_broken 24 = .ok (.iconst 0, 1) := dAt wdL_broken_0 adL_broken_0.2.2.2.2.2.2.2.2.2.2.2.2.2.2.2 rfl
def bdL_broken_25 : ByteArray := .mk #[172]
theorem wdL_broken_25 : LocW cL_broken 25 bdL_broken_25 := loc_of (by decide +kernel)
theorem adL_broken_25 : De bdL_broken_25 0 (.ireturn) 1 := by decide +kernel
theorem dL_broken_25 : decode cL_broken 25 = .ok (.ireturn, 1) := dAt wdL_broken_25 adL_broken_25 rfl
def bdL_give_0 : ByteArray := .mk #[45, 3, 42, 27, 28, 182, 0, 56, 133, 80, 167, 0, 11, 58, 4, 4, 172, 58, 4, 5, 172, 3]
theorem wdL_give_0 : LocW cL_give 0 bdL_give_0 := loc_of (by decide +kernel)
theorem adL_give_0 : De bdL_give_0 0 (.aload_n 3) 1 ∧ De bdL_give_0 1 (.iconst 0) 1 ∧ De bdL_give_0 2 (.aload_n 0) 1 ∧ De bdL_give_0 3 (.iload_n 1) 1 ∧ De bdL_give_0 4 (.iload_n 2) 1 ∧ De bdL_give_0 5 (.invokevirtual 56) 3 ∧ De bdL_give_0 8 (.i2l) 1 ∧ De bdL_give_0 9 (.lastore) 1 ∧ De bdL_give_0 10 (.goto 11) 3 ∧ De bdL_give_0 13 (.astore 4) 2 ∧ De bdL_give_0 15 (.iconst 1) 1 ∧ De bdL_give_0 16 (.ireturn) 1 ∧ De bdL_give_0 17 (.astore 4) 2 ∧ De bdL_give_0 19 (.iconst 2) 1 ∧ De bdL_give_0 20 (.ireturn) 1 ∧ De bdL_give_0 21 (.iconst 0) 1 := by decide +kernel
theorem dL_give_0 : decode cL_give 0 = .ok (.aload_n 3, 1) := dAt wdL_give_0 adL_give_0.1 rfl
theorem dL_give_1 : decode cL_give 1 = .ok (.iconst 0, 1) := dAt wdL_give_0 adL_give_0.2.1 rfl
theorem dL_give_2 : decode cL_give 2 = .ok (.aload_n 0, 1) := dAt wdL_give_0 adL_give_0.2.2.1 rfl
theorem dL_give_3 : decode cL_give 3 = .ok (.iload_n 1, 1) := dAt wdL_give_0 adL_give_0.2.2.2.1 rfl
theorem dL_give_4 : decode cL_give 4 = .ok (.iload_n 2, 1) := dAt wdL_give_0 adL_give_0.2.2.2.2.1 rfl
theorem dL_give_5 : decode cL_give 5 = .ok (.invokevirtual 56, 3) := dAt wdL_give_0 adL_give_0.2.2.2.2.2.1 rfl
theorem dL_give_8 : decode cL_give 8 = .ok (.i2l, 1) := dAt wdL_give_0 adL_give_0.2.2.2.2.2.2.1 rfl
theorem dL_give_9 : decode cL_give 9 = .ok (.lastore, 1) := dAt wdL_give_0 adL_give_0.2.2.2.2.2.2.2.1 rfl
theorem dL_give_10 : decode cL_give 10 = .ok (.goto 11, 3) := dAt wdL_give_0 adL_give_0.2.2.2.2.2.2.2.2.1 rfl
theorem dL_give_13 : decode cL_give 13 = .ok (.astore 4, 2) := dAt wdL_give_0 adL_give_0.2.2.2.2.2.2.2.2.2.1 rfl
theorem dL_give_15 : decode cL_give 15 = .ok (.iconst 1, 1) := dAt wdL_give_0 adL_give_0.2.2.2.2.2.2.2.2.2.2.1 rfl
theorem dL_give_16 : decode cL_give 16 = .ok (.ireturn, 1) := dAt wdL_give_0 adL_give_0.2.2.2.2.2.2.2.2.2.2.2.1 rfl
theorem dL_give_17 : decode cL_give 17 = .ok (.astore 4, 2) := dAt wdL_give_0 adL_give_0.2.2.2.2.2.2.2.2.2.2.2.2.1 rfl
theorem dL_give_19 : decode cL_give 19 = .ok (.iconst 2, 1) := dAt wdL_give_0 adL_give_0.2.2.2.2.2.2.2.2.2.2.2.2.2.1 rfl
theorem dL_give_20 : decode cL_give 20 = .ok (.ireturn, 1) := dAt wdL_give_0 adL_give_0.2.2.2.2.2.2.2.2.2.2.2.2.2.2.1 rfl
theorem dL_give_21 : decode cL_give 21 = .ok (.iconst 0, 1) := dAt wdL_give_0 adL_give_0.2.2.2.2.2.2.2.2.2.2.2.2.2.2.2 rfl
def bdL_give_22 : ByteArray := .mk #[172]
theorem wdL_give_22 : LocW cL_give 22 bdL_give_22 := loc_of (by decide +kernel)
theorem adL_give_22 : De bdL_give_22 0 (.ireturn) 1 := by decide +kernel
theorem dL_give_22 : decode cL_give 22 = .ok (.ireturn, 1) := dAt wdL_give_22 adL_give_22 rfl
def bdL_minutes_0 : ByteArray := .mk #[44, 3, 42, 27, 182, 0, 59, 133, 80, 167, 0, 6, 78, 4, 172, 3, 172]
theorem wdL_minutes_0 : LocW cL_minutes 0 bdL_minutes_0 := loc_of (by decide +kernel)
theorem adL_minutes_0 : De bdL_minutes_0 0 (.aload_n 2) 1 ∧ De bdL_minutes_0 1 (.iconst 0) 1 ∧ De bdL_minutes_0 2 (.aload_n 0) 1 ∧ De bdL_minutes_0 3 (.iload_n 1) 1 ∧ De bdL_minutes_0 4 (.invokevirtual 59) 3 ∧ De bdL_minutes_0 7 (.i2l) 1 ∧ De bdL_minutes_0 8 (.lastore) 1 ∧ De bdL_minutes_0 9 (.goto 6) 3 ∧ De bdL_minutes_0 12 (.astore_n 3) 1 ∧ De bdL_minutes_0 13 (.iconst 1) 1 ∧ De bdL_minutes_0 14 (.ireturn) 1 ∧ De bdL_minutes_0 15 (.iconst 0) 1 ∧ De bdL_minutes_0 16 (.ireturn) 1 := by decide +kernel
theorem dL_minutes_0 : decode cL_minutes 0 = .ok (.aload_n 2, 1) := dAt wdL_minutes_0 adL_minutes_0.1 rfl
theorem dL_minutes_1 : decode cL_minutes 1 = .ok (.iconst 0, 1) := dAt wdL_minutes_0 adL_minutes_0.2.1 rfl
theorem dL_minutes_2 : decode cL_minutes 2 = .ok (.aload_n 0, 1) := dAt wdL_minutes_0 adL_minutes_0.2.2.1 rfl
theorem dL_minutes_3 : decode cL_minutes 3 = .ok (.iload_n 1, 1) := dAt wdL_minutes_0 adL_minutes_0.2.2.2.1 rfl
theorem dL_minutes_4 : decode cL_minutes 4 = .ok (.invokevirtual 59, 3) := dAt wdL_minutes_0 adL_minutes_0.2.2.2.2.1 rfl
theorem dL_minutes_7 : decode cL_minutes 7 = .ok (.i2l, 1) := dAt wdL_minutes_0 adL_minutes_0.2.2.2.2.2.1 rfl
theorem dL_minutes_8 : decode cL_minutes 8 = .ok (.lastore, 1) := dAt wdL_minutes_0 adL_minutes_0.2.2.2.2.2.2.1 rfl
theorem dL_minutes_9 : decode cL_minutes 9 = .ok (.goto 6, 3) := dAt wdL_minutes_0 adL_minutes_0.2.2.2.2.2.2.2.1 rfl
theorem dL_minutes_12 : decode cL_minutes 12 = .ok (.astore_n 3, 1) := dAt wdL_minutes_0 adL_minutes_0.2.2.2.2.2.2.2.2.1 rfl
theorem dL_minutes_13 : decode cL_minutes 13 = .ok (.iconst 1, 1) := dAt wdL_minutes_0 adL_minutes_0.2.2.2.2.2.2.2.2.2.1 rfl
theorem dL_minutes_14 : decode cL_minutes 14 = .ok (.ireturn, 1) := dAt wdL_minutes_0 adL_minutes_0.2.2.2.2.2.2.2.2.2.2.1 rfl
theorem dL_minutes_15 : decode cL_minutes 15 = .ok (.iconst 0, 1) := dAt wdL_minutes_0 adL_minutes_0.2.2.2.2.2.2.2.2.2.2.2.1 rfl
theorem dL_minutes_16 : decode cL_minutes 16 = .ok (.ireturn, 1) := dAt wdL_minutes_0 adL_minutes_0.2.2.2.2.2.2.2.2.2.2.2.2 rfl
def bdL_runs_0 : ByteArray := .mk #[45, 3, 42, 27, 28, 182, 0, 62, 133, 80, 167, 0, 11, 58, 4, 4, 172, 58, 4, 5, 172, 3]
theorem wdL_runs_0 : LocW cL_runs 0 bdL_runs_0 := loc_of (by decide +kernel)
theorem adL_runs_0 : De bdL_runs_0 0 (.aload_n 3) 1 ∧ De bdL_runs_0 1 (.iconst 0) 1 ∧ De bdL_runs_0 2 (.aload_n 0) 1 ∧ De bdL_runs_0 3 (.iload_n 1) 1 ∧ De bdL_runs_0 4 (.iload_n 2) 1 ∧ De bdL_runs_0 5 (.invokevirtual 62) 3 ∧ De bdL_runs_0 8 (.i2l) 1 ∧ De bdL_runs_0 9 (.lastore) 1 ∧ De bdL_runs_0 10 (.goto 11) 3 ∧ De bdL_runs_0 13 (.astore 4) 2 ∧ De bdL_runs_0 15 (.iconst 1) 1 ∧ De bdL_runs_0 16 (.ireturn) 1 ∧ De bdL_runs_0 17 (.astore 4) 2 ∧ De bdL_runs_0 19 (.iconst 2) 1 ∧ De bdL_runs_0 20 (.ireturn) 1 ∧ De bdL_runs_0 21 (.iconst 0) 1 := by decide +kernel
theorem dL_runs_0 : decode cL_runs 0 = .ok (.aload_n 3, 1) := dAt wdL_runs_0 adL_runs_0.1 rfl
theorem dL_runs_1 : decode cL_runs 1 = .ok (.iconst 0, 1) := dAt wdL_runs_0 adL_runs_0.2.1 rfl
theorem dL_runs_2 : decode cL_runs 2 = .ok (.aload_n 0, 1) := dAt wdL_runs_0 adL_runs_0.2.2.1 rfl
theorem dL_runs_3 : decode cL_runs 3 = .ok (.iload_n 1, 1) := dAt wdL_runs_0 adL_runs_0.2.2.2.1 rfl
theorem dL_runs_4 : decode cL_runs 4 = .ok (.iload_n 2, 1) := dAt wdL_runs_0 adL_runs_0.2.2.2.2.1 rfl
theorem dL_runs_5 : decode cL_runs 5 = .ok (.invokevirtual 62, 3) := dAt wdL_runs_0 adL_runs_0.2.2.2.2.2.1 rfl
theorem dL_runs_8 : decode cL_runs 8 = .ok (.i2l, 1) := dAt wdL_runs_0 adL_runs_0.2.2.2.2.2.2.1 rfl
theorem dL_runs_9 : decode cL_runs 9 = .ok (.lastore, 1) := dAt wdL_runs_0 adL_runs_0.2.2.2.2.2.2.2.1 rfl
theorem dL_runs_10 : decode cL_runs 10 = .ok (.goto 11, 3) := dAt wdL_runs_0 adL_runs_0.2.2.2.2.2.2.2.2.1 rfl
theorem dL_runs_13 : decode cL_runs 13 = .ok (.astore 4, 2) := dAt wdL_runs_0 adL_runs_0.2.2.2.2.2.2.2.2.2.1 rfl
theorem dL_runs_15 : decode cL_runs 15 = .ok (.iconst 1, 1) := dAt wdL_runs_0 adL_runs_0.2.2.2.2.2.2.2.2.2.2.1 rfl
theorem dL_runs_16 : decode cL_runs 16 = .ok (.ireturn, 1) := dAt wdL_runs_0 adL_runs_0.2.2.2.2.2.2.2.2.2.2.2.1 rfl
theorem dL_runs_17 : decode cL_runs 17 = .ok (.astore 4, 2) := dAt wdL_runs_0 adL_runs_0.2.2.2.2.2.2.2.2.2.2.2.2.1 rfl
theorem dL_runs_19 : decode cL_runs 19 = .ok (.iconst 2, 1) := dAt wdL_runs_0 adL_runs_0.2.2.2.2.2.2.2.2.2.2.2.2.2.1 rfl
theorem dL_runs_20 : decode cL_runs 20 = .ok (.ireturn, 1) := dAt wdL_runs_0 adL_runs_0.2.2.2.2.2.2.2.2.2.2.2.2.2.2.1 rfl
theorem dL_runs_21 : decode cL_runs 21 = .ok (.iconst 0, 1) := dAt wdL_runs_0 adL_runs_0.2.2.2.2.2.2.2.2.2.2.2.2.2.2.2 rfl
def bdL_runs_22 : ByteArray := .mk #[172]
theorem wdL_runs_22 : LocW cL_runs 22 bdL_runs_22 := loc_of (by decide +kernel)
theorem adL_runs_22 : De bdL_runs_22 0 (.ireturn) 1 := by decide +kernel
theorem dL_runs_22 : decode cL_runs 22 = .ok (.ireturn, 1) := dAt wdL_runs_22 adL_runs_22 rfl
def bdL_slug_0 : ByteArray := .mk #[45, 3, 42, 27, 28, 182, 0, 65, 133, 80, 167, 0, 11, 58, 4, 4, 172, 58, 4, 5, 172, 3]
theorem wdL_slug_0 : LocW cL_slug 0 bdL_slug_0 := loc_of (by decide +kernel)
theorem adL_slug_0 : De bdL_slug_0 0 (.aload_n 3) 1 ∧ De bdL_slug_0 1 (.iconst 0) 1 ∧ De bdL_slug_0 2 (.aload_n 0) 1 ∧ De bdL_slug_0 3 (.iload_n 1) 1 ∧ De bdL_slug_0 4 (.iload_n 2) 1 ∧ De bdL_slug_0 5 (.invokevirtual 65) 3 ∧ De bdL_slug_0 8 (.i2l) 1 ∧ De bdL_slug_0 9 (.lastore) 1 ∧ De bdL_slug_0 10 (.goto 11) 3 ∧ De bdL_slug_0 13 (.astore 4) 2 ∧ De bdL_slug_0 15 (.iconst 1) 1 ∧ De bdL_slug_0 16 (.ireturn) 1 ∧ De bdL_slug_0 17 (.astore 4) 2 ∧ De bdL_slug_0 19 (.iconst 2) 1 ∧ De bdL_slug_0 20 (.ireturn) 1 ∧ De bdL_slug_0 21 (.iconst 0) 1 := by decide +kernel
theorem dL_slug_0 : decode cL_slug 0 = .ok (.aload_n 3, 1) := dAt wdL_slug_0 adL_slug_0.1 rfl
theorem dL_slug_1 : decode cL_slug 1 = .ok (.iconst 0, 1) := dAt wdL_slug_0 adL_slug_0.2.1 rfl
theorem dL_slug_2 : decode cL_slug 2 = .ok (.aload_n 0, 1) := dAt wdL_slug_0 adL_slug_0.2.2.1 rfl
theorem dL_slug_3 : decode cL_slug 3 = .ok (.iload_n 1, 1) := dAt wdL_slug_0 adL_slug_0.2.2.2.1 rfl
theorem dL_slug_4 : decode cL_slug 4 = .ok (.iload_n 2, 1) := dAt wdL_slug_0 adL_slug_0.2.2.2.2.1 rfl
theorem dL_slug_5 : decode cL_slug 5 = .ok (.invokevirtual 65, 3) := dAt wdL_slug_0 adL_slug_0.2.2.2.2.2.1 rfl
theorem dL_slug_8 : decode cL_slug 8 = .ok (.i2l, 1) := dAt wdL_slug_0 adL_slug_0.2.2.2.2.2.2.1 rfl
theorem dL_slug_9 : decode cL_slug 9 = .ok (.lastore, 1) := dAt wdL_slug_0 adL_slug_0.2.2.2.2.2.2.2.1 rfl
theorem dL_slug_10 : decode cL_slug 10 = .ok (.goto 11, 3) := dAt wdL_slug_0 adL_slug_0.2.2.2.2.2.2.2.2.1 rfl
theorem dL_slug_13 : decode cL_slug 13 = .ok (.astore 4, 2) := dAt wdL_slug_0 adL_slug_0.2.2.2.2.2.2.2.2.2.1 rfl
theorem dL_slug_15 : decode cL_slug 15 = .ok (.iconst 1, 1) := dAt wdL_slug_0 adL_slug_0.2.2.2.2.2.2.2.2.2.2.1 rfl
theorem dL_slug_16 : decode cL_slug 16 = .ok (.ireturn, 1) := dAt wdL_slug_0 adL_slug_0.2.2.2.2.2.2.2.2.2.2.2.1 rfl
theorem dL_slug_17 : decode cL_slug 17 = .ok (.astore 4, 2) := dAt wdL_slug_0 adL_slug_0.2.2.2.2.2.2.2.2.2.2.2.2.1 rfl
theorem dL_slug_19 : decode cL_slug 19 = .ok (.iconst 2, 1) := dAt wdL_slug_0 adL_slug_0.2.2.2.2.2.2.2.2.2.2.2.2.2.1 rfl
theorem dL_slug_20 : decode cL_slug 20 = .ok (.ireturn, 1) := dAt wdL_slug_0 adL_slug_0.2.2.2.2.2.2.2.2.2.2.2.2.2.2.1 rfl
theorem dL_slug_21 : decode cL_slug 21 = .ok (.iconst 0, 1) := dAt wdL_slug_0 adL_slug_0.2.2.2.2.2.2.2.2.2.2.2.2.2.2.2 rfl
def bdL_slug_22 : ByteArray := .mk #[172]
theorem wdL_slug_22 : LocW cL_slug 22 bdL_slug_22 := loc_of (by decide +kernel)
theorem adL_slug_22 : De bdL_slug_22 0 (.ireturn) 1 := by decide +kernel
theorem dL_slug_22 : decode cL_slug 22 = .ok (.ireturn, 1) := dAt wdL_slug_22 adL_slug_22 rfl
def bdL_says_0 : ByteArray := .mk #[45, 3, 42, 27, 28, 182, 0, 68, 133, 80, 167, 0, 7, 58, 4, 4, 172, 3, 172]
theorem wdL_says_0 : LocW cL_says 0 bdL_says_0 := loc_of (by decide +kernel)
theorem adL_says_0 : De bdL_says_0 0 (.aload_n 3) 1 ∧ De bdL_says_0 1 (.iconst 0) 1 ∧ De bdL_says_0 2 (.aload_n 0) 1 ∧ De bdL_says_0 3 (.iload_n 1) 1 ∧ De bdL_says_0 4 (.iload_n 2) 1 ∧ De bdL_says_0 5 (.invokevirtual 68) 3 ∧ De bdL_says_0 8 (.i2l) 1 ∧ De bdL_says_0 9 (.lastore) 1 ∧ De bdL_says_0 10 (.goto 7) 3 ∧ De bdL_says_0 13 (.astore 4) 2 ∧ De bdL_says_0 15 (.iconst 1) 1 ∧ De bdL_says_0 16 (.ireturn) 1 ∧ De bdL_says_0 17 (.iconst 0) 1 ∧ De bdL_says_0 18 (.ireturn) 1 := by decide +kernel
theorem dL_says_0 : decode cL_says 0 = .ok (.aload_n 3, 1) := dAt wdL_says_0 adL_says_0.1 rfl
theorem dL_says_1 : decode cL_says 1 = .ok (.iconst 0, 1) := dAt wdL_says_0 adL_says_0.2.1 rfl
theorem dL_says_2 : decode cL_says 2 = .ok (.aload_n 0, 1) := dAt wdL_says_0 adL_says_0.2.2.1 rfl
theorem dL_says_3 : decode cL_says 3 = .ok (.iload_n 1, 1) := dAt wdL_says_0 adL_says_0.2.2.2.1 rfl
theorem dL_says_4 : decode cL_says 4 = .ok (.iload_n 2, 1) := dAt wdL_says_0 adL_says_0.2.2.2.2.1 rfl
theorem dL_says_5 : decode cL_says 5 = .ok (.invokevirtual 68, 3) := dAt wdL_says_0 adL_says_0.2.2.2.2.2.1 rfl
theorem dL_says_8 : decode cL_says 8 = .ok (.i2l, 1) := dAt wdL_says_0 adL_says_0.2.2.2.2.2.2.1 rfl
theorem dL_says_9 : decode cL_says 9 = .ok (.lastore, 1) := dAt wdL_says_0 adL_says_0.2.2.2.2.2.2.2.1 rfl
theorem dL_says_10 : decode cL_says 10 = .ok (.goto 7, 3) := dAt wdL_says_0 adL_says_0.2.2.2.2.2.2.2.2.1 rfl
theorem dL_says_13 : decode cL_says 13 = .ok (.astore 4, 2) := dAt wdL_says_0 adL_says_0.2.2.2.2.2.2.2.2.2.1 rfl
theorem dL_says_15 : decode cL_says 15 = .ok (.iconst 1, 1) := dAt wdL_says_0 adL_says_0.2.2.2.2.2.2.2.2.2.2.1 rfl
theorem dL_says_16 : decode cL_says 16 = .ok (.ireturn, 1) := dAt wdL_says_0 adL_says_0.2.2.2.2.2.2.2.2.2.2.2.1 rfl
theorem dL_says_17 : decode cL_says 17 = .ok (.iconst 0, 1) := dAt wdL_says_0 adL_says_0.2.2.2.2.2.2.2.2.2.2.2.2.1 rfl
theorem dL_says_18 : decode cL_says 18 = .ok (.ireturn, 1) := dAt wdL_says_0 adL_says_0.2.2.2.2.2.2.2.2.2.2.2.2.2 rfl
def bdL_lies_0 : ByteArray := .mk #[45, 3, 42, 27, 28, 182, 0, 71, 133, 80, 167, 0, 11, 58, 4, 4, 172, 58, 4, 5, 172, 3]
theorem wdL_lies_0 : LocW cL_lies 0 bdL_lies_0 := loc_of (by decide +kernel)
theorem adL_lies_0 : De bdL_lies_0 0 (.aload_n 3) 1 ∧ De bdL_lies_0 1 (.iconst 0) 1 ∧ De bdL_lies_0 2 (.aload_n 0) 1 ∧ De bdL_lies_0 3 (.iload_n 1) 1 ∧ De bdL_lies_0 4 (.iload_n 2) 1 ∧ De bdL_lies_0 5 (.invokevirtual 71) 3 ∧ De bdL_lies_0 8 (.i2l) 1 ∧ De bdL_lies_0 9 (.lastore) 1 ∧ De bdL_lies_0 10 (.goto 11) 3 ∧ De bdL_lies_0 13 (.astore 4) 2 ∧ De bdL_lies_0 15 (.iconst 1) 1 ∧ De bdL_lies_0 16 (.ireturn) 1 ∧ De bdL_lies_0 17 (.astore 4) 2 ∧ De bdL_lies_0 19 (.iconst 2) 1 ∧ De bdL_lies_0 20 (.ireturn) 1 ∧ De bdL_lies_0 21 (.iconst 0) 1 := by decide +kernel
theorem dL_lies_0 : decode cL_lies 0 = .ok (.aload_n 3, 1) := dAt wdL_lies_0 adL_lies_0.1 rfl
theorem dL_lies_1 : decode cL_lies 1 = .ok (.iconst 0, 1) := dAt wdL_lies_0 adL_lies_0.2.1 rfl
theorem dL_lies_2 : decode cL_lies 2 = .ok (.aload_n 0, 1) := dAt wdL_lies_0 adL_lies_0.2.2.1 rfl
theorem dL_lies_3 : decode cL_lies 3 = .ok (.iload_n 1, 1) := dAt wdL_lies_0 adL_lies_0.2.2.2.1 rfl
theorem dL_lies_4 : decode cL_lies 4 = .ok (.iload_n 2, 1) := dAt wdL_lies_0 adL_lies_0.2.2.2.2.1 rfl
theorem dL_lies_5 : decode cL_lies 5 = .ok (.invokevirtual 71, 3) := dAt wdL_lies_0 adL_lies_0.2.2.2.2.2.1 rfl
theorem dL_lies_8 : decode cL_lies 8 = .ok (.i2l, 1) := dAt wdL_lies_0 adL_lies_0.2.2.2.2.2.2.1 rfl
theorem dL_lies_9 : decode cL_lies 9 = .ok (.lastore, 1) := dAt wdL_lies_0 adL_lies_0.2.2.2.2.2.2.2.1 rfl
theorem dL_lies_10 : decode cL_lies 10 = .ok (.goto 11, 3) := dAt wdL_lies_0 adL_lies_0.2.2.2.2.2.2.2.2.1 rfl
theorem dL_lies_13 : decode cL_lies 13 = .ok (.astore 4, 2) := dAt wdL_lies_0 adL_lies_0.2.2.2.2.2.2.2.2.2.1 rfl
theorem dL_lies_15 : decode cL_lies 15 = .ok (.iconst 1, 1) := dAt wdL_lies_0 adL_lies_0.2.2.2.2.2.2.2.2.2.2.1 rfl
theorem dL_lies_16 : decode cL_lies 16 = .ok (.ireturn, 1) := dAt wdL_lies_0 adL_lies_0.2.2.2.2.2.2.2.2.2.2.2.1 rfl
theorem dL_lies_17 : decode cL_lies 17 = .ok (.astore 4, 2) := dAt wdL_lies_0 adL_lies_0.2.2.2.2.2.2.2.2.2.2.2.2.1 rfl
theorem dL_lies_19 : decode cL_lies 19 = .ok (.iconst 2, 1) := dAt wdL_lies_0 adL_lies_0.2.2.2.2.2.2.2.2.2.2.2.2.2.1 rfl
theorem dL_lies_20 : decode cL_lies 20 = .ok (.ireturn, 1) := dAt wdL_lies_0 adL_lies_0.2.2.2.2.2.2.2.2.2.2.2.2.2.2.1 rfl
theorem dL_lies_21 : decode cL_lies 21 = .ok (.iconst 0, 1) := dAt wdL_lies_0 adL_lies_0.2.2.2.2.2.2.2.2.2.2.2.2.2.2.2 rfl
def bdL_lies_22 : ByteArray := .mk #[172]
theorem wdL_lies_22 : LocW cL_lies 22 bdL_lies_22 := loc_of (by decide +kernel)
theorem adL_lies_22 : De bdL_lies_22 0 (.ireturn) 1 := by decide +kernel
theorem dL_lies_22 : decode cL_lies 22 = .ok (.ireturn, 1) := dAt wdL_lies_22 adL_lies_22 rfl
def bdL_judge_0 : ByteArray := .mk #[44, 3, 42, 27, 182, 0, 76, 133, 80, 167, 0, 9, 78, 4, 172, 78, 5, 172, 3, 172]
theorem wdL_judge_0 : LocW cL_judge 0 bdL_judge_0 := loc_of (by decide +kernel)
theorem adL_judge_0 : De bdL_judge_0 0 (.aload_n 2) 1 ∧ De bdL_judge_0 1 (.iconst 0) 1 ∧ De bdL_judge_0 2 (.aload_n 0) 1 ∧ De bdL_judge_0 3 (.iload_n 1) 1 ∧ De bdL_judge_0 4 (.invokevirtual 76) 3 ∧ De bdL_judge_0 7 (.i2l) 1 ∧ De bdL_judge_0 8 (.lastore) 1 ∧ De bdL_judge_0 9 (.goto 9) 3 ∧ De bdL_judge_0 12 (.astore_n 3) 1 ∧ De bdL_judge_0 13 (.iconst 1) 1 ∧ De bdL_judge_0 14 (.ireturn) 1 ∧ De bdL_judge_0 15 (.astore_n 3) 1 ∧ De bdL_judge_0 16 (.iconst 2) 1 ∧ De bdL_judge_0 17 (.ireturn) 1 ∧ De bdL_judge_0 18 (.iconst 0) 1 ∧ De bdL_judge_0 19 (.ireturn) 1 := by decide +kernel
theorem dL_judge_0 : decode cL_judge 0 = .ok (.aload_n 2, 1) := dAt wdL_judge_0 adL_judge_0.1 rfl
theorem dL_judge_1 : decode cL_judge 1 = .ok (.iconst 0, 1) := dAt wdL_judge_0 adL_judge_0.2.1 rfl
theorem dL_judge_2 : decode cL_judge 2 = .ok (.aload_n 0, 1) := dAt wdL_judge_0 adL_judge_0.2.2.1 rfl
theorem dL_judge_3 : decode cL_judge 3 = .ok (.iload_n 1, 1) := dAt wdL_judge_0 adL_judge_0.2.2.2.1 rfl
theorem dL_judge_4 : decode cL_judge 4 = .ok (.invokevirtual 76, 3) := dAt wdL_judge_0 adL_judge_0.2.2.2.2.1 rfl
theorem dL_judge_7 : decode cL_judge 7 = .ok (.i2l, 1) := dAt wdL_judge_0 adL_judge_0.2.2.2.2.2.1 rfl
theorem dL_judge_8 : decode cL_judge 8 = .ok (.lastore, 1) := dAt wdL_judge_0 adL_judge_0.2.2.2.2.2.2.1 rfl
theorem dL_judge_9 : decode cL_judge 9 = .ok (.goto 9, 3) := dAt wdL_judge_0 adL_judge_0.2.2.2.2.2.2.2.1 rfl
theorem dL_judge_12 : decode cL_judge 12 = .ok (.astore_n 3, 1) := dAt wdL_judge_0 adL_judge_0.2.2.2.2.2.2.2.2.1 rfl
theorem dL_judge_13 : decode cL_judge 13 = .ok (.iconst 1, 1) := dAt wdL_judge_0 adL_judge_0.2.2.2.2.2.2.2.2.2.1 rfl
theorem dL_judge_14 : decode cL_judge 14 = .ok (.ireturn, 1) := dAt wdL_judge_0 adL_judge_0.2.2.2.2.2.2.2.2.2.2.1 rfl
theorem dL_judge_15 : decode cL_judge 15 = .ok (.astore_n 3, 1) := dAt wdL_judge_0 adL_judge_0.2.2.2.2.2.2.2.2.2.2.2.1 rfl
theorem dL_judge_16 : decode cL_judge 16 = .ok (.iconst 2, 1) := dAt wdL_judge_0 adL_judge_0.2.2.2.2.2.2.2.2.2.2.2.2.1 rfl
theorem dL_judge_17 : decode cL_judge 17 = .ok (.ireturn, 1) := dAt wdL_judge_0 adL_judge_0.2.2.2.2.2.2.2.2.2.2.2.2.2.1 rfl
theorem dL_judge_18 : decode cL_judge 18 = .ok (.iconst 0, 1) := dAt wdL_judge_0 adL_judge_0.2.2.2.2.2.2.2.2.2.2.2.2.2.2.1 rfl
theorem dL_judge_19 : decode cL_judge 19 = .ok (.ireturn, 1) := dAt wdL_judge_0 adL_judge_0.2.2.2.2.2.2.2.2.2.2.2.2.2.2.2 rfl
def bdL_pie_0 : ByteArray := .mk #[44, 3, 42, 27, 182, 0, 79, 153, 0, 7, 10, 167, 0, 4, 9, 80, 167, 0, 6, 78, 4, 172, 3, 172]
theorem wdL_pie_0 : LocW cL_pie 0 bdL_pie_0 := loc_of (by decide +kernel)
theorem adL_pie_0 : De bdL_pie_0 0 (.aload_n 2) 1 ∧ De bdL_pie_0 1 (.iconst 0) 1 ∧ De bdL_pie_0 2 (.aload_n 0) 1 ∧ De bdL_pie_0 3 (.iload_n 1) 1 ∧ De bdL_pie_0 4 (.invokevirtual 79) 3 ∧ De bdL_pie_0 7 (.ifCond .eq 7) 3 ∧ De bdL_pie_0 10 (.lconst 1) 1 ∧ De bdL_pie_0 11 (.goto 4) 3 ∧ De bdL_pie_0 14 (.lconst 0) 1 ∧ De bdL_pie_0 15 (.lastore) 1 ∧ De bdL_pie_0 16 (.goto 6) 3 ∧ De bdL_pie_0 19 (.astore_n 3) 1 ∧ De bdL_pie_0 20 (.iconst 1) 1 ∧ De bdL_pie_0 21 (.ireturn) 1 ∧ De bdL_pie_0 22 (.iconst 0) 1 ∧ De bdL_pie_0 23 (.ireturn) 1 := by decide +kernel
theorem dL_pie_0 : decode cL_pie 0 = .ok (.aload_n 2, 1) := dAt wdL_pie_0 adL_pie_0.1 rfl
theorem dL_pie_1 : decode cL_pie 1 = .ok (.iconst 0, 1) := dAt wdL_pie_0 adL_pie_0.2.1 rfl
theorem dL_pie_2 : decode cL_pie 2 = .ok (.aload_n 0, 1) := dAt wdL_pie_0 adL_pie_0.2.2.1 rfl
theorem dL_pie_3 : decode cL_pie 3 = .ok (.iload_n 1, 1) := dAt wdL_pie_0 adL_pie_0.2.2.2.1 rfl
theorem dL_pie_4 : decode cL_pie 4 = .ok (.invokevirtual 79, 3) := dAt wdL_pie_0 adL_pie_0.2.2.2.2.1 rfl
theorem dL_pie_7 : decode cL_pie 7 = .ok (.ifCond .eq 7, 3) := dAt wdL_pie_0 adL_pie_0.2.2.2.2.2.1 rfl
theorem dL_pie_10 : decode cL_pie 10 = .ok (.lconst 1, 1) := dAt wdL_pie_0 adL_pie_0.2.2.2.2.2.2.1 rfl
theorem dL_pie_11 : decode cL_pie 11 = .ok (.goto 4, 3) := dAt wdL_pie_0 adL_pie_0.2.2.2.2.2.2.2.1 rfl
theorem dL_pie_14 : decode cL_pie 14 = .ok (.lconst 0, 1) := dAt wdL_pie_0 adL_pie_0.2.2.2.2.2.2.2.2.1 rfl
theorem dL_pie_15 : decode cL_pie 15 = .ok (.lastore, 1) := dAt wdL_pie_0 adL_pie_0.2.2.2.2.2.2.2.2.2.1 rfl
theorem dL_pie_16 : decode cL_pie 16 = .ok (.goto 6, 3) := dAt wdL_pie_0 adL_pie_0.2.2.2.2.2.2.2.2.2.2.1 rfl
theorem dL_pie_19 : decode cL_pie 19 = .ok (.astore_n 3, 1) := dAt wdL_pie_0 adL_pie_0.2.2.2.2.2.2.2.2.2.2.2.1 rfl
theorem dL_pie_20 : decode cL_pie 20 = .ok (.iconst 1, 1) := dAt wdL_pie_0 adL_pie_0.2.2.2.2.2.2.2.2.2.2.2.2.1 rfl
theorem dL_pie_21 : decode cL_pie 21 = .ok (.ireturn, 1) := dAt wdL_pie_0 adL_pie_0.2.2.2.2.2.2.2.2.2.2.2.2.2.1 rfl
theorem dL_pie_22 : decode cL_pie 22 = .ok (.iconst 0, 1) := dAt wdL_pie_0 adL_pie_0.2.2.2.2.2.2.2.2.2.2.2.2.2.2.1 rfl
theorem dL_pie_23 : decode cL_pie 23 = .ok (.ireturn, 1) := dAt wdL_pie_0 adL_pie_0.2.2.2.2.2.2.2.2.2.2.2.2.2.2.2 rfl
def bdL_change_0 : ByteArray := .mk #[45, 3, 42, 27, 28, 182, 0, 83, 153, 0, 7, 10, 167, 0, 4, 9, 80, 167, 0, 7, 58, 4, 4, 172, 3]
theorem wdL_change_0 : LocW cL_change 0 bdL_change_0 := loc_of (by decide +kernel)
theorem adL_change_0 : De bdL_change_0 0 (.aload_n 3) 1 ∧ De bdL_change_0 1 (.iconst 0) 1 ∧ De bdL_change_0 2 (.aload_n 0) 1 ∧ De bdL_change_0 3 (.iload_n 1) 1 ∧ De bdL_change_0 4 (.iload_n 2) 1 ∧ De bdL_change_0 5 (.invokevirtual 83) 3 ∧ De bdL_change_0 8 (.ifCond .eq 7) 3 ∧ De bdL_change_0 11 (.lconst 1) 1 ∧ De bdL_change_0 12 (.goto 4) 3 ∧ De bdL_change_0 15 (.lconst 0) 1 ∧ De bdL_change_0 16 (.lastore) 1 ∧ De bdL_change_0 17 (.goto 7) 3 ∧ De bdL_change_0 20 (.astore 4) 2 ∧ De bdL_change_0 22 (.iconst 1) 1 ∧ De bdL_change_0 23 (.ireturn) 1 ∧ De bdL_change_0 24 (.iconst 0) 1 := by decide +kernel
theorem dL_change_0 : decode cL_change 0 = .ok (.aload_n 3, 1) := dAt wdL_change_0 adL_change_0.1 rfl
theorem dL_change_1 : decode cL_change 1 = .ok (.iconst 0, 1) := dAt wdL_change_0 adL_change_0.2.1 rfl
theorem dL_change_2 : decode cL_change 2 = .ok (.aload_n 0, 1) := dAt wdL_change_0 adL_change_0.2.2.1 rfl
theorem dL_change_3 : decode cL_change 3 = .ok (.iload_n 1, 1) := dAt wdL_change_0 adL_change_0.2.2.2.1 rfl
theorem dL_change_4 : decode cL_change 4 = .ok (.iload_n 2, 1) := dAt wdL_change_0 adL_change_0.2.2.2.2.1 rfl
theorem dL_change_5 : decode cL_change 5 = .ok (.invokevirtual 83, 3) := dAt wdL_change_0 adL_change_0.2.2.2.2.2.1 rfl
theorem dL_change_8 : decode cL_change 8 = .ok (.ifCond .eq 7, 3) := dAt wdL_change_0 adL_change_0.2.2.2.2.2.2.1 rfl
theorem dL_change_11 : decode cL_change 11 = .ok (.lconst 1, 1) := dAt wdL_change_0 adL_change_0.2.2.2.2.2.2.2.1 rfl
theorem dL_change_12 : decode cL_change 12 = .ok (.goto 4, 3) := dAt wdL_change_0 adL_change_0.2.2.2.2.2.2.2.2.1 rfl
theorem dL_change_15 : decode cL_change 15 = .ok (.lconst 0, 1) := dAt wdL_change_0 adL_change_0.2.2.2.2.2.2.2.2.2.1 rfl
theorem dL_change_16 : decode cL_change 16 = .ok (.lastore, 1) := dAt wdL_change_0 adL_change_0.2.2.2.2.2.2.2.2.2.2.1 rfl
theorem dL_change_17 : decode cL_change 17 = .ok (.goto 7, 3) := dAt wdL_change_0 adL_change_0.2.2.2.2.2.2.2.2.2.2.2.1 rfl
theorem dL_change_20 : decode cL_change 20 = .ok (.astore 4, 2) := dAt wdL_change_0 adL_change_0.2.2.2.2.2.2.2.2.2.2.2.2.1 rfl
theorem dL_change_22 : decode cL_change 22 = .ok (.iconst 1, 1) := dAt wdL_change_0 adL_change_0.2.2.2.2.2.2.2.2.2.2.2.2.2.1 rfl
theorem dL_change_23 : decode cL_change 23 = .ok (.ireturn, 1) := dAt wdL_change_0 adL_change_0.2.2.2.2.2.2.2.2.2.2.2.2.2.2.1 rfl
theorem dL_change_24 : decode cL_change 24 = .ok (.iconst 0, 1) := dAt wdL_change_0 adL_change_0.2.2.2.2.2.2.2.2.2.2.2.2.2.2.2 rfl
def bdL_change_25 : ByteArray := .mk #[172]
theorem wdL_change_25 : LocW cL_change 25 bdL_change_25 := loc_of (by decide +kernel)
theorem adL_change_25 : De bdL_change_25 0 (.ireturn) 1 := by decide +kernel
theorem dL_change_25 : decode cL_change 25 = .ok (.ireturn, 1) := dAt wdL_change_25 adL_change_25 rfl
def bdL_again_0 : ByteArray := .mk #[25, 4, 3, 42, 27, 28, 29, 182, 0, 87, 133, 80, 167, 0, 15, 58, 5, 4, 172, 58, 5, 5, 172]
theorem wdL_again_0 : LocW cL_again 0 bdL_again_0 := loc_of (by decide +kernel)
theorem adL_again_0 : De bdL_again_0 0 (.aload 4) 2 ∧ De bdL_again_0 2 (.iconst 0) 1 ∧ De bdL_again_0 3 (.aload_n 0) 1 ∧ De bdL_again_0 4 (.iload_n 1) 1 ∧ De bdL_again_0 5 (.iload_n 2) 1 ∧ De bdL_again_0 6 (.iload_n 3) 1 ∧ De bdL_again_0 7 (.invokevirtual 87) 3 ∧ De bdL_again_0 10 (.i2l) 1 ∧ De bdL_again_0 11 (.lastore) 1 ∧ De bdL_again_0 12 (.goto 15) 3 ∧ De bdL_again_0 15 (.astore 5) 2 ∧ De bdL_again_0 17 (.iconst 1) 1 ∧ De bdL_again_0 18 (.ireturn) 1 ∧ De bdL_again_0 19 (.astore 5) 2 ∧ De bdL_again_0 21 (.iconst 2) 1 ∧ De bdL_again_0 22 (.ireturn) 1 := by decide +kernel
theorem dL_again_0 : decode cL_again 0 = .ok (.aload 4, 2) := dAt wdL_again_0 adL_again_0.1 rfl
theorem dL_again_2 : decode cL_again 2 = .ok (.iconst 0, 1) := dAt wdL_again_0 adL_again_0.2.1 rfl
theorem dL_again_3 : decode cL_again 3 = .ok (.aload_n 0, 1) := dAt wdL_again_0 adL_again_0.2.2.1 rfl
theorem dL_again_4 : decode cL_again 4 = .ok (.iload_n 1, 1) := dAt wdL_again_0 adL_again_0.2.2.2.1 rfl
theorem dL_again_5 : decode cL_again 5 = .ok (.iload_n 2, 1) := dAt wdL_again_0 adL_again_0.2.2.2.2.1 rfl
theorem dL_again_6 : decode cL_again 6 = .ok (.iload_n 3, 1) := dAt wdL_again_0 adL_again_0.2.2.2.2.2.1 rfl
theorem dL_again_7 : decode cL_again 7 = .ok (.invokevirtual 87, 3) := dAt wdL_again_0 adL_again_0.2.2.2.2.2.2.1 rfl
theorem dL_again_10 : decode cL_again 10 = .ok (.i2l, 1) := dAt wdL_again_0 adL_again_0.2.2.2.2.2.2.2.1 rfl
theorem dL_again_11 : decode cL_again 11 = .ok (.lastore, 1) := dAt wdL_again_0 adL_again_0.2.2.2.2.2.2.2.2.1 rfl
theorem dL_again_12 : decode cL_again 12 = .ok (.goto 15, 3) := dAt wdL_again_0 adL_again_0.2.2.2.2.2.2.2.2.2.1 rfl
theorem dL_again_15 : decode cL_again 15 = .ok (.astore 5, 2) := dAt wdL_again_0 adL_again_0.2.2.2.2.2.2.2.2.2.2.1 rfl
theorem dL_again_17 : decode cL_again 17 = .ok (.iconst 1, 1) := dAt wdL_again_0 adL_again_0.2.2.2.2.2.2.2.2.2.2.2.1 rfl
theorem dL_again_18 : decode cL_again 18 = .ok (.ireturn, 1) := dAt wdL_again_0 adL_again_0.2.2.2.2.2.2.2.2.2.2.2.2.1 rfl
theorem dL_again_19 : decode cL_again 19 = .ok (.astore 5, 2) := dAt wdL_again_0 adL_again_0.2.2.2.2.2.2.2.2.2.2.2.2.2.1 rfl
theorem dL_again_21 : decode cL_again 21 = .ok (.iconst 2, 1) := dAt wdL_again_0 adL_again_0.2.2.2.2.2.2.2.2.2.2.2.2.2.2.1 rfl
theorem dL_again_22 : decode cL_again 22 = .ok (.ireturn, 1) := dAt wdL_again_0 adL_again_0.2.2.2.2.2.2.2.2.2.2.2.2.2.2.2 rfl
def bdL_again_23 : ByteArray := .mk #[58, 5, 6, 172, 3, 172]
theorem wdL_again_23 : LocW cL_again 23 bdL_again_23 := loc_of (by decide +kernel)
theorem adL_again_23 : De bdL_again_23 0 (.astore 5) 2 ∧ De bdL_again_23 2 (.iconst 3) 1 ∧ De bdL_again_23 3 (.ireturn) 1 ∧ De bdL_again_23 4 (.iconst 0) 1 ∧ De bdL_again_23 5 (.ireturn) 1 := by decide +kernel
theorem dL_again_23 : decode cL_again 23 = .ok (.astore 5, 2) := dAt wdL_again_23 adL_again_23.1 rfl
theorem dL_again_25 : decode cL_again 25 = .ok (.iconst 3, 1) := dAt wdL_again_23 adL_again_23.2.1 rfl
theorem dL_again_26 : decode cL_again 26 = .ok (.ireturn, 1) := dAt wdL_again_23 adL_again_23.2.2.1 rfl
theorem dL_again_27 : decode cL_again 27 = .ok (.iconst 0, 1) := dAt wdL_again_23 adL_again_23.2.2.2.1 rfl
theorem dL_again_28 : decode cL_again 28 = .ok (.ireturn, 1) := dAt wdL_again_23 adL_again_23.2.2.2.2 rfl
def bdL_correct_0 : ByteArray := .mk #[25, 4, 3, 42, 27, 28, 29, 182, 0, 90, 133, 80, 167, 0, 19, 58, 5, 4, 172, 58, 5, 5, 172]
theorem wdL_correct_0 : LocW cL_correct 0 bdL_correct_0 := loc_of (by decide +kernel)
theorem adL_correct_0 : De bdL_correct_0 0 (.aload 4) 2 ∧ De bdL_correct_0 2 (.iconst 0) 1 ∧ De bdL_correct_0 3 (.aload_n 0) 1 ∧ De bdL_correct_0 4 (.iload_n 1) 1 ∧ De bdL_correct_0 5 (.iload_n 2) 1 ∧ De bdL_correct_0 6 (.iload_n 3) 1 ∧ De bdL_correct_0 7 (.invokevirtual 90) 3 ∧ De bdL_correct_0 10 (.i2l) 1 ∧ De bdL_correct_0 11 (.lastore) 1 ∧ De bdL_correct_0 12 (.goto 19) 3 ∧ De bdL_correct_0 15 (.astore 5) 2 ∧ De bdL_correct_0 17 (.iconst 1) 1 ∧ De bdL_correct_0 18 (.ireturn) 1 ∧ De bdL_correct_0 19 (.astore 5) 2 ∧ De bdL_correct_0 21 (.iconst 2) 1 ∧ De bdL_correct_0 22 (.ireturn) 1 := by decide +kernel
theorem dL_correct_0 : decode cL_correct 0 = .ok (.aload 4, 2) := dAt wdL_correct_0 adL_correct_0.1 rfl
theorem dL_correct_2 : decode cL_correct 2 = .ok (.iconst 0, 1) := dAt wdL_correct_0 adL_correct_0.2.1 rfl
theorem dL_correct_3 : decode cL_correct 3 = .ok (.aload_n 0, 1) := dAt wdL_correct_0 adL_correct_0.2.2.1 rfl
theorem dL_correct_4 : decode cL_correct 4 = .ok (.iload_n 1, 1) := dAt wdL_correct_0 adL_correct_0.2.2.2.1 rfl
theorem dL_correct_5 : decode cL_correct 5 = .ok (.iload_n 2, 1) := dAt wdL_correct_0 adL_correct_0.2.2.2.2.1 rfl
theorem dL_correct_6 : decode cL_correct 6 = .ok (.iload_n 3, 1) := dAt wdL_correct_0 adL_correct_0.2.2.2.2.2.1 rfl
theorem dL_correct_7 : decode cL_correct 7 = .ok (.invokevirtual 90, 3) := dAt wdL_correct_0 adL_correct_0.2.2.2.2.2.2.1 rfl
theorem dL_correct_10 : decode cL_correct 10 = .ok (.i2l, 1) := dAt wdL_correct_0 adL_correct_0.2.2.2.2.2.2.2.1 rfl
theorem dL_correct_11 : decode cL_correct 11 = .ok (.lastore, 1) := dAt wdL_correct_0 adL_correct_0.2.2.2.2.2.2.2.2.1 rfl
theorem dL_correct_12 : decode cL_correct 12 = .ok (.goto 19, 3) := dAt wdL_correct_0 adL_correct_0.2.2.2.2.2.2.2.2.2.1 rfl
theorem dL_correct_15 : decode cL_correct 15 = .ok (.astore 5, 2) := dAt wdL_correct_0 adL_correct_0.2.2.2.2.2.2.2.2.2.2.1 rfl
theorem dL_correct_17 : decode cL_correct 17 = .ok (.iconst 1, 1) := dAt wdL_correct_0 adL_correct_0.2.2.2.2.2.2.2.2.2.2.2.1 rfl
theorem dL_correct_18 : decode cL_correct 18 = .ok (.ireturn, 1) := dAt wdL_correct_0 adL_correct_0.2.2.2.2.2.2.2.2.2.2.2.2.1 rfl
theorem dL_correct_19 : decode cL_correct 19 = .ok (.astore 5, 2) := dAt wdL_correct_0 adL_correct_0.2.2.2.2.2.2.2.2.2.2.2.2.2.1 rfl
theorem dL_correct_21 : decode cL_correct 21 = .ok (.iconst 2, 1) := dAt wdL_correct_0 adL_correct_0.2.2.2.2.2.2.2.2.2.2.2.2.2.2.1 rfl
theorem dL_correct_22 : decode cL_correct 22 = .ok (.ireturn, 1) := dAt wdL_correct_0 adL_correct_0.2.2.2.2.2.2.2.2.2.2.2.2.2.2.2 rfl
def bdL_correct_23 : ByteArray := .mk #[58, 5, 6, 172, 58, 5, 7, 172, 3, 172]
theorem wdL_correct_23 : LocW cL_correct 23 bdL_correct_23 := loc_of (by decide +kernel)
theorem adL_correct_23 : De bdL_correct_23 0 (.astore 5) 2 ∧ De bdL_correct_23 2 (.iconst 3) 1 ∧ De bdL_correct_23 3 (.ireturn) 1 ∧ De bdL_correct_23 4 (.astore 5) 2 ∧ De bdL_correct_23 6 (.iconst 4) 1 ∧ De bdL_correct_23 7 (.ireturn) 1 ∧ De bdL_correct_23 8 (.iconst 0) 1 ∧ De bdL_correct_23 9 (.ireturn) 1 := by decide +kernel
theorem dL_correct_23 : decode cL_correct 23 = .ok (.astore 5, 2) := dAt wdL_correct_23 adL_correct_23.1 rfl
theorem dL_correct_25 : decode cL_correct 25 = .ok (.iconst 3, 1) := dAt wdL_correct_23 adL_correct_23.2.1 rfl
theorem dL_correct_26 : decode cL_correct 26 = .ok (.ireturn, 1) := dAt wdL_correct_23 adL_correct_23.2.2.1 rfl
theorem dL_correct_27 : decode cL_correct 27 = .ok (.astore 5, 2) := dAt wdL_correct_23 adL_correct_23.2.2.2.1 rfl
theorem dL_correct_29 : decode cL_correct 29 = .ok (.iconst 4, 1) := dAt wdL_correct_23 adL_correct_23.2.2.2.2.1 rfl
theorem dL_correct_30 : decode cL_correct 30 = .ok (.ireturn, 1) := dAt wdL_correct_23 adL_correct_23.2.2.2.2.2.1 rfl
theorem dL_correct_31 : decode cL_correct 31 = .ok (.iconst 0, 1) := dAt wdL_correct_23 adL_correct_23.2.2.2.2.2.2.1 rfl
theorem dL_correct_32 : decode cL_correct 32 = .ok (.ireturn, 1) := dAt wdL_correct_23 adL_correct_23.2.2.2.2.2.2.2 rfl
def bdL_slip_0 : ByteArray := .mk #[25, 4, 3, 42, 27, 28, 29, 182, 0, 93, 153, 0, 7, 10, 167, 0, 4, 9, 80, 167, 0, 11, 58, 5, 4, 172]
theorem wdL_slip_0 : LocW cL_slip 0 bdL_slip_0 := loc_of (by decide +kernel)
theorem adL_slip_0 : De bdL_slip_0 0 (.aload 4) 2 ∧ De bdL_slip_0 2 (.iconst 0) 1 ∧ De bdL_slip_0 3 (.aload_n 0) 1 ∧ De bdL_slip_0 4 (.iload_n 1) 1 ∧ De bdL_slip_0 5 (.iload_n 2) 1 ∧ De bdL_slip_0 6 (.iload_n 3) 1 ∧ De bdL_slip_0 7 (.invokevirtual 93) 3 ∧ De bdL_slip_0 10 (.ifCond .eq 7) 3 ∧ De bdL_slip_0 13 (.lconst 1) 1 ∧ De bdL_slip_0 14 (.goto 4) 3 ∧ De bdL_slip_0 17 (.lconst 0) 1 ∧ De bdL_slip_0 18 (.lastore) 1 ∧ De bdL_slip_0 19 (.goto 11) 3 ∧ De bdL_slip_0 22 (.astore 5) 2 ∧ De bdL_slip_0 24 (.iconst 1) 1 ∧ De bdL_slip_0 25 (.ireturn) 1 := by decide +kernel
theorem dL_slip_0 : decode cL_slip 0 = .ok (.aload 4, 2) := dAt wdL_slip_0 adL_slip_0.1 rfl
theorem dL_slip_2 : decode cL_slip 2 = .ok (.iconst 0, 1) := dAt wdL_slip_0 adL_slip_0.2.1 rfl
theorem dL_slip_3 : decode cL_slip 3 = .ok (.aload_n 0, 1) := dAt wdL_slip_0 adL_slip_0.2.2.1 rfl
theorem dL_slip_4 : decode cL_slip 4 = .ok (.iload_n 1, 1) := dAt wdL_slip_0 adL_slip_0.2.2.2.1 rfl
theorem dL_slip_5 : decode cL_slip 5 = .ok (.iload_n 2, 1) := dAt wdL_slip_0 adL_slip_0.2.2.2.2.1 rfl
theorem dL_slip_6 : decode cL_slip 6 = .ok (.iload_n 3, 1) := dAt wdL_slip_0 adL_slip_0.2.2.2.2.2.1 rfl
theorem dL_slip_7 : decode cL_slip 7 = .ok (.invokevirtual 93, 3) := dAt wdL_slip_0 adL_slip_0.2.2.2.2.2.2.1 rfl
theorem dL_slip_10 : decode cL_slip 10 = .ok (.ifCond .eq 7, 3) := dAt wdL_slip_0 adL_slip_0.2.2.2.2.2.2.2.1 rfl
theorem dL_slip_13 : decode cL_slip 13 = .ok (.lconst 1, 1) := dAt wdL_slip_0 adL_slip_0.2.2.2.2.2.2.2.2.1 rfl
theorem dL_slip_14 : decode cL_slip 14 = .ok (.goto 4, 3) := dAt wdL_slip_0 adL_slip_0.2.2.2.2.2.2.2.2.2.1 rfl
theorem dL_slip_17 : decode cL_slip 17 = .ok (.lconst 0, 1) := dAt wdL_slip_0 adL_slip_0.2.2.2.2.2.2.2.2.2.2.1 rfl
theorem dL_slip_18 : decode cL_slip 18 = .ok (.lastore, 1) := dAt wdL_slip_0 adL_slip_0.2.2.2.2.2.2.2.2.2.2.2.1 rfl
theorem dL_slip_19 : decode cL_slip 19 = .ok (.goto 11, 3) := dAt wdL_slip_0 adL_slip_0.2.2.2.2.2.2.2.2.2.2.2.2.1 rfl
theorem dL_slip_22 : decode cL_slip 22 = .ok (.astore 5, 2) := dAt wdL_slip_0 adL_slip_0.2.2.2.2.2.2.2.2.2.2.2.2.2.1 rfl
theorem dL_slip_24 : decode cL_slip 24 = .ok (.iconst 1, 1) := dAt wdL_slip_0 adL_slip_0.2.2.2.2.2.2.2.2.2.2.2.2.2.2.1 rfl
theorem dL_slip_25 : decode cL_slip 25 = .ok (.ireturn, 1) := dAt wdL_slip_0 adL_slip_0.2.2.2.2.2.2.2.2.2.2.2.2.2.2.2 rfl
def bdL_slip_26 : ByteArray := .mk #[58, 5, 5, 172, 3, 172]
theorem wdL_slip_26 : LocW cL_slip 26 bdL_slip_26 := loc_of (by decide +kernel)
theorem adL_slip_26 : De bdL_slip_26 0 (.astore 5) 2 ∧ De bdL_slip_26 2 (.iconst 2) 1 ∧ De bdL_slip_26 3 (.ireturn) 1 ∧ De bdL_slip_26 4 (.iconst 0) 1 ∧ De bdL_slip_26 5 (.ireturn) 1 := by decide +kernel
theorem dL_slip_26 : decode cL_slip 26 = .ok (.astore 5, 2) := dAt wdL_slip_26 adL_slip_26.1 rfl
theorem dL_slip_28 : decode cL_slip 28 = .ok (.iconst 2, 1) := dAt wdL_slip_26 adL_slip_26.2.1 rfl
theorem dL_slip_29 : decode cL_slip 29 = .ok (.ireturn, 1) := dAt wdL_slip_26 adL_slip_26.2.2.1 rfl
theorem dL_slip_30 : decode cL_slip 30 = .ok (.iconst 0, 1) := dAt wdL_slip_26 adL_slip_26.2.2.2.1 rfl
theorem dL_slip_31 : decode cL_slip 31 = .ok (.ireturn, 1) := dAt wdL_slip_26 adL_slip_26.2.2.2.2 rfl
def bdL_read_0 : ByteArray := .mk #[45, 3, 42, 27, 28, 182, 0, 97, 153, 0, 7, 10, 167, 0, 4, 9, 80, 167, 0, 7, 58, 4, 4, 172, 3]
theorem wdL_read_0 : LocW cL_read 0 bdL_read_0 := loc_of (by decide +kernel)
theorem adL_read_0 : De bdL_read_0 0 (.aload_n 3) 1 ∧ De bdL_read_0 1 (.iconst 0) 1 ∧ De bdL_read_0 2 (.aload_n 0) 1 ∧ De bdL_read_0 3 (.iload_n 1) 1 ∧ De bdL_read_0 4 (.iload_n 2) 1 ∧ De bdL_read_0 5 (.invokevirtual 97) 3 ∧ De bdL_read_0 8 (.ifCond .eq 7) 3 ∧ De bdL_read_0 11 (.lconst 1) 1 ∧ De bdL_read_0 12 (.goto 4) 3 ∧ De bdL_read_0 15 (.lconst 0) 1 ∧ De bdL_read_0 16 (.lastore) 1 ∧ De bdL_read_0 17 (.goto 7) 3 ∧ De bdL_read_0 20 (.astore 4) 2 ∧ De bdL_read_0 22 (.iconst 1) 1 ∧ De bdL_read_0 23 (.ireturn) 1 ∧ De bdL_read_0 24 (.iconst 0) 1 := by decide +kernel
theorem dL_read_0 : decode cL_read 0 = .ok (.aload_n 3, 1) := dAt wdL_read_0 adL_read_0.1 rfl
theorem dL_read_1 : decode cL_read 1 = .ok (.iconst 0, 1) := dAt wdL_read_0 adL_read_0.2.1 rfl
theorem dL_read_2 : decode cL_read 2 = .ok (.aload_n 0, 1) := dAt wdL_read_0 adL_read_0.2.2.1 rfl
theorem dL_read_3 : decode cL_read 3 = .ok (.iload_n 1, 1) := dAt wdL_read_0 adL_read_0.2.2.2.1 rfl
theorem dL_read_4 : decode cL_read 4 = .ok (.iload_n 2, 1) := dAt wdL_read_0 adL_read_0.2.2.2.2.1 rfl
theorem dL_read_5 : decode cL_read 5 = .ok (.invokevirtual 97, 3) := dAt wdL_read_0 adL_read_0.2.2.2.2.2.1 rfl
theorem dL_read_8 : decode cL_read 8 = .ok (.ifCond .eq 7, 3) := dAt wdL_read_0 adL_read_0.2.2.2.2.2.2.1 rfl
theorem dL_read_11 : decode cL_read 11 = .ok (.lconst 1, 1) := dAt wdL_read_0 adL_read_0.2.2.2.2.2.2.2.1 rfl
theorem dL_read_12 : decode cL_read 12 = .ok (.goto 4, 3) := dAt wdL_read_0 adL_read_0.2.2.2.2.2.2.2.2.1 rfl
theorem dL_read_15 : decode cL_read 15 = .ok (.lconst 0, 1) := dAt wdL_read_0 adL_read_0.2.2.2.2.2.2.2.2.2.1 rfl
theorem dL_read_16 : decode cL_read 16 = .ok (.lastore, 1) := dAt wdL_read_0 adL_read_0.2.2.2.2.2.2.2.2.2.2.1 rfl
theorem dL_read_17 : decode cL_read 17 = .ok (.goto 7, 3) := dAt wdL_read_0 adL_read_0.2.2.2.2.2.2.2.2.2.2.2.1 rfl
theorem dL_read_20 : decode cL_read 20 = .ok (.astore 4, 2) := dAt wdL_read_0 adL_read_0.2.2.2.2.2.2.2.2.2.2.2.2.1 rfl
theorem dL_read_22 : decode cL_read 22 = .ok (.iconst 1, 1) := dAt wdL_read_0 adL_read_0.2.2.2.2.2.2.2.2.2.2.2.2.2.1 rfl
theorem dL_read_23 : decode cL_read 23 = .ok (.ireturn, 1) := dAt wdL_read_0 adL_read_0.2.2.2.2.2.2.2.2.2.2.2.2.2.2.1 rfl
theorem dL_read_24 : decode cL_read 24 = .ok (.iconst 0, 1) := dAt wdL_read_0 adL_read_0.2.2.2.2.2.2.2.2.2.2.2.2.2.2.2 rfl
def bdL_read_25 : ByteArray := .mk #[172]
theorem wdL_read_25 : LocW cL_read 25 bdL_read_25 := loc_of (by decide +kernel)
theorem adL_read_25 : De bdL_read_25 0 (.ireturn) 1 := by decide +kernel
theorem dL_read_25 : decode cL_read 25 = .ok (.ireturn, 1) := dAt wdL_read_25 adL_read_25 rfl
def bdL_proof_0 : ByteArray := .mk #[44, 3, 42, 27, 182, 0, 100, 133, 80, 167, 0, 6, 78, 4, 172, 3, 172]
theorem wdL_proof_0 : LocW cL_proof 0 bdL_proof_0 := loc_of (by decide +kernel)
theorem adL_proof_0 : De bdL_proof_0 0 (.aload_n 2) 1 ∧ De bdL_proof_0 1 (.iconst 0) 1 ∧ De bdL_proof_0 2 (.aload_n 0) 1 ∧ De bdL_proof_0 3 (.iload_n 1) 1 ∧ De bdL_proof_0 4 (.invokevirtual 100) 3 ∧ De bdL_proof_0 7 (.i2l) 1 ∧ De bdL_proof_0 8 (.lastore) 1 ∧ De bdL_proof_0 9 (.goto 6) 3 ∧ De bdL_proof_0 12 (.astore_n 3) 1 ∧ De bdL_proof_0 13 (.iconst 1) 1 ∧ De bdL_proof_0 14 (.ireturn) 1 ∧ De bdL_proof_0 15 (.iconst 0) 1 ∧ De bdL_proof_0 16 (.ireturn) 1 := by decide +kernel
theorem dL_proof_0 : decode cL_proof 0 = .ok (.aload_n 2, 1) := dAt wdL_proof_0 adL_proof_0.1 rfl
theorem dL_proof_1 : decode cL_proof 1 = .ok (.iconst 0, 1) := dAt wdL_proof_0 adL_proof_0.2.1 rfl
theorem dL_proof_2 : decode cL_proof 2 = .ok (.aload_n 0, 1) := dAt wdL_proof_0 adL_proof_0.2.2.1 rfl
theorem dL_proof_3 : decode cL_proof 3 = .ok (.iload_n 1, 1) := dAt wdL_proof_0 adL_proof_0.2.2.2.1 rfl
theorem dL_proof_4 : decode cL_proof 4 = .ok (.invokevirtual 100, 3) := dAt wdL_proof_0 adL_proof_0.2.2.2.2.1 rfl
theorem dL_proof_7 : decode cL_proof 7 = .ok (.i2l, 1) := dAt wdL_proof_0 adL_proof_0.2.2.2.2.2.1 rfl
theorem dL_proof_8 : decode cL_proof 8 = .ok (.lastore, 1) := dAt wdL_proof_0 adL_proof_0.2.2.2.2.2.2.1 rfl
theorem dL_proof_9 : decode cL_proof 9 = .ok (.goto 6, 3) := dAt wdL_proof_0 adL_proof_0.2.2.2.2.2.2.2.1 rfl
theorem dL_proof_12 : decode cL_proof 12 = .ok (.astore_n 3, 1) := dAt wdL_proof_0 adL_proof_0.2.2.2.2.2.2.2.2.1 rfl
theorem dL_proof_13 : decode cL_proof 13 = .ok (.iconst 1, 1) := dAt wdL_proof_0 adL_proof_0.2.2.2.2.2.2.2.2.2.1 rfl
theorem dL_proof_14 : decode cL_proof 14 = .ok (.ireturn, 1) := dAt wdL_proof_0 adL_proof_0.2.2.2.2.2.2.2.2.2.2.1 rfl
theorem dL_proof_15 : decode cL_proof 15 = .ok (.iconst 0, 1) := dAt wdL_proof_0 adL_proof_0.2.2.2.2.2.2.2.2.2.2.2.1 rfl
theorem dL_proof_16 : decode cL_proof 16 = .ok (.ireturn, 1) := dAt wdL_proof_0 adL_proof_0.2.2.2.2.2.2.2.2.2.2.2.2 rfl
def bdL_carry_0 : ByteArray := .mk #[25, 4, 3, 42, 27, 28, 29, 182, 0, 103, 133, 80, 167, 0, 11, 58, 5, 4, 172, 58, 5, 5, 172]
theorem wdL_carry_0 : LocW cL_carry 0 bdL_carry_0 := loc_of (by decide +kernel)
theorem adL_carry_0 : De bdL_carry_0 0 (.aload 4) 2 ∧ De bdL_carry_0 2 (.iconst 0) 1 ∧ De bdL_carry_0 3 (.aload_n 0) 1 ∧ De bdL_carry_0 4 (.iload_n 1) 1 ∧ De bdL_carry_0 5 (.iload_n 2) 1 ∧ De bdL_carry_0 6 (.iload_n 3) 1 ∧ De bdL_carry_0 7 (.invokevirtual 103) 3 ∧ De bdL_carry_0 10 (.i2l) 1 ∧ De bdL_carry_0 11 (.lastore) 1 ∧ De bdL_carry_0 12 (.goto 11) 3 ∧ De bdL_carry_0 15 (.astore 5) 2 ∧ De bdL_carry_0 17 (.iconst 1) 1 ∧ De bdL_carry_0 18 (.ireturn) 1 ∧ De bdL_carry_0 19 (.astore 5) 2 ∧ De bdL_carry_0 21 (.iconst 2) 1 ∧ De bdL_carry_0 22 (.ireturn) 1 := by decide +kernel
theorem dL_carry_0 : decode cL_carry 0 = .ok (.aload 4, 2) := dAt wdL_carry_0 adL_carry_0.1 rfl
theorem dL_carry_2 : decode cL_carry 2 = .ok (.iconst 0, 1) := dAt wdL_carry_0 adL_carry_0.2.1 rfl
theorem dL_carry_3 : decode cL_carry 3 = .ok (.aload_n 0, 1) := dAt wdL_carry_0 adL_carry_0.2.2.1 rfl
theorem dL_carry_4 : decode cL_carry 4 = .ok (.iload_n 1, 1) := dAt wdL_carry_0 adL_carry_0.2.2.2.1 rfl
theorem dL_carry_5 : decode cL_carry 5 = .ok (.iload_n 2, 1) := dAt wdL_carry_0 adL_carry_0.2.2.2.2.1 rfl
theorem dL_carry_6 : decode cL_carry 6 = .ok (.iload_n 3, 1) := dAt wdL_carry_0 adL_carry_0.2.2.2.2.2.1 rfl
theorem dL_carry_7 : decode cL_carry 7 = .ok (.invokevirtual 103, 3) := dAt wdL_carry_0 adL_carry_0.2.2.2.2.2.2.1 rfl
theorem dL_carry_10 : decode cL_carry 10 = .ok (.i2l, 1) := dAt wdL_carry_0 adL_carry_0.2.2.2.2.2.2.2.1 rfl
theorem dL_carry_11 : decode cL_carry 11 = .ok (.lastore, 1) := dAt wdL_carry_0 adL_carry_0.2.2.2.2.2.2.2.2.1 rfl
theorem dL_carry_12 : decode cL_carry 12 = .ok (.goto 11, 3) := dAt wdL_carry_0 adL_carry_0.2.2.2.2.2.2.2.2.2.1 rfl
theorem dL_carry_15 : decode cL_carry 15 = .ok (.astore 5, 2) := dAt wdL_carry_0 adL_carry_0.2.2.2.2.2.2.2.2.2.2.1 rfl
theorem dL_carry_17 : decode cL_carry 17 = .ok (.iconst 1, 1) := dAt wdL_carry_0 adL_carry_0.2.2.2.2.2.2.2.2.2.2.2.1 rfl
theorem dL_carry_18 : decode cL_carry 18 = .ok (.ireturn, 1) := dAt wdL_carry_0 adL_carry_0.2.2.2.2.2.2.2.2.2.2.2.2.1 rfl
theorem dL_carry_19 : decode cL_carry 19 = .ok (.astore 5, 2) := dAt wdL_carry_0 adL_carry_0.2.2.2.2.2.2.2.2.2.2.2.2.2.1 rfl
theorem dL_carry_21 : decode cL_carry 21 = .ok (.iconst 2, 1) := dAt wdL_carry_0 adL_carry_0.2.2.2.2.2.2.2.2.2.2.2.2.2.2.1 rfl
theorem dL_carry_22 : decode cL_carry 22 = .ok (.ireturn, 1) := dAt wdL_carry_0 adL_carry_0.2.2.2.2.2.2.2.2.2.2.2.2.2.2.2 rfl
def bdL_carry_23 : ByteArray := .mk #[3, 172]
theorem wdL_carry_23 : LocW cL_carry 23 bdL_carry_23 := loc_of (by decide +kernel)
theorem adL_carry_23 : De bdL_carry_23 0 (.iconst 0) 1 ∧ De bdL_carry_23 1 (.ireturn) 1 := by decide +kernel
theorem dL_carry_23 : decode cL_carry 23 = .ok (.iconst 0, 1) := dAt wdL_carry_23 adL_carry_23.1 rfl
theorem dL_carry_24 : decode cL_carry 24 = .ok (.ireturn, 1) := dAt wdL_carry_23 adL_carry_23.2 rfl
def bdL_where_0 : ByteArray := .mk #[25, 4, 3, 42, 27, 28, 29, 182, 0, 106, 133, 80, 167, 0, 7, 58, 5, 4, 172, 3, 172]
theorem wdL_where_0 : LocW cL_where 0 bdL_where_0 := loc_of (by decide +kernel)
theorem adL_where_0 : De bdL_where_0 0 (.aload 4) 2 ∧ De bdL_where_0 2 (.iconst 0) 1 ∧ De bdL_where_0 3 (.aload_n 0) 1 ∧ De bdL_where_0 4 (.iload_n 1) 1 ∧ De bdL_where_0 5 (.iload_n 2) 1 ∧ De bdL_where_0 6 (.iload_n 3) 1 ∧ De bdL_where_0 7 (.invokevirtual 106) 3 ∧ De bdL_where_0 10 (.i2l) 1 ∧ De bdL_where_0 11 (.lastore) 1 ∧ De bdL_where_0 12 (.goto 7) 3 ∧ De bdL_where_0 15 (.astore 5) 2 ∧ De bdL_where_0 17 (.iconst 1) 1 ∧ De bdL_where_0 18 (.ireturn) 1 ∧ De bdL_where_0 19 (.iconst 0) 1 ∧ De bdL_where_0 20 (.ireturn) 1 := by decide +kernel
theorem dL_where_0 : decode cL_where 0 = .ok (.aload 4, 2) := dAt wdL_where_0 adL_where_0.1 rfl
theorem dL_where_2 : decode cL_where 2 = .ok (.iconst 0, 1) := dAt wdL_where_0 adL_where_0.2.1 rfl
theorem dL_where_3 : decode cL_where 3 = .ok (.aload_n 0, 1) := dAt wdL_where_0 adL_where_0.2.2.1 rfl
theorem dL_where_4 : decode cL_where 4 = .ok (.iload_n 1, 1) := dAt wdL_where_0 adL_where_0.2.2.2.1 rfl
theorem dL_where_5 : decode cL_where 5 = .ok (.iload_n 2, 1) := dAt wdL_where_0 adL_where_0.2.2.2.2.1 rfl
theorem dL_where_6 : decode cL_where 6 = .ok (.iload_n 3, 1) := dAt wdL_where_0 adL_where_0.2.2.2.2.2.1 rfl
theorem dL_where_7 : decode cL_where 7 = .ok (.invokevirtual 106, 3) := dAt wdL_where_0 adL_where_0.2.2.2.2.2.2.1 rfl
theorem dL_where_10 : decode cL_where 10 = .ok (.i2l, 1) := dAt wdL_where_0 adL_where_0.2.2.2.2.2.2.2.1 rfl
theorem dL_where_11 : decode cL_where 11 = .ok (.lastore, 1) := dAt wdL_where_0 adL_where_0.2.2.2.2.2.2.2.2.1 rfl
theorem dL_where_12 : decode cL_where 12 = .ok (.goto 7, 3) := dAt wdL_where_0 adL_where_0.2.2.2.2.2.2.2.2.2.1 rfl
theorem dL_where_15 : decode cL_where 15 = .ok (.astore 5, 2) := dAt wdL_where_0 adL_where_0.2.2.2.2.2.2.2.2.2.2.1 rfl
theorem dL_where_17 : decode cL_where 17 = .ok (.iconst 1, 1) := dAt wdL_where_0 adL_where_0.2.2.2.2.2.2.2.2.2.2.2.1 rfl
theorem dL_where_18 : decode cL_where 18 = .ok (.ireturn, 1) := dAt wdL_where_0 adL_where_0.2.2.2.2.2.2.2.2.2.2.2.2.1 rfl
theorem dL_where_19 : decode cL_where 19 = .ok (.iconst 0, 1) := dAt wdL_where_0 adL_where_0.2.2.2.2.2.2.2.2.2.2.2.2.2.1 rfl
theorem dL_where_20 : decode cL_where 20 = .ok (.ireturn, 1) := dAt wdL_where_0 adL_where_0.2.2.2.2.2.2.2.2.2.2.2.2.2.2 rfl
def bdL_page_0 : ByteArray := .mk #[42, 27, 28, 29, 182, 0, 109, 167, 0, 11, 58, 4, 4, 172, 58, 4, 5, 172, 3, 172]
theorem wdL_page_0 : LocW cL_page 0 bdL_page_0 := loc_of (by decide +kernel)
theorem adL_page_0 : De bdL_page_0 0 (.aload_n 0) 1 ∧ De bdL_page_0 1 (.iload_n 1) 1 ∧ De bdL_page_0 2 (.iload_n 2) 1 ∧ De bdL_page_0 3 (.iload_n 3) 1 ∧ De bdL_page_0 4 (.invokevirtual 109) 3 ∧ De bdL_page_0 7 (.goto 11) 3 ∧ De bdL_page_0 10 (.astore 4) 2 ∧ De bdL_page_0 12 (.iconst 1) 1 ∧ De bdL_page_0 13 (.ireturn) 1 ∧ De bdL_page_0 14 (.astore 4) 2 ∧ De bdL_page_0 16 (.iconst 2) 1 ∧ De bdL_page_0 17 (.ireturn) 1 ∧ De bdL_page_0 18 (.iconst 0) 1 ∧ De bdL_page_0 19 (.ireturn) 1 := by decide +kernel
theorem dL_page_0 : decode cL_page 0 = .ok (.aload_n 0, 1) := dAt wdL_page_0 adL_page_0.1 rfl
theorem dL_page_1 : decode cL_page 1 = .ok (.iload_n 1, 1) := dAt wdL_page_0 adL_page_0.2.1 rfl
theorem dL_page_2 : decode cL_page 2 = .ok (.iload_n 2, 1) := dAt wdL_page_0 adL_page_0.2.2.1 rfl
theorem dL_page_3 : decode cL_page 3 = .ok (.iload_n 3, 1) := dAt wdL_page_0 adL_page_0.2.2.2.1 rfl
theorem dL_page_4 : decode cL_page 4 = .ok (.invokevirtual 109, 3) := dAt wdL_page_0 adL_page_0.2.2.2.2.1 rfl
theorem dL_page_7 : decode cL_page 7 = .ok (.goto 11, 3) := dAt wdL_page_0 adL_page_0.2.2.2.2.2.1 rfl
theorem dL_page_10 : decode cL_page 10 = .ok (.astore 4, 2) := dAt wdL_page_0 adL_page_0.2.2.2.2.2.2.1 rfl
theorem dL_page_12 : decode cL_page 12 = .ok (.iconst 1, 1) := dAt wdL_page_0 adL_page_0.2.2.2.2.2.2.2.1 rfl
theorem dL_page_13 : decode cL_page 13 = .ok (.ireturn, 1) := dAt wdL_page_0 adL_page_0.2.2.2.2.2.2.2.2.1 rfl
theorem dL_page_14 : decode cL_page 14 = .ok (.astore 4, 2) := dAt wdL_page_0 adL_page_0.2.2.2.2.2.2.2.2.2.1 rfl
theorem dL_page_16 : decode cL_page 16 = .ok (.iconst 2, 1) := dAt wdL_page_0 adL_page_0.2.2.2.2.2.2.2.2.2.2.1 rfl
theorem dL_page_17 : decode cL_page 17 = .ok (.ireturn, 1) := dAt wdL_page_0 adL_page_0.2.2.2.2.2.2.2.2.2.2.2.1 rfl
theorem dL_page_18 : decode cL_page 18 = .ok (.iconst 0, 1) := dAt wdL_page_0 adL_page_0.2.2.2.2.2.2.2.2.2.2.2.2.1 rfl
theorem dL_page_19 : decode cL_page 19 = .ok (.ireturn, 1) := dAt wdL_page_0 adL_page_0.2.2.2.2.2.2.2.2.2.2.2.2.2 rfl
def bdL_fit_0 : ByteArray := .mk #[45, 3, 42, 27, 28, 182, 0, 112, 133, 80, 167, 0, 15, 58, 4, 4, 172, 58, 4, 5, 172, 58, 4]
theorem wdL_fit_0 : LocW cL_fit 0 bdL_fit_0 := loc_of (by decide +kernel)
theorem adL_fit_0 : De bdL_fit_0 0 (.aload_n 3) 1 ∧ De bdL_fit_0 1 (.iconst 0) 1 ∧ De bdL_fit_0 2 (.aload_n 0) 1 ∧ De bdL_fit_0 3 (.iload_n 1) 1 ∧ De bdL_fit_0 4 (.iload_n 2) 1 ∧ De bdL_fit_0 5 (.invokevirtual 112) 3 ∧ De bdL_fit_0 8 (.i2l) 1 ∧ De bdL_fit_0 9 (.lastore) 1 ∧ De bdL_fit_0 10 (.goto 15) 3 ∧ De bdL_fit_0 13 (.astore 4) 2 ∧ De bdL_fit_0 15 (.iconst 1) 1 ∧ De bdL_fit_0 16 (.ireturn) 1 ∧ De bdL_fit_0 17 (.astore 4) 2 ∧ De bdL_fit_0 19 (.iconst 2) 1 ∧ De bdL_fit_0 20 (.ireturn) 1 ∧ De bdL_fit_0 21 (.astore 4) 2 := by decide +kernel
theorem dL_fit_0 : decode cL_fit 0 = .ok (.aload_n 3, 1) := dAt wdL_fit_0 adL_fit_0.1 rfl
theorem dL_fit_1 : decode cL_fit 1 = .ok (.iconst 0, 1) := dAt wdL_fit_0 adL_fit_0.2.1 rfl
theorem dL_fit_2 : decode cL_fit 2 = .ok (.aload_n 0, 1) := dAt wdL_fit_0 adL_fit_0.2.2.1 rfl
theorem dL_fit_3 : decode cL_fit 3 = .ok (.iload_n 1, 1) := dAt wdL_fit_0 adL_fit_0.2.2.2.1 rfl
theorem dL_fit_4 : decode cL_fit 4 = .ok (.iload_n 2, 1) := dAt wdL_fit_0 adL_fit_0.2.2.2.2.1 rfl
theorem dL_fit_5 : decode cL_fit 5 = .ok (.invokevirtual 112, 3) := dAt wdL_fit_0 adL_fit_0.2.2.2.2.2.1 rfl
theorem dL_fit_8 : decode cL_fit 8 = .ok (.i2l, 1) := dAt wdL_fit_0 adL_fit_0.2.2.2.2.2.2.1 rfl
theorem dL_fit_9 : decode cL_fit 9 = .ok (.lastore, 1) := dAt wdL_fit_0 adL_fit_0.2.2.2.2.2.2.2.1 rfl
theorem dL_fit_10 : decode cL_fit 10 = .ok (.goto 15, 3) := dAt wdL_fit_0 adL_fit_0.2.2.2.2.2.2.2.2.1 rfl
theorem dL_fit_13 : decode cL_fit 13 = .ok (.astore 4, 2) := dAt wdL_fit_0 adL_fit_0.2.2.2.2.2.2.2.2.2.1 rfl
theorem dL_fit_15 : decode cL_fit 15 = .ok (.iconst 1, 1) := dAt wdL_fit_0 adL_fit_0.2.2.2.2.2.2.2.2.2.2.1 rfl
theorem dL_fit_16 : decode cL_fit 16 = .ok (.ireturn, 1) := dAt wdL_fit_0 adL_fit_0.2.2.2.2.2.2.2.2.2.2.2.1 rfl
theorem dL_fit_17 : decode cL_fit 17 = .ok (.astore 4, 2) := dAt wdL_fit_0 adL_fit_0.2.2.2.2.2.2.2.2.2.2.2.2.1 rfl
theorem dL_fit_19 : decode cL_fit 19 = .ok (.iconst 2, 1) := dAt wdL_fit_0 adL_fit_0.2.2.2.2.2.2.2.2.2.2.2.2.2.1 rfl
theorem dL_fit_20 : decode cL_fit 20 = .ok (.ireturn, 1) := dAt wdL_fit_0 adL_fit_0.2.2.2.2.2.2.2.2.2.2.2.2.2.2.1 rfl
theorem dL_fit_21 : decode cL_fit 21 = .ok (.astore 4, 2) := dAt wdL_fit_0 adL_fit_0.2.2.2.2.2.2.2.2.2.2.2.2.2.2.2 rfl
def bdL_fit_23 : ByteArray := .mk #[6, 172, 3, 172]
theorem wdL_fit_23 : LocW cL_fit 23 bdL_fit_23 := loc_of (by decide +kernel)
theorem adL_fit_23 : De bdL_fit_23 0 (.iconst 3) 1 ∧ De bdL_fit_23 1 (.ireturn) 1 ∧ De bdL_fit_23 2 (.iconst 0) 1 ∧ De bdL_fit_23 3 (.ireturn) 1 := by decide +kernel
theorem dL_fit_23 : decode cL_fit 23 = .ok (.iconst 3, 1) := dAt wdL_fit_23 adL_fit_23.1 rfl
theorem dL_fit_24 : decode cL_fit 24 = .ok (.ireturn, 1) := dAt wdL_fit_23 adL_fit_23.2.1 rfl
theorem dL_fit_25 : decode cL_fit 25 = .ok (.iconst 0, 1) := dAt wdL_fit_23 adL_fit_23.2.2.1 rfl
theorem dL_fit_26 : decode cL_fit 26 = .ok (.ireturn, 1) := dAt wdL_fit_23 adL_fit_23.2.2.2 rfl
def bdL_fits_0 : ByteArray := .mk #[25, 5, 3, 42, 27, 28, 29, 21, 4, 182, 0, 115, 133, 80, 167, 0, 15, 58, 6, 4, 172, 58, 6, 5]
theorem wdL_fits_0 : LocW cL_fits 0 bdL_fits_0 := loc_of (by decide +kernel)
theorem adL_fits_0 : De bdL_fits_0 0 (.aload 5) 2 ∧ De bdL_fits_0 2 (.iconst 0) 1 ∧ De bdL_fits_0 3 (.aload_n 0) 1 ∧ De bdL_fits_0 4 (.iload_n 1) 1 ∧ De bdL_fits_0 5 (.iload_n 2) 1 ∧ De bdL_fits_0 6 (.iload_n 3) 1 ∧ De bdL_fits_0 7 (.iload 4) 2 ∧ De bdL_fits_0 9 (.invokevirtual 115) 3 ∧ De bdL_fits_0 12 (.i2l) 1 ∧ De bdL_fits_0 13 (.lastore) 1 ∧ De bdL_fits_0 14 (.goto 15) 3 ∧ De bdL_fits_0 17 (.astore 6) 2 ∧ De bdL_fits_0 19 (.iconst 1) 1 ∧ De bdL_fits_0 20 (.ireturn) 1 ∧ De bdL_fits_0 21 (.astore 6) 2 ∧ De bdL_fits_0 23 (.iconst 2) 1 := by decide +kernel
theorem dL_fits_0 : decode cL_fits 0 = .ok (.aload 5, 2) := dAt wdL_fits_0 adL_fits_0.1 rfl
theorem dL_fits_2 : decode cL_fits 2 = .ok (.iconst 0, 1) := dAt wdL_fits_0 adL_fits_0.2.1 rfl
theorem dL_fits_3 : decode cL_fits 3 = .ok (.aload_n 0, 1) := dAt wdL_fits_0 adL_fits_0.2.2.1 rfl
theorem dL_fits_4 : decode cL_fits 4 = .ok (.iload_n 1, 1) := dAt wdL_fits_0 adL_fits_0.2.2.2.1 rfl
theorem dL_fits_5 : decode cL_fits 5 = .ok (.iload_n 2, 1) := dAt wdL_fits_0 adL_fits_0.2.2.2.2.1 rfl
theorem dL_fits_6 : decode cL_fits 6 = .ok (.iload_n 3, 1) := dAt wdL_fits_0 adL_fits_0.2.2.2.2.2.1 rfl
theorem dL_fits_7 : decode cL_fits 7 = .ok (.iload 4, 2) := dAt wdL_fits_0 adL_fits_0.2.2.2.2.2.2.1 rfl
theorem dL_fits_9 : decode cL_fits 9 = .ok (.invokevirtual 115, 3) := dAt wdL_fits_0 adL_fits_0.2.2.2.2.2.2.2.1 rfl
theorem dL_fits_12 : decode cL_fits 12 = .ok (.i2l, 1) := dAt wdL_fits_0 adL_fits_0.2.2.2.2.2.2.2.2.1 rfl
theorem dL_fits_13 : decode cL_fits 13 = .ok (.lastore, 1) := dAt wdL_fits_0 adL_fits_0.2.2.2.2.2.2.2.2.2.1 rfl
theorem dL_fits_14 : decode cL_fits 14 = .ok (.goto 15, 3) := dAt wdL_fits_0 adL_fits_0.2.2.2.2.2.2.2.2.2.2.1 rfl
theorem dL_fits_17 : decode cL_fits 17 = .ok (.astore 6, 2) := dAt wdL_fits_0 adL_fits_0.2.2.2.2.2.2.2.2.2.2.2.1 rfl
theorem dL_fits_19 : decode cL_fits 19 = .ok (.iconst 1, 1) := dAt wdL_fits_0 adL_fits_0.2.2.2.2.2.2.2.2.2.2.2.2.1 rfl
theorem dL_fits_20 : decode cL_fits 20 = .ok (.ireturn, 1) := dAt wdL_fits_0 adL_fits_0.2.2.2.2.2.2.2.2.2.2.2.2.2.1 rfl
theorem dL_fits_21 : decode cL_fits 21 = .ok (.astore 6, 2) := dAt wdL_fits_0 adL_fits_0.2.2.2.2.2.2.2.2.2.2.2.2.2.2.1 rfl
theorem dL_fits_23 : decode cL_fits 23 = .ok (.iconst 2, 1) := dAt wdL_fits_0 adL_fits_0.2.2.2.2.2.2.2.2.2.2.2.2.2.2.2 rfl
def bdL_fits_24 : ByteArray := .mk #[172, 58, 6, 6, 172, 3, 172]
theorem wdL_fits_24 : LocW cL_fits 24 bdL_fits_24 := loc_of (by decide +kernel)
theorem adL_fits_24 : De bdL_fits_24 0 (.ireturn) 1 ∧ De bdL_fits_24 1 (.astore 6) 2 ∧ De bdL_fits_24 3 (.iconst 3) 1 ∧ De bdL_fits_24 4 (.ireturn) 1 ∧ De bdL_fits_24 5 (.iconst 0) 1 ∧ De bdL_fits_24 6 (.ireturn) 1 := by decide +kernel
theorem dL_fits_24 : decode cL_fits 24 = .ok (.ireturn, 1) := dAt wdL_fits_24 adL_fits_24.1 rfl
theorem dL_fits_25 : decode cL_fits 25 = .ok (.astore 6, 2) := dAt wdL_fits_24 adL_fits_24.2.1 rfl
theorem dL_fits_27 : decode cL_fits 27 = .ok (.iconst 3, 1) := dAt wdL_fits_24 adL_fits_24.2.2.1 rfl
theorem dL_fits_28 : decode cL_fits 28 = .ok (.ireturn, 1) := dAt wdL_fits_24 adL_fits_24.2.2.2.1 rfl
theorem dL_fits_29 : decode cL_fits 29 = .ok (.iconst 0, 1) := dAt wdL_fits_24 adL_fits_24.2.2.2.2.1 rfl
theorem dL_fits_30 : decode cL_fits 30 = .ok (.ireturn, 1) := dAt wdL_fits_24 adL_fits_24.2.2.2.2.2 rfl
def bdL_lock_0 : ByteArray := .mk #[45, 3, 42, 27, 28, 182, 0, 119, 133, 80, 167, 0, 15, 58, 4, 4, 172, 58, 4, 5, 172, 58, 4]
theorem wdL_lock_0 : LocW cL_lock 0 bdL_lock_0 := loc_of (by decide +kernel)
theorem adL_lock_0 : De bdL_lock_0 0 (.aload_n 3) 1 ∧ De bdL_lock_0 1 (.iconst 0) 1 ∧ De bdL_lock_0 2 (.aload_n 0) 1 ∧ De bdL_lock_0 3 (.iload_n 1) 1 ∧ De bdL_lock_0 4 (.iload_n 2) 1 ∧ De bdL_lock_0 5 (.invokevirtual 119) 3 ∧ De bdL_lock_0 8 (.i2l) 1 ∧ De bdL_lock_0 9 (.lastore) 1 ∧ De bdL_lock_0 10 (.goto 15) 3 ∧ De bdL_lock_0 13 (.astore 4) 2 ∧ De bdL_lock_0 15 (.iconst 1) 1 ∧ De bdL_lock_0 16 (.ireturn) 1 ∧ De bdL_lock_0 17 (.astore 4) 2 ∧ De bdL_lock_0 19 (.iconst 2) 1 ∧ De bdL_lock_0 20 (.ireturn) 1 ∧ De bdL_lock_0 21 (.astore 4) 2 := by decide +kernel
theorem dL_lock_0 : decode cL_lock 0 = .ok (.aload_n 3, 1) := dAt wdL_lock_0 adL_lock_0.1 rfl
theorem dL_lock_1 : decode cL_lock 1 = .ok (.iconst 0, 1) := dAt wdL_lock_0 adL_lock_0.2.1 rfl
theorem dL_lock_2 : decode cL_lock 2 = .ok (.aload_n 0, 1) := dAt wdL_lock_0 adL_lock_0.2.2.1 rfl
theorem dL_lock_3 : decode cL_lock 3 = .ok (.iload_n 1, 1) := dAt wdL_lock_0 adL_lock_0.2.2.2.1 rfl
theorem dL_lock_4 : decode cL_lock 4 = .ok (.iload_n 2, 1) := dAt wdL_lock_0 adL_lock_0.2.2.2.2.1 rfl
theorem dL_lock_5 : decode cL_lock 5 = .ok (.invokevirtual 119, 3) := dAt wdL_lock_0 adL_lock_0.2.2.2.2.2.1 rfl
theorem dL_lock_8 : decode cL_lock 8 = .ok (.i2l, 1) := dAt wdL_lock_0 adL_lock_0.2.2.2.2.2.2.1 rfl
theorem dL_lock_9 : decode cL_lock 9 = .ok (.lastore, 1) := dAt wdL_lock_0 adL_lock_0.2.2.2.2.2.2.2.1 rfl
theorem dL_lock_10 : decode cL_lock 10 = .ok (.goto 15, 3) := dAt wdL_lock_0 adL_lock_0.2.2.2.2.2.2.2.2.1 rfl
theorem dL_lock_13 : decode cL_lock 13 = .ok (.astore 4, 2) := dAt wdL_lock_0 adL_lock_0.2.2.2.2.2.2.2.2.2.1 rfl
theorem dL_lock_15 : decode cL_lock 15 = .ok (.iconst 1, 1) := dAt wdL_lock_0 adL_lock_0.2.2.2.2.2.2.2.2.2.2.1 rfl
theorem dL_lock_16 : decode cL_lock 16 = .ok (.ireturn, 1) := dAt wdL_lock_0 adL_lock_0.2.2.2.2.2.2.2.2.2.2.2.1 rfl
theorem dL_lock_17 : decode cL_lock 17 = .ok (.astore 4, 2) := dAt wdL_lock_0 adL_lock_0.2.2.2.2.2.2.2.2.2.2.2.2.1 rfl
theorem dL_lock_19 : decode cL_lock 19 = .ok (.iconst 2, 1) := dAt wdL_lock_0 adL_lock_0.2.2.2.2.2.2.2.2.2.2.2.2.2.1 rfl
theorem dL_lock_20 : decode cL_lock 20 = .ok (.ireturn, 1) := dAt wdL_lock_0 adL_lock_0.2.2.2.2.2.2.2.2.2.2.2.2.2.2.1 rfl
theorem dL_lock_21 : decode cL_lock 21 = .ok (.astore 4, 2) := dAt wdL_lock_0 adL_lock_0.2.2.2.2.2.2.2.2.2.2.2.2.2.2.2 rfl
def bdL_lock_23 : ByteArray := .mk #[6, 172, 3, 172]
theorem wdL_lock_23 : LocW cL_lock 23 bdL_lock_23 := loc_of (by decide +kernel)
theorem adL_lock_23 : De bdL_lock_23 0 (.iconst 3) 1 ∧ De bdL_lock_23 1 (.ireturn) 1 ∧ De bdL_lock_23 2 (.iconst 0) 1 ∧ De bdL_lock_23 3 (.ireturn) 1 := by decide +kernel
theorem dL_lock_23 : decode cL_lock 23 = .ok (.iconst 3, 1) := dAt wdL_lock_23 adL_lock_23.1 rfl
theorem dL_lock_24 : decode cL_lock 24 = .ok (.ireturn, 1) := dAt wdL_lock_23 adL_lock_23.2.1 rfl
theorem dL_lock_25 : decode cL_lock 25 = .ok (.iconst 0, 1) := dAt wdL_lock_23 adL_lock_23.2.2.1 rfl
theorem dL_lock_26 : decode cL_lock 26 = .ok (.ireturn, 1) := dAt wdL_lock_23 adL_lock_23.2.2.2 rfl
def bdL_locked_0 : ByteArray := .mk #[45, 3, 42, 27, 28, 182, 0, 122, 133, 80, 167, 0, 11, 58, 4, 4, 172, 58, 4, 5, 172, 3]
theorem wdL_locked_0 : LocW cL_locked 0 bdL_locked_0 := loc_of (by decide +kernel)
theorem adL_locked_0 : De bdL_locked_0 0 (.aload_n 3) 1 ∧ De bdL_locked_0 1 (.iconst 0) 1 ∧ De bdL_locked_0 2 (.aload_n 0) 1 ∧ De bdL_locked_0 3 (.iload_n 1) 1 ∧ De bdL_locked_0 4 (.iload_n 2) 1 ∧ De bdL_locked_0 5 (.invokevirtual 122) 3 ∧ De bdL_locked_0 8 (.i2l) 1 ∧ De bdL_locked_0 9 (.lastore) 1 ∧ De bdL_locked_0 10 (.goto 11) 3 ∧ De bdL_locked_0 13 (.astore 4) 2 ∧ De bdL_locked_0 15 (.iconst 1) 1 ∧ De bdL_locked_0 16 (.ireturn) 1 ∧ De bdL_locked_0 17 (.astore 4) 2 ∧ De bdL_locked_0 19 (.iconst 2) 1 ∧ De bdL_locked_0 20 (.ireturn) 1 ∧ De bdL_locked_0 21 (.iconst 0) 1 := by decide +kernel
theorem dL_locked_0 : decode cL_locked 0 = .ok (.aload_n 3, 1) := dAt wdL_locked_0 adL_locked_0.1 rfl
theorem dL_locked_1 : decode cL_locked 1 = .ok (.iconst 0, 1) := dAt wdL_locked_0 adL_locked_0.2.1 rfl
theorem dL_locked_2 : decode cL_locked 2 = .ok (.aload_n 0, 1) := dAt wdL_locked_0 adL_locked_0.2.2.1 rfl
theorem dL_locked_3 : decode cL_locked 3 = .ok (.iload_n 1, 1) := dAt wdL_locked_0 adL_locked_0.2.2.2.1 rfl
theorem dL_locked_4 : decode cL_locked 4 = .ok (.iload_n 2, 1) := dAt wdL_locked_0 adL_locked_0.2.2.2.2.1 rfl
theorem dL_locked_5 : decode cL_locked 5 = .ok (.invokevirtual 122, 3) := dAt wdL_locked_0 adL_locked_0.2.2.2.2.2.1 rfl
theorem dL_locked_8 : decode cL_locked 8 = .ok (.i2l, 1) := dAt wdL_locked_0 adL_locked_0.2.2.2.2.2.2.1 rfl
theorem dL_locked_9 : decode cL_locked 9 = .ok (.lastore, 1) := dAt wdL_locked_0 adL_locked_0.2.2.2.2.2.2.2.1 rfl
theorem dL_locked_10 : decode cL_locked 10 = .ok (.goto 11, 3) := dAt wdL_locked_0 adL_locked_0.2.2.2.2.2.2.2.2.1 rfl
theorem dL_locked_13 : decode cL_locked 13 = .ok (.astore 4, 2) := dAt wdL_locked_0 adL_locked_0.2.2.2.2.2.2.2.2.2.1 rfl
theorem dL_locked_15 : decode cL_locked 15 = .ok (.iconst 1, 1) := dAt wdL_locked_0 adL_locked_0.2.2.2.2.2.2.2.2.2.2.1 rfl
theorem dL_locked_16 : decode cL_locked 16 = .ok (.ireturn, 1) := dAt wdL_locked_0 adL_locked_0.2.2.2.2.2.2.2.2.2.2.2.1 rfl
theorem dL_locked_17 : decode cL_locked 17 = .ok (.astore 4, 2) := dAt wdL_locked_0 adL_locked_0.2.2.2.2.2.2.2.2.2.2.2.2.1 rfl
theorem dL_locked_19 : decode cL_locked 19 = .ok (.iconst 2, 1) := dAt wdL_locked_0 adL_locked_0.2.2.2.2.2.2.2.2.2.2.2.2.2.1 rfl
theorem dL_locked_20 : decode cL_locked 20 = .ok (.ireturn, 1) := dAt wdL_locked_0 adL_locked_0.2.2.2.2.2.2.2.2.2.2.2.2.2.2.1 rfl
theorem dL_locked_21 : decode cL_locked 21 = .ok (.iconst 0, 1) := dAt wdL_locked_0 adL_locked_0.2.2.2.2.2.2.2.2.2.2.2.2.2.2.2 rfl
def bdL_locked_22 : ByteArray := .mk #[172]
theorem wdL_locked_22 : LocW cL_locked 22 bdL_locked_22 := loc_of (by decide +kernel)
theorem adL_locked_22 : De bdL_locked_22 0 (.ireturn) 1 := by decide +kernel
theorem dL_locked_22 : decode cL_locked 22 = .ok (.ireturn, 1) := dAt wdL_locked_22 adL_locked_22 rfl
def bdL_stands_0 : ByteArray := .mk #[25, 4, 3, 42, 27, 28, 29, 182, 0, 125, 133, 80, 167, 0, 7, 58, 5, 4, 172, 3, 172]
theorem wdL_stands_0 : LocW cL_stands 0 bdL_stands_0 := loc_of (by decide +kernel)
theorem adL_stands_0 : De bdL_stands_0 0 (.aload 4) 2 ∧ De bdL_stands_0 2 (.iconst 0) 1 ∧ De bdL_stands_0 3 (.aload_n 0) 1 ∧ De bdL_stands_0 4 (.iload_n 1) 1 ∧ De bdL_stands_0 5 (.iload_n 2) 1 ∧ De bdL_stands_0 6 (.iload_n 3) 1 ∧ De bdL_stands_0 7 (.invokevirtual 125) 3 ∧ De bdL_stands_0 10 (.i2l) 1 ∧ De bdL_stands_0 11 (.lastore) 1 ∧ De bdL_stands_0 12 (.goto 7) 3 ∧ De bdL_stands_0 15 (.astore 5) 2 ∧ De bdL_stands_0 17 (.iconst 1) 1 ∧ De bdL_stands_0 18 (.ireturn) 1 ∧ De bdL_stands_0 19 (.iconst 0) 1 ∧ De bdL_stands_0 20 (.ireturn) 1 := by decide +kernel
theorem dL_stands_0 : decode cL_stands 0 = .ok (.aload 4, 2) := dAt wdL_stands_0 adL_stands_0.1 rfl
theorem dL_stands_2 : decode cL_stands 2 = .ok (.iconst 0, 1) := dAt wdL_stands_0 adL_stands_0.2.1 rfl
theorem dL_stands_3 : decode cL_stands 3 = .ok (.aload_n 0, 1) := dAt wdL_stands_0 adL_stands_0.2.2.1 rfl
theorem dL_stands_4 : decode cL_stands 4 = .ok (.iload_n 1, 1) := dAt wdL_stands_0 adL_stands_0.2.2.2.1 rfl
theorem dL_stands_5 : decode cL_stands 5 = .ok (.iload_n 2, 1) := dAt wdL_stands_0 adL_stands_0.2.2.2.2.1 rfl
theorem dL_stands_6 : decode cL_stands 6 = .ok (.iload_n 3, 1) := dAt wdL_stands_0 adL_stands_0.2.2.2.2.2.1 rfl
theorem dL_stands_7 : decode cL_stands 7 = .ok (.invokevirtual 125, 3) := dAt wdL_stands_0 adL_stands_0.2.2.2.2.2.2.1 rfl
theorem dL_stands_10 : decode cL_stands 10 = .ok (.i2l, 1) := dAt wdL_stands_0 adL_stands_0.2.2.2.2.2.2.2.1 rfl
theorem dL_stands_11 : decode cL_stands 11 = .ok (.lastore, 1) := dAt wdL_stands_0 adL_stands_0.2.2.2.2.2.2.2.2.1 rfl
theorem dL_stands_12 : decode cL_stands 12 = .ok (.goto 7, 3) := dAt wdL_stands_0 adL_stands_0.2.2.2.2.2.2.2.2.2.1 rfl
theorem dL_stands_15 : decode cL_stands 15 = .ok (.astore 5, 2) := dAt wdL_stands_0 adL_stands_0.2.2.2.2.2.2.2.2.2.2.1 rfl
theorem dL_stands_17 : decode cL_stands 17 = .ok (.iconst 1, 1) := dAt wdL_stands_0 adL_stands_0.2.2.2.2.2.2.2.2.2.2.2.1 rfl
theorem dL_stands_18 : decode cL_stands 18 = .ok (.ireturn, 1) := dAt wdL_stands_0 adL_stands_0.2.2.2.2.2.2.2.2.2.2.2.2.1 rfl
theorem dL_stands_19 : decode cL_stands 19 = .ok (.iconst 0, 1) := dAt wdL_stands_0 adL_stands_0.2.2.2.2.2.2.2.2.2.2.2.2.2.1 rfl
theorem dL_stands_20 : decode cL_stands 20 = .ok (.ireturn, 1) := dAt wdL_stands_0 adL_stands_0.2.2.2.2.2.2.2.2.2.2.2.2.2.2 rfl
def bdL_edition_0 : ByteArray := .mk #[43, 3, 42, 182, 0, 128, 133, 80, 167, 0, 6, 77, 4, 172, 3, 172]
theorem wdL_edition_0 : LocW cL_edition 0 bdL_edition_0 := loc_of (by decide +kernel)
theorem adL_edition_0 : De bdL_edition_0 0 (.aload_n 1) 1 ∧ De bdL_edition_0 1 (.iconst 0) 1 ∧ De bdL_edition_0 2 (.aload_n 0) 1 ∧ De bdL_edition_0 3 (.invokevirtual 128) 3 ∧ De bdL_edition_0 6 (.i2l) 1 ∧ De bdL_edition_0 7 (.lastore) 1 ∧ De bdL_edition_0 8 (.goto 6) 3 ∧ De bdL_edition_0 11 (.astore_n 2) 1 ∧ De bdL_edition_0 12 (.iconst 1) 1 ∧ De bdL_edition_0 13 (.ireturn) 1 ∧ De bdL_edition_0 14 (.iconst 0) 1 ∧ De bdL_edition_0 15 (.ireturn) 1 := by decide +kernel
theorem dL_edition_0 : decode cL_edition 0 = .ok (.aload_n 1, 1) := dAt wdL_edition_0 adL_edition_0.1 rfl
theorem dL_edition_1 : decode cL_edition 1 = .ok (.iconst 0, 1) := dAt wdL_edition_0 adL_edition_0.2.1 rfl
theorem dL_edition_2 : decode cL_edition 2 = .ok (.aload_n 0, 1) := dAt wdL_edition_0 adL_edition_0.2.2.1 rfl
theorem dL_edition_3 : decode cL_edition 3 = .ok (.invokevirtual 128, 3) := dAt wdL_edition_0 adL_edition_0.2.2.2.1 rfl
theorem dL_edition_6 : decode cL_edition 6 = .ok (.i2l, 1) := dAt wdL_edition_0 adL_edition_0.2.2.2.2.1 rfl
theorem dL_edition_7 : decode cL_edition 7 = .ok (.lastore, 1) := dAt wdL_edition_0 adL_edition_0.2.2.2.2.2.1 rfl
theorem dL_edition_8 : decode cL_edition 8 = .ok (.goto 6, 3) := dAt wdL_edition_0 adL_edition_0.2.2.2.2.2.2.1 rfl
theorem dL_edition_11 : decode cL_edition 11 = .ok (.astore_n 2, 1) := dAt wdL_edition_0 adL_edition_0.2.2.2.2.2.2.2.1 rfl
theorem dL_edition_12 : decode cL_edition 12 = .ok (.iconst 1, 1) := dAt wdL_edition_0 adL_edition_0.2.2.2.2.2.2.2.2.1 rfl
theorem dL_edition_13 : decode cL_edition 13 = .ok (.ireturn, 1) := dAt wdL_edition_0 adL_edition_0.2.2.2.2.2.2.2.2.2.1 rfl
theorem dL_edition_14 : decode cL_edition 14 = .ok (.iconst 0, 1) := dAt wdL_edition_0 adL_edition_0.2.2.2.2.2.2.2.2.2.2.1 rfl
theorem dL_edition_15 : decode cL_edition 15 = .ok (.ireturn, 1) := dAt wdL_edition_0 adL_edition_0.2.2.2.2.2.2.2.2.2.2.2 rfl
def bdL_changed_0 : ByteArray := .mk #[25, 4, 3, 42, 27, 28, 29, 182, 0, 132, 133, 80, 167, 0, 7, 58, 5, 4, 172, 3, 172]
theorem wdL_changed_0 : LocW cL_changed 0 bdL_changed_0 := loc_of (by decide +kernel)
theorem adL_changed_0 : De bdL_changed_0 0 (.aload 4) 2 ∧ De bdL_changed_0 2 (.iconst 0) 1 ∧ De bdL_changed_0 3 (.aload_n 0) 1 ∧ De bdL_changed_0 4 (.iload_n 1) 1 ∧ De bdL_changed_0 5 (.iload_n 2) 1 ∧ De bdL_changed_0 6 (.iload_n 3) 1 ∧ De bdL_changed_0 7 (.invokevirtual 132) 3 ∧ De bdL_changed_0 10 (.i2l) 1 ∧ De bdL_changed_0 11 (.lastore) 1 ∧ De bdL_changed_0 12 (.goto 7) 3 ∧ De bdL_changed_0 15 (.astore 5) 2 ∧ De bdL_changed_0 17 (.iconst 1) 1 ∧ De bdL_changed_0 18 (.ireturn) 1 ∧ De bdL_changed_0 19 (.iconst 0) 1 ∧ De bdL_changed_0 20 (.ireturn) 1 := by decide +kernel
theorem dL_changed_0 : decode cL_changed 0 = .ok (.aload 4, 2) := dAt wdL_changed_0 adL_changed_0.1 rfl
theorem dL_changed_2 : decode cL_changed 2 = .ok (.iconst 0, 1) := dAt wdL_changed_0 adL_changed_0.2.1 rfl
theorem dL_changed_3 : decode cL_changed 3 = .ok (.aload_n 0, 1) := dAt wdL_changed_0 adL_changed_0.2.2.1 rfl
theorem dL_changed_4 : decode cL_changed 4 = .ok (.iload_n 1, 1) := dAt wdL_changed_0 adL_changed_0.2.2.2.1 rfl
theorem dL_changed_5 : decode cL_changed 5 = .ok (.iload_n 2, 1) := dAt wdL_changed_0 adL_changed_0.2.2.2.2.1 rfl
theorem dL_changed_6 : decode cL_changed 6 = .ok (.iload_n 3, 1) := dAt wdL_changed_0 adL_changed_0.2.2.2.2.2.1 rfl
theorem dL_changed_7 : decode cL_changed 7 = .ok (.invokevirtual 132, 3) := dAt wdL_changed_0 adL_changed_0.2.2.2.2.2.2.1 rfl
theorem dL_changed_10 : decode cL_changed 10 = .ok (.i2l, 1) := dAt wdL_changed_0 adL_changed_0.2.2.2.2.2.2.2.1 rfl
theorem dL_changed_11 : decode cL_changed 11 = .ok (.lastore, 1) := dAt wdL_changed_0 adL_changed_0.2.2.2.2.2.2.2.2.1 rfl
theorem dL_changed_12 : decode cL_changed 12 = .ok (.goto 7, 3) := dAt wdL_changed_0 adL_changed_0.2.2.2.2.2.2.2.2.2.1 rfl
theorem dL_changed_15 : decode cL_changed 15 = .ok (.astore 5, 2) := dAt wdL_changed_0 adL_changed_0.2.2.2.2.2.2.2.2.2.2.1 rfl
theorem dL_changed_17 : decode cL_changed 17 = .ok (.iconst 1, 1) := dAt wdL_changed_0 adL_changed_0.2.2.2.2.2.2.2.2.2.2.2.1 rfl
theorem dL_changed_18 : decode cL_changed 18 = .ok (.ireturn, 1) := dAt wdL_changed_0 adL_changed_0.2.2.2.2.2.2.2.2.2.2.2.2.1 rfl
theorem dL_changed_19 : decode cL_changed 19 = .ok (.iconst 0, 1) := dAt wdL_changed_0 adL_changed_0.2.2.2.2.2.2.2.2.2.2.2.2.2.1 rfl
theorem dL_changed_20 : decode cL_changed 20 = .ok (.ireturn, 1) := dAt wdL_changed_0 adL_changed_0.2.2.2.2.2.2.2.2.2.2.2.2.2.2 rfl
def bdL_ahead_0 : ByteArray := .mk #[44, 3, 42, 27, 182, 0, 135, 133, 80, 167, 0, 6, 78, 4, 172, 3, 172]
theorem wdL_ahead_0 : LocW cL_ahead 0 bdL_ahead_0 := loc_of (by decide +kernel)
theorem adL_ahead_0 : De bdL_ahead_0 0 (.aload_n 2) 1 ∧ De bdL_ahead_0 1 (.iconst 0) 1 ∧ De bdL_ahead_0 2 (.aload_n 0) 1 ∧ De bdL_ahead_0 3 (.iload_n 1) 1 ∧ De bdL_ahead_0 4 (.invokevirtual 135) 3 ∧ De bdL_ahead_0 7 (.i2l) 1 ∧ De bdL_ahead_0 8 (.lastore) 1 ∧ De bdL_ahead_0 9 (.goto 6) 3 ∧ De bdL_ahead_0 12 (.astore_n 3) 1 ∧ De bdL_ahead_0 13 (.iconst 1) 1 ∧ De bdL_ahead_0 14 (.ireturn) 1 ∧ De bdL_ahead_0 15 (.iconst 0) 1 ∧ De bdL_ahead_0 16 (.ireturn) 1 := by decide +kernel
theorem dL_ahead_0 : decode cL_ahead 0 = .ok (.aload_n 2, 1) := dAt wdL_ahead_0 adL_ahead_0.1 rfl
theorem dL_ahead_1 : decode cL_ahead 1 = .ok (.iconst 0, 1) := dAt wdL_ahead_0 adL_ahead_0.2.1 rfl
theorem dL_ahead_2 : decode cL_ahead 2 = .ok (.aload_n 0, 1) := dAt wdL_ahead_0 adL_ahead_0.2.2.1 rfl
theorem dL_ahead_3 : decode cL_ahead 3 = .ok (.iload_n 1, 1) := dAt wdL_ahead_0 adL_ahead_0.2.2.2.1 rfl
theorem dL_ahead_4 : decode cL_ahead 4 = .ok (.invokevirtual 135, 3) := dAt wdL_ahead_0 adL_ahead_0.2.2.2.2.1 rfl
theorem dL_ahead_7 : decode cL_ahead 7 = .ok (.i2l, 1) := dAt wdL_ahead_0 adL_ahead_0.2.2.2.2.2.1 rfl
theorem dL_ahead_8 : decode cL_ahead 8 = .ok (.lastore, 1) := dAt wdL_ahead_0 adL_ahead_0.2.2.2.2.2.2.1 rfl
theorem dL_ahead_9 : decode cL_ahead 9 = .ok (.goto 6, 3) := dAt wdL_ahead_0 adL_ahead_0.2.2.2.2.2.2.2.1 rfl
theorem dL_ahead_12 : decode cL_ahead 12 = .ok (.astore_n 3, 1) := dAt wdL_ahead_0 adL_ahead_0.2.2.2.2.2.2.2.2.1 rfl
theorem dL_ahead_13 : decode cL_ahead 13 = .ok (.iconst 1, 1) := dAt wdL_ahead_0 adL_ahead_0.2.2.2.2.2.2.2.2.2.1 rfl
theorem dL_ahead_14 : decode cL_ahead 14 = .ok (.ireturn, 1) := dAt wdL_ahead_0 adL_ahead_0.2.2.2.2.2.2.2.2.2.2.1 rfl
theorem dL_ahead_15 : decode cL_ahead 15 = .ok (.iconst 0, 1) := dAt wdL_ahead_0 adL_ahead_0.2.2.2.2.2.2.2.2.2.2.2.1 rfl
theorem dL_ahead_16 : decode cL_ahead 16 = .ok (.ireturn, 1) := dAt wdL_ahead_0 adL_ahead_0.2.2.2.2.2.2.2.2.2.2.2.2 rfl
def bdL_pay_0 : ByteArray := .mk #[25, 4, 3, 42, 27, 28, 29, 182, 0, 138, 133, 80, 167, 0, 7, 58, 5, 4, 172, 3, 172]
theorem wdL_pay_0 : LocW cL_pay 0 bdL_pay_0 := loc_of (by decide +kernel)
theorem adL_pay_0 : De bdL_pay_0 0 (.aload 4) 2 ∧ De bdL_pay_0 2 (.iconst 0) 1 ∧ De bdL_pay_0 3 (.aload_n 0) 1 ∧ De bdL_pay_0 4 (.iload_n 1) 1 ∧ De bdL_pay_0 5 (.iload_n 2) 1 ∧ De bdL_pay_0 6 (.iload_n 3) 1 ∧ De bdL_pay_0 7 (.invokevirtual 138) 3 ∧ De bdL_pay_0 10 (.i2l) 1 ∧ De bdL_pay_0 11 (.lastore) 1 ∧ De bdL_pay_0 12 (.goto 7) 3 ∧ De bdL_pay_0 15 (.astore 5) 2 ∧ De bdL_pay_0 17 (.iconst 1) 1 ∧ De bdL_pay_0 18 (.ireturn) 1 ∧ De bdL_pay_0 19 (.iconst 0) 1 ∧ De bdL_pay_0 20 (.ireturn) 1 := by decide +kernel
theorem dL_pay_0 : decode cL_pay 0 = .ok (.aload 4, 2) := dAt wdL_pay_0 adL_pay_0.1 rfl
theorem dL_pay_2 : decode cL_pay 2 = .ok (.iconst 0, 1) := dAt wdL_pay_0 adL_pay_0.2.1 rfl
theorem dL_pay_3 : decode cL_pay 3 = .ok (.aload_n 0, 1) := dAt wdL_pay_0 adL_pay_0.2.2.1 rfl
theorem dL_pay_4 : decode cL_pay 4 = .ok (.iload_n 1, 1) := dAt wdL_pay_0 adL_pay_0.2.2.2.1 rfl
theorem dL_pay_5 : decode cL_pay 5 = .ok (.iload_n 2, 1) := dAt wdL_pay_0 adL_pay_0.2.2.2.2.1 rfl
theorem dL_pay_6 : decode cL_pay 6 = .ok (.iload_n 3, 1) := dAt wdL_pay_0 adL_pay_0.2.2.2.2.2.1 rfl
theorem dL_pay_7 : decode cL_pay 7 = .ok (.invokevirtual 138, 3) := dAt wdL_pay_0 adL_pay_0.2.2.2.2.2.2.1 rfl
theorem dL_pay_10 : decode cL_pay 10 = .ok (.i2l, 1) := dAt wdL_pay_0 adL_pay_0.2.2.2.2.2.2.2.1 rfl
theorem dL_pay_11 : decode cL_pay 11 = .ok (.lastore, 1) := dAt wdL_pay_0 adL_pay_0.2.2.2.2.2.2.2.2.1 rfl
theorem dL_pay_12 : decode cL_pay 12 = .ok (.goto 7, 3) := dAt wdL_pay_0 adL_pay_0.2.2.2.2.2.2.2.2.2.1 rfl
theorem dL_pay_15 : decode cL_pay 15 = .ok (.astore 5, 2) := dAt wdL_pay_0 adL_pay_0.2.2.2.2.2.2.2.2.2.2.1 rfl
theorem dL_pay_17 : decode cL_pay 17 = .ok (.iconst 1, 1) := dAt wdL_pay_0 adL_pay_0.2.2.2.2.2.2.2.2.2.2.2.1 rfl
theorem dL_pay_18 : decode cL_pay 18 = .ok (.ireturn, 1) := dAt wdL_pay_0 adL_pay_0.2.2.2.2.2.2.2.2.2.2.2.2.1 rfl
theorem dL_pay_19 : decode cL_pay 19 = .ok (.iconst 0, 1) := dAt wdL_pay_0 adL_pay_0.2.2.2.2.2.2.2.2.2.2.2.2.2.1 rfl
theorem dL_pay_20 : decode cL_pay 20 = .ok (.ireturn, 1) := dAt wdL_pay_0 adL_pay_0.2.2.2.2.2.2.2.2.2.2.2.2.2.2 rfl
def bdL_row_0 : ByteArray := .mk #[45, 3, 42, 27, 28, 182, 0, 141, 133, 80, 167, 0, 7, 58, 4, 4, 172, 3, 172]
theorem wdL_row_0 : LocW cL_row 0 bdL_row_0 := loc_of (by decide +kernel)
theorem adL_row_0 : De bdL_row_0 0 (.aload_n 3) 1 ∧ De bdL_row_0 1 (.iconst 0) 1 ∧ De bdL_row_0 2 (.aload_n 0) 1 ∧ De bdL_row_0 3 (.iload_n 1) 1 ∧ De bdL_row_0 4 (.iload_n 2) 1 ∧ De bdL_row_0 5 (.invokevirtual 141) 3 ∧ De bdL_row_0 8 (.i2l) 1 ∧ De bdL_row_0 9 (.lastore) 1 ∧ De bdL_row_0 10 (.goto 7) 3 ∧ De bdL_row_0 13 (.astore 4) 2 ∧ De bdL_row_0 15 (.iconst 1) 1 ∧ De bdL_row_0 16 (.ireturn) 1 ∧ De bdL_row_0 17 (.iconst 0) 1 ∧ De bdL_row_0 18 (.ireturn) 1 := by decide +kernel
theorem dL_row_0 : decode cL_row 0 = .ok (.aload_n 3, 1) := dAt wdL_row_0 adL_row_0.1 rfl
theorem dL_row_1 : decode cL_row 1 = .ok (.iconst 0, 1) := dAt wdL_row_0 adL_row_0.2.1 rfl
theorem dL_row_2 : decode cL_row 2 = .ok (.aload_n 0, 1) := dAt wdL_row_0 adL_row_0.2.2.1 rfl
theorem dL_row_3 : decode cL_row 3 = .ok (.iload_n 1, 1) := dAt wdL_row_0 adL_row_0.2.2.2.1 rfl
theorem dL_row_4 : decode cL_row 4 = .ok (.iload_n 2, 1) := dAt wdL_row_0 adL_row_0.2.2.2.2.1 rfl
theorem dL_row_5 : decode cL_row 5 = .ok (.invokevirtual 141, 3) := dAt wdL_row_0 adL_row_0.2.2.2.2.2.1 rfl
theorem dL_row_8 : decode cL_row 8 = .ok (.i2l, 1) := dAt wdL_row_0 adL_row_0.2.2.2.2.2.2.1 rfl
theorem dL_row_9 : decode cL_row 9 = .ok (.lastore, 1) := dAt wdL_row_0 adL_row_0.2.2.2.2.2.2.2.1 rfl
theorem dL_row_10 : decode cL_row 10 = .ok (.goto 7, 3) := dAt wdL_row_0 adL_row_0.2.2.2.2.2.2.2.2.1 rfl
theorem dL_row_13 : decode cL_row 13 = .ok (.astore 4, 2) := dAt wdL_row_0 adL_row_0.2.2.2.2.2.2.2.2.2.1 rfl
theorem dL_row_15 : decode cL_row 15 = .ok (.iconst 1, 1) := dAt wdL_row_0 adL_row_0.2.2.2.2.2.2.2.2.2.2.1 rfl
theorem dL_row_16 : decode cL_row 16 = .ok (.ireturn, 1) := dAt wdL_row_0 adL_row_0.2.2.2.2.2.2.2.2.2.2.2.1 rfl
theorem dL_row_17 : decode cL_row 17 = .ok (.iconst 0, 1) := dAt wdL_row_0 adL_row_0.2.2.2.2.2.2.2.2.2.2.2.2.1 rfl
theorem dL_row_18 : decode cL_row 18 = .ok (.ireturn, 1) := dAt wdL_row_0 adL_row_0.2.2.2.2.2.2.2.2.2.2.2.2.2 rfl
def bdL_tear_0 : ByteArray := .mk #[25, 4, 3, 42, 27, 28, 29, 182, 0, 144, 133, 80, 167, 0, 7, 58, 5, 4, 172, 3, 172]
theorem wdL_tear_0 : LocW cL_tear 0 bdL_tear_0 := loc_of (by decide +kernel)
theorem adL_tear_0 : De bdL_tear_0 0 (.aload 4) 2 ∧ De bdL_tear_0 2 (.iconst 0) 1 ∧ De bdL_tear_0 3 (.aload_n 0) 1 ∧ De bdL_tear_0 4 (.iload_n 1) 1 ∧ De bdL_tear_0 5 (.iload_n 2) 1 ∧ De bdL_tear_0 6 (.iload_n 3) 1 ∧ De bdL_tear_0 7 (.invokevirtual 144) 3 ∧ De bdL_tear_0 10 (.i2l) 1 ∧ De bdL_tear_0 11 (.lastore) 1 ∧ De bdL_tear_0 12 (.goto 7) 3 ∧ De bdL_tear_0 15 (.astore 5) 2 ∧ De bdL_tear_0 17 (.iconst 1) 1 ∧ De bdL_tear_0 18 (.ireturn) 1 ∧ De bdL_tear_0 19 (.iconst 0) 1 ∧ De bdL_tear_0 20 (.ireturn) 1 := by decide +kernel
theorem dL_tear_0 : decode cL_tear 0 = .ok (.aload 4, 2) := dAt wdL_tear_0 adL_tear_0.1 rfl
theorem dL_tear_2 : decode cL_tear 2 = .ok (.iconst 0, 1) := dAt wdL_tear_0 adL_tear_0.2.1 rfl
theorem dL_tear_3 : decode cL_tear 3 = .ok (.aload_n 0, 1) := dAt wdL_tear_0 adL_tear_0.2.2.1 rfl
theorem dL_tear_4 : decode cL_tear 4 = .ok (.iload_n 1, 1) := dAt wdL_tear_0 adL_tear_0.2.2.2.1 rfl
theorem dL_tear_5 : decode cL_tear 5 = .ok (.iload_n 2, 1) := dAt wdL_tear_0 adL_tear_0.2.2.2.2.1 rfl
theorem dL_tear_6 : decode cL_tear 6 = .ok (.iload_n 3, 1) := dAt wdL_tear_0 adL_tear_0.2.2.2.2.2.1 rfl
theorem dL_tear_7 : decode cL_tear 7 = .ok (.invokevirtual 144, 3) := dAt wdL_tear_0 adL_tear_0.2.2.2.2.2.2.1 rfl
theorem dL_tear_10 : decode cL_tear 10 = .ok (.i2l, 1) := dAt wdL_tear_0 adL_tear_0.2.2.2.2.2.2.2.1 rfl
theorem dL_tear_11 : decode cL_tear 11 = .ok (.lastore, 1) := dAt wdL_tear_0 adL_tear_0.2.2.2.2.2.2.2.2.1 rfl
theorem dL_tear_12 : decode cL_tear 12 = .ok (.goto 7, 3) := dAt wdL_tear_0 adL_tear_0.2.2.2.2.2.2.2.2.2.1 rfl
theorem dL_tear_15 : decode cL_tear 15 = .ok (.astore 5, 2) := dAt wdL_tear_0 adL_tear_0.2.2.2.2.2.2.2.2.2.2.1 rfl
theorem dL_tear_17 : decode cL_tear 17 = .ok (.iconst 1, 1) := dAt wdL_tear_0 adL_tear_0.2.2.2.2.2.2.2.2.2.2.2.1 rfl
theorem dL_tear_18 : decode cL_tear 18 = .ok (.ireturn, 1) := dAt wdL_tear_0 adL_tear_0.2.2.2.2.2.2.2.2.2.2.2.2.1 rfl
theorem dL_tear_19 : decode cL_tear 19 = .ok (.iconst 0, 1) := dAt wdL_tear_0 adL_tear_0.2.2.2.2.2.2.2.2.2.2.2.2.2.1 rfl
theorem dL_tear_20 : decode cL_tear 20 = .ok (.ireturn, 1) := dAt wdL_tear_0 adL_tear_0.2.2.2.2.2.2.2.2.2.2.2.2.2.2 rfl
def bdL_law_0 : ByteArray := .mk #[187, 0, 8, 89, 183, 0, 147, 76, 187, 0, 148, 89, 183, 0, 150, 77, 4, 188, 11, 78, 3, 54, 4, 21, 4, 42, 190]
theorem wdL_law_0 : LocW cL_law 0 bdL_law_0 := loc_of (by decide +kernel)
theorem adL_law_0 : De bdL_law_0 0 (.new 8) 3 ∧ De bdL_law_0 3 (.dup) 1 ∧ De bdL_law_0 4 (.invokespecial 147) 3 ∧ De bdL_law_0 7 (.astore_n 1) 1 ∧ De bdL_law_0 8 (.new 148) 3 ∧ De bdL_law_0 11 (.dup) 1 ∧ De bdL_law_0 12 (.invokespecial 150) 3 ∧ De bdL_law_0 15 (.astore_n 2) 1 ∧ De bdL_law_0 16 (.iconst 1) 1 ∧ De bdL_law_0 17 (.newarray .long) 2 ∧ De bdL_law_0 19 (.astore_n 3) 1 ∧ De bdL_law_0 20 (.iconst 0) 1 ∧ De bdL_law_0 21 (.istore 4) 2 ∧ De bdL_law_0 23 (.iload 4) 2 ∧ De bdL_law_0 25 (.aload_n 0) 1 ∧ De bdL_law_0 26 (.arraylength) 1 := by decide +kernel
theorem dL_law_0 : decode cL_law 0 = .ok (.new 8, 3) := dAt wdL_law_0 adL_law_0.1 rfl
theorem dL_law_3 : decode cL_law 3 = .ok (.dup, 1) := dAt wdL_law_0 adL_law_0.2.1 rfl
theorem dL_law_4 : decode cL_law 4 = .ok (.invokespecial 147, 3) := dAt wdL_law_0 adL_law_0.2.2.1 rfl
theorem dL_law_7 : decode cL_law 7 = .ok (.astore_n 1, 1) := dAt wdL_law_0 adL_law_0.2.2.2.1 rfl
theorem dL_law_8 : decode cL_law 8 = .ok (.new 148, 3) := dAt wdL_law_0 adL_law_0.2.2.2.2.1 rfl
theorem dL_law_11 : decode cL_law 11 = .ok (.dup, 1) := dAt wdL_law_0 adL_law_0.2.2.2.2.2.1 rfl
theorem dL_law_12 : decode cL_law 12 = .ok (.invokespecial 150, 3) := dAt wdL_law_0 adL_law_0.2.2.2.2.2.2.1 rfl
theorem dL_law_15 : decode cL_law 15 = .ok (.astore_n 2, 1) := dAt wdL_law_0 adL_law_0.2.2.2.2.2.2.2.1 rfl
theorem dL_law_16 : decode cL_law 16 = .ok (.iconst 1, 1) := dAt wdL_law_0 adL_law_0.2.2.2.2.2.2.2.2.1 rfl
theorem dL_law_17 : decode cL_law 17 = .ok (.newarray .long, 2) := dAt wdL_law_0 adL_law_0.2.2.2.2.2.2.2.2.2.1 rfl
theorem dL_law_19 : decode cL_law 19 = .ok (.astore_n 3, 1) := dAt wdL_law_0 adL_law_0.2.2.2.2.2.2.2.2.2.2.1 rfl
theorem dL_law_20 : decode cL_law 20 = .ok (.iconst 0, 1) := dAt wdL_law_0 adL_law_0.2.2.2.2.2.2.2.2.2.2.2.1 rfl
theorem dL_law_21 : decode cL_law 21 = .ok (.istore 4, 2) := dAt wdL_law_0 adL_law_0.2.2.2.2.2.2.2.2.2.2.2.2.1 rfl
theorem dL_law_23 : decode cL_law 23 = .ok (.iload 4, 2) := dAt wdL_law_0 adL_law_0.2.2.2.2.2.2.2.2.2.2.2.2.2.1 rfl
theorem dL_law_25 : decode cL_law 25 = .ok (.aload_n 0, 1) := dAt wdL_law_0 adL_law_0.2.2.2.2.2.2.2.2.2.2.2.2.2.2.1 rfl
theorem dL_law_26 : decode cL_law 26 = .ok (.arraylength, 1) := dAt wdL_law_0 adL_law_0.2.2.2.2.2.2.2.2.2.2.2.2.2.2.2 rfl
def bdL_law_27 : ByteArray := .mk #[16, 6, 100, 163, 12, 113, 42, 21, 4, 46, 16, 63, 126]
theorem wdL_law_27 : LocW cL_law 27 bdL_law_27 := loc_of (by decide +kernel)
theorem adL_law_27 : De bdL_law_27 0 (.bipush 6) 2 ∧ De bdL_law_27 2 (.isub) 1 ∧ De bdL_law_27 3 (.if_icmp .gt 3185) 3 ∧ De bdL_law_27 6 (.aload_n 0) 1 ∧ De bdL_law_27 7 (.iload 4) 2 ∧ De bdL_law_27 9 (.iaload) 1 ∧ De bdL_law_27 10 (.bipush 63) 2 ∧ De bdL_law_27 12 (.iand) 1 := by decide +kernel
theorem dL_law_27 : decode cL_law 27 = .ok (.bipush 6, 2) := dAt wdL_law_27 adL_law_27.1 rfl
theorem dL_law_29 : decode cL_law 29 = .ok (.isub, 1) := dAt wdL_law_27 adL_law_27.2.1 rfl
theorem dL_law_30 : decode cL_law 30 = .ok (.if_icmp .gt 3185, 3) := dAt wdL_law_27 adL_law_27.2.2.1 rfl
theorem dL_law_33 : decode cL_law 33 = .ok (.aload_n 0, 1) := dAt wdL_law_27 adL_law_27.2.2.2.1 rfl
theorem dL_law_34 : decode cL_law 34 = .ok (.iload 4, 2) := dAt wdL_law_27 adL_law_27.2.2.2.2.1 rfl
theorem dL_law_36 : decode cL_law 36 = .ok (.iaload, 1) := dAt wdL_law_27 adL_law_27.2.2.2.2.2.1 rfl
theorem dL_law_37 : decode cL_law 37 = .ok (.bipush 63, 2) := dAt wdL_law_27 adL_law_27.2.2.2.2.2.2.1 rfl
theorem dL_law_39 : decode cL_law 39 = .ok (.iand, 1) := dAt wdL_law_27 adL_law_27.2.2.2.2.2.2.2 rfl
theorem dL_law_40 : decode cL_law 40 = .ok (.tableswitch 3169 0 46 #[204, 277, 302, 362, 430, 486, 499, 567, 647, 715, 783, 867, 935, 1015, 1106, 1174, 1230, 1298, 1366, 1434, 1502, 1558, 1621, 1696, 1776, 1856, 1943, 2018, 2074, 2154, 2234, 2294, 2362, 2470, 2538, 2606, 2686, 2730, 2810, 2823, 2879, 2959, 3027, 3107, 3120, 3131, 3144], 204) := by decide +kernel
def bdL_law_244 : ByteArray := .mk #[43, 42, 21, 4, 4, 96, 46, 42, 21, 4, 5, 96, 46, 42, 21, 4, 6, 96, 46]
theorem wdL_law_244 : LocW cL_law 244 bdL_law_244 := loc_of (by decide +kernel)
theorem adL_law_244 : De bdL_law_244 0 (.aload_n 1) 1 ∧ De bdL_law_244 1 (.aload_n 0) 1 ∧ De bdL_law_244 2 (.iload 4) 2 ∧ De bdL_law_244 4 (.iconst 1) 1 ∧ De bdL_law_244 5 (.iadd) 1 ∧ De bdL_law_244 6 (.iaload) 1 ∧ De bdL_law_244 7 (.aload_n 0) 1 ∧ De bdL_law_244 8 (.iload 4) 2 ∧ De bdL_law_244 10 (.iconst 2) 1 ∧ De bdL_law_244 11 (.iadd) 1 ∧ De bdL_law_244 12 (.iaload) 1 ∧ De bdL_law_244 13 (.aload_n 0) 1 ∧ De bdL_law_244 14 (.iload 4) 2 ∧ De bdL_law_244 16 (.iconst 3) 1 ∧ De bdL_law_244 17 (.iadd) 1 ∧ De bdL_law_244 18 (.iaload) 1 := by decide +kernel
theorem dL_law_244 : decode cL_law 244 = .ok (.aload_n 1, 1) := dAt wdL_law_244 adL_law_244.1 rfl
theorem dL_law_245 : decode cL_law 245 = .ok (.aload_n 0, 1) := dAt wdL_law_244 adL_law_244.2.1 rfl
theorem dL_law_246 : decode cL_law 246 = .ok (.iload 4, 2) := dAt wdL_law_244 adL_law_244.2.2.1 rfl
theorem dL_law_248 : decode cL_law 248 = .ok (.iconst 1, 1) := dAt wdL_law_244 adL_law_244.2.2.2.1 rfl
theorem dL_law_249 : decode cL_law 249 = .ok (.iadd, 1) := dAt wdL_law_244 adL_law_244.2.2.2.2.1 rfl
theorem dL_law_250 : decode cL_law 250 = .ok (.iaload, 1) := dAt wdL_law_244 adL_law_244.2.2.2.2.2.1 rfl
theorem dL_law_251 : decode cL_law 251 = .ok (.aload_n 0, 1) := dAt wdL_law_244 adL_law_244.2.2.2.2.2.2.1 rfl
theorem dL_law_252 : decode cL_law 252 = .ok (.iload 4, 2) := dAt wdL_law_244 adL_law_244.2.2.2.2.2.2.2.1 rfl
theorem dL_law_254 : decode cL_law 254 = .ok (.iconst 2, 1) := dAt wdL_law_244 adL_law_244.2.2.2.2.2.2.2.2.1 rfl
theorem dL_law_255 : decode cL_law 255 = .ok (.iadd, 1) := dAt wdL_law_244 adL_law_244.2.2.2.2.2.2.2.2.2.1 rfl
theorem dL_law_256 : decode cL_law 256 = .ok (.iaload, 1) := dAt wdL_law_244 adL_law_244.2.2.2.2.2.2.2.2.2.2.1 rfl
theorem dL_law_257 : decode cL_law 257 = .ok (.aload_n 0, 1) := dAt wdL_law_244 adL_law_244.2.2.2.2.2.2.2.2.2.2.2.1 rfl
theorem dL_law_258 : decode cL_law 258 = .ok (.iload 4, 2) := dAt wdL_law_244 adL_law_244.2.2.2.2.2.2.2.2.2.2.2.2.1 rfl
theorem dL_law_260 : decode cL_law 260 = .ok (.iconst 3, 1) := dAt wdL_law_244 adL_law_244.2.2.2.2.2.2.2.2.2.2.2.2.2.1 rfl
theorem dL_law_261 : decode cL_law 261 = .ok (.iadd, 1) := dAt wdL_law_244 adL_law_244.2.2.2.2.2.2.2.2.2.2.2.2.2.2.1 rfl
theorem dL_law_262 : decode cL_law 262 = .ok (.iaload, 1) := dAt wdL_law_244 adL_law_244.2.2.2.2.2.2.2.2.2.2.2.2.2.2.2 rfl
def bdL_law_263 : ByteArray := .mk #[42, 21, 4, 7, 96, 46, 42, 21, 4, 8, 96, 46, 182, 0, 151, 44, 42, 21, 4, 4, 96]
theorem wdL_law_263 : LocW cL_law 263 bdL_law_263 := loc_of (by decide +kernel)
theorem adL_law_263 : De bdL_law_263 0 (.aload_n 0) 1 ∧ De bdL_law_263 1 (.iload 4) 2 ∧ De bdL_law_263 3 (.iconst 4) 1 ∧ De bdL_law_263 4 (.iadd) 1 ∧ De bdL_law_263 5 (.iaload) 1 ∧ De bdL_law_263 6 (.aload_n 0) 1 ∧ De bdL_law_263 7 (.iload 4) 2 ∧ De bdL_law_263 9 (.iconst 5) 1 ∧ De bdL_law_263 10 (.iadd) 1 ∧ De bdL_law_263 11 (.iaload) 1 ∧ De bdL_law_263 12 (.invokevirtual 151) 3 ∧ De bdL_law_263 15 (.aload_n 2) 1 ∧ De bdL_law_263 16 (.aload_n 0) 1 ∧ De bdL_law_263 17 (.iload 4) 2 ∧ De bdL_law_263 19 (.iconst 1) 1 ∧ De bdL_law_263 20 (.iadd) 1 := by decide +kernel
theorem dL_law_263 : decode cL_law 263 = .ok (.aload_n 0, 1) := dAt wdL_law_263 adL_law_263.1 rfl
theorem dL_law_264 : decode cL_law 264 = .ok (.iload 4, 2) := dAt wdL_law_263 adL_law_263.2.1 rfl
theorem dL_law_266 : decode cL_law 266 = .ok (.iconst 4, 1) := dAt wdL_law_263 adL_law_263.2.2.1 rfl
theorem dL_law_267 : decode cL_law 267 = .ok (.iadd, 1) := dAt wdL_law_263 adL_law_263.2.2.2.1 rfl
theorem dL_law_268 : decode cL_law 268 = .ok (.iaload, 1) := dAt wdL_law_263 adL_law_263.2.2.2.2.1 rfl
theorem dL_law_269 : decode cL_law 269 = .ok (.aload_n 0, 1) := dAt wdL_law_263 adL_law_263.2.2.2.2.2.1 rfl
theorem dL_law_270 : decode cL_law 270 = .ok (.iload 4, 2) := dAt wdL_law_263 adL_law_263.2.2.2.2.2.2.1 rfl
theorem dL_law_272 : decode cL_law 272 = .ok (.iconst 5, 1) := dAt wdL_law_263 adL_law_263.2.2.2.2.2.2.2.1 rfl
theorem dL_law_273 : decode cL_law 273 = .ok (.iadd, 1) := dAt wdL_law_263 adL_law_263.2.2.2.2.2.2.2.2.1 rfl
theorem dL_law_274 : decode cL_law 274 = .ok (.iaload, 1) := dAt wdL_law_263 adL_law_263.2.2.2.2.2.2.2.2.2.1 rfl
theorem dL_law_275 : decode cL_law 275 = .ok (.invokevirtual 151, 3) := dAt wdL_law_263 adL_law_263.2.2.2.2.2.2.2.2.2.2.1 rfl
theorem dL_law_278 : decode cL_law 278 = .ok (.aload_n 2, 1) := dAt wdL_law_263 adL_law_263.2.2.2.2.2.2.2.2.2.2.2.1 rfl
theorem dL_law_279 : decode cL_law 279 = .ok (.aload_n 0, 1) := dAt wdL_law_263 adL_law_263.2.2.2.2.2.2.2.2.2.2.2.2.1 rfl
theorem dL_law_280 : decode cL_law 280 = .ok (.iload 4, 2) := dAt wdL_law_263 adL_law_263.2.2.2.2.2.2.2.2.2.2.2.2.2.1 rfl
theorem dL_law_282 : decode cL_law 282 = .ok (.iconst 1, 1) := dAt wdL_law_263 adL_law_263.2.2.2.2.2.2.2.2.2.2.2.2.2.2.1 rfl
theorem dL_law_283 : decode cL_law 283 = .ok (.iadd, 1) := dAt wdL_law_263 adL_law_263.2.2.2.2.2.2.2.2.2.2.2.2.2.2.2 rfl
def bdL_law_284 : ByteArray := .mk #[46, 42, 21, 4, 5, 96, 46, 42, 21, 4, 6, 96, 46, 42, 21, 4, 7, 96, 46]
theorem wdL_law_284 : LocW cL_law 284 bdL_law_284 := loc_of (by decide +kernel)
theorem adL_law_284 : De bdL_law_284 0 (.iaload) 1 ∧ De bdL_law_284 1 (.aload_n 0) 1 ∧ De bdL_law_284 2 (.iload 4) 2 ∧ De bdL_law_284 4 (.iconst 2) 1 ∧ De bdL_law_284 5 (.iadd) 1 ∧ De bdL_law_284 6 (.iaload) 1 ∧ De bdL_law_284 7 (.aload_n 0) 1 ∧ De bdL_law_284 8 (.iload 4) 2 ∧ De bdL_law_284 10 (.iconst 3) 1 ∧ De bdL_law_284 11 (.iadd) 1 ∧ De bdL_law_284 12 (.iaload) 1 ∧ De bdL_law_284 13 (.aload_n 0) 1 ∧ De bdL_law_284 14 (.iload 4) 2 ∧ De bdL_law_284 16 (.iconst 4) 1 ∧ De bdL_law_284 17 (.iadd) 1 ∧ De bdL_law_284 18 (.iaload) 1 := by decide +kernel
theorem dL_law_284 : decode cL_law 284 = .ok (.iaload, 1) := dAt wdL_law_284 adL_law_284.1 rfl
theorem dL_law_285 : decode cL_law 285 = .ok (.aload_n 0, 1) := dAt wdL_law_284 adL_law_284.2.1 rfl
theorem dL_law_286 : decode cL_law 286 = .ok (.iload 4, 2) := dAt wdL_law_284 adL_law_284.2.2.1 rfl
theorem dL_law_288 : decode cL_law 288 = .ok (.iconst 2, 1) := dAt wdL_law_284 adL_law_284.2.2.2.1 rfl
theorem dL_law_289 : decode cL_law 289 = .ok (.iadd, 1) := dAt wdL_law_284 adL_law_284.2.2.2.2.1 rfl
theorem dL_law_290 : decode cL_law 290 = .ok (.iaload, 1) := dAt wdL_law_284 adL_law_284.2.2.2.2.2.1 rfl
theorem dL_law_291 : decode cL_law 291 = .ok (.aload_n 0, 1) := dAt wdL_law_284 adL_law_284.2.2.2.2.2.2.1 rfl
theorem dL_law_292 : decode cL_law 292 = .ok (.iload 4, 2) := dAt wdL_law_284 adL_law_284.2.2.2.2.2.2.2.1 rfl
theorem dL_law_294 : decode cL_law 294 = .ok (.iconst 3, 1) := dAt wdL_law_284 adL_law_284.2.2.2.2.2.2.2.2.1 rfl
theorem dL_law_295 : decode cL_law 295 = .ok (.iadd, 1) := dAt wdL_law_284 adL_law_284.2.2.2.2.2.2.2.2.2.1 rfl
theorem dL_law_296 : decode cL_law 296 = .ok (.iaload, 1) := dAt wdL_law_284 adL_law_284.2.2.2.2.2.2.2.2.2.2.1 rfl
theorem dL_law_297 : decode cL_law 297 = .ok (.aload_n 0, 1) := dAt wdL_law_284 adL_law_284.2.2.2.2.2.2.2.2.2.2.2.1 rfl
theorem dL_law_298 : decode cL_law 298 = .ok (.iload 4, 2) := dAt wdL_law_284 adL_law_284.2.2.2.2.2.2.2.2.2.2.2.2.1 rfl
theorem dL_law_300 : decode cL_law 300 = .ok (.iconst 4, 1) := dAt wdL_law_284 adL_law_284.2.2.2.2.2.2.2.2.2.2.2.2.2.1 rfl
theorem dL_law_301 : decode cL_law 301 = .ok (.iadd, 1) := dAt wdL_law_284 adL_law_284.2.2.2.2.2.2.2.2.2.2.2.2.2.2.1 rfl
theorem dL_law_302 : decode cL_law 302 = .ok (.iaload, 1) := dAt wdL_law_284 adL_law_284.2.2.2.2.2.2.2.2.2.2.2.2.2.2.2 rfl
def bdL_law_303 : ByteArray := .mk #[42, 21, 4, 8, 96, 46, 182, 0, 155, 159, 11, 81, 3, 172, 43, 42, 21, 4, 4, 96, 46, 182, 0, 156]
theorem wdL_law_303 : LocW cL_law 303 bdL_law_303 := loc_of (by decide +kernel)
theorem adL_law_303 : De bdL_law_303 0 (.aload_n 0) 1 ∧ De bdL_law_303 1 (.iload 4) 2 ∧ De bdL_law_303 3 (.iconst 5) 1 ∧ De bdL_law_303 4 (.iadd) 1 ∧ De bdL_law_303 5 (.iaload) 1 ∧ De bdL_law_303 6 (.invokevirtual 155) 3 ∧ De bdL_law_303 9 (.if_icmp .eq 2897) 3 ∧ De bdL_law_303 12 (.iconst 0) 1 ∧ De bdL_law_303 13 (.ireturn) 1 ∧ De bdL_law_303 14 (.aload_n 1) 1 ∧ De bdL_law_303 15 (.aload_n 0) 1 ∧ De bdL_law_303 16 (.iload 4) 2 ∧ De bdL_law_303 18 (.iconst 1) 1 ∧ De bdL_law_303 19 (.iadd) 1 ∧ De bdL_law_303 20 (.iaload) 1 ∧ De bdL_law_303 21 (.invokevirtual 156) 3 := by decide +kernel
theorem dL_law_303 : decode cL_law 303 = .ok (.aload_n 0, 1) := dAt wdL_law_303 adL_law_303.1 rfl
theorem dL_law_304 : decode cL_law 304 = .ok (.iload 4, 2) := dAt wdL_law_303 adL_law_303.2.1 rfl
theorem dL_law_306 : decode cL_law 306 = .ok (.iconst 5, 1) := dAt wdL_law_303 adL_law_303.2.2.1 rfl
theorem dL_law_307 : decode cL_law 307 = .ok (.iadd, 1) := dAt wdL_law_303 adL_law_303.2.2.2.1 rfl
theorem dL_law_308 : decode cL_law 308 = .ok (.iaload, 1) := dAt wdL_law_303 adL_law_303.2.2.2.2.1 rfl
theorem dL_law_309 : decode cL_law 309 = .ok (.invokevirtual 155, 3) := dAt wdL_law_303 adL_law_303.2.2.2.2.2.1 rfl
theorem dL_law_312 : decode cL_law 312 = .ok (.if_icmp .eq 2897, 3) := dAt wdL_law_303 adL_law_303.2.2.2.2.2.2.1 rfl
theorem dL_law_315 : decode cL_law 315 = .ok (.iconst 0, 1) := dAt wdL_law_303 adL_law_303.2.2.2.2.2.2.2.1 rfl
theorem dL_law_316 : decode cL_law 316 = .ok (.ireturn, 1) := dAt wdL_law_303 adL_law_303.2.2.2.2.2.2.2.2.1 rfl
theorem dL_law_317 : decode cL_law 317 = .ok (.aload_n 1, 1) := dAt wdL_law_303 adL_law_303.2.2.2.2.2.2.2.2.2.1 rfl
theorem dL_law_318 : decode cL_law 318 = .ok (.aload_n 0, 1) := dAt wdL_law_303 adL_law_303.2.2.2.2.2.2.2.2.2.2.1 rfl
theorem dL_law_319 : decode cL_law 319 = .ok (.iload 4, 2) := dAt wdL_law_303 adL_law_303.2.2.2.2.2.2.2.2.2.2.2.1 rfl
theorem dL_law_321 : decode cL_law 321 = .ok (.iconst 1, 1) := dAt wdL_law_303 adL_law_303.2.2.2.2.2.2.2.2.2.2.2.2.1 rfl
theorem dL_law_322 : decode cL_law 322 = .ok (.iadd, 1) := dAt wdL_law_303 adL_law_303.2.2.2.2.2.2.2.2.2.2.2.2.2.1 rfl
theorem dL_law_323 : decode cL_law 323 = .ok (.iaload, 1) := dAt wdL_law_303 adL_law_303.2.2.2.2.2.2.2.2.2.2.2.2.2.2.1 rfl
theorem dL_law_324 : decode cL_law 324 = .ok (.invokevirtual 156, 3) := dAt wdL_law_303 adL_law_303.2.2.2.2.2.2.2.2.2.2.2.2.2.2.2 rfl
def bdL_law_327 : ByteArray := .mk #[44, 42, 21, 4, 4, 96, 46, 182, 0, 159, 159, 11, 56, 3, 172, 43, 42, 21, 4, 4, 96, 46]
theorem wdL_law_327 : LocW cL_law 327 bdL_law_327 := loc_of (by decide +kernel)
theorem adL_law_327 : De bdL_law_327 0 (.aload_n 2) 1 ∧ De bdL_law_327 1 (.aload_n 0) 1 ∧ De bdL_law_327 2 (.iload 4) 2 ∧ De bdL_law_327 4 (.iconst 1) 1 ∧ De bdL_law_327 5 (.iadd) 1 ∧ De bdL_law_327 6 (.iaload) 1 ∧ De bdL_law_327 7 (.invokevirtual 159) 3 ∧ De bdL_law_327 10 (.if_icmp .eq 2872) 3 ∧ De bdL_law_327 13 (.iconst 0) 1 ∧ De bdL_law_327 14 (.ireturn) 1 ∧ De bdL_law_327 15 (.aload_n 1) 1 ∧ De bdL_law_327 16 (.aload_n 0) 1 ∧ De bdL_law_327 17 (.iload 4) 2 ∧ De bdL_law_327 19 (.iconst 1) 1 ∧ De bdL_law_327 20 (.iadd) 1 ∧ De bdL_law_327 21 (.iaload) 1 := by decide +kernel
theorem dL_law_327 : decode cL_law 327 = .ok (.aload_n 2, 1) := dAt wdL_law_327 adL_law_327.1 rfl
theorem dL_law_328 : decode cL_law 328 = .ok (.aload_n 0, 1) := dAt wdL_law_327 adL_law_327.2.1 rfl
theorem dL_law_329 : decode cL_law 329 = .ok (.iload 4, 2) := dAt wdL_law_327 adL_law_327.2.2.1 rfl
theorem dL_law_331 : decode cL_law 331 = .ok (.iconst 1, 1) := dAt wdL_law_327 adL_law_327.2.2.2.1 rfl
theorem dL_law_332 : decode cL_law 332 = .ok (.iadd, 1) := dAt wdL_law_327 adL_law_327.2.2.2.2.1 rfl
theorem dL_law_333 : decode cL_law 333 = .ok (.iaload, 1) := dAt wdL_law_327 adL_law_327.2.2.2.2.2.1 rfl
theorem dL_law_334 : decode cL_law 334 = .ok (.invokevirtual 159, 3) := dAt wdL_law_327 adL_law_327.2.2.2.2.2.2.1 rfl
theorem dL_law_337 : decode cL_law 337 = .ok (.if_icmp .eq 2872, 3) := dAt wdL_law_327 adL_law_327.2.2.2.2.2.2.2.1 rfl
theorem dL_law_340 : decode cL_law 340 = .ok (.iconst 0, 1) := dAt wdL_law_327 adL_law_327.2.2.2.2.2.2.2.2.1 rfl
theorem dL_law_341 : decode cL_law 341 = .ok (.ireturn, 1) := dAt wdL_law_327 adL_law_327.2.2.2.2.2.2.2.2.2.1 rfl
theorem dL_law_342 : decode cL_law 342 = .ok (.aload_n 1, 1) := dAt wdL_law_327 adL_law_327.2.2.2.2.2.2.2.2.2.2.1 rfl
theorem dL_law_343 : decode cL_law 343 = .ok (.aload_n 0, 1) := dAt wdL_law_327 adL_law_327.2.2.2.2.2.2.2.2.2.2.2.1 rfl
theorem dL_law_344 : decode cL_law 344 = .ok (.iload 4, 2) := dAt wdL_law_327 adL_law_327.2.2.2.2.2.2.2.2.2.2.2.2.1 rfl
theorem dL_law_346 : decode cL_law 346 = .ok (.iconst 1, 1) := dAt wdL_law_327 adL_law_327.2.2.2.2.2.2.2.2.2.2.2.2.2.1 rfl
theorem dL_law_347 : decode cL_law 347 = .ok (.iadd, 1) := dAt wdL_law_327 adL_law_327.2.2.2.2.2.2.2.2.2.2.2.2.2.2.1 rfl
theorem dL_law_348 : decode cL_law 348 = .ok (.iaload, 1) := dAt wdL_law_327 adL_law_327.2.2.2.2.2.2.2.2.2.2.2.2.2.2.2 rfl
def bdL_law_349 : ByteArray := .mk #[42, 21, 4, 5, 96, 46, 42, 21, 4, 6, 96, 46, 184, 0, 160, 54, 5, 44, 42, 21, 4, 4]
theorem wdL_law_349 : LocW cL_law 349 bdL_law_349 := loc_of (by decide +kernel)
theorem adL_law_349 : De bdL_law_349 0 (.aload_n 0) 1 ∧ De bdL_law_349 1 (.iload 4) 2 ∧ De bdL_law_349 3 (.iconst 2) 1 ∧ De bdL_law_349 4 (.iadd) 1 ∧ De bdL_law_349 5 (.iaload) 1 ∧ De bdL_law_349 6 (.aload_n 0) 1 ∧ De bdL_law_349 7 (.iload 4) 2 ∧ De bdL_law_349 9 (.iconst 3) 1 ∧ De bdL_law_349 10 (.iadd) 1 ∧ De bdL_law_349 11 (.iaload) 1 ∧ De bdL_law_349 12 (.invokestatic 160) 3 ∧ De bdL_law_349 15 (.istore 5) 2 ∧ De bdL_law_349 17 (.aload_n 2) 1 ∧ De bdL_law_349 18 (.aload_n 0) 1 ∧ De bdL_law_349 19 (.iload 4) 2 ∧ De bdL_law_349 21 (.iconst 1) 1 := by decide +kernel
theorem dL_law_349 : decode cL_law 349 = .ok (.aload_n 0, 1) := dAt wdL_law_349 adL_law_349.1 rfl
theorem dL_law_350 : decode cL_law 350 = .ok (.iload 4, 2) := dAt wdL_law_349 adL_law_349.2.1 rfl
theorem dL_law_352 : decode cL_law 352 = .ok (.iconst 2, 1) := dAt wdL_law_349 adL_law_349.2.2.1 rfl
theorem dL_law_353 : decode cL_law 353 = .ok (.iadd, 1) := dAt wdL_law_349 adL_law_349.2.2.2.1 rfl
theorem dL_law_354 : decode cL_law 354 = .ok (.iaload, 1) := dAt wdL_law_349 adL_law_349.2.2.2.2.1 rfl
theorem dL_law_355 : decode cL_law 355 = .ok (.aload_n 0, 1) := dAt wdL_law_349 adL_law_349.2.2.2.2.2.1 rfl
theorem dL_law_356 : decode cL_law 356 = .ok (.iload 4, 2) := dAt wdL_law_349 adL_law_349.2.2.2.2.2.2.1 rfl
theorem dL_law_358 : decode cL_law 358 = .ok (.iconst 3, 1) := dAt wdL_law_349 adL_law_349.2.2.2.2.2.2.2.1 rfl
theorem dL_law_359 : decode cL_law 359 = .ok (.iadd, 1) := dAt wdL_law_349 adL_law_349.2.2.2.2.2.2.2.2.1 rfl
theorem dL_law_360 : decode cL_law 360 = .ok (.iaload, 1) := dAt wdL_law_349 adL_law_349.2.2.2.2.2.2.2.2.2.1 rfl
theorem dL_law_361 : decode cL_law 361 = .ok (.invokestatic 160, 3) := dAt wdL_law_349 adL_law_349.2.2.2.2.2.2.2.2.2.2.1 rfl
theorem dL_law_364 : decode cL_law 364 = .ok (.istore 5, 2) := dAt wdL_law_349 adL_law_349.2.2.2.2.2.2.2.2.2.2.2.1 rfl
theorem dL_law_366 : decode cL_law 366 = .ok (.aload_n 2, 1) := dAt wdL_law_349 adL_law_349.2.2.2.2.2.2.2.2.2.2.2.2.1 rfl
theorem dL_law_367 : decode cL_law 367 = .ok (.aload_n 0, 1) := dAt wdL_law_349 adL_law_349.2.2.2.2.2.2.2.2.2.2.2.2.2.1 rfl
theorem dL_law_368 : decode cL_law 368 = .ok (.iload 4, 2) := dAt wdL_law_349 adL_law_349.2.2.2.2.2.2.2.2.2.2.2.2.2.2.1 rfl
theorem dL_law_370 : decode cL_law 370 = .ok (.iconst 1, 1) := dAt wdL_law_349 adL_law_349.2.2.2.2.2.2.2.2.2.2.2.2.2.2.2 rfl
def bdL_law_371 : ByteArray := .mk #[96, 46, 42, 21, 4, 5, 96, 46, 42, 21, 4, 6, 96, 46, 182, 0, 165, 44, 182, 0, 166, 21, 5]
theorem wdL_law_371 : LocW cL_law 371 bdL_law_371 := loc_of (by decide +kernel)
theorem adL_law_371 : De bdL_law_371 0 (.iadd) 1 ∧ De bdL_law_371 1 (.iaload) 1 ∧ De bdL_law_371 2 (.aload_n 0) 1 ∧ De bdL_law_371 3 (.iload 4) 2 ∧ De bdL_law_371 5 (.iconst 2) 1 ∧ De bdL_law_371 6 (.iadd) 1 ∧ De bdL_law_371 7 (.iaload) 1 ∧ De bdL_law_371 8 (.aload_n 0) 1 ∧ De bdL_law_371 9 (.iload 4) 2 ∧ De bdL_law_371 11 (.iconst 3) 1 ∧ De bdL_law_371 12 (.iadd) 1 ∧ De bdL_law_371 13 (.iaload) 1 ∧ De bdL_law_371 14 (.invokevirtual 165) 3 ∧ De bdL_law_371 17 (.aload_n 2) 1 ∧ De bdL_law_371 18 (.invokevirtual 166) 3 ∧ De bdL_law_371 21 (.iload 5) 2 := by decide +kernel
theorem dL_law_371 : decode cL_law 371 = .ok (.iadd, 1) := dAt wdL_law_371 adL_law_371.1 rfl
theorem dL_law_372 : decode cL_law 372 = .ok (.iaload, 1) := dAt wdL_law_371 adL_law_371.2.1 rfl
theorem dL_law_373 : decode cL_law 373 = .ok (.aload_n 0, 1) := dAt wdL_law_371 adL_law_371.2.2.1 rfl
theorem dL_law_374 : decode cL_law 374 = .ok (.iload 4, 2) := dAt wdL_law_371 adL_law_371.2.2.2.1 rfl
theorem dL_law_376 : decode cL_law 376 = .ok (.iconst 2, 1) := dAt wdL_law_371 adL_law_371.2.2.2.2.1 rfl
theorem dL_law_377 : decode cL_law 377 = .ok (.iadd, 1) := dAt wdL_law_371 adL_law_371.2.2.2.2.2.1 rfl
theorem dL_law_378 : decode cL_law 378 = .ok (.iaload, 1) := dAt wdL_law_371 adL_law_371.2.2.2.2.2.2.1 rfl
theorem dL_law_379 : decode cL_law 379 = .ok (.aload_n 0, 1) := dAt wdL_law_371 adL_law_371.2.2.2.2.2.2.2.1 rfl
theorem dL_law_380 : decode cL_law 380 = .ok (.iload 4, 2) := dAt wdL_law_371 adL_law_371.2.2.2.2.2.2.2.2.1 rfl
theorem dL_law_382 : decode cL_law 382 = .ok (.iconst 3, 1) := dAt wdL_law_371 adL_law_371.2.2.2.2.2.2.2.2.2.1 rfl
theorem dL_law_383 : decode cL_law 383 = .ok (.iadd, 1) := dAt wdL_law_371 adL_law_371.2.2.2.2.2.2.2.2.2.2.1 rfl
theorem dL_law_384 : decode cL_law 384 = .ok (.iaload, 1) := dAt wdL_law_371 adL_law_371.2.2.2.2.2.2.2.2.2.2.2.1 rfl
theorem dL_law_385 : decode cL_law 385 = .ok (.invokevirtual 165, 3) := dAt wdL_law_371 adL_law_371.2.2.2.2.2.2.2.2.2.2.2.2.1 rfl
theorem dL_law_388 : decode cL_law 388 = .ok (.aload_n 2, 1) := dAt wdL_law_371 adL_law_371.2.2.2.2.2.2.2.2.2.2.2.2.2.1 rfl
theorem dL_law_389 : decode cL_law 389 = .ok (.invokevirtual 166, 3) := dAt wdL_law_371 adL_law_371.2.2.2.2.2.2.2.2.2.2.2.2.2.2.1 rfl
theorem dL_law_392 : decode cL_law 392 = .ok (.iload 5, 2) := dAt wdL_law_371 adL_law_371.2.2.2.2.2.2.2.2.2.2.2.2.2.2.2 rfl
def bdL_law_394 : ByteArray := .mk #[159, 0, 5, 3, 172, 167, 10, 250, 43, 42, 21, 4, 4, 96, 46, 42, 21, 4, 5, 96, 46, 45]
theorem wdL_law_394 : LocW cL_law 394 bdL_law_394 := loc_of (by decide +kernel)
theorem adL_law_394 : De bdL_law_394 0 (.if_icmp .eq 5) 3 ∧ De bdL_law_394 3 (.iconst 0) 1 ∧ De bdL_law_394 4 (.ireturn) 1 ∧ De bdL_law_394 5 (.goto 2810) 3 ∧ De bdL_law_394 8 (.aload_n 1) 1 ∧ De bdL_law_394 9 (.aload_n 0) 1 ∧ De bdL_law_394 10 (.iload 4) 2 ∧ De bdL_law_394 12 (.iconst 1) 1 ∧ De bdL_law_394 13 (.iadd) 1 ∧ De bdL_law_394 14 (.iaload) 1 ∧ De bdL_law_394 15 (.aload_n 0) 1 ∧ De bdL_law_394 16 (.iload 4) 2 ∧ De bdL_law_394 18 (.iconst 2) 1 ∧ De bdL_law_394 19 (.iadd) 1 ∧ De bdL_law_394 20 (.iaload) 1 ∧ De bdL_law_394 21 (.aload_n 3) 1 := by decide +kernel
theorem dL_law_394 : decode cL_law 394 = .ok (.if_icmp .eq 5, 3) := dAt wdL_law_394 adL_law_394.1 rfl
theorem dL_law_397 : decode cL_law 397 = .ok (.iconst 0, 1) := dAt wdL_law_394 adL_law_394.2.1 rfl
theorem dL_law_398 : decode cL_law 398 = .ok (.ireturn, 1) := dAt wdL_law_394 adL_law_394.2.2.1 rfl
theorem dL_law_399 : decode cL_law 399 = .ok (.goto 2810, 3) := dAt wdL_law_394 adL_law_394.2.2.2.1 rfl
theorem dL_law_402 : decode cL_law 402 = .ok (.aload_n 1, 1) := dAt wdL_law_394 adL_law_394.2.2.2.2.1 rfl
theorem dL_law_403 : decode cL_law 403 = .ok (.aload_n 0, 1) := dAt wdL_law_394 adL_law_394.2.2.2.2.2.1 rfl
theorem dL_law_404 : decode cL_law 404 = .ok (.iload 4, 2) := dAt wdL_law_394 adL_law_394.2.2.2.2.2.2.1 rfl
theorem dL_law_406 : decode cL_law 406 = .ok (.iconst 1, 1) := dAt wdL_law_394 adL_law_394.2.2.2.2.2.2.2.1 rfl
theorem dL_law_407 : decode cL_law 407 = .ok (.iadd, 1) := dAt wdL_law_394 adL_law_394.2.2.2.2.2.2.2.2.1 rfl
theorem dL_law_408 : decode cL_law 408 = .ok (.iaload, 1) := dAt wdL_law_394 adL_law_394.2.2.2.2.2.2.2.2.2.1 rfl
theorem dL_law_409 : decode cL_law 409 = .ok (.aload_n 0, 1) := dAt wdL_law_394 adL_law_394.2.2.2.2.2.2.2.2.2.2.1 rfl
theorem dL_law_410 : decode cL_law 410 = .ok (.iload 4, 2) := dAt wdL_law_394 adL_law_394.2.2.2.2.2.2.2.2.2.2.2.1 rfl
theorem dL_law_412 : decode cL_law 412 = .ok (.iconst 2, 1) := dAt wdL_law_394 adL_law_394.2.2.2.2.2.2.2.2.2.2.2.2.1 rfl
theorem dL_law_413 : decode cL_law 413 = .ok (.iadd, 1) := dAt wdL_law_394 adL_law_394.2.2.2.2.2.2.2.2.2.2.2.2.2.1 rfl
theorem dL_law_414 : decode cL_law 414 = .ok (.iaload, 1) := dAt wdL_law_394 adL_law_394.2.2.2.2.2.2.2.2.2.2.2.2.2.2.1 rfl
theorem dL_law_415 : decode cL_law 415 = .ok (.aload_n 3, 1) := dAt wdL_law_394 adL_law_394.2.2.2.2.2.2.2.2.2.2.2.2.2.2.2 rfl
def bdL_law_416 : ByteArray := .mk #[184, 0, 169, 54, 5, 44, 42, 21, 4, 4, 96, 46, 42, 21, 4, 5, 96, 46, 182, 0, 172, 54, 6, 44]
theorem wdL_law_416 : LocW cL_law 416 bdL_law_416 := loc_of (by decide +kernel)
theorem adL_law_416 : De bdL_law_416 0 (.invokestatic 169) 3 ∧ De bdL_law_416 3 (.istore 5) 2 ∧ De bdL_law_416 5 (.aload_n 2) 1 ∧ De bdL_law_416 6 (.aload_n 0) 1 ∧ De bdL_law_416 7 (.iload 4) 2 ∧ De bdL_law_416 9 (.iconst 1) 1 ∧ De bdL_law_416 10 (.iadd) 1 ∧ De bdL_law_416 11 (.iaload) 1 ∧ De bdL_law_416 12 (.aload_n 0) 1 ∧ De bdL_law_416 13 (.iload 4) 2 ∧ De bdL_law_416 15 (.iconst 2) 1 ∧ De bdL_law_416 16 (.iadd) 1 ∧ De bdL_law_416 17 (.iaload) 1 ∧ De bdL_law_416 18 (.invokevirtual 172) 3 ∧ De bdL_law_416 21 (.istore 6) 2 ∧ De bdL_law_416 23 (.aload_n 2) 1 := by decide +kernel
theorem dL_law_416 : decode cL_law 416 = .ok (.invokestatic 169, 3) := dAt wdL_law_416 adL_law_416.1 rfl
theorem dL_law_419 : decode cL_law 419 = .ok (.istore 5, 2) := dAt wdL_law_416 adL_law_416.2.1 rfl
theorem dL_law_421 : decode cL_law 421 = .ok (.aload_n 2, 1) := dAt wdL_law_416 adL_law_416.2.2.1 rfl
theorem dL_law_422 : decode cL_law 422 = .ok (.aload_n 0, 1) := dAt wdL_law_416 adL_law_416.2.2.2.1 rfl
theorem dL_law_423 : decode cL_law 423 = .ok (.iload 4, 2) := dAt wdL_law_416 adL_law_416.2.2.2.2.1 rfl
theorem dL_law_425 : decode cL_law 425 = .ok (.iconst 1, 1) := dAt wdL_law_416 adL_law_416.2.2.2.2.2.1 rfl
theorem dL_law_426 : decode cL_law 426 = .ok (.iadd, 1) := dAt wdL_law_416 adL_law_416.2.2.2.2.2.2.1 rfl
theorem dL_law_427 : decode cL_law 427 = .ok (.iaload, 1) := dAt wdL_law_416 adL_law_416.2.2.2.2.2.2.2.1 rfl
theorem dL_law_428 : decode cL_law 428 = .ok (.aload_n 0, 1) := dAt wdL_law_416 adL_law_416.2.2.2.2.2.2.2.2.1 rfl
theorem dL_law_429 : decode cL_law 429 = .ok (.iload 4, 2) := dAt wdL_law_416 adL_law_416.2.2.2.2.2.2.2.2.2.1 rfl
theorem dL_law_431 : decode cL_law 431 = .ok (.iconst 2, 1) := dAt wdL_law_416 adL_law_416.2.2.2.2.2.2.2.2.2.2.1 rfl
theorem dL_law_432 : decode cL_law 432 = .ok (.iadd, 1) := dAt wdL_law_416 adL_law_416.2.2.2.2.2.2.2.2.2.2.2.1 rfl
theorem dL_law_433 : decode cL_law 433 = .ok (.iaload, 1) := dAt wdL_law_416 adL_law_416.2.2.2.2.2.2.2.2.2.2.2.2.1 rfl
theorem dL_law_434 : decode cL_law 434 = .ok (.invokevirtual 172, 3) := dAt wdL_law_416 adL_law_416.2.2.2.2.2.2.2.2.2.2.2.2.2.1 rfl
theorem dL_law_437 : decode cL_law 437 = .ok (.istore 6, 2) := dAt wdL_law_416 adL_law_416.2.2.2.2.2.2.2.2.2.2.2.2.2.2.1 rfl
theorem dL_law_439 : decode cL_law 439 = .ok (.aload_n 2, 1) := dAt wdL_law_416 adL_law_416.2.2.2.2.2.2.2.2.2.2.2.2.2.2.2 rfl
def bdL_law_440 : ByteArray := .mk #[182, 0, 166, 21, 5, 159, 0, 5, 3, 172, 21, 5, 154, 0, 15, 45, 3, 47, 21, 6, 133, 148, 153, 0, 5, 3, 172]
theorem wdL_law_440 : LocW cL_law 440 bdL_law_440 := loc_of (by decide +kernel)
theorem adL_law_440 : De bdL_law_440 0 (.invokevirtual 166) 3 ∧ De bdL_law_440 3 (.iload 5) 2 ∧ De bdL_law_440 5 (.if_icmp .eq 5) 3 ∧ De bdL_law_440 8 (.iconst 0) 1 ∧ De bdL_law_440 9 (.ireturn) 1 ∧ De bdL_law_440 10 (.iload 5) 2 ∧ De bdL_law_440 12 (.ifCond .ne 15) 3 ∧ De bdL_law_440 15 (.aload_n 3) 1 ∧ De bdL_law_440 16 (.iconst 0) 1 ∧ De bdL_law_440 17 (.laload) 1 ∧ De bdL_law_440 18 (.iload 6) 2 ∧ De bdL_law_440 20 (.i2l) 1 ∧ De bdL_law_440 21 (.lcmp) 1 ∧ De bdL_law_440 22 (.ifCond .eq 5) 3 ∧ De bdL_law_440 25 (.iconst 0) 1 ∧ De bdL_law_440 26 (.ireturn) 1 := by decide +kernel
theorem dL_law_440 : decode cL_law 440 = .ok (.invokevirtual 166, 3) := dAt wdL_law_440 adL_law_440.1 rfl
theorem dL_law_443 : decode cL_law 443 = .ok (.iload 5, 2) := dAt wdL_law_440 adL_law_440.2.1 rfl
theorem dL_law_445 : decode cL_law 445 = .ok (.if_icmp .eq 5, 3) := dAt wdL_law_440 adL_law_440.2.2.1 rfl
theorem dL_law_448 : decode cL_law 448 = .ok (.iconst 0, 1) := dAt wdL_law_440 adL_law_440.2.2.2.1 rfl
theorem dL_law_449 : decode cL_law 449 = .ok (.ireturn, 1) := dAt wdL_law_440 adL_law_440.2.2.2.2.1 rfl
theorem dL_law_450 : decode cL_law 450 = .ok (.iload 5, 2) := dAt wdL_law_440 adL_law_440.2.2.2.2.2.1 rfl
theorem dL_law_452 : decode cL_law 452 = .ok (.ifCond .ne 15, 3) := dAt wdL_law_440 adL_law_440.2.2.2.2.2.2.1 rfl
theorem dL_law_455 : decode cL_law 455 = .ok (.aload_n 3, 1) := dAt wdL_law_440 adL_law_440.2.2.2.2.2.2.2.1 rfl
theorem dL_law_456 : decode cL_law 456 = .ok (.iconst 0, 1) := dAt wdL_law_440 adL_law_440.2.2.2.2.2.2.2.2.1 rfl
theorem dL_law_457 : decode cL_law 457 = .ok (.laload, 1) := dAt wdL_law_440 adL_law_440.2.2.2.2.2.2.2.2.2.1 rfl
theorem dL_law_458 : decode cL_law 458 = .ok (.iload 6, 2) := dAt wdL_law_440 adL_law_440.2.2.2.2.2.2.2.2.2.2.1 rfl
theorem dL_law_460 : decode cL_law 460 = .ok (.i2l, 1) := dAt wdL_law_440 adL_law_440.2.2.2.2.2.2.2.2.2.2.2.1 rfl
theorem dL_law_461 : decode cL_law 461 = .ok (.lcmp, 1) := dAt wdL_law_440 adL_law_440.2.2.2.2.2.2.2.2.2.2.2.2.1 rfl
theorem dL_law_462 : decode cL_law 462 = .ok (.ifCond .eq 5, 3) := dAt wdL_law_440 adL_law_440.2.2.2.2.2.2.2.2.2.2.2.2.2.1 rfl
theorem dL_law_465 : decode cL_law 465 = .ok (.iconst 0, 1) := dAt wdL_law_440 adL_law_440.2.2.2.2.2.2.2.2.2.2.2.2.2.2.1 rfl
theorem dL_law_466 : decode cL_law 466 = .ok (.ireturn, 1) := dAt wdL_law_440 adL_law_440.2.2.2.2.2.2.2.2.2.2.2.2.2.2.2 rfl
def bdL_law_467 : ByteArray := .mk #[167, 10, 182, 43, 42, 21, 4, 4, 96, 46, 45, 184, 0, 173, 54, 5, 44, 42, 21, 4, 4, 96, 46]
theorem wdL_law_467 : LocW cL_law 467 bdL_law_467 := loc_of (by decide +kernel)
theorem adL_law_467 : De bdL_law_467 0 (.goto 2742) 3 ∧ De bdL_law_467 3 (.aload_n 1) 1 ∧ De bdL_law_467 4 (.aload_n 0) 1 ∧ De bdL_law_467 5 (.iload 4) 2 ∧ De bdL_law_467 7 (.iconst 1) 1 ∧ De bdL_law_467 8 (.iadd) 1 ∧ De bdL_law_467 9 (.iaload) 1 ∧ De bdL_law_467 10 (.aload_n 3) 1 ∧ De bdL_law_467 11 (.invokestatic 173) 3 ∧ De bdL_law_467 14 (.istore 5) 2 ∧ De bdL_law_467 16 (.aload_n 2) 1 ∧ De bdL_law_467 17 (.aload_n 0) 1 ∧ De bdL_law_467 18 (.iload 4) 2 ∧ De bdL_law_467 20 (.iconst 1) 1 ∧ De bdL_law_467 21 (.iadd) 1 ∧ De bdL_law_467 22 (.iaload) 1 := by decide +kernel
theorem dL_law_467 : decode cL_law 467 = .ok (.goto 2742, 3) := dAt wdL_law_467 adL_law_467.1 rfl
theorem dL_law_470 : decode cL_law 470 = .ok (.aload_n 1, 1) := dAt wdL_law_467 adL_law_467.2.1 rfl
theorem dL_law_471 : decode cL_law 471 = .ok (.aload_n 0, 1) := dAt wdL_law_467 adL_law_467.2.2.1 rfl
theorem dL_law_472 : decode cL_law 472 = .ok (.iload 4, 2) := dAt wdL_law_467 adL_law_467.2.2.2.1 rfl
theorem dL_law_474 : decode cL_law 474 = .ok (.iconst 1, 1) := dAt wdL_law_467 adL_law_467.2.2.2.2.1 rfl
theorem dL_law_475 : decode cL_law 475 = .ok (.iadd, 1) := dAt wdL_law_467 adL_law_467.2.2.2.2.2.1 rfl
theorem dL_law_476 : decode cL_law 476 = .ok (.iaload, 1) := dAt wdL_law_467 adL_law_467.2.2.2.2.2.2.1 rfl
theorem dL_law_477 : decode cL_law 477 = .ok (.aload_n 3, 1) := dAt wdL_law_467 adL_law_467.2.2.2.2.2.2.2.1 rfl
theorem dL_law_478 : decode cL_law 478 = .ok (.invokestatic 173, 3) := dAt wdL_law_467 adL_law_467.2.2.2.2.2.2.2.2.1 rfl
theorem dL_law_481 : decode cL_law 481 = .ok (.istore 5, 2) := dAt wdL_law_467 adL_law_467.2.2.2.2.2.2.2.2.2.1 rfl
theorem dL_law_483 : decode cL_law 483 = .ok (.aload_n 2, 1) := dAt wdL_law_467 adL_law_467.2.2.2.2.2.2.2.2.2.2.1 rfl
theorem dL_law_484 : decode cL_law 484 = .ok (.aload_n 0, 1) := dAt wdL_law_467 adL_law_467.2.2.2.2.2.2.2.2.2.2.2.1 rfl
theorem dL_law_485 : decode cL_law 485 = .ok (.iload 4, 2) := dAt wdL_law_467 adL_law_467.2.2.2.2.2.2.2.2.2.2.2.2.1 rfl
theorem dL_law_487 : decode cL_law 487 = .ok (.iconst 1, 1) := dAt wdL_law_467 adL_law_467.2.2.2.2.2.2.2.2.2.2.2.2.2.1 rfl
theorem dL_law_488 : decode cL_law 488 = .ok (.iadd, 1) := dAt wdL_law_467 adL_law_467.2.2.2.2.2.2.2.2.2.2.2.2.2.2.1 rfl
theorem dL_law_489 : decode cL_law 489 = .ok (.iaload, 1) := dAt wdL_law_467 adL_law_467.2.2.2.2.2.2.2.2.2.2.2.2.2.2.2 rfl
def bdL_law_490 : ByteArray := .mk #[182, 0, 176, 54, 6, 44, 182, 0, 166, 21, 5, 159, 0, 5, 3, 172, 21, 5, 154, 0, 15, 45, 3, 47, 21, 6, 133, 148]
theorem wdL_law_490 : LocW cL_law 490 bdL_law_490 := loc_of (by decide +kernel)
theorem adL_law_490 : De bdL_law_490 0 (.invokevirtual 176) 3 ∧ De bdL_law_490 3 (.istore 6) 2 ∧ De bdL_law_490 5 (.aload_n 2) 1 ∧ De bdL_law_490 6 (.invokevirtual 166) 3 ∧ De bdL_law_490 9 (.iload 5) 2 ∧ De bdL_law_490 11 (.if_icmp .eq 5) 3 ∧ De bdL_law_490 14 (.iconst 0) 1 ∧ De bdL_law_490 15 (.ireturn) 1 ∧ De bdL_law_490 16 (.iload 5) 2 ∧ De bdL_law_490 18 (.ifCond .ne 15) 3 ∧ De bdL_law_490 21 (.aload_n 3) 1 ∧ De bdL_law_490 22 (.iconst 0) 1 ∧ De bdL_law_490 23 (.laload) 1 ∧ De bdL_law_490 24 (.iload 6) 2 ∧ De bdL_law_490 26 (.i2l) 1 ∧ De bdL_law_490 27 (.lcmp) 1 := by decide +kernel
theorem dL_law_490 : decode cL_law 490 = .ok (.invokevirtual 176, 3) := dAt wdL_law_490 adL_law_490.1 rfl
theorem dL_law_493 : decode cL_law 493 = .ok (.istore 6, 2) := dAt wdL_law_490 adL_law_490.2.1 rfl
theorem dL_law_495 : decode cL_law 495 = .ok (.aload_n 2, 1) := dAt wdL_law_490 adL_law_490.2.2.1 rfl
theorem dL_law_496 : decode cL_law 496 = .ok (.invokevirtual 166, 3) := dAt wdL_law_490 adL_law_490.2.2.2.1 rfl
theorem dL_law_499 : decode cL_law 499 = .ok (.iload 5, 2) := dAt wdL_law_490 adL_law_490.2.2.2.2.1 rfl
theorem dL_law_501 : decode cL_law 501 = .ok (.if_icmp .eq 5, 3) := dAt wdL_law_490 adL_law_490.2.2.2.2.2.1 rfl
theorem dL_law_504 : decode cL_law 504 = .ok (.iconst 0, 1) := dAt wdL_law_490 adL_law_490.2.2.2.2.2.2.1 rfl
theorem dL_law_505 : decode cL_law 505 = .ok (.ireturn, 1) := dAt wdL_law_490 adL_law_490.2.2.2.2.2.2.2.1 rfl
theorem dL_law_506 : decode cL_law 506 = .ok (.iload 5, 2) := dAt wdL_law_490 adL_law_490.2.2.2.2.2.2.2.2.1 rfl
theorem dL_law_508 : decode cL_law 508 = .ok (.ifCond .ne 15, 3) := dAt wdL_law_490 adL_law_490.2.2.2.2.2.2.2.2.2.1 rfl
theorem dL_law_511 : decode cL_law 511 = .ok (.aload_n 3, 1) := dAt wdL_law_490 adL_law_490.2.2.2.2.2.2.2.2.2.2.1 rfl
theorem dL_law_512 : decode cL_law 512 = .ok (.iconst 0, 1) := dAt wdL_law_490 adL_law_490.2.2.2.2.2.2.2.2.2.2.2.1 rfl
theorem dL_law_513 : decode cL_law 513 = .ok (.laload, 1) := dAt wdL_law_490 adL_law_490.2.2.2.2.2.2.2.2.2.2.2.2.1 rfl
theorem dL_law_514 : decode cL_law 514 = .ok (.iload 6, 2) := dAt wdL_law_490 adL_law_490.2.2.2.2.2.2.2.2.2.2.2.2.2.1 rfl
theorem dL_law_516 : decode cL_law 516 = .ok (.i2l, 1) := dAt wdL_law_490 adL_law_490.2.2.2.2.2.2.2.2.2.2.2.2.2.2.1 rfl
theorem dL_law_517 : decode cL_law 517 = .ok (.lcmp, 1) := dAt wdL_law_490 adL_law_490.2.2.2.2.2.2.2.2.2.2.2.2.2.2.2 rfl
def bdL_law_518 : ByteArray := .mk #[153, 0, 5, 3, 172, 167, 10, 126, 43, 182, 0, 177, 44, 182, 0, 180, 159, 10, 115, 3, 172, 43, 42, 21, 4, 4, 96]
theorem wdL_law_518 : LocW cL_law 518 bdL_law_518 := loc_of (by decide +kernel)
theorem adL_law_518 : De bdL_law_518 0 (.ifCond .eq 5) 3 ∧ De bdL_law_518 3 (.iconst 0) 1 ∧ De bdL_law_518 4 (.ireturn) 1 ∧ De bdL_law_518 5 (.goto 2686) 3 ∧ De bdL_law_518 8 (.aload_n 1) 1 ∧ De bdL_law_518 9 (.invokevirtual 177) 3 ∧ De bdL_law_518 12 (.aload_n 2) 1 ∧ De bdL_law_518 13 (.invokevirtual 180) 3 ∧ De bdL_law_518 16 (.if_icmp .eq 2675) 3 ∧ De bdL_law_518 19 (.iconst 0) 1 ∧ De bdL_law_518 20 (.ireturn) 1 ∧ De bdL_law_518 21 (.aload_n 1) 1 ∧ De bdL_law_518 22 (.aload_n 0) 1 ∧ De bdL_law_518 23 (.iload 4) 2 ∧ De bdL_law_518 25 (.iconst 1) 1 ∧ De bdL_law_518 26 (.iadd) 1 := by decide +kernel
theorem dL_law_518 : decode cL_law 518 = .ok (.ifCond .eq 5, 3) := dAt wdL_law_518 adL_law_518.1 rfl
theorem dL_law_521 : decode cL_law 521 = .ok (.iconst 0, 1) := dAt wdL_law_518 adL_law_518.2.1 rfl
theorem dL_law_522 : decode cL_law 522 = .ok (.ireturn, 1) := dAt wdL_law_518 adL_law_518.2.2.1 rfl
theorem dL_law_523 : decode cL_law 523 = .ok (.goto 2686, 3) := dAt wdL_law_518 adL_law_518.2.2.2.1 rfl
theorem dL_law_526 : decode cL_law 526 = .ok (.aload_n 1, 1) := dAt wdL_law_518 adL_law_518.2.2.2.2.1 rfl
theorem dL_law_527 : decode cL_law 527 = .ok (.invokevirtual 177, 3) := dAt wdL_law_518 adL_law_518.2.2.2.2.2.1 rfl
theorem dL_law_530 : decode cL_law 530 = .ok (.aload_n 2, 1) := dAt wdL_law_518 adL_law_518.2.2.2.2.2.2.1 rfl
theorem dL_law_531 : decode cL_law 531 = .ok (.invokevirtual 180, 3) := dAt wdL_law_518 adL_law_518.2.2.2.2.2.2.2.1 rfl
theorem dL_law_534 : decode cL_law 534 = .ok (.if_icmp .eq 2675, 3) := dAt wdL_law_518 adL_law_518.2.2.2.2.2.2.2.2.1 rfl
theorem dL_law_537 : decode cL_law 537 = .ok (.iconst 0, 1) := dAt wdL_law_518 adL_law_518.2.2.2.2.2.2.2.2.2.1 rfl
theorem dL_law_538 : decode cL_law 538 = .ok (.ireturn, 1) := dAt wdL_law_518 adL_law_518.2.2.2.2.2.2.2.2.2.2.1 rfl
theorem dL_law_539 : decode cL_law 539 = .ok (.aload_n 1, 1) := dAt wdL_law_518 adL_law_518.2.2.2.2.2.2.2.2.2.2.2.1 rfl
theorem dL_law_540 : decode cL_law 540 = .ok (.aload_n 0, 1) := dAt wdL_law_518 adL_law_518.2.2.2.2.2.2.2.2.2.2.2.2.1 rfl
theorem dL_law_541 : decode cL_law 541 = .ok (.iload 4, 2) := dAt wdL_law_518 adL_law_518.2.2.2.2.2.2.2.2.2.2.2.2.2.1 rfl
theorem dL_law_543 : decode cL_law 543 = .ok (.iconst 1, 1) := dAt wdL_law_518 adL_law_518.2.2.2.2.2.2.2.2.2.2.2.2.2.2.1 rfl
theorem dL_law_544 : decode cL_law 544 = .ok (.iadd, 1) := dAt wdL_law_518 adL_law_518.2.2.2.2.2.2.2.2.2.2.2.2.2.2.2 rfl
def bdL_law_545 : ByteArray := .mk #[46, 42, 21, 4, 5, 96, 46, 45, 184, 0, 181, 54, 5, 44, 42, 21, 4, 4, 96, 46, 42]
theorem wdL_law_545 : LocW cL_law 545 bdL_law_545 := loc_of (by decide +kernel)
theorem adL_law_545 : De bdL_law_545 0 (.iaload) 1 ∧ De bdL_law_545 1 (.aload_n 0) 1 ∧ De bdL_law_545 2 (.iload 4) 2 ∧ De bdL_law_545 4 (.iconst 2) 1 ∧ De bdL_law_545 5 (.iadd) 1 ∧ De bdL_law_545 6 (.iaload) 1 ∧ De bdL_law_545 7 (.aload_n 3) 1 ∧ De bdL_law_545 8 (.invokestatic 181) 3 ∧ De bdL_law_545 11 (.istore 5) 2 ∧ De bdL_law_545 13 (.aload_n 2) 1 ∧ De bdL_law_545 14 (.aload_n 0) 1 ∧ De bdL_law_545 15 (.iload 4) 2 ∧ De bdL_law_545 17 (.iconst 1) 1 ∧ De bdL_law_545 18 (.iadd) 1 ∧ De bdL_law_545 19 (.iaload) 1 ∧ De bdL_law_545 20 (.aload_n 0) 1 := by decide +kernel
theorem dL_law_545 : decode cL_law 545 = .ok (.iaload, 1) := dAt wdL_law_545 adL_law_545.1 rfl
theorem dL_law_546 : decode cL_law 546 = .ok (.aload_n 0, 1) := dAt wdL_law_545 adL_law_545.2.1 rfl
theorem dL_law_547 : decode cL_law 547 = .ok (.iload 4, 2) := dAt wdL_law_545 adL_law_545.2.2.1 rfl
theorem dL_law_549 : decode cL_law 549 = .ok (.iconst 2, 1) := dAt wdL_law_545 adL_law_545.2.2.2.1 rfl
theorem dL_law_550 : decode cL_law 550 = .ok (.iadd, 1) := dAt wdL_law_545 adL_law_545.2.2.2.2.1 rfl
theorem dL_law_551 : decode cL_law 551 = .ok (.iaload, 1) := dAt wdL_law_545 adL_law_545.2.2.2.2.2.1 rfl
theorem dL_law_552 : decode cL_law 552 = .ok (.aload_n 3, 1) := dAt wdL_law_545 adL_law_545.2.2.2.2.2.2.1 rfl
theorem dL_law_553 : decode cL_law 553 = .ok (.invokestatic 181, 3) := dAt wdL_law_545 adL_law_545.2.2.2.2.2.2.2.1 rfl
theorem dL_law_556 : decode cL_law 556 = .ok (.istore 5, 2) := dAt wdL_law_545 adL_law_545.2.2.2.2.2.2.2.2.1 rfl
theorem dL_law_558 : decode cL_law 558 = .ok (.aload_n 2, 1) := dAt wdL_law_545 adL_law_545.2.2.2.2.2.2.2.2.2.1 rfl
theorem dL_law_559 : decode cL_law 559 = .ok (.aload_n 0, 1) := dAt wdL_law_545 adL_law_545.2.2.2.2.2.2.2.2.2.2.1 rfl
theorem dL_law_560 : decode cL_law 560 = .ok (.iload 4, 2) := dAt wdL_law_545 adL_law_545.2.2.2.2.2.2.2.2.2.2.2.1 rfl
theorem dL_law_562 : decode cL_law 562 = .ok (.iconst 1, 1) := dAt wdL_law_545 adL_law_545.2.2.2.2.2.2.2.2.2.2.2.2.1 rfl
theorem dL_law_563 : decode cL_law 563 = .ok (.iadd, 1) := dAt wdL_law_545 adL_law_545.2.2.2.2.2.2.2.2.2.2.2.2.2.1 rfl
theorem dL_law_564 : decode cL_law 564 = .ok (.iaload, 1) := dAt wdL_law_545 adL_law_545.2.2.2.2.2.2.2.2.2.2.2.2.2.2.1 rfl
theorem dL_law_565 : decode cL_law 565 = .ok (.aload_n 0, 1) := dAt wdL_law_545 adL_law_545.2.2.2.2.2.2.2.2.2.2.2.2.2.2.2 rfl
def bdL_law_566 : ByteArray := .mk #[21, 4, 5, 96, 46, 182, 0, 183, 54, 6, 44, 182, 0, 166, 21, 5, 159, 0, 5, 3, 172, 21, 5, 154, 0, 15, 45, 3]
theorem wdL_law_566 : LocW cL_law 566 bdL_law_566 := loc_of (by decide +kernel)
theorem adL_law_566 : De bdL_law_566 0 (.iload 4) 2 ∧ De bdL_law_566 2 (.iconst 2) 1 ∧ De bdL_law_566 3 (.iadd) 1 ∧ De bdL_law_566 4 (.iaload) 1 ∧ De bdL_law_566 5 (.invokevirtual 183) 3 ∧ De bdL_law_566 8 (.istore 6) 2 ∧ De bdL_law_566 10 (.aload_n 2) 1 ∧ De bdL_law_566 11 (.invokevirtual 166) 3 ∧ De bdL_law_566 14 (.iload 5) 2 ∧ De bdL_law_566 16 (.if_icmp .eq 5) 3 ∧ De bdL_law_566 19 (.iconst 0) 1 ∧ De bdL_law_566 20 (.ireturn) 1 ∧ De bdL_law_566 21 (.iload 5) 2 ∧ De bdL_law_566 23 (.ifCond .ne 15) 3 ∧ De bdL_law_566 26 (.aload_n 3) 1 ∧ De bdL_law_566 27 (.iconst 0) 1 := by decide +kernel
theorem dL_law_566 : decode cL_law 566 = .ok (.iload 4, 2) := dAt wdL_law_566 adL_law_566.1 rfl
theorem dL_law_568 : decode cL_law 568 = .ok (.iconst 2, 1) := dAt wdL_law_566 adL_law_566.2.1 rfl
theorem dL_law_569 : decode cL_law 569 = .ok (.iadd, 1) := dAt wdL_law_566 adL_law_566.2.2.1 rfl
theorem dL_law_570 : decode cL_law 570 = .ok (.iaload, 1) := dAt wdL_law_566 adL_law_566.2.2.2.1 rfl
theorem dL_law_571 : decode cL_law 571 = .ok (.invokevirtual 183, 3) := dAt wdL_law_566 adL_law_566.2.2.2.2.1 rfl
theorem dL_law_574 : decode cL_law 574 = .ok (.istore 6, 2) := dAt wdL_law_566 adL_law_566.2.2.2.2.2.1 rfl
theorem dL_law_576 : decode cL_law 576 = .ok (.aload_n 2, 1) := dAt wdL_law_566 adL_law_566.2.2.2.2.2.2.1 rfl
theorem dL_law_577 : decode cL_law 577 = .ok (.invokevirtual 166, 3) := dAt wdL_law_566 adL_law_566.2.2.2.2.2.2.2.1 rfl
theorem dL_law_580 : decode cL_law 580 = .ok (.iload 5, 2) := dAt wdL_law_566 adL_law_566.2.2.2.2.2.2.2.2.1 rfl
theorem dL_law_582 : decode cL_law 582 = .ok (.if_icmp .eq 5, 3) := dAt wdL_law_566 adL_law_566.2.2.2.2.2.2.2.2.2.1 rfl
theorem dL_law_585 : decode cL_law 585 = .ok (.iconst 0, 1) := dAt wdL_law_566 adL_law_566.2.2.2.2.2.2.2.2.2.2.1 rfl
theorem dL_law_586 : decode cL_law 586 = .ok (.ireturn, 1) := dAt wdL_law_566 adL_law_566.2.2.2.2.2.2.2.2.2.2.2.1 rfl
theorem dL_law_587 : decode cL_law 587 = .ok (.iload 5, 2) := dAt wdL_law_566 adL_law_566.2.2.2.2.2.2.2.2.2.2.2.2.1 rfl
theorem dL_law_589 : decode cL_law 589 = .ok (.ifCond .ne 15, 3) := dAt wdL_law_566 adL_law_566.2.2.2.2.2.2.2.2.2.2.2.2.2.1 rfl
theorem dL_law_592 : decode cL_law 592 = .ok (.aload_n 3, 1) := dAt wdL_law_566 adL_law_566.2.2.2.2.2.2.2.2.2.2.2.2.2.2.1 rfl
theorem dL_law_593 : decode cL_law 593 = .ok (.iconst 0, 1) := dAt wdL_law_566 adL_law_566.2.2.2.2.2.2.2.2.2.2.2.2.2.2.2 rfl
def bdL_law_594 : ByteArray := .mk #[47, 21, 6, 133, 148, 153, 0, 5, 3, 172, 167, 10, 45, 43, 42, 21, 4, 4, 96, 46, 42, 21, 4]
theorem wdL_law_594 : LocW cL_law 594 bdL_law_594 := loc_of (by decide +kernel)
theorem adL_law_594 : De bdL_law_594 0 (.laload) 1 ∧ De bdL_law_594 1 (.iload 6) 2 ∧ De bdL_law_594 3 (.i2l) 1 ∧ De bdL_law_594 4 (.lcmp) 1 ∧ De bdL_law_594 5 (.ifCond .eq 5) 3 ∧ De bdL_law_594 8 (.iconst 0) 1 ∧ De bdL_law_594 9 (.ireturn) 1 ∧ De bdL_law_594 10 (.goto 2605) 3 ∧ De bdL_law_594 13 (.aload_n 1) 1 ∧ De bdL_law_594 14 (.aload_n 0) 1 ∧ De bdL_law_594 15 (.iload 4) 2 ∧ De bdL_law_594 17 (.iconst 1) 1 ∧ De bdL_law_594 18 (.iadd) 1 ∧ De bdL_law_594 19 (.iaload) 1 ∧ De bdL_law_594 20 (.aload_n 0) 1 ∧ De bdL_law_594 21 (.iload 4) 2 := by decide +kernel
theorem dL_law_594 : decode cL_law 594 = .ok (.laload, 1) := dAt wdL_law_594 adL_law_594.1 rfl
theorem dL_law_595 : decode cL_law 595 = .ok (.iload 6, 2) := dAt wdL_law_594 adL_law_594.2.1 rfl
theorem dL_law_597 : decode cL_law 597 = .ok (.i2l, 1) := dAt wdL_law_594 adL_law_594.2.2.1 rfl
theorem dL_law_598 : decode cL_law 598 = .ok (.lcmp, 1) := dAt wdL_law_594 adL_law_594.2.2.2.1 rfl
theorem dL_law_599 : decode cL_law 599 = .ok (.ifCond .eq 5, 3) := dAt wdL_law_594 adL_law_594.2.2.2.2.1 rfl
theorem dL_law_602 : decode cL_law 602 = .ok (.iconst 0, 1) := dAt wdL_law_594 adL_law_594.2.2.2.2.2.1 rfl
theorem dL_law_603 : decode cL_law 603 = .ok (.ireturn, 1) := dAt wdL_law_594 adL_law_594.2.2.2.2.2.2.1 rfl
theorem dL_law_604 : decode cL_law 604 = .ok (.goto 2605, 3) := dAt wdL_law_594 adL_law_594.2.2.2.2.2.2.2.1 rfl
theorem dL_law_607 : decode cL_law 607 = .ok (.aload_n 1, 1) := dAt wdL_law_594 adL_law_594.2.2.2.2.2.2.2.2.1 rfl
theorem dL_law_608 : decode cL_law 608 = .ok (.aload_n 0, 1) := dAt wdL_law_594 adL_law_594.2.2.2.2.2.2.2.2.2.1 rfl
theorem dL_law_609 : decode cL_law 609 = .ok (.iload 4, 2) := dAt wdL_law_594 adL_law_594.2.2.2.2.2.2.2.2.2.2.1 rfl
theorem dL_law_611 : decode cL_law 611 = .ok (.iconst 1, 1) := dAt wdL_law_594 adL_law_594.2.2.2.2.2.2.2.2.2.2.2.1 rfl
theorem dL_law_612 : decode cL_law 612 = .ok (.iadd, 1) := dAt wdL_law_594 adL_law_594.2.2.2.2.2.2.2.2.2.2.2.2.1 rfl
theorem dL_law_613 : decode cL_law 613 = .ok (.iaload, 1) := dAt wdL_law_594 adL_law_594.2.2.2.2.2.2.2.2.2.2.2.2.2.1 rfl
theorem dL_law_614 : decode cL_law 614 = .ok (.aload_n 0, 1) := dAt wdL_law_594 adL_law_594.2.2.2.2.2.2.2.2.2.2.2.2.2.2.1 rfl
theorem dL_law_615 : decode cL_law 615 = .ok (.iload 4, 2) := dAt wdL_law_594 adL_law_594.2.2.2.2.2.2.2.2.2.2.2.2.2.2.2 rfl
def bdL_law_617 : ByteArray := .mk #[5, 96, 46, 42, 21, 4, 6, 96, 46, 45, 184, 0, 184, 54, 5, 44, 42, 21, 4, 4, 96]
theorem wdL_law_617 : LocW cL_law 617 bdL_law_617 := loc_of (by decide +kernel)
theorem adL_law_617 : De bdL_law_617 0 (.iconst 2) 1 ∧ De bdL_law_617 1 (.iadd) 1 ∧ De bdL_law_617 2 (.iaload) 1 ∧ De bdL_law_617 3 (.aload_n 0) 1 ∧ De bdL_law_617 4 (.iload 4) 2 ∧ De bdL_law_617 6 (.iconst 3) 1 ∧ De bdL_law_617 7 (.iadd) 1 ∧ De bdL_law_617 8 (.iaload) 1 ∧ De bdL_law_617 9 (.aload_n 3) 1 ∧ De bdL_law_617 10 (.invokestatic 184) 3 ∧ De bdL_law_617 13 (.istore 5) 2 ∧ De bdL_law_617 15 (.aload_n 2) 1 ∧ De bdL_law_617 16 (.aload_n 0) 1 ∧ De bdL_law_617 17 (.iload 4) 2 ∧ De bdL_law_617 19 (.iconst 1) 1 ∧ De bdL_law_617 20 (.iadd) 1 := by decide +kernel
theorem dL_law_617 : decode cL_law 617 = .ok (.iconst 2, 1) := dAt wdL_law_617 adL_law_617.1 rfl
theorem dL_law_618 : decode cL_law 618 = .ok (.iadd, 1) := dAt wdL_law_617 adL_law_617.2.1 rfl
theorem dL_law_619 : decode cL_law 619 = .ok (.iaload, 1) := dAt wdL_law_617 adL_law_617.2.2.1 rfl
theorem dL_law_620 : decode cL_law 620 = .ok (.aload_n 0, 1) := dAt wdL_law_617 adL_law_617.2.2.2.1 rfl
theorem dL_law_621 : decode cL_law 621 = .ok (.iload 4, 2) := dAt wdL_law_617 adL_law_617.2.2.2.2.1 rfl
theorem dL_law_623 : decode cL_law 623 = .ok (.iconst 3, 1) := dAt wdL_law_617 adL_law_617.2.2.2.2.2.1 rfl
theorem dL_law_624 : decode cL_law 624 = .ok (.iadd, 1) := dAt wdL_law_617 adL_law_617.2.2.2.2.2.2.1 rfl
theorem dL_law_625 : decode cL_law 625 = .ok (.iaload, 1) := dAt wdL_law_617 adL_law_617.2.2.2.2.2.2.2.1 rfl
theorem dL_law_626 : decode cL_law 626 = .ok (.aload_n 3, 1) := dAt wdL_law_617 adL_law_617.2.2.2.2.2.2.2.2.1 rfl
theorem dL_law_627 : decode cL_law 627 = .ok (.invokestatic 184, 3) := dAt wdL_law_617 adL_law_617.2.2.2.2.2.2.2.2.2.1 rfl
theorem dL_law_630 : decode cL_law 630 = .ok (.istore 5, 2) := dAt wdL_law_617 adL_law_617.2.2.2.2.2.2.2.2.2.2.1 rfl
theorem dL_law_632 : decode cL_law 632 = .ok (.aload_n 2, 1) := dAt wdL_law_617 adL_law_617.2.2.2.2.2.2.2.2.2.2.2.1 rfl
theorem dL_law_633 : decode cL_law 633 = .ok (.aload_n 0, 1) := dAt wdL_law_617 adL_law_617.2.2.2.2.2.2.2.2.2.2.2.2.1 rfl
theorem dL_law_634 : decode cL_law 634 = .ok (.iload 4, 2) := dAt wdL_law_617 adL_law_617.2.2.2.2.2.2.2.2.2.2.2.2.2.1 rfl
theorem dL_law_636 : decode cL_law 636 = .ok (.iconst 1, 1) := dAt wdL_law_617 adL_law_617.2.2.2.2.2.2.2.2.2.2.2.2.2.2.1 rfl
theorem dL_law_637 : decode cL_law 637 = .ok (.iadd, 1) := dAt wdL_law_617 adL_law_617.2.2.2.2.2.2.2.2.2.2.2.2.2.2.2 rfl
def bdL_law_638 : ByteArray := .mk #[46, 42, 21, 4, 5, 96, 46, 42, 21, 4, 6, 96, 46, 182, 0, 187, 54, 6, 44, 182, 0, 166, 21, 5]
theorem wdL_law_638 : LocW cL_law 638 bdL_law_638 := loc_of (by decide +kernel)
theorem adL_law_638 : De bdL_law_638 0 (.iaload) 1 ∧ De bdL_law_638 1 (.aload_n 0) 1 ∧ De bdL_law_638 2 (.iload 4) 2 ∧ De bdL_law_638 4 (.iconst 2) 1 ∧ De bdL_law_638 5 (.iadd) 1 ∧ De bdL_law_638 6 (.iaload) 1 ∧ De bdL_law_638 7 (.aload_n 0) 1 ∧ De bdL_law_638 8 (.iload 4) 2 ∧ De bdL_law_638 10 (.iconst 3) 1 ∧ De bdL_law_638 11 (.iadd) 1 ∧ De bdL_law_638 12 (.iaload) 1 ∧ De bdL_law_638 13 (.invokevirtual 187) 3 ∧ De bdL_law_638 16 (.istore 6) 2 ∧ De bdL_law_638 18 (.aload_n 2) 1 ∧ De bdL_law_638 19 (.invokevirtual 166) 3 ∧ De bdL_law_638 22 (.iload 5) 2 := by decide +kernel
theorem dL_law_638 : decode cL_law 638 = .ok (.iaload, 1) := dAt wdL_law_638 adL_law_638.1 rfl
theorem dL_law_639 : decode cL_law 639 = .ok (.aload_n 0, 1) := dAt wdL_law_638 adL_law_638.2.1 rfl
theorem dL_law_640 : decode cL_law 640 = .ok (.iload 4, 2) := dAt wdL_law_638 adL_law_638.2.2.1 rfl
theorem dL_law_642 : decode cL_law 642 = .ok (.iconst 2, 1) := dAt wdL_law_638 adL_law_638.2.2.2.1 rfl
theorem dL_law_643 : decode cL_law 643 = .ok (.iadd, 1) := dAt wdL_law_638 adL_law_638.2.2.2.2.1 rfl
theorem dL_law_644 : decode cL_law 644 = .ok (.iaload, 1) := dAt wdL_law_638 adL_law_638.2.2.2.2.2.1 rfl
theorem dL_law_645 : decode cL_law 645 = .ok (.aload_n 0, 1) := dAt wdL_law_638 adL_law_638.2.2.2.2.2.2.1 rfl
theorem dL_law_646 : decode cL_law 646 = .ok (.iload 4, 2) := dAt wdL_law_638 adL_law_638.2.2.2.2.2.2.2.1 rfl
theorem dL_law_648 : decode cL_law 648 = .ok (.iconst 3, 1) := dAt wdL_law_638 adL_law_638.2.2.2.2.2.2.2.2.1 rfl
theorem dL_law_649 : decode cL_law 649 = .ok (.iadd, 1) := dAt wdL_law_638 adL_law_638.2.2.2.2.2.2.2.2.2.1 rfl
theorem dL_law_650 : decode cL_law 650 = .ok (.iaload, 1) := dAt wdL_law_638 adL_law_638.2.2.2.2.2.2.2.2.2.2.1 rfl
theorem dL_law_651 : decode cL_law 651 = .ok (.invokevirtual 187, 3) := dAt wdL_law_638 adL_law_638.2.2.2.2.2.2.2.2.2.2.2.1 rfl
theorem dL_law_654 : decode cL_law 654 = .ok (.istore 6, 2) := dAt wdL_law_638 adL_law_638.2.2.2.2.2.2.2.2.2.2.2.2.1 rfl
theorem dL_law_656 : decode cL_law 656 = .ok (.aload_n 2, 1) := dAt wdL_law_638 adL_law_638.2.2.2.2.2.2.2.2.2.2.2.2.2.1 rfl
theorem dL_law_657 : decode cL_law 657 = .ok (.invokevirtual 166, 3) := dAt wdL_law_638 adL_law_638.2.2.2.2.2.2.2.2.2.2.2.2.2.2.1 rfl
theorem dL_law_660 : decode cL_law 660 = .ok (.iload 5, 2) := dAt wdL_law_638 adL_law_638.2.2.2.2.2.2.2.2.2.2.2.2.2.2.2 rfl
def bdL_law_662 : ByteArray := .mk #[159, 0, 5, 3, 172, 21, 5, 154, 0, 15, 45, 3, 47, 21, 6, 133, 148, 153, 0, 5, 3, 172, 167, 9, 221, 43]
theorem wdL_law_662 : LocW cL_law 662 bdL_law_662 := loc_of (by decide +kernel)
theorem adL_law_662 : De bdL_law_662 0 (.if_icmp .eq 5) 3 ∧ De bdL_law_662 3 (.iconst 0) 1 ∧ De bdL_law_662 4 (.ireturn) 1 ∧ De bdL_law_662 5 (.iload 5) 2 ∧ De bdL_law_662 7 (.ifCond .ne 15) 3 ∧ De bdL_law_662 10 (.aload_n 3) 1 ∧ De bdL_law_662 11 (.iconst 0) 1 ∧ De bdL_law_662 12 (.laload) 1 ∧ De bdL_law_662 13 (.iload 6) 2 ∧ De bdL_law_662 15 (.i2l) 1 ∧ De bdL_law_662 16 (.lcmp) 1 ∧ De bdL_law_662 17 (.ifCond .eq 5) 3 ∧ De bdL_law_662 20 (.iconst 0) 1 ∧ De bdL_law_662 21 (.ireturn) 1 ∧ De bdL_law_662 22 (.goto 2525) 3 ∧ De bdL_law_662 25 (.aload_n 1) 1 := by decide +kernel
theorem dL_law_662 : decode cL_law 662 = .ok (.if_icmp .eq 5, 3) := dAt wdL_law_662 adL_law_662.1 rfl
theorem dL_law_665 : decode cL_law 665 = .ok (.iconst 0, 1) := dAt wdL_law_662 adL_law_662.2.1 rfl
theorem dL_law_666 : decode cL_law 666 = .ok (.ireturn, 1) := dAt wdL_law_662 adL_law_662.2.2.1 rfl
theorem dL_law_667 : decode cL_law 667 = .ok (.iload 5, 2) := dAt wdL_law_662 adL_law_662.2.2.2.1 rfl
theorem dL_law_669 : decode cL_law 669 = .ok (.ifCond .ne 15, 3) := dAt wdL_law_662 adL_law_662.2.2.2.2.1 rfl
theorem dL_law_672 : decode cL_law 672 = .ok (.aload_n 3, 1) := dAt wdL_law_662 adL_law_662.2.2.2.2.2.1 rfl
theorem dL_law_673 : decode cL_law 673 = .ok (.iconst 0, 1) := dAt wdL_law_662 adL_law_662.2.2.2.2.2.2.1 rfl
theorem dL_law_674 : decode cL_law 674 = .ok (.laload, 1) := dAt wdL_law_662 adL_law_662.2.2.2.2.2.2.2.1 rfl
theorem dL_law_675 : decode cL_law 675 = .ok (.iload 6, 2) := dAt wdL_law_662 adL_law_662.2.2.2.2.2.2.2.2.1 rfl
theorem dL_law_677 : decode cL_law 677 = .ok (.i2l, 1) := dAt wdL_law_662 adL_law_662.2.2.2.2.2.2.2.2.2.1 rfl
theorem dL_law_678 : decode cL_law 678 = .ok (.lcmp, 1) := dAt wdL_law_662 adL_law_662.2.2.2.2.2.2.2.2.2.2.1 rfl
theorem dL_law_679 : decode cL_law 679 = .ok (.ifCond .eq 5, 3) := dAt wdL_law_662 adL_law_662.2.2.2.2.2.2.2.2.2.2.2.1 rfl
theorem dL_law_682 : decode cL_law 682 = .ok (.iconst 0, 1) := dAt wdL_law_662 adL_law_662.2.2.2.2.2.2.2.2.2.2.2.2.1 rfl
theorem dL_law_683 : decode cL_law 683 = .ok (.ireturn, 1) := dAt wdL_law_662 adL_law_662.2.2.2.2.2.2.2.2.2.2.2.2.2.1 rfl
theorem dL_law_684 : decode cL_law 684 = .ok (.goto 2525, 3) := dAt wdL_law_662 adL_law_662.2.2.2.2.2.2.2.2.2.2.2.2.2.2.1 rfl
theorem dL_law_687 : decode cL_law 687 = .ok (.aload_n 1, 1) := dAt wdL_law_662 adL_law_662.2.2.2.2.2.2.2.2.2.2.2.2.2.2.2 rfl
def bdL_law_688 : ByteArray := .mk #[42, 21, 4, 4, 96, 46, 42, 21, 4, 5, 96, 46, 45, 184, 0, 188, 54, 5, 44, 42, 21, 4]
theorem wdL_law_688 : LocW cL_law 688 bdL_law_688 := loc_of (by decide +kernel)
theorem adL_law_688 : De bdL_law_688 0 (.aload_n 0) 1 ∧ De bdL_law_688 1 (.iload 4) 2 ∧ De bdL_law_688 3 (.iconst 1) 1 ∧ De bdL_law_688 4 (.iadd) 1 ∧ De bdL_law_688 5 (.iaload) 1 ∧ De bdL_law_688 6 (.aload_n 0) 1 ∧ De bdL_law_688 7 (.iload 4) 2 ∧ De bdL_law_688 9 (.iconst 2) 1 ∧ De bdL_law_688 10 (.iadd) 1 ∧ De bdL_law_688 11 (.iaload) 1 ∧ De bdL_law_688 12 (.aload_n 3) 1 ∧ De bdL_law_688 13 (.invokestatic 188) 3 ∧ De bdL_law_688 16 (.istore 5) 2 ∧ De bdL_law_688 18 (.aload_n 2) 1 ∧ De bdL_law_688 19 (.aload_n 0) 1 ∧ De bdL_law_688 20 (.iload 4) 2 := by decide +kernel
theorem dL_law_688 : decode cL_law 688 = .ok (.aload_n 0, 1) := dAt wdL_law_688 adL_law_688.1 rfl
theorem dL_law_689 : decode cL_law 689 = .ok (.iload 4, 2) := dAt wdL_law_688 adL_law_688.2.1 rfl
theorem dL_law_691 : decode cL_law 691 = .ok (.iconst 1, 1) := dAt wdL_law_688 adL_law_688.2.2.1 rfl
theorem dL_law_692 : decode cL_law 692 = .ok (.iadd, 1) := dAt wdL_law_688 adL_law_688.2.2.2.1 rfl
theorem dL_law_693 : decode cL_law 693 = .ok (.iaload, 1) := dAt wdL_law_688 adL_law_688.2.2.2.2.1 rfl
theorem dL_law_694 : decode cL_law 694 = .ok (.aload_n 0, 1) := dAt wdL_law_688 adL_law_688.2.2.2.2.2.1 rfl
theorem dL_law_695 : decode cL_law 695 = .ok (.iload 4, 2) := dAt wdL_law_688 adL_law_688.2.2.2.2.2.2.1 rfl
theorem dL_law_697 : decode cL_law 697 = .ok (.iconst 2, 1) := dAt wdL_law_688 adL_law_688.2.2.2.2.2.2.2.1 rfl
theorem dL_law_698 : decode cL_law 698 = .ok (.iadd, 1) := dAt wdL_law_688 adL_law_688.2.2.2.2.2.2.2.2.1 rfl
theorem dL_law_699 : decode cL_law 699 = .ok (.iaload, 1) := dAt wdL_law_688 adL_law_688.2.2.2.2.2.2.2.2.2.1 rfl
theorem dL_law_700 : decode cL_law 700 = .ok (.aload_n 3, 1) := dAt wdL_law_688 adL_law_688.2.2.2.2.2.2.2.2.2.2.1 rfl
theorem dL_law_701 : decode cL_law 701 = .ok (.invokestatic 188, 3) := dAt wdL_law_688 adL_law_688.2.2.2.2.2.2.2.2.2.2.2.1 rfl
theorem dL_law_704 : decode cL_law 704 = .ok (.istore 5, 2) := dAt wdL_law_688 adL_law_688.2.2.2.2.2.2.2.2.2.2.2.2.1 rfl
theorem dL_law_706 : decode cL_law 706 = .ok (.aload_n 2, 1) := dAt wdL_law_688 adL_law_688.2.2.2.2.2.2.2.2.2.2.2.2.2.1 rfl
theorem dL_law_707 : decode cL_law 707 = .ok (.aload_n 0, 1) := dAt wdL_law_688 adL_law_688.2.2.2.2.2.2.2.2.2.2.2.2.2.2.1 rfl
theorem dL_law_708 : decode cL_law 708 = .ok (.iload 4, 2) := dAt wdL_law_688 adL_law_688.2.2.2.2.2.2.2.2.2.2.2.2.2.2.2 rfl
def bdL_law_710 : ByteArray := .mk #[4, 96, 46, 42, 21, 4, 5, 96, 46, 182, 0, 190, 54, 6, 44, 182, 0, 166, 21, 5, 159, 0, 5, 3, 172]
theorem wdL_law_710 : LocW cL_law 710 bdL_law_710 := loc_of (by decide +kernel)
theorem adL_law_710 : De bdL_law_710 0 (.iconst 1) 1 ∧ De bdL_law_710 1 (.iadd) 1 ∧ De bdL_law_710 2 (.iaload) 1 ∧ De bdL_law_710 3 (.aload_n 0) 1 ∧ De bdL_law_710 4 (.iload 4) 2 ∧ De bdL_law_710 6 (.iconst 2) 1 ∧ De bdL_law_710 7 (.iadd) 1 ∧ De bdL_law_710 8 (.iaload) 1 ∧ De bdL_law_710 9 (.invokevirtual 190) 3 ∧ De bdL_law_710 12 (.istore 6) 2 ∧ De bdL_law_710 14 (.aload_n 2) 1 ∧ De bdL_law_710 15 (.invokevirtual 166) 3 ∧ De bdL_law_710 18 (.iload 5) 2 ∧ De bdL_law_710 20 (.if_icmp .eq 5) 3 ∧ De bdL_law_710 23 (.iconst 0) 1 ∧ De bdL_law_710 24 (.ireturn) 1 := by decide +kernel
theorem dL_law_710 : decode cL_law 710 = .ok (.iconst 1, 1) := dAt wdL_law_710 adL_law_710.1 rfl
theorem dL_law_711 : decode cL_law 711 = .ok (.iadd, 1) := dAt wdL_law_710 adL_law_710.2.1 rfl
theorem dL_law_712 : decode cL_law 712 = .ok (.iaload, 1) := dAt wdL_law_710 adL_law_710.2.2.1 rfl
theorem dL_law_713 : decode cL_law 713 = .ok (.aload_n 0, 1) := dAt wdL_law_710 adL_law_710.2.2.2.1 rfl
theorem dL_law_714 : decode cL_law 714 = .ok (.iload 4, 2) := dAt wdL_law_710 adL_law_710.2.2.2.2.1 rfl
theorem dL_law_716 : decode cL_law 716 = .ok (.iconst 2, 1) := dAt wdL_law_710 adL_law_710.2.2.2.2.2.1 rfl
theorem dL_law_717 : decode cL_law 717 = .ok (.iadd, 1) := dAt wdL_law_710 adL_law_710.2.2.2.2.2.2.1 rfl
theorem dL_law_718 : decode cL_law 718 = .ok (.iaload, 1) := dAt wdL_law_710 adL_law_710.2.2.2.2.2.2.2.1 rfl
theorem dL_law_719 : decode cL_law 719 = .ok (.invokevirtual 190, 3) := dAt wdL_law_710 adL_law_710.2.2.2.2.2.2.2.2.1 rfl
theorem dL_law_722 : decode cL_law 722 = .ok (.istore 6, 2) := dAt wdL_law_710 adL_law_710.2.2.2.2.2.2.2.2.2.1 rfl
theorem dL_law_724 : decode cL_law 724 = .ok (.aload_n 2, 1) := dAt wdL_law_710 adL_law_710.2.2.2.2.2.2.2.2.2.2.1 rfl
theorem dL_law_725 : decode cL_law 725 = .ok (.invokevirtual 166, 3) := dAt wdL_law_710 adL_law_710.2.2.2.2.2.2.2.2.2.2.2.1 rfl
theorem dL_law_728 : decode cL_law 728 = .ok (.iload 5, 2) := dAt wdL_law_710 adL_law_710.2.2.2.2.2.2.2.2.2.2.2.2.1 rfl
theorem dL_law_730 : decode cL_law 730 = .ok (.if_icmp .eq 5, 3) := dAt wdL_law_710 adL_law_710.2.2.2.2.2.2.2.2.2.2.2.2.2.1 rfl
theorem dL_law_733 : decode cL_law 733 = .ok (.iconst 0, 1) := dAt wdL_law_710 adL_law_710.2.2.2.2.2.2.2.2.2.2.2.2.2.2.1 rfl
theorem dL_law_734 : decode cL_law 734 = .ok (.ireturn, 1) := dAt wdL_law_710 adL_law_710.2.2.2.2.2.2.2.2.2.2.2.2.2.2.2 rfl
def bdL_law_735 : ByteArray := .mk #[21, 5, 154, 0, 15, 45, 3, 47, 21, 6, 133, 148, 153, 0, 5, 3, 172, 167, 9, 153, 43, 42, 21, 4, 4]
theorem wdL_law_735 : LocW cL_law 735 bdL_law_735 := loc_of (by decide +kernel)
theorem adL_law_735 : De bdL_law_735 0 (.iload 5) 2 ∧ De bdL_law_735 2 (.ifCond .ne 15) 3 ∧ De bdL_law_735 5 (.aload_n 3) 1 ∧ De bdL_law_735 6 (.iconst 0) 1 ∧ De bdL_law_735 7 (.laload) 1 ∧ De bdL_law_735 8 (.iload 6) 2 ∧ De bdL_law_735 10 (.i2l) 1 ∧ De bdL_law_735 11 (.lcmp) 1 ∧ De bdL_law_735 12 (.ifCond .eq 5) 3 ∧ De bdL_law_735 15 (.iconst 0) 1 ∧ De bdL_law_735 16 (.ireturn) 1 ∧ De bdL_law_735 17 (.goto 2457) 3 ∧ De bdL_law_735 20 (.aload_n 1) 1 ∧ De bdL_law_735 21 (.aload_n 0) 1 ∧ De bdL_law_735 22 (.iload 4) 2 ∧ De bdL_law_735 24 (.iconst 1) 1 := by decide +kernel
theorem dL_law_735 : decode cL_law 735 = .ok (.iload 5, 2) := dAt wdL_law_735 adL_law_735.1 rfl
theorem dL_law_737 : decode cL_law 737 = .ok (.ifCond .ne 15, 3) := dAt wdL_law_735 adL_law_735.2.1 rfl
theorem dL_law_740 : decode cL_law 740 = .ok (.aload_n 3, 1) := dAt wdL_law_735 adL_law_735.2.2.1 rfl
theorem dL_law_741 : decode cL_law 741 = .ok (.iconst 0, 1) := dAt wdL_law_735 adL_law_735.2.2.2.1 rfl
theorem dL_law_742 : decode cL_law 742 = .ok (.laload, 1) := dAt wdL_law_735 adL_law_735.2.2.2.2.1 rfl
theorem dL_law_743 : decode cL_law 743 = .ok (.iload 6, 2) := dAt wdL_law_735 adL_law_735.2.2.2.2.2.1 rfl
theorem dL_law_745 : decode cL_law 745 = .ok (.i2l, 1) := dAt wdL_law_735 adL_law_735.2.2.2.2.2.2.1 rfl
theorem dL_law_746 : decode cL_law 746 = .ok (.lcmp, 1) := dAt wdL_law_735 adL_law_735.2.2.2.2.2.2.2.1 rfl
theorem dL_law_747 : decode cL_law 747 = .ok (.ifCond .eq 5, 3) := dAt wdL_law_735 adL_law_735.2.2.2.2.2.2.2.2.1 rfl
theorem dL_law_750 : decode cL_law 750 = .ok (.iconst 0, 1) := dAt wdL_law_735 adL_law_735.2.2.2.2.2.2.2.2.2.1 rfl
theorem dL_law_751 : decode cL_law 751 = .ok (.ireturn, 1) := dAt wdL_law_735 adL_law_735.2.2.2.2.2.2.2.2.2.2.1 rfl
theorem dL_law_752 : decode cL_law 752 = .ok (.goto 2457, 3) := dAt wdL_law_735 adL_law_735.2.2.2.2.2.2.2.2.2.2.2.1 rfl
theorem dL_law_755 : decode cL_law 755 = .ok (.aload_n 1, 1) := dAt wdL_law_735 adL_law_735.2.2.2.2.2.2.2.2.2.2.2.2.1 rfl
theorem dL_law_756 : decode cL_law 756 = .ok (.aload_n 0, 1) := dAt wdL_law_735 adL_law_735.2.2.2.2.2.2.2.2.2.2.2.2.2.1 rfl
theorem dL_law_757 : decode cL_law 757 = .ok (.iload 4, 2) := dAt wdL_law_735 adL_law_735.2.2.2.2.2.2.2.2.2.2.2.2.2.2.1 rfl
theorem dL_law_759 : decode cL_law 759 = .ok (.iconst 1, 1) := dAt wdL_law_735 adL_law_735.2.2.2.2.2.2.2.2.2.2.2.2.2.2.2 rfl
def bdL_law_760 : ByteArray := .mk #[96, 46, 42, 21, 4, 5, 96, 46, 45, 184, 0, 191, 54, 5, 44, 42, 21, 4, 4, 96, 46]
theorem wdL_law_760 : LocW cL_law 760 bdL_law_760 := loc_of (by decide +kernel)
theorem adL_law_760 : De bdL_law_760 0 (.iadd) 1 ∧ De bdL_law_760 1 (.iaload) 1 ∧ De bdL_law_760 2 (.aload_n 0) 1 ∧ De bdL_law_760 3 (.iload 4) 2 ∧ De bdL_law_760 5 (.iconst 2) 1 ∧ De bdL_law_760 6 (.iadd) 1 ∧ De bdL_law_760 7 (.iaload) 1 ∧ De bdL_law_760 8 (.aload_n 3) 1 ∧ De bdL_law_760 9 (.invokestatic 191) 3 ∧ De bdL_law_760 12 (.istore 5) 2 ∧ De bdL_law_760 14 (.aload_n 2) 1 ∧ De bdL_law_760 15 (.aload_n 0) 1 ∧ De bdL_law_760 16 (.iload 4) 2 ∧ De bdL_law_760 18 (.iconst 1) 1 ∧ De bdL_law_760 19 (.iadd) 1 ∧ De bdL_law_760 20 (.iaload) 1 := by decide +kernel
theorem dL_law_760 : decode cL_law 760 = .ok (.iadd, 1) := dAt wdL_law_760 adL_law_760.1 rfl
theorem dL_law_761 : decode cL_law 761 = .ok (.iaload, 1) := dAt wdL_law_760 adL_law_760.2.1 rfl
theorem dL_law_762 : decode cL_law 762 = .ok (.aload_n 0, 1) := dAt wdL_law_760 adL_law_760.2.2.1 rfl
theorem dL_law_763 : decode cL_law 763 = .ok (.iload 4, 2) := dAt wdL_law_760 adL_law_760.2.2.2.1 rfl
theorem dL_law_765 : decode cL_law 765 = .ok (.iconst 2, 1) := dAt wdL_law_760 adL_law_760.2.2.2.2.1 rfl
theorem dL_law_766 : decode cL_law 766 = .ok (.iadd, 1) := dAt wdL_law_760 adL_law_760.2.2.2.2.2.1 rfl
theorem dL_law_767 : decode cL_law 767 = .ok (.iaload, 1) := dAt wdL_law_760 adL_law_760.2.2.2.2.2.2.1 rfl
theorem dL_law_768 : decode cL_law 768 = .ok (.aload_n 3, 1) := dAt wdL_law_760 adL_law_760.2.2.2.2.2.2.2.1 rfl
theorem dL_law_769 : decode cL_law 769 = .ok (.invokestatic 191, 3) := dAt wdL_law_760 adL_law_760.2.2.2.2.2.2.2.2.1 rfl
theorem dL_law_772 : decode cL_law 772 = .ok (.istore 5, 2) := dAt wdL_law_760 adL_law_760.2.2.2.2.2.2.2.2.2.1 rfl
theorem dL_law_774 : decode cL_law 774 = .ok (.aload_n 2, 1) := dAt wdL_law_760 adL_law_760.2.2.2.2.2.2.2.2.2.2.1 rfl
theorem dL_law_775 : decode cL_law 775 = .ok (.aload_n 0, 1) := dAt wdL_law_760 adL_law_760.2.2.2.2.2.2.2.2.2.2.2.1 rfl
theorem dL_law_776 : decode cL_law 776 = .ok (.iload 4, 2) := dAt wdL_law_760 adL_law_760.2.2.2.2.2.2.2.2.2.2.2.2.1 rfl
theorem dL_law_778 : decode cL_law 778 = .ok (.iconst 1, 1) := dAt wdL_law_760 adL_law_760.2.2.2.2.2.2.2.2.2.2.2.2.2.1 rfl
theorem dL_law_779 : decode cL_law 779 = .ok (.iadd, 1) := dAt wdL_law_760 adL_law_760.2.2.2.2.2.2.2.2.2.2.2.2.2.2.1 rfl
theorem dL_law_780 : decode cL_law 780 = .ok (.iaload, 1) := dAt wdL_law_760 adL_law_760.2.2.2.2.2.2.2.2.2.2.2.2.2.2.2 rfl
def bdL_law_781 : ByteArray := .mk #[42, 21, 4, 5, 96, 46, 182, 0, 193, 54, 6, 44, 182, 0, 166, 21, 5, 159, 0, 5, 3, 172, 21, 5, 154, 0, 15, 45]
theorem wdL_law_781 : LocW cL_law 781 bdL_law_781 := loc_of (by decide +kernel)
theorem adL_law_781 : De bdL_law_781 0 (.aload_n 0) 1 ∧ De bdL_law_781 1 (.iload 4) 2 ∧ De bdL_law_781 3 (.iconst 2) 1 ∧ De bdL_law_781 4 (.iadd) 1 ∧ De bdL_law_781 5 (.iaload) 1 ∧ De bdL_law_781 6 (.invokevirtual 193) 3 ∧ De bdL_law_781 9 (.istore 6) 2 ∧ De bdL_law_781 11 (.aload_n 2) 1 ∧ De bdL_law_781 12 (.invokevirtual 166) 3 ∧ De bdL_law_781 15 (.iload 5) 2 ∧ De bdL_law_781 17 (.if_icmp .eq 5) 3 ∧ De bdL_law_781 20 (.iconst 0) 1 ∧ De bdL_law_781 21 (.ireturn) 1 ∧ De bdL_law_781 22 (.iload 5) 2 ∧ De bdL_law_781 24 (.ifCond .ne 15) 3 ∧ De bdL_law_781 27 (.aload_n 3) 1 := by decide +kernel
theorem dL_law_781 : decode cL_law 781 = .ok (.aload_n 0, 1) := dAt wdL_law_781 adL_law_781.1 rfl
theorem dL_law_782 : decode cL_law 782 = .ok (.iload 4, 2) := dAt wdL_law_781 adL_law_781.2.1 rfl
theorem dL_law_784 : decode cL_law 784 = .ok (.iconst 2, 1) := dAt wdL_law_781 adL_law_781.2.2.1 rfl
theorem dL_law_785 : decode cL_law 785 = .ok (.iadd, 1) := dAt wdL_law_781 adL_law_781.2.2.2.1 rfl
theorem dL_law_786 : decode cL_law 786 = .ok (.iaload, 1) := dAt wdL_law_781 adL_law_781.2.2.2.2.1 rfl
theorem dL_law_787 : decode cL_law 787 = .ok (.invokevirtual 193, 3) := dAt wdL_law_781 adL_law_781.2.2.2.2.2.1 rfl
theorem dL_law_790 : decode cL_law 790 = .ok (.istore 6, 2) := dAt wdL_law_781 adL_law_781.2.2.2.2.2.2.1 rfl
theorem dL_law_792 : decode cL_law 792 = .ok (.aload_n 2, 1) := dAt wdL_law_781 adL_law_781.2.2.2.2.2.2.2.1 rfl
theorem dL_law_793 : decode cL_law 793 = .ok (.invokevirtual 166, 3) := dAt wdL_law_781 adL_law_781.2.2.2.2.2.2.2.2.1 rfl
theorem dL_law_796 : decode cL_law 796 = .ok (.iload 5, 2) := dAt wdL_law_781 adL_law_781.2.2.2.2.2.2.2.2.2.1 rfl
theorem dL_law_798 : decode cL_law 798 = .ok (.if_icmp .eq 5, 3) := dAt wdL_law_781 adL_law_781.2.2.2.2.2.2.2.2.2.2.1 rfl
theorem dL_law_801 : decode cL_law 801 = .ok (.iconst 0, 1) := dAt wdL_law_781 adL_law_781.2.2.2.2.2.2.2.2.2.2.2.1 rfl
theorem dL_law_802 : decode cL_law 802 = .ok (.ireturn, 1) := dAt wdL_law_781 adL_law_781.2.2.2.2.2.2.2.2.2.2.2.2.1 rfl
theorem dL_law_803 : decode cL_law 803 = .ok (.iload 5, 2) := dAt wdL_law_781 adL_law_781.2.2.2.2.2.2.2.2.2.2.2.2.2.1 rfl
theorem dL_law_805 : decode cL_law 805 = .ok (.ifCond .ne 15, 3) := dAt wdL_law_781 adL_law_781.2.2.2.2.2.2.2.2.2.2.2.2.2.2.1 rfl
theorem dL_law_808 : decode cL_law 808 = .ok (.aload_n 3, 1) := dAt wdL_law_781 adL_law_781.2.2.2.2.2.2.2.2.2.2.2.2.2.2.2 rfl
def bdL_law_809 : ByteArray := .mk #[3, 47, 21, 6, 133, 148, 153, 0, 5, 3, 172, 167, 9, 85, 43, 42, 21, 4, 4, 96, 46, 42]
theorem wdL_law_809 : LocW cL_law 809 bdL_law_809 := loc_of (by decide +kernel)
theorem adL_law_809 : De bdL_law_809 0 (.iconst 0) 1 ∧ De bdL_law_809 1 (.laload) 1 ∧ De bdL_law_809 2 (.iload 6) 2 ∧ De bdL_law_809 4 (.i2l) 1 ∧ De bdL_law_809 5 (.lcmp) 1 ∧ De bdL_law_809 6 (.ifCond .eq 5) 3 ∧ De bdL_law_809 9 (.iconst 0) 1 ∧ De bdL_law_809 10 (.ireturn) 1 ∧ De bdL_law_809 11 (.goto 2389) 3 ∧ De bdL_law_809 14 (.aload_n 1) 1 ∧ De bdL_law_809 15 (.aload_n 0) 1 ∧ De bdL_law_809 16 (.iload 4) 2 ∧ De bdL_law_809 18 (.iconst 1) 1 ∧ De bdL_law_809 19 (.iadd) 1 ∧ De bdL_law_809 20 (.iaload) 1 ∧ De bdL_law_809 21 (.aload_n 0) 1 := by decide +kernel
theorem dL_law_809 : decode cL_law 809 = .ok (.iconst 0, 1) := dAt wdL_law_809 adL_law_809.1 rfl
theorem dL_law_810 : decode cL_law 810 = .ok (.laload, 1) := dAt wdL_law_809 adL_law_809.2.1 rfl
theorem dL_law_811 : decode cL_law 811 = .ok (.iload 6, 2) := dAt wdL_law_809 adL_law_809.2.2.1 rfl
theorem dL_law_813 : decode cL_law 813 = .ok (.i2l, 1) := dAt wdL_law_809 adL_law_809.2.2.2.1 rfl
theorem dL_law_814 : decode cL_law 814 = .ok (.lcmp, 1) := dAt wdL_law_809 adL_law_809.2.2.2.2.1 rfl
theorem dL_law_815 : decode cL_law 815 = .ok (.ifCond .eq 5, 3) := dAt wdL_law_809 adL_law_809.2.2.2.2.2.1 rfl
theorem dL_law_818 : decode cL_law 818 = .ok (.iconst 0, 1) := dAt wdL_law_809 adL_law_809.2.2.2.2.2.2.1 rfl
theorem dL_law_819 : decode cL_law 819 = .ok (.ireturn, 1) := dAt wdL_law_809 adL_law_809.2.2.2.2.2.2.2.1 rfl
theorem dL_law_820 : decode cL_law 820 = .ok (.goto 2389, 3) := dAt wdL_law_809 adL_law_809.2.2.2.2.2.2.2.2.1 rfl
theorem dL_law_823 : decode cL_law 823 = .ok (.aload_n 1, 1) := dAt wdL_law_809 adL_law_809.2.2.2.2.2.2.2.2.2.1 rfl
theorem dL_law_824 : decode cL_law 824 = .ok (.aload_n 0, 1) := dAt wdL_law_809 adL_law_809.2.2.2.2.2.2.2.2.2.2.1 rfl
theorem dL_law_825 : decode cL_law 825 = .ok (.iload 4, 2) := dAt wdL_law_809 adL_law_809.2.2.2.2.2.2.2.2.2.2.2.1 rfl
theorem dL_law_827 : decode cL_law 827 = .ok (.iconst 1, 1) := dAt wdL_law_809 adL_law_809.2.2.2.2.2.2.2.2.2.2.2.2.1 rfl
theorem dL_law_828 : decode cL_law 828 = .ok (.iadd, 1) := dAt wdL_law_809 adL_law_809.2.2.2.2.2.2.2.2.2.2.2.2.2.1 rfl
theorem dL_law_829 : decode cL_law 829 = .ok (.iaload, 1) := dAt wdL_law_809 adL_law_809.2.2.2.2.2.2.2.2.2.2.2.2.2.2.1 rfl
theorem dL_law_830 : decode cL_law 830 = .ok (.aload_n 0, 1) := dAt wdL_law_809 adL_law_809.2.2.2.2.2.2.2.2.2.2.2.2.2.2.2 rfl
def bdL_law_831 : ByteArray := .mk #[21, 4, 5, 96, 46, 153, 0, 7, 4, 167, 0, 4, 3, 45, 184, 0, 194, 54, 5, 44, 42, 21, 4, 4, 96]
theorem wdL_law_831 : LocW cL_law 831 bdL_law_831 := loc_of (by decide +kernel)
theorem adL_law_831 : De bdL_law_831 0 (.iload 4) 2 ∧ De bdL_law_831 2 (.iconst 2) 1 ∧ De bdL_law_831 3 (.iadd) 1 ∧ De bdL_law_831 4 (.iaload) 1 ∧ De bdL_law_831 5 (.ifCond .eq 7) 3 ∧ De bdL_law_831 8 (.iconst 1) 1 ∧ De bdL_law_831 9 (.goto 4) 3 ∧ De bdL_law_831 12 (.iconst 0) 1 ∧ De bdL_law_831 13 (.aload_n 3) 1 ∧ De bdL_law_831 14 (.invokestatic 194) 3 ∧ De bdL_law_831 17 (.istore 5) 2 ∧ De bdL_law_831 19 (.aload_n 2) 1 ∧ De bdL_law_831 20 (.aload_n 0) 1 ∧ De bdL_law_831 21 (.iload 4) 2 ∧ De bdL_law_831 23 (.iconst 1) 1 ∧ De bdL_law_831 24 (.iadd) 1 := by decide +kernel
theorem dL_law_831 : decode cL_law 831 = .ok (.iload 4, 2) := dAt wdL_law_831 adL_law_831.1 rfl
theorem dL_law_833 : decode cL_law 833 = .ok (.iconst 2, 1) := dAt wdL_law_831 adL_law_831.2.1 rfl
theorem dL_law_834 : decode cL_law 834 = .ok (.iadd, 1) := dAt wdL_law_831 adL_law_831.2.2.1 rfl
theorem dL_law_835 : decode cL_law 835 = .ok (.iaload, 1) := dAt wdL_law_831 adL_law_831.2.2.2.1 rfl
theorem dL_law_836 : decode cL_law 836 = .ok (.ifCond .eq 7, 3) := dAt wdL_law_831 adL_law_831.2.2.2.2.1 rfl
theorem dL_law_839 : decode cL_law 839 = .ok (.iconst 1, 1) := dAt wdL_law_831 adL_law_831.2.2.2.2.2.1 rfl
theorem dL_law_840 : decode cL_law 840 = .ok (.goto 4, 3) := dAt wdL_law_831 adL_law_831.2.2.2.2.2.2.1 rfl
theorem dL_law_843 : decode cL_law 843 = .ok (.iconst 0, 1) := dAt wdL_law_831 adL_law_831.2.2.2.2.2.2.2.1 rfl
theorem dL_law_844 : decode cL_law 844 = .ok (.aload_n 3, 1) := dAt wdL_law_831 adL_law_831.2.2.2.2.2.2.2.2.1 rfl
theorem dL_law_845 : decode cL_law 845 = .ok (.invokestatic 194, 3) := dAt wdL_law_831 adL_law_831.2.2.2.2.2.2.2.2.2.1 rfl
theorem dL_law_848 : decode cL_law 848 = .ok (.istore 5, 2) := dAt wdL_law_831 adL_law_831.2.2.2.2.2.2.2.2.2.2.1 rfl
theorem dL_law_850 : decode cL_law 850 = .ok (.aload_n 2, 1) := dAt wdL_law_831 adL_law_831.2.2.2.2.2.2.2.2.2.2.2.1 rfl
theorem dL_law_851 : decode cL_law 851 = .ok (.aload_n 0, 1) := dAt wdL_law_831 adL_law_831.2.2.2.2.2.2.2.2.2.2.2.2.1 rfl
theorem dL_law_852 : decode cL_law 852 = .ok (.iload 4, 2) := dAt wdL_law_831 adL_law_831.2.2.2.2.2.2.2.2.2.2.2.2.2.1 rfl
theorem dL_law_854 : decode cL_law 854 = .ok (.iconst 1, 1) := dAt wdL_law_831 adL_law_831.2.2.2.2.2.2.2.2.2.2.2.2.2.2.1 rfl
theorem dL_law_855 : decode cL_law 855 = .ok (.iadd, 1) := dAt wdL_law_831 adL_law_831.2.2.2.2.2.2.2.2.2.2.2.2.2.2.2 rfl
def bdL_law_856 : ByteArray := .mk #[46, 42, 21, 4, 5, 96, 46, 153, 0, 7, 4, 167, 0, 4, 3, 182, 0, 197, 54, 6, 44, 182, 0, 166, 21, 5, 159, 0, 5]
theorem wdL_law_856 : LocW cL_law 856 bdL_law_856 := loc_of (by decide +kernel)
theorem adL_law_856 : De bdL_law_856 0 (.iaload) 1 ∧ De bdL_law_856 1 (.aload_n 0) 1 ∧ De bdL_law_856 2 (.iload 4) 2 ∧ De bdL_law_856 4 (.iconst 2) 1 ∧ De bdL_law_856 5 (.iadd) 1 ∧ De bdL_law_856 6 (.iaload) 1 ∧ De bdL_law_856 7 (.ifCond .eq 7) 3 ∧ De bdL_law_856 10 (.iconst 1) 1 ∧ De bdL_law_856 11 (.goto 4) 3 ∧ De bdL_law_856 14 (.iconst 0) 1 ∧ De bdL_law_856 15 (.invokevirtual 197) 3 ∧ De bdL_law_856 18 (.istore 6) 2 ∧ De bdL_law_856 20 (.aload_n 2) 1 ∧ De bdL_law_856 21 (.invokevirtual 166) 3 ∧ De bdL_law_856 24 (.iload 5) 2 ∧ De bdL_law_856 26 (.if_icmp .eq 5) 3 := by decide +kernel
theorem dL_law_856 : decode cL_law 856 = .ok (.iaload, 1) := dAt wdL_law_856 adL_law_856.1 rfl
theorem dL_law_857 : decode cL_law 857 = .ok (.aload_n 0, 1) := dAt wdL_law_856 adL_law_856.2.1 rfl
theorem dL_law_858 : decode cL_law 858 = .ok (.iload 4, 2) := dAt wdL_law_856 adL_law_856.2.2.1 rfl
theorem dL_law_860 : decode cL_law 860 = .ok (.iconst 2, 1) := dAt wdL_law_856 adL_law_856.2.2.2.1 rfl
theorem dL_law_861 : decode cL_law 861 = .ok (.iadd, 1) := dAt wdL_law_856 adL_law_856.2.2.2.2.1 rfl
theorem dL_law_862 : decode cL_law 862 = .ok (.iaload, 1) := dAt wdL_law_856 adL_law_856.2.2.2.2.2.1 rfl
theorem dL_law_863 : decode cL_law 863 = .ok (.ifCond .eq 7, 3) := dAt wdL_law_856 adL_law_856.2.2.2.2.2.2.1 rfl
theorem dL_law_866 : decode cL_law 866 = .ok (.iconst 1, 1) := dAt wdL_law_856 adL_law_856.2.2.2.2.2.2.2.1 rfl
theorem dL_law_867 : decode cL_law 867 = .ok (.goto 4, 3) := dAt wdL_law_856 adL_law_856.2.2.2.2.2.2.2.2.1 rfl
theorem dL_law_870 : decode cL_law 870 = .ok (.iconst 0, 1) := dAt wdL_law_856 adL_law_856.2.2.2.2.2.2.2.2.2.1 rfl
theorem dL_law_871 : decode cL_law 871 = .ok (.invokevirtual 197, 3) := dAt wdL_law_856 adL_law_856.2.2.2.2.2.2.2.2.2.2.1 rfl
theorem dL_law_874 : decode cL_law 874 = .ok (.istore 6, 2) := dAt wdL_law_856 adL_law_856.2.2.2.2.2.2.2.2.2.2.2.1 rfl
theorem dL_law_876 : decode cL_law 876 = .ok (.aload_n 2, 1) := dAt wdL_law_856 adL_law_856.2.2.2.2.2.2.2.2.2.2.2.2.1 rfl
theorem dL_law_877 : decode cL_law 877 = .ok (.invokevirtual 166, 3) := dAt wdL_law_856 adL_law_856.2.2.2.2.2.2.2.2.2.2.2.2.2.1 rfl
theorem dL_law_880 : decode cL_law 880 = .ok (.iload 5, 2) := dAt wdL_law_856 adL_law_856.2.2.2.2.2.2.2.2.2.2.2.2.2.2.1 rfl
theorem dL_law_882 : decode cL_law 882 = .ok (.if_icmp .eq 5, 3) := dAt wdL_law_856 adL_law_856.2.2.2.2.2.2.2.2.2.2.2.2.2.2.2 rfl
def bdL_law_885 : ByteArray := .mk #[3, 172, 21, 5, 154, 0, 15, 45, 3, 47, 21, 6, 133, 148, 153, 0, 5, 3, 172, 167, 9, 1, 43, 42]
theorem wdL_law_885 : LocW cL_law 885 bdL_law_885 := loc_of (by decide +kernel)
theorem adL_law_885 : De bdL_law_885 0 (.iconst 0) 1 ∧ De bdL_law_885 1 (.ireturn) 1 ∧ De bdL_law_885 2 (.iload 5) 2 ∧ De bdL_law_885 4 (.ifCond .ne 15) 3 ∧ De bdL_law_885 7 (.aload_n 3) 1 ∧ De bdL_law_885 8 (.iconst 0) 1 ∧ De bdL_law_885 9 (.laload) 1 ∧ De bdL_law_885 10 (.iload 6) 2 ∧ De bdL_law_885 12 (.i2l) 1 ∧ De bdL_law_885 13 (.lcmp) 1 ∧ De bdL_law_885 14 (.ifCond .eq 5) 3 ∧ De bdL_law_885 17 (.iconst 0) 1 ∧ De bdL_law_885 18 (.ireturn) 1 ∧ De bdL_law_885 19 (.goto 2305) 3 ∧ De bdL_law_885 22 (.aload_n 1) 1 ∧ De bdL_law_885 23 (.aload_n 0) 1 := by decide +kernel
theorem dL_law_885 : decode cL_law 885 = .ok (.iconst 0, 1) := dAt wdL_law_885 adL_law_885.1 rfl
theorem dL_law_886 : decode cL_law 886 = .ok (.ireturn, 1) := dAt wdL_law_885 adL_law_885.2.1 rfl
theorem dL_law_887 : decode cL_law 887 = .ok (.iload 5, 2) := dAt wdL_law_885 adL_law_885.2.2.1 rfl
theorem dL_law_889 : decode cL_law 889 = .ok (.ifCond .ne 15, 3) := dAt wdL_law_885 adL_law_885.2.2.2.1 rfl
theorem dL_law_892 : decode cL_law 892 = .ok (.aload_n 3, 1) := dAt wdL_law_885 adL_law_885.2.2.2.2.1 rfl
theorem dL_law_893 : decode cL_law 893 = .ok (.iconst 0, 1) := dAt wdL_law_885 adL_law_885.2.2.2.2.2.1 rfl
theorem dL_law_894 : decode cL_law 894 = .ok (.laload, 1) := dAt wdL_law_885 adL_law_885.2.2.2.2.2.2.1 rfl
theorem dL_law_895 : decode cL_law 895 = .ok (.iload 6, 2) := dAt wdL_law_885 adL_law_885.2.2.2.2.2.2.2.1 rfl
theorem dL_law_897 : decode cL_law 897 = .ok (.i2l, 1) := dAt wdL_law_885 adL_law_885.2.2.2.2.2.2.2.2.1 rfl
theorem dL_law_898 : decode cL_law 898 = .ok (.lcmp, 1) := dAt wdL_law_885 adL_law_885.2.2.2.2.2.2.2.2.2.1 rfl
theorem dL_law_899 : decode cL_law 899 = .ok (.ifCond .eq 5, 3) := dAt wdL_law_885 adL_law_885.2.2.2.2.2.2.2.2.2.2.1 rfl
theorem dL_law_902 : decode cL_law 902 = .ok (.iconst 0, 1) := dAt wdL_law_885 adL_law_885.2.2.2.2.2.2.2.2.2.2.2.1 rfl
theorem dL_law_903 : decode cL_law 903 = .ok (.ireturn, 1) := dAt wdL_law_885 adL_law_885.2.2.2.2.2.2.2.2.2.2.2.2.1 rfl
theorem dL_law_904 : decode cL_law 904 = .ok (.goto 2305, 3) := dAt wdL_law_885 adL_law_885.2.2.2.2.2.2.2.2.2.2.2.2.2.1 rfl
theorem dL_law_907 : decode cL_law 907 = .ok (.aload_n 1, 1) := dAt wdL_law_885 adL_law_885.2.2.2.2.2.2.2.2.2.2.2.2.2.2.1 rfl
theorem dL_law_908 : decode cL_law 908 = .ok (.aload_n 0, 1) := dAt wdL_law_885 adL_law_885.2.2.2.2.2.2.2.2.2.2.2.2.2.2.2 rfl
def bdL_law_909 : ByteArray := .mk #[21, 4, 4, 96, 46, 42, 21, 4, 5, 96, 46, 45, 184, 0, 198, 54, 5, 44, 42, 21, 4, 4]
theorem wdL_law_909 : LocW cL_law 909 bdL_law_909 := loc_of (by decide +kernel)
theorem adL_law_909 : De bdL_law_909 0 (.iload 4) 2 ∧ De bdL_law_909 2 (.iconst 1) 1 ∧ De bdL_law_909 3 (.iadd) 1 ∧ De bdL_law_909 4 (.iaload) 1 ∧ De bdL_law_909 5 (.aload_n 0) 1 ∧ De bdL_law_909 6 (.iload 4) 2 ∧ De bdL_law_909 8 (.iconst 2) 1 ∧ De bdL_law_909 9 (.iadd) 1 ∧ De bdL_law_909 10 (.iaload) 1 ∧ De bdL_law_909 11 (.aload_n 3) 1 ∧ De bdL_law_909 12 (.invokestatic 198) 3 ∧ De bdL_law_909 15 (.istore 5) 2 ∧ De bdL_law_909 17 (.aload_n 2) 1 ∧ De bdL_law_909 18 (.aload_n 0) 1 ∧ De bdL_law_909 19 (.iload 4) 2 ∧ De bdL_law_909 21 (.iconst 1) 1 := by decide +kernel
theorem dL_law_909 : decode cL_law 909 = .ok (.iload 4, 2) := dAt wdL_law_909 adL_law_909.1 rfl
theorem dL_law_911 : decode cL_law 911 = .ok (.iconst 1, 1) := dAt wdL_law_909 adL_law_909.2.1 rfl
theorem dL_law_912 : decode cL_law 912 = .ok (.iadd, 1) := dAt wdL_law_909 adL_law_909.2.2.1 rfl
theorem dL_law_913 : decode cL_law 913 = .ok (.iaload, 1) := dAt wdL_law_909 adL_law_909.2.2.2.1 rfl
theorem dL_law_914 : decode cL_law 914 = .ok (.aload_n 0, 1) := dAt wdL_law_909 adL_law_909.2.2.2.2.1 rfl
theorem dL_law_915 : decode cL_law 915 = .ok (.iload 4, 2) := dAt wdL_law_909 adL_law_909.2.2.2.2.2.1 rfl
theorem dL_law_917 : decode cL_law 917 = .ok (.iconst 2, 1) := dAt wdL_law_909 adL_law_909.2.2.2.2.2.2.1 rfl
theorem dL_law_918 : decode cL_law 918 = .ok (.iadd, 1) := dAt wdL_law_909 adL_law_909.2.2.2.2.2.2.2.1 rfl
theorem dL_law_919 : decode cL_law 919 = .ok (.iaload, 1) := dAt wdL_law_909 adL_law_909.2.2.2.2.2.2.2.2.1 rfl
theorem dL_law_920 : decode cL_law 920 = .ok (.aload_n 3, 1) := dAt wdL_law_909 adL_law_909.2.2.2.2.2.2.2.2.2.1 rfl
theorem dL_law_921 : decode cL_law 921 = .ok (.invokestatic 198, 3) := dAt wdL_law_909 adL_law_909.2.2.2.2.2.2.2.2.2.2.1 rfl
theorem dL_law_924 : decode cL_law 924 = .ok (.istore 5, 2) := dAt wdL_law_909 adL_law_909.2.2.2.2.2.2.2.2.2.2.2.1 rfl
theorem dL_law_926 : decode cL_law 926 = .ok (.aload_n 2, 1) := dAt wdL_law_909 adL_law_909.2.2.2.2.2.2.2.2.2.2.2.2.1 rfl
theorem dL_law_927 : decode cL_law 927 = .ok (.aload_n 0, 1) := dAt wdL_law_909 adL_law_909.2.2.2.2.2.2.2.2.2.2.2.2.2.1 rfl
theorem dL_law_928 : decode cL_law 928 = .ok (.iload 4, 2) := dAt wdL_law_909 adL_law_909.2.2.2.2.2.2.2.2.2.2.2.2.2.2.1 rfl
theorem dL_law_930 : decode cL_law 930 = .ok (.iconst 1, 1) := dAt wdL_law_909 adL_law_909.2.2.2.2.2.2.2.2.2.2.2.2.2.2.2 rfl
def bdL_law_931 : ByteArray := .mk #[96, 46, 42, 21, 4, 5, 96, 46, 182, 0, 200, 54, 6, 44, 182, 0, 166, 21, 5, 159, 0, 5, 3, 172, 21, 5]
theorem wdL_law_931 : LocW cL_law 931 bdL_law_931 := loc_of (by decide +kernel)
theorem adL_law_931 : De bdL_law_931 0 (.iadd) 1 ∧ De bdL_law_931 1 (.iaload) 1 ∧ De bdL_law_931 2 (.aload_n 0) 1 ∧ De bdL_law_931 3 (.iload 4) 2 ∧ De bdL_law_931 5 (.iconst 2) 1 ∧ De bdL_law_931 6 (.iadd) 1 ∧ De bdL_law_931 7 (.iaload) 1 ∧ De bdL_law_931 8 (.invokevirtual 200) 3 ∧ De bdL_law_931 11 (.istore 6) 2 ∧ De bdL_law_931 13 (.aload_n 2) 1 ∧ De bdL_law_931 14 (.invokevirtual 166) 3 ∧ De bdL_law_931 17 (.iload 5) 2 ∧ De bdL_law_931 19 (.if_icmp .eq 5) 3 ∧ De bdL_law_931 22 (.iconst 0) 1 ∧ De bdL_law_931 23 (.ireturn) 1 ∧ De bdL_law_931 24 (.iload 5) 2 := by decide +kernel
theorem dL_law_931 : decode cL_law 931 = .ok (.iadd, 1) := dAt wdL_law_931 adL_law_931.1 rfl
theorem dL_law_932 : decode cL_law 932 = .ok (.iaload, 1) := dAt wdL_law_931 adL_law_931.2.1 rfl
theorem dL_law_933 : decode cL_law 933 = .ok (.aload_n 0, 1) := dAt wdL_law_931 adL_law_931.2.2.1 rfl
theorem dL_law_934 : decode cL_law 934 = .ok (.iload 4, 2) := dAt wdL_law_931 adL_law_931.2.2.2.1 rfl
theorem dL_law_936 : decode cL_law 936 = .ok (.iconst 2, 1) := dAt wdL_law_931 adL_law_931.2.2.2.2.1 rfl
theorem dL_law_937 : decode cL_law 937 = .ok (.iadd, 1) := dAt wdL_law_931 adL_law_931.2.2.2.2.2.1 rfl
theorem dL_law_938 : decode cL_law 938 = .ok (.iaload, 1) := dAt wdL_law_931 adL_law_931.2.2.2.2.2.2.1 rfl
theorem dL_law_939 : decode cL_law 939 = .ok (.invokevirtual 200, 3) := dAt wdL_law_931 adL_law_931.2.2.2.2.2.2.2.1 rfl
theorem dL_law_942 : decode cL_law 942 = .ok (.istore 6, 2) := dAt wdL_law_931 adL_law_931.2.2.2.2.2.2.2.2.1 rfl
theorem dL_law_944 : decode cL_law 944 = .ok (.aload_n 2, 1) := dAt wdL_law_931 adL_law_931.2.2.2.2.2.2.2.2.2.1 rfl
theorem dL_law_945 : decode cL_law 945 = .ok (.invokevirtual 166, 3) := dAt wdL_law_931 adL_law_931.2.2.2.2.2.2.2.2.2.2.1 rfl
theorem dL_law_948 : decode cL_law 948 = .ok (.iload 5, 2) := dAt wdL_law_931 adL_law_931.2.2.2.2.2.2.2.2.2.2.2.1 rfl
theorem dL_law_950 : decode cL_law 950 = .ok (.if_icmp .eq 5, 3) := dAt wdL_law_931 adL_law_931.2.2.2.2.2.2.2.2.2.2.2.2.1 rfl
theorem dL_law_953 : decode cL_law 953 = .ok (.iconst 0, 1) := dAt wdL_law_931 adL_law_931.2.2.2.2.2.2.2.2.2.2.2.2.2.1 rfl
theorem dL_law_954 : decode cL_law 954 = .ok (.ireturn, 1) := dAt wdL_law_931 adL_law_931.2.2.2.2.2.2.2.2.2.2.2.2.2.2.1 rfl
theorem dL_law_955 : decode cL_law 955 = .ok (.iload 5, 2) := dAt wdL_law_931 adL_law_931.2.2.2.2.2.2.2.2.2.2.2.2.2.2.2 rfl
def bdL_law_957 : ByteArray := .mk #[154, 0, 15, 45, 3, 47, 21, 6, 133, 148, 153, 0, 5, 3, 172, 167, 8, 189, 43, 42, 21, 4, 4, 96]
theorem wdL_law_957 : LocW cL_law 957 bdL_law_957 := loc_of (by decide +kernel)
theorem adL_law_957 : De bdL_law_957 0 (.ifCond .ne 15) 3 ∧ De bdL_law_957 3 (.aload_n 3) 1 ∧ De bdL_law_957 4 (.iconst 0) 1 ∧ De bdL_law_957 5 (.laload) 1 ∧ De bdL_law_957 6 (.iload 6) 2 ∧ De bdL_law_957 8 (.i2l) 1 ∧ De bdL_law_957 9 (.lcmp) 1 ∧ De bdL_law_957 10 (.ifCond .eq 5) 3 ∧ De bdL_law_957 13 (.iconst 0) 1 ∧ De bdL_law_957 14 (.ireturn) 1 ∧ De bdL_law_957 15 (.goto 2237) 3 ∧ De bdL_law_957 18 (.aload_n 1) 1 ∧ De bdL_law_957 19 (.aload_n 0) 1 ∧ De bdL_law_957 20 (.iload 4) 2 ∧ De bdL_law_957 22 (.iconst 1) 1 ∧ De bdL_law_957 23 (.iadd) 1 := by decide +kernel
theorem dL_law_957 : decode cL_law 957 = .ok (.ifCond .ne 15, 3) := dAt wdL_law_957 adL_law_957.1 rfl
theorem dL_law_960 : decode cL_law 960 = .ok (.aload_n 3, 1) := dAt wdL_law_957 adL_law_957.2.1 rfl
theorem dL_law_961 : decode cL_law 961 = .ok (.iconst 0, 1) := dAt wdL_law_957 adL_law_957.2.2.1 rfl
theorem dL_law_962 : decode cL_law 962 = .ok (.laload, 1) := dAt wdL_law_957 adL_law_957.2.2.2.1 rfl
theorem dL_law_963 : decode cL_law 963 = .ok (.iload 6, 2) := dAt wdL_law_957 adL_law_957.2.2.2.2.1 rfl
theorem dL_law_965 : decode cL_law 965 = .ok (.i2l, 1) := dAt wdL_law_957 adL_law_957.2.2.2.2.2.1 rfl
theorem dL_law_966 : decode cL_law 966 = .ok (.lcmp, 1) := dAt wdL_law_957 adL_law_957.2.2.2.2.2.2.1 rfl
theorem dL_law_967 : decode cL_law 967 = .ok (.ifCond .eq 5, 3) := dAt wdL_law_957 adL_law_957.2.2.2.2.2.2.2.1 rfl
theorem dL_law_970 : decode cL_law 970 = .ok (.iconst 0, 1) := dAt wdL_law_957 adL_law_957.2.2.2.2.2.2.2.2.1 rfl
theorem dL_law_971 : decode cL_law 971 = .ok (.ireturn, 1) := dAt wdL_law_957 adL_law_957.2.2.2.2.2.2.2.2.2.1 rfl
theorem dL_law_972 : decode cL_law 972 = .ok (.goto 2237, 3) := dAt wdL_law_957 adL_law_957.2.2.2.2.2.2.2.2.2.2.1 rfl
theorem dL_law_975 : decode cL_law 975 = .ok (.aload_n 1, 1) := dAt wdL_law_957 adL_law_957.2.2.2.2.2.2.2.2.2.2.2.1 rfl
theorem dL_law_976 : decode cL_law 976 = .ok (.aload_n 0, 1) := dAt wdL_law_957 adL_law_957.2.2.2.2.2.2.2.2.2.2.2.2.1 rfl
theorem dL_law_977 : decode cL_law 977 = .ok (.iload 4, 2) := dAt wdL_law_957 adL_law_957.2.2.2.2.2.2.2.2.2.2.2.2.2.1 rfl
theorem dL_law_979 : decode cL_law 979 = .ok (.iconst 1, 1) := dAt wdL_law_957 adL_law_957.2.2.2.2.2.2.2.2.2.2.2.2.2.2.1 rfl
theorem dL_law_980 : decode cL_law 980 = .ok (.iadd, 1) := dAt wdL_law_957 adL_law_957.2.2.2.2.2.2.2.2.2.2.2.2.2.2.2 rfl
def bdL_law_981 : ByteArray := .mk #[46, 42, 21, 4, 5, 96, 46, 42, 21, 4, 6, 96, 46, 45, 184, 0, 201, 54, 5, 44, 42]
theorem wdL_law_981 : LocW cL_law 981 bdL_law_981 := loc_of (by decide +kernel)
theorem adL_law_981 : De bdL_law_981 0 (.iaload) 1 ∧ De bdL_law_981 1 (.aload_n 0) 1 ∧ De bdL_law_981 2 (.iload 4) 2 ∧ De bdL_law_981 4 (.iconst 2) 1 ∧ De bdL_law_981 5 (.iadd) 1 ∧ De bdL_law_981 6 (.iaload) 1 ∧ De bdL_law_981 7 (.aload_n 0) 1 ∧ De bdL_law_981 8 (.iload 4) 2 ∧ De bdL_law_981 10 (.iconst 3) 1 ∧ De bdL_law_981 11 (.iadd) 1 ∧ De bdL_law_981 12 (.iaload) 1 ∧ De bdL_law_981 13 (.aload_n 3) 1 ∧ De bdL_law_981 14 (.invokestatic 201) 3 ∧ De bdL_law_981 17 (.istore 5) 2 ∧ De bdL_law_981 19 (.aload_n 2) 1 ∧ De bdL_law_981 20 (.aload_n 0) 1 := by decide +kernel
theorem dL_law_981 : decode cL_law 981 = .ok (.iaload, 1) := dAt wdL_law_981 adL_law_981.1 rfl
theorem dL_law_982 : decode cL_law 982 = .ok (.aload_n 0, 1) := dAt wdL_law_981 adL_law_981.2.1 rfl
theorem dL_law_983 : decode cL_law 983 = .ok (.iload 4, 2) := dAt wdL_law_981 adL_law_981.2.2.1 rfl
theorem dL_law_985 : decode cL_law 985 = .ok (.iconst 2, 1) := dAt wdL_law_981 adL_law_981.2.2.2.1 rfl
theorem dL_law_986 : decode cL_law 986 = .ok (.iadd, 1) := dAt wdL_law_981 adL_law_981.2.2.2.2.1 rfl
theorem dL_law_987 : decode cL_law 987 = .ok (.iaload, 1) := dAt wdL_law_981 adL_law_981.2.2.2.2.2.1 rfl
theorem dL_law_988 : decode cL_law 988 = .ok (.aload_n 0, 1) := dAt wdL_law_981 adL_law_981.2.2.2.2.2.2.1 rfl
theorem dL_law_989 : decode cL_law 989 = .ok (.iload 4, 2) := dAt wdL_law_981 adL_law_981.2.2.2.2.2.2.2.1 rfl
theorem dL_law_991 : decode cL_law 991 = .ok (.iconst 3, 1) := dAt wdL_law_981 adL_law_981.2.2.2.2.2.2.2.2.1 rfl
theorem dL_law_992 : decode cL_law 992 = .ok (.iadd, 1) := dAt wdL_law_981 adL_law_981.2.2.2.2.2.2.2.2.2.1 rfl
theorem dL_law_993 : decode cL_law 993 = .ok (.iaload, 1) := dAt wdL_law_981 adL_law_981.2.2.2.2.2.2.2.2.2.2.1 rfl
theorem dL_law_994 : decode cL_law 994 = .ok (.aload_n 3, 1) := dAt wdL_law_981 adL_law_981.2.2.2.2.2.2.2.2.2.2.2.1 rfl
theorem dL_law_995 : decode cL_law 995 = .ok (.invokestatic 201, 3) := dAt wdL_law_981 adL_law_981.2.2.2.2.2.2.2.2.2.2.2.2.1 rfl
theorem dL_law_998 : decode cL_law 998 = .ok (.istore 5, 2) := dAt wdL_law_981 adL_law_981.2.2.2.2.2.2.2.2.2.2.2.2.2.1 rfl
theorem dL_law_1000 : decode cL_law 1000 = .ok (.aload_n 2, 1) := dAt wdL_law_981 adL_law_981.2.2.2.2.2.2.2.2.2.2.2.2.2.2.1 rfl
theorem dL_law_1001 : decode cL_law 1001 = .ok (.aload_n 0, 1) := dAt wdL_law_981 adL_law_981.2.2.2.2.2.2.2.2.2.2.2.2.2.2.2 rfl
def bdL_law_1002 : ByteArray := .mk #[21, 4, 4, 96, 46, 42, 21, 4, 5, 96, 46, 42, 21, 4, 6, 96, 46, 182, 0, 203, 54, 6]
theorem wdL_law_1002 : LocW cL_law 1002 bdL_law_1002 := loc_of (by decide +kernel)
theorem adL_law_1002 : De bdL_law_1002 0 (.iload 4) 2 ∧ De bdL_law_1002 2 (.iconst 1) 1 ∧ De bdL_law_1002 3 (.iadd) 1 ∧ De bdL_law_1002 4 (.iaload) 1 ∧ De bdL_law_1002 5 (.aload_n 0) 1 ∧ De bdL_law_1002 6 (.iload 4) 2 ∧ De bdL_law_1002 8 (.iconst 2) 1 ∧ De bdL_law_1002 9 (.iadd) 1 ∧ De bdL_law_1002 10 (.iaload) 1 ∧ De bdL_law_1002 11 (.aload_n 0) 1 ∧ De bdL_law_1002 12 (.iload 4) 2 ∧ De bdL_law_1002 14 (.iconst 3) 1 ∧ De bdL_law_1002 15 (.iadd) 1 ∧ De bdL_law_1002 16 (.iaload) 1 ∧ De bdL_law_1002 17 (.invokevirtual 203) 3 ∧ De bdL_law_1002 20 (.istore 6) 2 := by decide +kernel
theorem dL_law_1002 : decode cL_law 1002 = .ok (.iload 4, 2) := dAt wdL_law_1002 adL_law_1002.1 rfl
theorem dL_law_1004 : decode cL_law 1004 = .ok (.iconst 1, 1) := dAt wdL_law_1002 adL_law_1002.2.1 rfl
theorem dL_law_1005 : decode cL_law 1005 = .ok (.iadd, 1) := dAt wdL_law_1002 adL_law_1002.2.2.1 rfl
theorem dL_law_1006 : decode cL_law 1006 = .ok (.iaload, 1) := dAt wdL_law_1002 adL_law_1002.2.2.2.1 rfl
theorem dL_law_1007 : decode cL_law 1007 = .ok (.aload_n 0, 1) := dAt wdL_law_1002 adL_law_1002.2.2.2.2.1 rfl
theorem dL_law_1008 : decode cL_law 1008 = .ok (.iload 4, 2) := dAt wdL_law_1002 adL_law_1002.2.2.2.2.2.1 rfl
theorem dL_law_1010 : decode cL_law 1010 = .ok (.iconst 2, 1) := dAt wdL_law_1002 adL_law_1002.2.2.2.2.2.2.1 rfl
theorem dL_law_1011 : decode cL_law 1011 = .ok (.iadd, 1) := dAt wdL_law_1002 adL_law_1002.2.2.2.2.2.2.2.1 rfl
theorem dL_law_1012 : decode cL_law 1012 = .ok (.iaload, 1) := dAt wdL_law_1002 adL_law_1002.2.2.2.2.2.2.2.2.1 rfl
theorem dL_law_1013 : decode cL_law 1013 = .ok (.aload_n 0, 1) := dAt wdL_law_1002 adL_law_1002.2.2.2.2.2.2.2.2.2.1 rfl
theorem dL_law_1014 : decode cL_law 1014 = .ok (.iload 4, 2) := dAt wdL_law_1002 adL_law_1002.2.2.2.2.2.2.2.2.2.2.1 rfl
theorem dL_law_1016 : decode cL_law 1016 = .ok (.iconst 3, 1) := dAt wdL_law_1002 adL_law_1002.2.2.2.2.2.2.2.2.2.2.2.1 rfl
theorem dL_law_1017 : decode cL_law 1017 = .ok (.iadd, 1) := dAt wdL_law_1002 adL_law_1002.2.2.2.2.2.2.2.2.2.2.2.2.1 rfl
theorem dL_law_1018 : decode cL_law 1018 = .ok (.iaload, 1) := dAt wdL_law_1002 adL_law_1002.2.2.2.2.2.2.2.2.2.2.2.2.2.1 rfl
theorem dL_law_1019 : decode cL_law 1019 = .ok (.invokevirtual 203, 3) := dAt wdL_law_1002 adL_law_1002.2.2.2.2.2.2.2.2.2.2.2.2.2.2.1 rfl
theorem dL_law_1022 : decode cL_law 1022 = .ok (.istore 6, 2) := dAt wdL_law_1002 adL_law_1002.2.2.2.2.2.2.2.2.2.2.2.2.2.2.2 rfl
def bdL_law_1024 : ByteArray := .mk #[44, 182, 0, 166, 21, 5, 159, 0, 5, 3, 172, 21, 5, 154, 0, 15, 45, 3, 47, 21, 6, 133, 148, 153, 0, 5, 3]
theorem wdL_law_1024 : LocW cL_law 1024 bdL_law_1024 := loc_of (by decide +kernel)
theorem adL_law_1024 : De bdL_law_1024 0 (.aload_n 2) 1 ∧ De bdL_law_1024 1 (.invokevirtual 166) 3 ∧ De bdL_law_1024 4 (.iload 5) 2 ∧ De bdL_law_1024 6 (.if_icmp .eq 5) 3 ∧ De bdL_law_1024 9 (.iconst 0) 1 ∧ De bdL_law_1024 10 (.ireturn) 1 ∧ De bdL_law_1024 11 (.iload 5) 2 ∧ De bdL_law_1024 13 (.ifCond .ne 15) 3 ∧ De bdL_law_1024 16 (.aload_n 3) 1 ∧ De bdL_law_1024 17 (.iconst 0) 1 ∧ De bdL_law_1024 18 (.laload) 1 ∧ De bdL_law_1024 19 (.iload 6) 2 ∧ De bdL_law_1024 21 (.i2l) 1 ∧ De bdL_law_1024 22 (.lcmp) 1 ∧ De bdL_law_1024 23 (.ifCond .eq 5) 3 ∧ De bdL_law_1024 26 (.iconst 0) 1 := by decide +kernel
theorem dL_law_1024 : decode cL_law 1024 = .ok (.aload_n 2, 1) := dAt wdL_law_1024 adL_law_1024.1 rfl
theorem dL_law_1025 : decode cL_law 1025 = .ok (.invokevirtual 166, 3) := dAt wdL_law_1024 adL_law_1024.2.1 rfl
theorem dL_law_1028 : decode cL_law 1028 = .ok (.iload 5, 2) := dAt wdL_law_1024 adL_law_1024.2.2.1 rfl
theorem dL_law_1030 : decode cL_law 1030 = .ok (.if_icmp .eq 5, 3) := dAt wdL_law_1024 adL_law_1024.2.2.2.1 rfl
theorem dL_law_1033 : decode cL_law 1033 = .ok (.iconst 0, 1) := dAt wdL_law_1024 adL_law_1024.2.2.2.2.1 rfl
theorem dL_law_1034 : decode cL_law 1034 = .ok (.ireturn, 1) := dAt wdL_law_1024 adL_law_1024.2.2.2.2.2.1 rfl
theorem dL_law_1035 : decode cL_law 1035 = .ok (.iload 5, 2) := dAt wdL_law_1024 adL_law_1024.2.2.2.2.2.2.1 rfl
theorem dL_law_1037 : decode cL_law 1037 = .ok (.ifCond .ne 15, 3) := dAt wdL_law_1024 adL_law_1024.2.2.2.2.2.2.2.1 rfl
theorem dL_law_1040 : decode cL_law 1040 = .ok (.aload_n 3, 1) := dAt wdL_law_1024 adL_law_1024.2.2.2.2.2.2.2.2.1 rfl
theorem dL_law_1041 : decode cL_law 1041 = .ok (.iconst 0, 1) := dAt wdL_law_1024 adL_law_1024.2.2.2.2.2.2.2.2.2.1 rfl
theorem dL_law_1042 : decode cL_law 1042 = .ok (.laload, 1) := dAt wdL_law_1024 adL_law_1024.2.2.2.2.2.2.2.2.2.2.1 rfl
theorem dL_law_1043 : decode cL_law 1043 = .ok (.iload 6, 2) := dAt wdL_law_1024 adL_law_1024.2.2.2.2.2.2.2.2.2.2.2.1 rfl
theorem dL_law_1045 : decode cL_law 1045 = .ok (.i2l, 1) := dAt wdL_law_1024 adL_law_1024.2.2.2.2.2.2.2.2.2.2.2.2.1 rfl
theorem dL_law_1046 : decode cL_law 1046 = .ok (.lcmp, 1) := dAt wdL_law_1024 adL_law_1024.2.2.2.2.2.2.2.2.2.2.2.2.2.1 rfl
theorem dL_law_1047 : decode cL_law 1047 = .ok (.ifCond .eq 5, 3) := dAt wdL_law_1024 adL_law_1024.2.2.2.2.2.2.2.2.2.2.2.2.2.2.1 rfl
theorem dL_law_1050 : decode cL_law 1050 = .ok (.iconst 0, 1) := dAt wdL_law_1024 adL_law_1024.2.2.2.2.2.2.2.2.2.2.2.2.2.2.2 rfl
def bdL_law_1051 : ByteArray := .mk #[172, 167, 8, 109, 43, 42, 21, 4, 4, 96, 46, 42, 21, 4, 5, 96, 46, 153, 0, 7, 4, 167, 0, 4]
theorem wdL_law_1051 : LocW cL_law 1051 bdL_law_1051 := loc_of (by decide +kernel)
theorem adL_law_1051 : De bdL_law_1051 0 (.ireturn) 1 ∧ De bdL_law_1051 1 (.goto 2157) 3 ∧ De bdL_law_1051 4 (.aload_n 1) 1 ∧ De bdL_law_1051 5 (.aload_n 0) 1 ∧ De bdL_law_1051 6 (.iload 4) 2 ∧ De bdL_law_1051 8 (.iconst 1) 1 ∧ De bdL_law_1051 9 (.iadd) 1 ∧ De bdL_law_1051 10 (.iaload) 1 ∧ De bdL_law_1051 11 (.aload_n 0) 1 ∧ De bdL_law_1051 12 (.iload 4) 2 ∧ De bdL_law_1051 14 (.iconst 2) 1 ∧ De bdL_law_1051 15 (.iadd) 1 ∧ De bdL_law_1051 16 (.iaload) 1 ∧ De bdL_law_1051 17 (.ifCond .eq 7) 3 ∧ De bdL_law_1051 20 (.iconst 1) 1 ∧ De bdL_law_1051 21 (.goto 4) 3 := by decide +kernel
theorem dL_law_1051 : decode cL_law 1051 = .ok (.ireturn, 1) := dAt wdL_law_1051 adL_law_1051.1 rfl
theorem dL_law_1052 : decode cL_law 1052 = .ok (.goto 2157, 3) := dAt wdL_law_1051 adL_law_1051.2.1 rfl
theorem dL_law_1055 : decode cL_law 1055 = .ok (.aload_n 1, 1) := dAt wdL_law_1051 adL_law_1051.2.2.1 rfl
theorem dL_law_1056 : decode cL_law 1056 = .ok (.aload_n 0, 1) := dAt wdL_law_1051 adL_law_1051.2.2.2.1 rfl
theorem dL_law_1057 : decode cL_law 1057 = .ok (.iload 4, 2) := dAt wdL_law_1051 adL_law_1051.2.2.2.2.1 rfl
theorem dL_law_1059 : decode cL_law 1059 = .ok (.iconst 1, 1) := dAt wdL_law_1051 adL_law_1051.2.2.2.2.2.1 rfl
theorem dL_law_1060 : decode cL_law 1060 = .ok (.iadd, 1) := dAt wdL_law_1051 adL_law_1051.2.2.2.2.2.2.1 rfl
theorem dL_law_1061 : decode cL_law 1061 = .ok (.iaload, 1) := dAt wdL_law_1051 adL_law_1051.2.2.2.2.2.2.2.1 rfl
theorem dL_law_1062 : decode cL_law 1062 = .ok (.aload_n 0, 1) := dAt wdL_law_1051 adL_law_1051.2.2.2.2.2.2.2.2.1 rfl
theorem dL_law_1063 : decode cL_law 1063 = .ok (.iload 4, 2) := dAt wdL_law_1051 adL_law_1051.2.2.2.2.2.2.2.2.2.1 rfl
theorem dL_law_1065 : decode cL_law 1065 = .ok (.iconst 2, 1) := dAt wdL_law_1051 adL_law_1051.2.2.2.2.2.2.2.2.2.2.1 rfl
theorem dL_law_1066 : decode cL_law 1066 = .ok (.iadd, 1) := dAt wdL_law_1051 adL_law_1051.2.2.2.2.2.2.2.2.2.2.2.1 rfl
theorem dL_law_1067 : decode cL_law 1067 = .ok (.iaload, 1) := dAt wdL_law_1051 adL_law_1051.2.2.2.2.2.2.2.2.2.2.2.2.1 rfl
theorem dL_law_1068 : decode cL_law 1068 = .ok (.ifCond .eq 7, 3) := dAt wdL_law_1051 adL_law_1051.2.2.2.2.2.2.2.2.2.2.2.2.2.1 rfl
theorem dL_law_1071 : decode cL_law 1071 = .ok (.iconst 1, 1) := dAt wdL_law_1051 adL_law_1051.2.2.2.2.2.2.2.2.2.2.2.2.2.2.1 rfl
theorem dL_law_1072 : decode cL_law 1072 = .ok (.goto 4, 3) := dAt wdL_law_1051 adL_law_1051.2.2.2.2.2.2.2.2.2.2.2.2.2.2.2 rfl
def bdL_law_1075 : ByteArray := .mk #[3, 45, 184, 0, 204, 54, 5, 44, 42, 21, 4, 4, 96, 46, 42, 21, 4, 5, 96, 46, 153, 0, 7]
theorem wdL_law_1075 : LocW cL_law 1075 bdL_law_1075 := loc_of (by decide +kernel)
theorem adL_law_1075 : De bdL_law_1075 0 (.iconst 0) 1 ∧ De bdL_law_1075 1 (.aload_n 3) 1 ∧ De bdL_law_1075 2 (.invokestatic 204) 3 ∧ De bdL_law_1075 5 (.istore 5) 2 ∧ De bdL_law_1075 7 (.aload_n 2) 1 ∧ De bdL_law_1075 8 (.aload_n 0) 1 ∧ De bdL_law_1075 9 (.iload 4) 2 ∧ De bdL_law_1075 11 (.iconst 1) 1 ∧ De bdL_law_1075 12 (.iadd) 1 ∧ De bdL_law_1075 13 (.iaload) 1 ∧ De bdL_law_1075 14 (.aload_n 0) 1 ∧ De bdL_law_1075 15 (.iload 4) 2 ∧ De bdL_law_1075 17 (.iconst 2) 1 ∧ De bdL_law_1075 18 (.iadd) 1 ∧ De bdL_law_1075 19 (.iaload) 1 ∧ De bdL_law_1075 20 (.ifCond .eq 7) 3 := by decide +kernel
theorem dL_law_1075 : decode cL_law 1075 = .ok (.iconst 0, 1) := dAt wdL_law_1075 adL_law_1075.1 rfl
theorem dL_law_1076 : decode cL_law 1076 = .ok (.aload_n 3, 1) := dAt wdL_law_1075 adL_law_1075.2.1 rfl
theorem dL_law_1077 : decode cL_law 1077 = .ok (.invokestatic 204, 3) := dAt wdL_law_1075 adL_law_1075.2.2.1 rfl
theorem dL_law_1080 : decode cL_law 1080 = .ok (.istore 5, 2) := dAt wdL_law_1075 adL_law_1075.2.2.2.1 rfl
theorem dL_law_1082 : decode cL_law 1082 = .ok (.aload_n 2, 1) := dAt wdL_law_1075 adL_law_1075.2.2.2.2.1 rfl
theorem dL_law_1083 : decode cL_law 1083 = .ok (.aload_n 0, 1) := dAt wdL_law_1075 adL_law_1075.2.2.2.2.2.1 rfl
theorem dL_law_1084 : decode cL_law 1084 = .ok (.iload 4, 2) := dAt wdL_law_1075 adL_law_1075.2.2.2.2.2.2.1 rfl
theorem dL_law_1086 : decode cL_law 1086 = .ok (.iconst 1, 1) := dAt wdL_law_1075 adL_law_1075.2.2.2.2.2.2.2.1 rfl
theorem dL_law_1087 : decode cL_law 1087 = .ok (.iadd, 1) := dAt wdL_law_1075 adL_law_1075.2.2.2.2.2.2.2.2.1 rfl
theorem dL_law_1088 : decode cL_law 1088 = .ok (.iaload, 1) := dAt wdL_law_1075 adL_law_1075.2.2.2.2.2.2.2.2.2.1 rfl
theorem dL_law_1089 : decode cL_law 1089 = .ok (.aload_n 0, 1) := dAt wdL_law_1075 adL_law_1075.2.2.2.2.2.2.2.2.2.2.1 rfl
theorem dL_law_1090 : decode cL_law 1090 = .ok (.iload 4, 2) := dAt wdL_law_1075 adL_law_1075.2.2.2.2.2.2.2.2.2.2.2.1 rfl
theorem dL_law_1092 : decode cL_law 1092 = .ok (.iconst 2, 1) := dAt wdL_law_1075 adL_law_1075.2.2.2.2.2.2.2.2.2.2.2.2.1 rfl
theorem dL_law_1093 : decode cL_law 1093 = .ok (.iadd, 1) := dAt wdL_law_1075 adL_law_1075.2.2.2.2.2.2.2.2.2.2.2.2.2.1 rfl
theorem dL_law_1094 : decode cL_law 1094 = .ok (.iaload, 1) := dAt wdL_law_1075 adL_law_1075.2.2.2.2.2.2.2.2.2.2.2.2.2.2.1 rfl
theorem dL_law_1095 : decode cL_law 1095 = .ok (.ifCond .eq 7, 3) := dAt wdL_law_1075 adL_law_1075.2.2.2.2.2.2.2.2.2.2.2.2.2.2.2 rfl
def bdL_law_1098 : ByteArray := .mk #[4, 167, 0, 4, 3, 182, 0, 206, 54, 6, 44, 182, 0, 166, 21, 5, 159, 0, 5, 3, 172, 21, 5, 154, 0, 22, 45, 3, 47]
theorem wdL_law_1098 : LocW cL_law 1098 bdL_law_1098 := loc_of (by decide +kernel)
theorem adL_law_1098 : De bdL_law_1098 0 (.iconst 1) 1 ∧ De bdL_law_1098 1 (.goto 4) 3 ∧ De bdL_law_1098 4 (.iconst 0) 1 ∧ De bdL_law_1098 5 (.invokevirtual 206) 3 ∧ De bdL_law_1098 8 (.istore 6) 2 ∧ De bdL_law_1098 10 (.aload_n 2) 1 ∧ De bdL_law_1098 11 (.invokevirtual 166) 3 ∧ De bdL_law_1098 14 (.iload 5) 2 ∧ De bdL_law_1098 16 (.if_icmp .eq 5) 3 ∧ De bdL_law_1098 19 (.iconst 0) 1 ∧ De bdL_law_1098 20 (.ireturn) 1 ∧ De bdL_law_1098 21 (.iload 5) 2 ∧ De bdL_law_1098 23 (.ifCond .ne 22) 3 ∧ De bdL_law_1098 26 (.aload_n 3) 1 ∧ De bdL_law_1098 27 (.iconst 0) 1 ∧ De bdL_law_1098 28 (.laload) 1 := by decide +kernel
theorem dL_law_1098 : decode cL_law 1098 = .ok (.iconst 1, 1) := dAt wdL_law_1098 adL_law_1098.1 rfl
theorem dL_law_1099 : decode cL_law 1099 = .ok (.goto 4, 3) := dAt wdL_law_1098 adL_law_1098.2.1 rfl
theorem dL_law_1102 : decode cL_law 1102 = .ok (.iconst 0, 1) := dAt wdL_law_1098 adL_law_1098.2.2.1 rfl
theorem dL_law_1103 : decode cL_law 1103 = .ok (.invokevirtual 206, 3) := dAt wdL_law_1098 adL_law_1098.2.2.2.1 rfl
theorem dL_law_1106 : decode cL_law 1106 = .ok (.istore 6, 2) := dAt wdL_law_1098 adL_law_1098.2.2.2.2.1 rfl
theorem dL_law_1108 : decode cL_law 1108 = .ok (.aload_n 2, 1) := dAt wdL_law_1098 adL_law_1098.2.2.2.2.2.1 rfl
theorem dL_law_1109 : decode cL_law 1109 = .ok (.invokevirtual 166, 3) := dAt wdL_law_1098 adL_law_1098.2.2.2.2.2.2.1 rfl
theorem dL_law_1112 : decode cL_law 1112 = .ok (.iload 5, 2) := dAt wdL_law_1098 adL_law_1098.2.2.2.2.2.2.2.1 rfl
theorem dL_law_1114 : decode cL_law 1114 = .ok (.if_icmp .eq 5, 3) := dAt wdL_law_1098 adL_law_1098.2.2.2.2.2.2.2.2.1 rfl
theorem dL_law_1117 : decode cL_law 1117 = .ok (.iconst 0, 1) := dAt wdL_law_1098 adL_law_1098.2.2.2.2.2.2.2.2.2.1 rfl
theorem dL_law_1118 : decode cL_law 1118 = .ok (.ireturn, 1) := dAt wdL_law_1098 adL_law_1098.2.2.2.2.2.2.2.2.2.2.1 rfl
theorem dL_law_1119 : decode cL_law 1119 = .ok (.iload 5, 2) := dAt wdL_law_1098 adL_law_1098.2.2.2.2.2.2.2.2.2.2.2.1 rfl
theorem dL_law_1121 : decode cL_law 1121 = .ok (.ifCond .ne 22, 3) := dAt wdL_law_1098 adL_law_1098.2.2.2.2.2.2.2.2.2.2.2.2.1 rfl
theorem dL_law_1124 : decode cL_law 1124 = .ok (.aload_n 3, 1) := dAt wdL_law_1098 adL_law_1098.2.2.2.2.2.2.2.2.2.2.2.2.2.1 rfl
theorem dL_law_1125 : decode cL_law 1125 = .ok (.iconst 0, 1) := dAt wdL_law_1098 adL_law_1098.2.2.2.2.2.2.2.2.2.2.2.2.2.2.1 rfl
theorem dL_law_1126 : decode cL_law 1126 = .ok (.laload, 1) := dAt wdL_law_1098 adL_law_1098.2.2.2.2.2.2.2.2.2.2.2.2.2.2.2 rfl
def bdL_law_1127 : ByteArray := .mk #[21, 6, 153, 0, 7, 10, 167, 0, 4, 9, 148, 153, 0, 5, 3, 172, 167, 8, 18, 43, 42, 21, 4, 4, 96, 46]
theorem wdL_law_1127 : LocW cL_law 1127 bdL_law_1127 := loc_of (by decide +kernel)
theorem adL_law_1127 : De bdL_law_1127 0 (.iload 6) 2 ∧ De bdL_law_1127 2 (.ifCond .eq 7) 3 ∧ De bdL_law_1127 5 (.lconst 1) 1 ∧ De bdL_law_1127 6 (.goto 4) 3 ∧ De bdL_law_1127 9 (.lconst 0) 1 ∧ De bdL_law_1127 10 (.lcmp) 1 ∧ De bdL_law_1127 11 (.ifCond .eq 5) 3 ∧ De bdL_law_1127 14 (.iconst 0) 1 ∧ De bdL_law_1127 15 (.ireturn) 1 ∧ De bdL_law_1127 16 (.goto 2066) 3 ∧ De bdL_law_1127 19 (.aload_n 1) 1 ∧ De bdL_law_1127 20 (.aload_n 0) 1 ∧ De bdL_law_1127 21 (.iload 4) 2 ∧ De bdL_law_1127 23 (.iconst 1) 1 ∧ De bdL_law_1127 24 (.iadd) 1 ∧ De bdL_law_1127 25 (.iaload) 1 := by decide +kernel
theorem dL_law_1127 : decode cL_law 1127 = .ok (.iload 6, 2) := dAt wdL_law_1127 adL_law_1127.1 rfl
theorem dL_law_1129 : decode cL_law 1129 = .ok (.ifCond .eq 7, 3) := dAt wdL_law_1127 adL_law_1127.2.1 rfl
theorem dL_law_1132 : decode cL_law 1132 = .ok (.lconst 1, 1) := dAt wdL_law_1127 adL_law_1127.2.2.1 rfl
theorem dL_law_1133 : decode cL_law 1133 = .ok (.goto 4, 3) := dAt wdL_law_1127 adL_law_1127.2.2.2.1 rfl
theorem dL_law_1136 : decode cL_law 1136 = .ok (.lconst 0, 1) := dAt wdL_law_1127 adL_law_1127.2.2.2.2.1 rfl
theorem dL_law_1137 : decode cL_law 1137 = .ok (.lcmp, 1) := dAt wdL_law_1127 adL_law_1127.2.2.2.2.2.1 rfl
theorem dL_law_1138 : decode cL_law 1138 = .ok (.ifCond .eq 5, 3) := dAt wdL_law_1127 adL_law_1127.2.2.2.2.2.2.1 rfl
theorem dL_law_1141 : decode cL_law 1141 = .ok (.iconst 0, 1) := dAt wdL_law_1127 adL_law_1127.2.2.2.2.2.2.2.1 rfl
theorem dL_law_1142 : decode cL_law 1142 = .ok (.ireturn, 1) := dAt wdL_law_1127 adL_law_1127.2.2.2.2.2.2.2.2.1 rfl
theorem dL_law_1143 : decode cL_law 1143 = .ok (.goto 2066, 3) := dAt wdL_law_1127 adL_law_1127.2.2.2.2.2.2.2.2.2.1 rfl
theorem dL_law_1146 : decode cL_law 1146 = .ok (.aload_n 1, 1) := dAt wdL_law_1127 adL_law_1127.2.2.2.2.2.2.2.2.2.2.1 rfl
theorem dL_law_1147 : decode cL_law 1147 = .ok (.aload_n 0, 1) := dAt wdL_law_1127 adL_law_1127.2.2.2.2.2.2.2.2.2.2.2.1 rfl
theorem dL_law_1148 : decode cL_law 1148 = .ok (.iload 4, 2) := dAt wdL_law_1127 adL_law_1127.2.2.2.2.2.2.2.2.2.2.2.2.1 rfl
theorem dL_law_1150 : decode cL_law 1150 = .ok (.iconst 1, 1) := dAt wdL_law_1127 adL_law_1127.2.2.2.2.2.2.2.2.2.2.2.2.2.1 rfl
theorem dL_law_1151 : decode cL_law 1151 = .ok (.iadd, 1) := dAt wdL_law_1127 adL_law_1127.2.2.2.2.2.2.2.2.2.2.2.2.2.2.1 rfl
theorem dL_law_1152 : decode cL_law 1152 = .ok (.iaload, 1) := dAt wdL_law_1127 adL_law_1127.2.2.2.2.2.2.2.2.2.2.2.2.2.2.2 rfl
def bdL_law_1153 : ByteArray := .mk #[42, 21, 4, 5, 96, 46, 45, 184, 0, 207, 54, 5, 44, 42, 21, 4, 4, 96, 46, 42, 21, 4]
theorem wdL_law_1153 : LocW cL_law 1153 bdL_law_1153 := loc_of (by decide +kernel)
theorem adL_law_1153 : De bdL_law_1153 0 (.aload_n 0) 1 ∧ De bdL_law_1153 1 (.iload 4) 2 ∧ De bdL_law_1153 3 (.iconst 2) 1 ∧ De bdL_law_1153 4 (.iadd) 1 ∧ De bdL_law_1153 5 (.iaload) 1 ∧ De bdL_law_1153 6 (.aload_n 3) 1 ∧ De bdL_law_1153 7 (.invokestatic 207) 3 ∧ De bdL_law_1153 10 (.istore 5) 2 ∧ De bdL_law_1153 12 (.aload_n 2) 1 ∧ De bdL_law_1153 13 (.aload_n 0) 1 ∧ De bdL_law_1153 14 (.iload 4) 2 ∧ De bdL_law_1153 16 (.iconst 1) 1 ∧ De bdL_law_1153 17 (.iadd) 1 ∧ De bdL_law_1153 18 (.iaload) 1 ∧ De bdL_law_1153 19 (.aload_n 0) 1 ∧ De bdL_law_1153 20 (.iload 4) 2 := by decide +kernel
theorem dL_law_1153 : decode cL_law 1153 = .ok (.aload_n 0, 1) := dAt wdL_law_1153 adL_law_1153.1 rfl
theorem dL_law_1154 : decode cL_law 1154 = .ok (.iload 4, 2) := dAt wdL_law_1153 adL_law_1153.2.1 rfl
theorem dL_law_1156 : decode cL_law 1156 = .ok (.iconst 2, 1) := dAt wdL_law_1153 adL_law_1153.2.2.1 rfl
theorem dL_law_1157 : decode cL_law 1157 = .ok (.iadd, 1) := dAt wdL_law_1153 adL_law_1153.2.2.2.1 rfl
theorem dL_law_1158 : decode cL_law 1158 = .ok (.iaload, 1) := dAt wdL_law_1153 adL_law_1153.2.2.2.2.1 rfl
theorem dL_law_1159 : decode cL_law 1159 = .ok (.aload_n 3, 1) := dAt wdL_law_1153 adL_law_1153.2.2.2.2.2.1 rfl
theorem dL_law_1160 : decode cL_law 1160 = .ok (.invokestatic 207, 3) := dAt wdL_law_1153 adL_law_1153.2.2.2.2.2.2.1 rfl
theorem dL_law_1163 : decode cL_law 1163 = .ok (.istore 5, 2) := dAt wdL_law_1153 adL_law_1153.2.2.2.2.2.2.2.1 rfl
theorem dL_law_1165 : decode cL_law 1165 = .ok (.aload_n 2, 1) := dAt wdL_law_1153 adL_law_1153.2.2.2.2.2.2.2.2.1 rfl
theorem dL_law_1166 : decode cL_law 1166 = .ok (.aload_n 0, 1) := dAt wdL_law_1153 adL_law_1153.2.2.2.2.2.2.2.2.2.1 rfl
theorem dL_law_1167 : decode cL_law 1167 = .ok (.iload 4, 2) := dAt wdL_law_1153 adL_law_1153.2.2.2.2.2.2.2.2.2.2.1 rfl
theorem dL_law_1169 : decode cL_law 1169 = .ok (.iconst 1, 1) := dAt wdL_law_1153 adL_law_1153.2.2.2.2.2.2.2.2.2.2.2.1 rfl
theorem dL_law_1170 : decode cL_law 1170 = .ok (.iadd, 1) := dAt wdL_law_1153 adL_law_1153.2.2.2.2.2.2.2.2.2.2.2.2.1 rfl
theorem dL_law_1171 : decode cL_law 1171 = .ok (.iaload, 1) := dAt wdL_law_1153 adL_law_1153.2.2.2.2.2.2.2.2.2.2.2.2.2.1 rfl
theorem dL_law_1172 : decode cL_law 1172 = .ok (.aload_n 0, 1) := dAt wdL_law_1153 adL_law_1153.2.2.2.2.2.2.2.2.2.2.2.2.2.2.1 rfl
theorem dL_law_1173 : decode cL_law 1173 = .ok (.iload 4, 2) := dAt wdL_law_1153 adL_law_1153.2.2.2.2.2.2.2.2.2.2.2.2.2.2.2 rfl
def bdL_law_1175 : ByteArray := .mk #[5, 96, 46, 182, 0, 209, 54, 6, 44, 182, 0, 166, 21, 5, 159, 0, 5, 3, 172, 21, 5, 154, 0, 15, 45, 3, 47]
theorem wdL_law_1175 : LocW cL_law 1175 bdL_law_1175 := loc_of (by decide +kernel)
theorem adL_law_1175 : De bdL_law_1175 0 (.iconst 2) 1 ∧ De bdL_law_1175 1 (.iadd) 1 ∧ De bdL_law_1175 2 (.iaload) 1 ∧ De bdL_law_1175 3 (.invokevirtual 209) 3 ∧ De bdL_law_1175 6 (.istore 6) 2 ∧ De bdL_law_1175 8 (.aload_n 2) 1 ∧ De bdL_law_1175 9 (.invokevirtual 166) 3 ∧ De bdL_law_1175 12 (.iload 5) 2 ∧ De bdL_law_1175 14 (.if_icmp .eq 5) 3 ∧ De bdL_law_1175 17 (.iconst 0) 1 ∧ De bdL_law_1175 18 (.ireturn) 1 ∧ De bdL_law_1175 19 (.iload 5) 2 ∧ De bdL_law_1175 21 (.ifCond .ne 15) 3 ∧ De bdL_law_1175 24 (.aload_n 3) 1 ∧ De bdL_law_1175 25 (.iconst 0) 1 ∧ De bdL_law_1175 26 (.laload) 1 := by decide +kernel
theorem dL_law_1175 : decode cL_law 1175 = .ok (.iconst 2, 1) := dAt wdL_law_1175 adL_law_1175.1 rfl
theorem dL_law_1176 : decode cL_law 1176 = .ok (.iadd, 1) := dAt wdL_law_1175 adL_law_1175.2.1 rfl
theorem dL_law_1177 : decode cL_law 1177 = .ok (.iaload, 1) := dAt wdL_law_1175 adL_law_1175.2.2.1 rfl
theorem dL_law_1178 : decode cL_law 1178 = .ok (.invokevirtual 209, 3) := dAt wdL_law_1175 adL_law_1175.2.2.2.1 rfl
theorem dL_law_1181 : decode cL_law 1181 = .ok (.istore 6, 2) := dAt wdL_law_1175 adL_law_1175.2.2.2.2.1 rfl
theorem dL_law_1183 : decode cL_law 1183 = .ok (.aload_n 2, 1) := dAt wdL_law_1175 adL_law_1175.2.2.2.2.2.1 rfl
theorem dL_law_1184 : decode cL_law 1184 = .ok (.invokevirtual 166, 3) := dAt wdL_law_1175 adL_law_1175.2.2.2.2.2.2.1 rfl
theorem dL_law_1187 : decode cL_law 1187 = .ok (.iload 5, 2) := dAt wdL_law_1175 adL_law_1175.2.2.2.2.2.2.2.1 rfl
theorem dL_law_1189 : decode cL_law 1189 = .ok (.if_icmp .eq 5, 3) := dAt wdL_law_1175 adL_law_1175.2.2.2.2.2.2.2.2.1 rfl
theorem dL_law_1192 : decode cL_law 1192 = .ok (.iconst 0, 1) := dAt wdL_law_1175 adL_law_1175.2.2.2.2.2.2.2.2.2.1 rfl
theorem dL_law_1193 : decode cL_law 1193 = .ok (.ireturn, 1) := dAt wdL_law_1175 adL_law_1175.2.2.2.2.2.2.2.2.2.2.1 rfl
theorem dL_law_1194 : decode cL_law 1194 = .ok (.iload 5, 2) := dAt wdL_law_1175 adL_law_1175.2.2.2.2.2.2.2.2.2.2.2.1 rfl
theorem dL_law_1196 : decode cL_law 1196 = .ok (.ifCond .ne 15, 3) := dAt wdL_law_1175 adL_law_1175.2.2.2.2.2.2.2.2.2.2.2.2.1 rfl
theorem dL_law_1199 : decode cL_law 1199 = .ok (.aload_n 3, 1) := dAt wdL_law_1175 adL_law_1175.2.2.2.2.2.2.2.2.2.2.2.2.2.1 rfl
theorem dL_law_1200 : decode cL_law 1200 = .ok (.iconst 0, 1) := dAt wdL_law_1175 adL_law_1175.2.2.2.2.2.2.2.2.2.2.2.2.2.2.1 rfl
theorem dL_law_1201 : decode cL_law 1201 = .ok (.laload, 1) := dAt wdL_law_1175 adL_law_1175.2.2.2.2.2.2.2.2.2.2.2.2.2.2.2 rfl
def bdL_law_1202 : ByteArray := .mk #[21, 6, 133, 148, 153, 0, 5, 3, 172, 167, 7, 206, 43, 42, 21, 4, 4, 96, 46, 45, 184, 0, 210, 54, 5]
theorem wdL_law_1202 : LocW cL_law 1202 bdL_law_1202 := loc_of (by decide +kernel)
theorem adL_law_1202 : De bdL_law_1202 0 (.iload 6) 2 ∧ De bdL_law_1202 2 (.i2l) 1 ∧ De bdL_law_1202 3 (.lcmp) 1 ∧ De bdL_law_1202 4 (.ifCond .eq 5) 3 ∧ De bdL_law_1202 7 (.iconst 0) 1 ∧ De bdL_law_1202 8 (.ireturn) 1 ∧ De bdL_law_1202 9 (.goto 1998) 3 ∧ De bdL_law_1202 12 (.aload_n 1) 1 ∧ De bdL_law_1202 13 (.aload_n 0) 1 ∧ De bdL_law_1202 14 (.iload 4) 2 ∧ De bdL_law_1202 16 (.iconst 1) 1 ∧ De bdL_law_1202 17 (.iadd) 1 ∧ De bdL_law_1202 18 (.iaload) 1 ∧ De bdL_law_1202 19 (.aload_n 3) 1 ∧ De bdL_law_1202 20 (.invokestatic 210) 3 ∧ De bdL_law_1202 23 (.istore 5) 2 := by decide +kernel
theorem dL_law_1202 : decode cL_law 1202 = .ok (.iload 6, 2) := dAt wdL_law_1202 adL_law_1202.1 rfl
theorem dL_law_1204 : decode cL_law 1204 = .ok (.i2l, 1) := dAt wdL_law_1202 adL_law_1202.2.1 rfl
theorem dL_law_1205 : decode cL_law 1205 = .ok (.lcmp, 1) := dAt wdL_law_1202 adL_law_1202.2.2.1 rfl
theorem dL_law_1206 : decode cL_law 1206 = .ok (.ifCond .eq 5, 3) := dAt wdL_law_1202 adL_law_1202.2.2.2.1 rfl
theorem dL_law_1209 : decode cL_law 1209 = .ok (.iconst 0, 1) := dAt wdL_law_1202 adL_law_1202.2.2.2.2.1 rfl
theorem dL_law_1210 : decode cL_law 1210 = .ok (.ireturn, 1) := dAt wdL_law_1202 adL_law_1202.2.2.2.2.2.1 rfl
theorem dL_law_1211 : decode cL_law 1211 = .ok (.goto 1998, 3) := dAt wdL_law_1202 adL_law_1202.2.2.2.2.2.2.1 rfl
theorem dL_law_1214 : decode cL_law 1214 = .ok (.aload_n 1, 1) := dAt wdL_law_1202 adL_law_1202.2.2.2.2.2.2.2.1 rfl
theorem dL_law_1215 : decode cL_law 1215 = .ok (.aload_n 0, 1) := dAt wdL_law_1202 adL_law_1202.2.2.2.2.2.2.2.2.1 rfl
theorem dL_law_1216 : decode cL_law 1216 = .ok (.iload 4, 2) := dAt wdL_law_1202 adL_law_1202.2.2.2.2.2.2.2.2.2.1 rfl
theorem dL_law_1218 : decode cL_law 1218 = .ok (.iconst 1, 1) := dAt wdL_law_1202 adL_law_1202.2.2.2.2.2.2.2.2.2.2.1 rfl
theorem dL_law_1219 : decode cL_law 1219 = .ok (.iadd, 1) := dAt wdL_law_1202 adL_law_1202.2.2.2.2.2.2.2.2.2.2.2.1 rfl
theorem dL_law_1220 : decode cL_law 1220 = .ok (.iaload, 1) := dAt wdL_law_1202 adL_law_1202.2.2.2.2.2.2.2.2.2.2.2.2.1 rfl
theorem dL_law_1221 : decode cL_law 1221 = .ok (.aload_n 3, 1) := dAt wdL_law_1202 adL_law_1202.2.2.2.2.2.2.2.2.2.2.2.2.2.1 rfl
theorem dL_law_1222 : decode cL_law 1222 = .ok (.invokestatic 210, 3) := dAt wdL_law_1202 adL_law_1202.2.2.2.2.2.2.2.2.2.2.2.2.2.2.1 rfl
theorem dL_law_1225 : decode cL_law 1225 = .ok (.istore 5, 2) := dAt wdL_law_1202 adL_law_1202.2.2.2.2.2.2.2.2.2.2.2.2.2.2.2 rfl
def bdL_law_1227 : ByteArray := .mk #[44, 42, 21, 4, 4, 96, 46, 182, 0, 212, 54, 6, 44, 182, 0, 166, 21, 5, 159, 0, 5, 3, 172, 21, 5, 154, 0, 15]
theorem wdL_law_1227 : LocW cL_law 1227 bdL_law_1227 := loc_of (by decide +kernel)
theorem adL_law_1227 : De bdL_law_1227 0 (.aload_n 2) 1 ∧ De bdL_law_1227 1 (.aload_n 0) 1 ∧ De bdL_law_1227 2 (.iload 4) 2 ∧ De bdL_law_1227 4 (.iconst 1) 1 ∧ De bdL_law_1227 5 (.iadd) 1 ∧ De bdL_law_1227 6 (.iaload) 1 ∧ De bdL_law_1227 7 (.invokevirtual 212) 3 ∧ De bdL_law_1227 10 (.istore 6) 2 ∧ De bdL_law_1227 12 (.aload_n 2) 1 ∧ De bdL_law_1227 13 (.invokevirtual 166) 3 ∧ De bdL_law_1227 16 (.iload 5) 2 ∧ De bdL_law_1227 18 (.if_icmp .eq 5) 3 ∧ De bdL_law_1227 21 (.iconst 0) 1 ∧ De bdL_law_1227 22 (.ireturn) 1 ∧ De bdL_law_1227 23 (.iload 5) 2 ∧ De bdL_law_1227 25 (.ifCond .ne 15) 3 := by decide +kernel
theorem dL_law_1227 : decode cL_law 1227 = .ok (.aload_n 2, 1) := dAt wdL_law_1227 adL_law_1227.1 rfl
theorem dL_law_1228 : decode cL_law 1228 = .ok (.aload_n 0, 1) := dAt wdL_law_1227 adL_law_1227.2.1 rfl
theorem dL_law_1229 : decode cL_law 1229 = .ok (.iload 4, 2) := dAt wdL_law_1227 adL_law_1227.2.2.1 rfl
theorem dL_law_1231 : decode cL_law 1231 = .ok (.iconst 1, 1) := dAt wdL_law_1227 adL_law_1227.2.2.2.1 rfl
theorem dL_law_1232 : decode cL_law 1232 = .ok (.iadd, 1) := dAt wdL_law_1227 adL_law_1227.2.2.2.2.1 rfl
theorem dL_law_1233 : decode cL_law 1233 = .ok (.iaload, 1) := dAt wdL_law_1227 adL_law_1227.2.2.2.2.2.1 rfl
theorem dL_law_1234 : decode cL_law 1234 = .ok (.invokevirtual 212, 3) := dAt wdL_law_1227 adL_law_1227.2.2.2.2.2.2.1 rfl
theorem dL_law_1237 : decode cL_law 1237 = .ok (.istore 6, 2) := dAt wdL_law_1227 adL_law_1227.2.2.2.2.2.2.2.1 rfl
theorem dL_law_1239 : decode cL_law 1239 = .ok (.aload_n 2, 1) := dAt wdL_law_1227 adL_law_1227.2.2.2.2.2.2.2.2.1 rfl
theorem dL_law_1240 : decode cL_law 1240 = .ok (.invokevirtual 166, 3) := dAt wdL_law_1227 adL_law_1227.2.2.2.2.2.2.2.2.2.1 rfl
theorem dL_law_1243 : decode cL_law 1243 = .ok (.iload 5, 2) := dAt wdL_law_1227 adL_law_1227.2.2.2.2.2.2.2.2.2.2.1 rfl
theorem dL_law_1245 : decode cL_law 1245 = .ok (.if_icmp .eq 5, 3) := dAt wdL_law_1227 adL_law_1227.2.2.2.2.2.2.2.2.2.2.2.1 rfl
theorem dL_law_1248 : decode cL_law 1248 = .ok (.iconst 0, 1) := dAt wdL_law_1227 adL_law_1227.2.2.2.2.2.2.2.2.2.2.2.2.1 rfl
theorem dL_law_1249 : decode cL_law 1249 = .ok (.ireturn, 1) := dAt wdL_law_1227 adL_law_1227.2.2.2.2.2.2.2.2.2.2.2.2.2.1 rfl
theorem dL_law_1250 : decode cL_law 1250 = .ok (.iload 5, 2) := dAt wdL_law_1227 adL_law_1227.2.2.2.2.2.2.2.2.2.2.2.2.2.2.1 rfl
theorem dL_law_1252 : decode cL_law 1252 = .ok (.ifCond .ne 15, 3) := dAt wdL_law_1227 adL_law_1227.2.2.2.2.2.2.2.2.2.2.2.2.2.2.2 rfl
def bdL_law_1255 : ByteArray := .mk #[45, 3, 47, 21, 6, 133, 148, 153, 0, 5, 3, 172, 167, 7, 150, 43, 42, 21, 4, 4, 96, 46]
theorem wdL_law_1255 : LocW cL_law 1255 bdL_law_1255 := loc_of (by decide +kernel)
theorem adL_law_1255 : De bdL_law_1255 0 (.aload_n 3) 1 ∧ De bdL_law_1255 1 (.iconst 0) 1 ∧ De bdL_law_1255 2 (.laload) 1 ∧ De bdL_law_1255 3 (.iload 6) 2 ∧ De bdL_law_1255 5 (.i2l) 1 ∧ De bdL_law_1255 6 (.lcmp) 1 ∧ De bdL_law_1255 7 (.ifCond .eq 5) 3 ∧ De bdL_law_1255 10 (.iconst 0) 1 ∧ De bdL_law_1255 11 (.ireturn) 1 ∧ De bdL_law_1255 12 (.goto 1942) 3 ∧ De bdL_law_1255 15 (.aload_n 1) 1 ∧ De bdL_law_1255 16 (.aload_n 0) 1 ∧ De bdL_law_1255 17 (.iload 4) 2 ∧ De bdL_law_1255 19 (.iconst 1) 1 ∧ De bdL_law_1255 20 (.iadd) 1 ∧ De bdL_law_1255 21 (.iaload) 1 := by decide +kernel
theorem dL_law_1255 : decode cL_law 1255 = .ok (.aload_n 3, 1) := dAt wdL_law_1255 adL_law_1255.1 rfl
theorem dL_law_1256 : decode cL_law 1256 = .ok (.iconst 0, 1) := dAt wdL_law_1255 adL_law_1255.2.1 rfl
theorem dL_law_1257 : decode cL_law 1257 = .ok (.laload, 1) := dAt wdL_law_1255 adL_law_1255.2.2.1 rfl
theorem dL_law_1258 : decode cL_law 1258 = .ok (.iload 6, 2) := dAt wdL_law_1255 adL_law_1255.2.2.2.1 rfl
theorem dL_law_1260 : decode cL_law 1260 = .ok (.i2l, 1) := dAt wdL_law_1255 adL_law_1255.2.2.2.2.1 rfl
theorem dL_law_1261 : decode cL_law 1261 = .ok (.lcmp, 1) := dAt wdL_law_1255 adL_law_1255.2.2.2.2.2.1 rfl
theorem dL_law_1262 : decode cL_law 1262 = .ok (.ifCond .eq 5, 3) := dAt wdL_law_1255 adL_law_1255.2.2.2.2.2.2.1 rfl
theorem dL_law_1265 : decode cL_law 1265 = .ok (.iconst 0, 1) := dAt wdL_law_1255 adL_law_1255.2.2.2.2.2.2.2.1 rfl
theorem dL_law_1266 : decode cL_law 1266 = .ok (.ireturn, 1) := dAt wdL_law_1255 adL_law_1255.2.2.2.2.2.2.2.2.1 rfl
theorem dL_law_1267 : decode cL_law 1267 = .ok (.goto 1942, 3) := dAt wdL_law_1255 adL_law_1255.2.2.2.2.2.2.2.2.2.1 rfl
theorem dL_law_1270 : decode cL_law 1270 = .ok (.aload_n 1, 1) := dAt wdL_law_1255 adL_law_1255.2.2.2.2.2.2.2.2.2.2.1 rfl
theorem dL_law_1271 : decode cL_law 1271 = .ok (.aload_n 0, 1) := dAt wdL_law_1255 adL_law_1255.2.2.2.2.2.2.2.2.2.2.2.1 rfl
theorem dL_law_1272 : decode cL_law 1272 = .ok (.iload 4, 2) := dAt wdL_law_1255 adL_law_1255.2.2.2.2.2.2.2.2.2.2.2.2.1 rfl
theorem dL_law_1274 : decode cL_law 1274 = .ok (.iconst 1, 1) := dAt wdL_law_1255 adL_law_1255.2.2.2.2.2.2.2.2.2.2.2.2.2.1 rfl
theorem dL_law_1275 : decode cL_law 1275 = .ok (.iadd, 1) := dAt wdL_law_1255 adL_law_1255.2.2.2.2.2.2.2.2.2.2.2.2.2.2.1 rfl
theorem dL_law_1276 : decode cL_law 1276 = .ok (.iaload, 1) := dAt wdL_law_1255 adL_law_1255.2.2.2.2.2.2.2.2.2.2.2.2.2.2.2 rfl
def bdL_law_1277 : ByteArray := .mk #[42, 21, 4, 5, 96, 46, 45, 184, 0, 213, 54, 5, 44, 42, 21, 4, 4, 96, 46, 42, 21, 4]
theorem wdL_law_1277 : LocW cL_law 1277 bdL_law_1277 := loc_of (by decide +kernel)
theorem adL_law_1277 : De bdL_law_1277 0 (.aload_n 0) 1 ∧ De bdL_law_1277 1 (.iload 4) 2 ∧ De bdL_law_1277 3 (.iconst 2) 1 ∧ De bdL_law_1277 4 (.iadd) 1 ∧ De bdL_law_1277 5 (.iaload) 1 ∧ De bdL_law_1277 6 (.aload_n 3) 1 ∧ De bdL_law_1277 7 (.invokestatic 213) 3 ∧ De bdL_law_1277 10 (.istore 5) 2 ∧ De bdL_law_1277 12 (.aload_n 2) 1 ∧ De bdL_law_1277 13 (.aload_n 0) 1 ∧ De bdL_law_1277 14 (.iload 4) 2 ∧ De bdL_law_1277 16 (.iconst 1) 1 ∧ De bdL_law_1277 17 (.iadd) 1 ∧ De bdL_law_1277 18 (.iaload) 1 ∧ De bdL_law_1277 19 (.aload_n 0) 1 ∧ De bdL_law_1277 20 (.iload 4) 2 := by decide +kernel
theorem dL_law_1277 : decode cL_law 1277 = .ok (.aload_n 0, 1) := dAt wdL_law_1277 adL_law_1277.1 rfl
theorem dL_law_1278 : decode cL_law 1278 = .ok (.iload 4, 2) := dAt wdL_law_1277 adL_law_1277.2.1 rfl
theorem dL_law_1280 : decode cL_law 1280 = .ok (.iconst 2, 1) := dAt wdL_law_1277 adL_law_1277.2.2.1 rfl
theorem dL_law_1281 : decode cL_law 1281 = .ok (.iadd, 1) := dAt wdL_law_1277 adL_law_1277.2.2.2.1 rfl
theorem dL_law_1282 : decode cL_law 1282 = .ok (.iaload, 1) := dAt wdL_law_1277 adL_law_1277.2.2.2.2.1 rfl
theorem dL_law_1283 : decode cL_law 1283 = .ok (.aload_n 3, 1) := dAt wdL_law_1277 adL_law_1277.2.2.2.2.2.1 rfl
theorem dL_law_1284 : decode cL_law 1284 = .ok (.invokestatic 213, 3) := dAt wdL_law_1277 adL_law_1277.2.2.2.2.2.2.1 rfl
theorem dL_law_1287 : decode cL_law 1287 = .ok (.istore 5, 2) := dAt wdL_law_1277 adL_law_1277.2.2.2.2.2.2.2.1 rfl
theorem dL_law_1289 : decode cL_law 1289 = .ok (.aload_n 2, 1) := dAt wdL_law_1277 adL_law_1277.2.2.2.2.2.2.2.2.1 rfl
theorem dL_law_1290 : decode cL_law 1290 = .ok (.aload_n 0, 1) := dAt wdL_law_1277 adL_law_1277.2.2.2.2.2.2.2.2.2.1 rfl
theorem dL_law_1291 : decode cL_law 1291 = .ok (.iload 4, 2) := dAt wdL_law_1277 adL_law_1277.2.2.2.2.2.2.2.2.2.2.1 rfl
theorem dL_law_1293 : decode cL_law 1293 = .ok (.iconst 1, 1) := dAt wdL_law_1277 adL_law_1277.2.2.2.2.2.2.2.2.2.2.2.1 rfl
theorem dL_law_1294 : decode cL_law 1294 = .ok (.iadd, 1) := dAt wdL_law_1277 adL_law_1277.2.2.2.2.2.2.2.2.2.2.2.2.1 rfl
theorem dL_law_1295 : decode cL_law 1295 = .ok (.iaload, 1) := dAt wdL_law_1277 adL_law_1277.2.2.2.2.2.2.2.2.2.2.2.2.2.1 rfl
theorem dL_law_1296 : decode cL_law 1296 = .ok (.aload_n 0, 1) := dAt wdL_law_1277 adL_law_1277.2.2.2.2.2.2.2.2.2.2.2.2.2.2.1 rfl
theorem dL_law_1297 : decode cL_law 1297 = .ok (.iload 4, 2) := dAt wdL_law_1277 adL_law_1277.2.2.2.2.2.2.2.2.2.2.2.2.2.2.2 rfl
def bdL_law_1299 : ByteArray := .mk #[5, 96, 46, 182, 0, 215, 54, 6, 44, 182, 0, 166, 21, 5, 159, 0, 5, 3, 172, 21, 5, 154, 0, 15, 45, 3, 47]
theorem wdL_law_1299 : LocW cL_law 1299 bdL_law_1299 := loc_of (by decide +kernel)
theorem adL_law_1299 : De bdL_law_1299 0 (.iconst 2) 1 ∧ De bdL_law_1299 1 (.iadd) 1 ∧ De bdL_law_1299 2 (.iaload) 1 ∧ De bdL_law_1299 3 (.invokevirtual 215) 3 ∧ De bdL_law_1299 6 (.istore 6) 2 ∧ De bdL_law_1299 8 (.aload_n 2) 1 ∧ De bdL_law_1299 9 (.invokevirtual 166) 3 ∧ De bdL_law_1299 12 (.iload 5) 2 ∧ De bdL_law_1299 14 (.if_icmp .eq 5) 3 ∧ De bdL_law_1299 17 (.iconst 0) 1 ∧ De bdL_law_1299 18 (.ireturn) 1 ∧ De bdL_law_1299 19 (.iload 5) 2 ∧ De bdL_law_1299 21 (.ifCond .ne 15) 3 ∧ De bdL_law_1299 24 (.aload_n 3) 1 ∧ De bdL_law_1299 25 (.iconst 0) 1 ∧ De bdL_law_1299 26 (.laload) 1 := by decide +kernel
theorem dL_law_1299 : decode cL_law 1299 = .ok (.iconst 2, 1) := dAt wdL_law_1299 adL_law_1299.1 rfl
theorem dL_law_1300 : decode cL_law 1300 = .ok (.iadd, 1) := dAt wdL_law_1299 adL_law_1299.2.1 rfl
theorem dL_law_1301 : decode cL_law 1301 = .ok (.iaload, 1) := dAt wdL_law_1299 adL_law_1299.2.2.1 rfl
theorem dL_law_1302 : decode cL_law 1302 = .ok (.invokevirtual 215, 3) := dAt wdL_law_1299 adL_law_1299.2.2.2.1 rfl
theorem dL_law_1305 : decode cL_law 1305 = .ok (.istore 6, 2) := dAt wdL_law_1299 adL_law_1299.2.2.2.2.1 rfl
theorem dL_law_1307 : decode cL_law 1307 = .ok (.aload_n 2, 1) := dAt wdL_law_1299 adL_law_1299.2.2.2.2.2.1 rfl
theorem dL_law_1308 : decode cL_law 1308 = .ok (.invokevirtual 166, 3) := dAt wdL_law_1299 adL_law_1299.2.2.2.2.2.2.1 rfl
theorem dL_law_1311 : decode cL_law 1311 = .ok (.iload 5, 2) := dAt wdL_law_1299 adL_law_1299.2.2.2.2.2.2.2.1 rfl
theorem dL_law_1313 : decode cL_law 1313 = .ok (.if_icmp .eq 5, 3) := dAt wdL_law_1299 adL_law_1299.2.2.2.2.2.2.2.2.1 rfl
theorem dL_law_1316 : decode cL_law 1316 = .ok (.iconst 0, 1) := dAt wdL_law_1299 adL_law_1299.2.2.2.2.2.2.2.2.2.1 rfl
theorem dL_law_1317 : decode cL_law 1317 = .ok (.ireturn, 1) := dAt wdL_law_1299 adL_law_1299.2.2.2.2.2.2.2.2.2.2.1 rfl
theorem dL_law_1318 : decode cL_law 1318 = .ok (.iload 5, 2) := dAt wdL_law_1299 adL_law_1299.2.2.2.2.2.2.2.2.2.2.2.1 rfl
theorem dL_law_1320 : decode cL_law 1320 = .ok (.ifCond .ne 15, 3) := dAt wdL_law_1299 adL_law_1299.2.2.2.2.2.2.2.2.2.2.2.2.1 rfl
theorem dL_law_1323 : decode cL_law 1323 = .ok (.aload_n 3, 1) := dAt wdL_law_1299 adL_law_1299.2.2.2.2.2.2.2.2.2.2.2.2.2.1 rfl
theorem dL_law_1324 : decode cL_law 1324 = .ok (.iconst 0, 1) := dAt wdL_law_1299 adL_law_1299.2.2.2.2.2.2.2.2.2.2.2.2.2.2.1 rfl
theorem dL_law_1325 : decode cL_law 1325 = .ok (.laload, 1) := dAt wdL_law_1299 adL_law_1299.2.2.2.2.2.2.2.2.2.2.2.2.2.2.2 rfl
def bdL_law_1326 : ByteArray := .mk #[21, 6, 133, 148, 153, 0, 5, 3, 172, 167, 7, 82, 43, 42, 21, 4, 4, 96, 46, 42, 21, 4, 5]
theorem wdL_law_1326 : LocW cL_law 1326 bdL_law_1326 := loc_of (by decide +kernel)
theorem adL_law_1326 : De bdL_law_1326 0 (.iload 6) 2 ∧ De bdL_law_1326 2 (.i2l) 1 ∧ De bdL_law_1326 3 (.lcmp) 1 ∧ De bdL_law_1326 4 (.ifCond .eq 5) 3 ∧ De bdL_law_1326 7 (.iconst 0) 1 ∧ De bdL_law_1326 8 (.ireturn) 1 ∧ De bdL_law_1326 9 (.goto 1874) 3 ∧ De bdL_law_1326 12 (.aload_n 1) 1 ∧ De bdL_law_1326 13 (.aload_n 0) 1 ∧ De bdL_law_1326 14 (.iload 4) 2 ∧ De bdL_law_1326 16 (.iconst 1) 1 ∧ De bdL_law_1326 17 (.iadd) 1 ∧ De bdL_law_1326 18 (.iaload) 1 ∧ De bdL_law_1326 19 (.aload_n 0) 1 ∧ De bdL_law_1326 20 (.iload 4) 2 ∧ De bdL_law_1326 22 (.iconst 2) 1 := by decide +kernel
theorem dL_law_1326 : decode cL_law 1326 = .ok (.iload 6, 2) := dAt wdL_law_1326 adL_law_1326.1 rfl
theorem dL_law_1328 : decode cL_law 1328 = .ok (.i2l, 1) := dAt wdL_law_1326 adL_law_1326.2.1 rfl
theorem dL_law_1329 : decode cL_law 1329 = .ok (.lcmp, 1) := dAt wdL_law_1326 adL_law_1326.2.2.1 rfl
theorem dL_law_1330 : decode cL_law 1330 = .ok (.ifCond .eq 5, 3) := dAt wdL_law_1326 adL_law_1326.2.2.2.1 rfl
theorem dL_law_1333 : decode cL_law 1333 = .ok (.iconst 0, 1) := dAt wdL_law_1326 adL_law_1326.2.2.2.2.1 rfl
theorem dL_law_1334 : decode cL_law 1334 = .ok (.ireturn, 1) := dAt wdL_law_1326 adL_law_1326.2.2.2.2.2.1 rfl
theorem dL_law_1335 : decode cL_law 1335 = .ok (.goto 1874, 3) := dAt wdL_law_1326 adL_law_1326.2.2.2.2.2.2.1 rfl
theorem dL_law_1338 : decode cL_law 1338 = .ok (.aload_n 1, 1) := dAt wdL_law_1326 adL_law_1326.2.2.2.2.2.2.2.1 rfl
theorem dL_law_1339 : decode cL_law 1339 = .ok (.aload_n 0, 1) := dAt wdL_law_1326 adL_law_1326.2.2.2.2.2.2.2.2.1 rfl
theorem dL_law_1340 : decode cL_law 1340 = .ok (.iload 4, 2) := dAt wdL_law_1326 adL_law_1326.2.2.2.2.2.2.2.2.2.1 rfl
theorem dL_law_1342 : decode cL_law 1342 = .ok (.iconst 1, 1) := dAt wdL_law_1326 adL_law_1326.2.2.2.2.2.2.2.2.2.2.1 rfl
theorem dL_law_1343 : decode cL_law 1343 = .ok (.iadd, 1) := dAt wdL_law_1326 adL_law_1326.2.2.2.2.2.2.2.2.2.2.2.1 rfl
theorem dL_law_1344 : decode cL_law 1344 = .ok (.iaload, 1) := dAt wdL_law_1326 adL_law_1326.2.2.2.2.2.2.2.2.2.2.2.2.1 rfl
theorem dL_law_1345 : decode cL_law 1345 = .ok (.aload_n 0, 1) := dAt wdL_law_1326 adL_law_1326.2.2.2.2.2.2.2.2.2.2.2.2.2.1 rfl
theorem dL_law_1346 : decode cL_law 1346 = .ok (.iload 4, 2) := dAt wdL_law_1326 adL_law_1326.2.2.2.2.2.2.2.2.2.2.2.2.2.2.1 rfl
theorem dL_law_1348 : decode cL_law 1348 = .ok (.iconst 2, 1) := dAt wdL_law_1326 adL_law_1326.2.2.2.2.2.2.2.2.2.2.2.2.2.2.2 rfl
def bdL_law_1349 : ByteArray := .mk #[96, 46, 45, 184, 0, 216, 54, 5, 44, 42, 21, 4, 4, 96, 46, 42, 21, 4, 5, 96, 46]
theorem wdL_law_1349 : LocW cL_law 1349 bdL_law_1349 := loc_of (by decide +kernel)
theorem adL_law_1349 : De bdL_law_1349 0 (.iadd) 1 ∧ De bdL_law_1349 1 (.iaload) 1 ∧ De bdL_law_1349 2 (.aload_n 3) 1 ∧ De bdL_law_1349 3 (.invokestatic 216) 3 ∧ De bdL_law_1349 6 (.istore 5) 2 ∧ De bdL_law_1349 8 (.aload_n 2) 1 ∧ De bdL_law_1349 9 (.aload_n 0) 1 ∧ De bdL_law_1349 10 (.iload 4) 2 ∧ De bdL_law_1349 12 (.iconst 1) 1 ∧ De bdL_law_1349 13 (.iadd) 1 ∧ De bdL_law_1349 14 (.iaload) 1 ∧ De bdL_law_1349 15 (.aload_n 0) 1 ∧ De bdL_law_1349 16 (.iload 4) 2 ∧ De bdL_law_1349 18 (.iconst 2) 1 ∧ De bdL_law_1349 19 (.iadd) 1 ∧ De bdL_law_1349 20 (.iaload) 1 := by decide +kernel
theorem dL_law_1349 : decode cL_law 1349 = .ok (.iadd, 1) := dAt wdL_law_1349 adL_law_1349.1 rfl
theorem dL_law_1350 : decode cL_law 1350 = .ok (.iaload, 1) := dAt wdL_law_1349 adL_law_1349.2.1 rfl
theorem dL_law_1351 : decode cL_law 1351 = .ok (.aload_n 3, 1) := dAt wdL_law_1349 adL_law_1349.2.2.1 rfl
theorem dL_law_1352 : decode cL_law 1352 = .ok (.invokestatic 216, 3) := dAt wdL_law_1349 adL_law_1349.2.2.2.1 rfl
theorem dL_law_1355 : decode cL_law 1355 = .ok (.istore 5, 2) := dAt wdL_law_1349 adL_law_1349.2.2.2.2.1 rfl
theorem dL_law_1357 : decode cL_law 1357 = .ok (.aload_n 2, 1) := dAt wdL_law_1349 adL_law_1349.2.2.2.2.2.1 rfl
theorem dL_law_1358 : decode cL_law 1358 = .ok (.aload_n 0, 1) := dAt wdL_law_1349 adL_law_1349.2.2.2.2.2.2.1 rfl
theorem dL_law_1359 : decode cL_law 1359 = .ok (.iload 4, 2) := dAt wdL_law_1349 adL_law_1349.2.2.2.2.2.2.2.1 rfl
theorem dL_law_1361 : decode cL_law 1361 = .ok (.iconst 1, 1) := dAt wdL_law_1349 adL_law_1349.2.2.2.2.2.2.2.2.1 rfl
theorem dL_law_1362 : decode cL_law 1362 = .ok (.iadd, 1) := dAt wdL_law_1349 adL_law_1349.2.2.2.2.2.2.2.2.2.1 rfl
theorem dL_law_1363 : decode cL_law 1363 = .ok (.iaload, 1) := dAt wdL_law_1349 adL_law_1349.2.2.2.2.2.2.2.2.2.2.1 rfl
theorem dL_law_1364 : decode cL_law 1364 = .ok (.aload_n 0, 1) := dAt wdL_law_1349 adL_law_1349.2.2.2.2.2.2.2.2.2.2.2.1 rfl
theorem dL_law_1365 : decode cL_law 1365 = .ok (.iload 4, 2) := dAt wdL_law_1349 adL_law_1349.2.2.2.2.2.2.2.2.2.2.2.2.1 rfl
theorem dL_law_1367 : decode cL_law 1367 = .ok (.iconst 2, 1) := dAt wdL_law_1349 adL_law_1349.2.2.2.2.2.2.2.2.2.2.2.2.2.1 rfl
theorem dL_law_1368 : decode cL_law 1368 = .ok (.iadd, 1) := dAt wdL_law_1349 adL_law_1349.2.2.2.2.2.2.2.2.2.2.2.2.2.2.1 rfl
theorem dL_law_1369 : decode cL_law 1369 = .ok (.iaload, 1) := dAt wdL_law_1349 adL_law_1349.2.2.2.2.2.2.2.2.2.2.2.2.2.2.2 rfl
def bdL_law_1370 : ByteArray := .mk #[182, 0, 218, 54, 6, 44, 182, 0, 166, 21, 5, 159, 0, 5, 3, 172, 21, 5, 154, 0, 15, 45, 3, 47, 21, 6, 133, 148]
theorem wdL_law_1370 : LocW cL_law 1370 bdL_law_1370 := loc_of (by decide +kernel)
theorem adL_law_1370 : De bdL_law_1370 0 (.invokevirtual 218) 3 ∧ De bdL_law_1370 3 (.istore 6) 2 ∧ De bdL_law_1370 5 (.aload_n 2) 1 ∧ De bdL_law_1370 6 (.invokevirtual 166) 3 ∧ De bdL_law_1370 9 (.iload 5) 2 ∧ De bdL_law_1370 11 (.if_icmp .eq 5) 3 ∧ De bdL_law_1370 14 (.iconst 0) 1 ∧ De bdL_law_1370 15 (.ireturn) 1 ∧ De bdL_law_1370 16 (.iload 5) 2 ∧ De bdL_law_1370 18 (.ifCond .ne 15) 3 ∧ De bdL_law_1370 21 (.aload_n 3) 1 ∧ De bdL_law_1370 22 (.iconst 0) 1 ∧ De bdL_law_1370 23 (.laload) 1 ∧ De bdL_law_1370 24 (.iload 6) 2 ∧ De bdL_law_1370 26 (.i2l) 1 ∧ De bdL_law_1370 27 (.lcmp) 1 := by decide +kernel
theorem dL_law_1370 : decode cL_law 1370 = .ok (.invokevirtual 218, 3) := dAt wdL_law_1370 adL_law_1370.1 rfl
theorem dL_law_1373 : decode cL_law 1373 = .ok (.istore 6, 2) := dAt wdL_law_1370 adL_law_1370.2.1 rfl
theorem dL_law_1375 : decode cL_law 1375 = .ok (.aload_n 2, 1) := dAt wdL_law_1370 adL_law_1370.2.2.1 rfl
theorem dL_law_1376 : decode cL_law 1376 = .ok (.invokevirtual 166, 3) := dAt wdL_law_1370 adL_law_1370.2.2.2.1 rfl
theorem dL_law_1379 : decode cL_law 1379 = .ok (.iload 5, 2) := dAt wdL_law_1370 adL_law_1370.2.2.2.2.1 rfl
theorem dL_law_1381 : decode cL_law 1381 = .ok (.if_icmp .eq 5, 3) := dAt wdL_law_1370 adL_law_1370.2.2.2.2.2.1 rfl
theorem dL_law_1384 : decode cL_law 1384 = .ok (.iconst 0, 1) := dAt wdL_law_1370 adL_law_1370.2.2.2.2.2.2.1 rfl
theorem dL_law_1385 : decode cL_law 1385 = .ok (.ireturn, 1) := dAt wdL_law_1370 adL_law_1370.2.2.2.2.2.2.2.1 rfl
theorem dL_law_1386 : decode cL_law 1386 = .ok (.iload 5, 2) := dAt wdL_law_1370 adL_law_1370.2.2.2.2.2.2.2.2.1 rfl
theorem dL_law_1388 : decode cL_law 1388 = .ok (.ifCond .ne 15, 3) := dAt wdL_law_1370 adL_law_1370.2.2.2.2.2.2.2.2.2.1 rfl
theorem dL_law_1391 : decode cL_law 1391 = .ok (.aload_n 3, 1) := dAt wdL_law_1370 adL_law_1370.2.2.2.2.2.2.2.2.2.2.1 rfl
theorem dL_law_1392 : decode cL_law 1392 = .ok (.iconst 0, 1) := dAt wdL_law_1370 adL_law_1370.2.2.2.2.2.2.2.2.2.2.2.1 rfl
theorem dL_law_1393 : decode cL_law 1393 = .ok (.laload, 1) := dAt wdL_law_1370 adL_law_1370.2.2.2.2.2.2.2.2.2.2.2.2.1 rfl
theorem dL_law_1394 : decode cL_law 1394 = .ok (.iload 6, 2) := dAt wdL_law_1370 adL_law_1370.2.2.2.2.2.2.2.2.2.2.2.2.2.1 rfl
theorem dL_law_1396 : decode cL_law 1396 = .ok (.i2l, 1) := dAt wdL_law_1370 adL_law_1370.2.2.2.2.2.2.2.2.2.2.2.2.2.2.1 rfl
theorem dL_law_1397 : decode cL_law 1397 = .ok (.lcmp, 1) := dAt wdL_law_1370 adL_law_1370.2.2.2.2.2.2.2.2.2.2.2.2.2.2.2 rfl
def bdL_law_1398 : ByteArray := .mk #[153, 0, 5, 3, 172, 167, 7, 14, 43, 42, 21, 4, 4, 96, 46, 42, 21, 4, 5, 96, 46, 45]
theorem wdL_law_1398 : LocW cL_law 1398 bdL_law_1398 := loc_of (by decide +kernel)
theorem adL_law_1398 : De bdL_law_1398 0 (.ifCond .eq 5) 3 ∧ De bdL_law_1398 3 (.iconst 0) 1 ∧ De bdL_law_1398 4 (.ireturn) 1 ∧ De bdL_law_1398 5 (.goto 1806) 3 ∧ De bdL_law_1398 8 (.aload_n 1) 1 ∧ De bdL_law_1398 9 (.aload_n 0) 1 ∧ De bdL_law_1398 10 (.iload 4) 2 ∧ De bdL_law_1398 12 (.iconst 1) 1 ∧ De bdL_law_1398 13 (.iadd) 1 ∧ De bdL_law_1398 14 (.iaload) 1 ∧ De bdL_law_1398 15 (.aload_n 0) 1 ∧ De bdL_law_1398 16 (.iload 4) 2 ∧ De bdL_law_1398 18 (.iconst 2) 1 ∧ De bdL_law_1398 19 (.iadd) 1 ∧ De bdL_law_1398 20 (.iaload) 1 ∧ De bdL_law_1398 21 (.aload_n 3) 1 := by decide +kernel
theorem dL_law_1398 : decode cL_law 1398 = .ok (.ifCond .eq 5, 3) := dAt wdL_law_1398 adL_law_1398.1 rfl
theorem dL_law_1401 : decode cL_law 1401 = .ok (.iconst 0, 1) := dAt wdL_law_1398 adL_law_1398.2.1 rfl
theorem dL_law_1402 : decode cL_law 1402 = .ok (.ireturn, 1) := dAt wdL_law_1398 adL_law_1398.2.2.1 rfl
theorem dL_law_1403 : decode cL_law 1403 = .ok (.goto 1806, 3) := dAt wdL_law_1398 adL_law_1398.2.2.2.1 rfl
theorem dL_law_1406 : decode cL_law 1406 = .ok (.aload_n 1, 1) := dAt wdL_law_1398 adL_law_1398.2.2.2.2.1 rfl
theorem dL_law_1407 : decode cL_law 1407 = .ok (.aload_n 0, 1) := dAt wdL_law_1398 adL_law_1398.2.2.2.2.2.1 rfl
theorem dL_law_1408 : decode cL_law 1408 = .ok (.iload 4, 2) := dAt wdL_law_1398 adL_law_1398.2.2.2.2.2.2.1 rfl
theorem dL_law_1410 : decode cL_law 1410 = .ok (.iconst 1, 1) := dAt wdL_law_1398 adL_law_1398.2.2.2.2.2.2.2.1 rfl
theorem dL_law_1411 : decode cL_law 1411 = .ok (.iadd, 1) := dAt wdL_law_1398 adL_law_1398.2.2.2.2.2.2.2.2.1 rfl
theorem dL_law_1412 : decode cL_law 1412 = .ok (.iaload, 1) := dAt wdL_law_1398 adL_law_1398.2.2.2.2.2.2.2.2.2.1 rfl
theorem dL_law_1413 : decode cL_law 1413 = .ok (.aload_n 0, 1) := dAt wdL_law_1398 adL_law_1398.2.2.2.2.2.2.2.2.2.2.1 rfl
theorem dL_law_1414 : decode cL_law 1414 = .ok (.iload 4, 2) := dAt wdL_law_1398 adL_law_1398.2.2.2.2.2.2.2.2.2.2.2.1 rfl
theorem dL_law_1416 : decode cL_law 1416 = .ok (.iconst 2, 1) := dAt wdL_law_1398 adL_law_1398.2.2.2.2.2.2.2.2.2.2.2.2.1 rfl
theorem dL_law_1417 : decode cL_law 1417 = .ok (.iadd, 1) := dAt wdL_law_1398 adL_law_1398.2.2.2.2.2.2.2.2.2.2.2.2.2.1 rfl
theorem dL_law_1418 : decode cL_law 1418 = .ok (.iaload, 1) := dAt wdL_law_1398 adL_law_1398.2.2.2.2.2.2.2.2.2.2.2.2.2.2.1 rfl
theorem dL_law_1419 : decode cL_law 1419 = .ok (.aload_n 3, 1) := dAt wdL_law_1398 adL_law_1398.2.2.2.2.2.2.2.2.2.2.2.2.2.2.2 rfl
def bdL_law_1420 : ByteArray := .mk #[184, 0, 219, 54, 5, 44, 42, 21, 4, 4, 96, 46, 42, 21, 4, 5, 96, 46, 182, 0, 221, 54, 6, 44]
theorem wdL_law_1420 : LocW cL_law 1420 bdL_law_1420 := loc_of (by decide +kernel)
theorem adL_law_1420 : De bdL_law_1420 0 (.invokestatic 219) 3 ∧ De bdL_law_1420 3 (.istore 5) 2 ∧ De bdL_law_1420 5 (.aload_n 2) 1 ∧ De bdL_law_1420 6 (.aload_n 0) 1 ∧ De bdL_law_1420 7 (.iload 4) 2 ∧ De bdL_law_1420 9 (.iconst 1) 1 ∧ De bdL_law_1420 10 (.iadd) 1 ∧ De bdL_law_1420 11 (.iaload) 1 ∧ De bdL_law_1420 12 (.aload_n 0) 1 ∧ De bdL_law_1420 13 (.iload 4) 2 ∧ De bdL_law_1420 15 (.iconst 2) 1 ∧ De bdL_law_1420 16 (.iadd) 1 ∧ De bdL_law_1420 17 (.iaload) 1 ∧ De bdL_law_1420 18 (.invokevirtual 221) 3 ∧ De bdL_law_1420 21 (.istore 6) 2 ∧ De bdL_law_1420 23 (.aload_n 2) 1 := by decide +kernel
theorem dL_law_1420 : decode cL_law 1420 = .ok (.invokestatic 219, 3) := dAt wdL_law_1420 adL_law_1420.1 rfl
theorem dL_law_1423 : decode cL_law 1423 = .ok (.istore 5, 2) := dAt wdL_law_1420 adL_law_1420.2.1 rfl
theorem dL_law_1425 : decode cL_law 1425 = .ok (.aload_n 2, 1) := dAt wdL_law_1420 adL_law_1420.2.2.1 rfl
theorem dL_law_1426 : decode cL_law 1426 = .ok (.aload_n 0, 1) := dAt wdL_law_1420 adL_law_1420.2.2.2.1 rfl
theorem dL_law_1427 : decode cL_law 1427 = .ok (.iload 4, 2) := dAt wdL_law_1420 adL_law_1420.2.2.2.2.1 rfl
theorem dL_law_1429 : decode cL_law 1429 = .ok (.iconst 1, 1) := dAt wdL_law_1420 adL_law_1420.2.2.2.2.2.1 rfl
theorem dL_law_1430 : decode cL_law 1430 = .ok (.iadd, 1) := dAt wdL_law_1420 adL_law_1420.2.2.2.2.2.2.1 rfl
theorem dL_law_1431 : decode cL_law 1431 = .ok (.iaload, 1) := dAt wdL_law_1420 adL_law_1420.2.2.2.2.2.2.2.1 rfl
theorem dL_law_1432 : decode cL_law 1432 = .ok (.aload_n 0, 1) := dAt wdL_law_1420 adL_law_1420.2.2.2.2.2.2.2.2.1 rfl
theorem dL_law_1433 : decode cL_law 1433 = .ok (.iload 4, 2) := dAt wdL_law_1420 adL_law_1420.2.2.2.2.2.2.2.2.2.1 rfl
theorem dL_law_1435 : decode cL_law 1435 = .ok (.iconst 2, 1) := dAt wdL_law_1420 adL_law_1420.2.2.2.2.2.2.2.2.2.2.1 rfl
theorem dL_law_1436 : decode cL_law 1436 = .ok (.iadd, 1) := dAt wdL_law_1420 adL_law_1420.2.2.2.2.2.2.2.2.2.2.2.1 rfl
theorem dL_law_1437 : decode cL_law 1437 = .ok (.iaload, 1) := dAt wdL_law_1420 adL_law_1420.2.2.2.2.2.2.2.2.2.2.2.2.1 rfl
theorem dL_law_1438 : decode cL_law 1438 = .ok (.invokevirtual 221, 3) := dAt wdL_law_1420 adL_law_1420.2.2.2.2.2.2.2.2.2.2.2.2.2.1 rfl
theorem dL_law_1441 : decode cL_law 1441 = .ok (.istore 6, 2) := dAt wdL_law_1420 adL_law_1420.2.2.2.2.2.2.2.2.2.2.2.2.2.2.1 rfl
theorem dL_law_1443 : decode cL_law 1443 = .ok (.aload_n 2, 1) := dAt wdL_law_1420 adL_law_1420.2.2.2.2.2.2.2.2.2.2.2.2.2.2.2 rfl
def bdL_law_1444 : ByteArray := .mk #[182, 0, 166, 21, 5, 159, 0, 5, 3, 172, 21, 5, 154, 0, 15, 45, 3, 47, 21, 6, 133, 148, 153, 0, 5, 3, 172]
theorem wdL_law_1444 : LocW cL_law 1444 bdL_law_1444 := loc_of (by decide +kernel)
theorem adL_law_1444 : De bdL_law_1444 0 (.invokevirtual 166) 3 ∧ De bdL_law_1444 3 (.iload 5) 2 ∧ De bdL_law_1444 5 (.if_icmp .eq 5) 3 ∧ De bdL_law_1444 8 (.iconst 0) 1 ∧ De bdL_law_1444 9 (.ireturn) 1 ∧ De bdL_law_1444 10 (.iload 5) 2 ∧ De bdL_law_1444 12 (.ifCond .ne 15) 3 ∧ De bdL_law_1444 15 (.aload_n 3) 1 ∧ De bdL_law_1444 16 (.iconst 0) 1 ∧ De bdL_law_1444 17 (.laload) 1 ∧ De bdL_law_1444 18 (.iload 6) 2 ∧ De bdL_law_1444 20 (.i2l) 1 ∧ De bdL_law_1444 21 (.lcmp) 1 ∧ De bdL_law_1444 22 (.ifCond .eq 5) 3 ∧ De bdL_law_1444 25 (.iconst 0) 1 ∧ De bdL_law_1444 26 (.ireturn) 1 := by decide +kernel
theorem dL_law_1444 : decode cL_law 1444 = .ok (.invokevirtual 166, 3) := dAt wdL_law_1444 adL_law_1444.1 rfl
theorem dL_law_1447 : decode cL_law 1447 = .ok (.iload 5, 2) := dAt wdL_law_1444 adL_law_1444.2.1 rfl
theorem dL_law_1449 : decode cL_law 1449 = .ok (.if_icmp .eq 5, 3) := dAt wdL_law_1444 adL_law_1444.2.2.1 rfl
theorem dL_law_1452 : decode cL_law 1452 = .ok (.iconst 0, 1) := dAt wdL_law_1444 adL_law_1444.2.2.2.1 rfl
theorem dL_law_1453 : decode cL_law 1453 = .ok (.ireturn, 1) := dAt wdL_law_1444 adL_law_1444.2.2.2.2.1 rfl
theorem dL_law_1454 : decode cL_law 1454 = .ok (.iload 5, 2) := dAt wdL_law_1444 adL_law_1444.2.2.2.2.2.1 rfl
theorem dL_law_1456 : decode cL_law 1456 = .ok (.ifCond .ne 15, 3) := dAt wdL_law_1444 adL_law_1444.2.2.2.2.2.2.1 rfl
theorem dL_law_1459 : decode cL_law 1459 = .ok (.aload_n 3, 1) := dAt wdL_law_1444 adL_law_1444.2.2.2.2.2.2.2.1 rfl
theorem dL_law_1460 : decode cL_law 1460 = .ok (.iconst 0, 1) := dAt wdL_law_1444 adL_law_1444.2.2.2.2.2.2.2.2.1 rfl
theorem dL_law_1461 : decode cL_law 1461 = .ok (.laload, 1) := dAt wdL_law_1444 adL_law_1444.2.2.2.2.2.2.2.2.2.1 rfl
theorem dL_law_1462 : decode cL_law 1462 = .ok (.iload 6, 2) := dAt wdL_law_1444 adL_law_1444.2.2.2.2.2.2.2.2.2.2.1 rfl
theorem dL_law_1464 : decode cL_law 1464 = .ok (.i2l, 1) := dAt wdL_law_1444 adL_law_1444.2.2.2.2.2.2.2.2.2.2.2.1 rfl
theorem dL_law_1465 : decode cL_law 1465 = .ok (.lcmp, 1) := dAt wdL_law_1444 adL_law_1444.2.2.2.2.2.2.2.2.2.2.2.2.1 rfl
theorem dL_law_1466 : decode cL_law 1466 = .ok (.ifCond .eq 5, 3) := dAt wdL_law_1444 adL_law_1444.2.2.2.2.2.2.2.2.2.2.2.2.2.1 rfl
theorem dL_law_1469 : decode cL_law 1469 = .ok (.iconst 0, 1) := dAt wdL_law_1444 adL_law_1444.2.2.2.2.2.2.2.2.2.2.2.2.2.2.1 rfl
theorem dL_law_1470 : decode cL_law 1470 = .ok (.ireturn, 1) := dAt wdL_law_1444 adL_law_1444.2.2.2.2.2.2.2.2.2.2.2.2.2.2.2 rfl
def bdL_law_1471 : ByteArray := .mk #[167, 6, 202, 43, 42, 21, 4, 4, 96, 46, 42, 21, 4, 5, 96, 46, 45, 184, 0, 222, 54, 5, 44]
theorem wdL_law_1471 : LocW cL_law 1471 bdL_law_1471 := loc_of (by decide +kernel)
theorem adL_law_1471 : De bdL_law_1471 0 (.goto 1738) 3 ∧ De bdL_law_1471 3 (.aload_n 1) 1 ∧ De bdL_law_1471 4 (.aload_n 0) 1 ∧ De bdL_law_1471 5 (.iload 4) 2 ∧ De bdL_law_1471 7 (.iconst 1) 1 ∧ De bdL_law_1471 8 (.iadd) 1 ∧ De bdL_law_1471 9 (.iaload) 1 ∧ De bdL_law_1471 10 (.aload_n 0) 1 ∧ De bdL_law_1471 11 (.iload 4) 2 ∧ De bdL_law_1471 13 (.iconst 2) 1 ∧ De bdL_law_1471 14 (.iadd) 1 ∧ De bdL_law_1471 15 (.iaload) 1 ∧ De bdL_law_1471 16 (.aload_n 3) 1 ∧ De bdL_law_1471 17 (.invokestatic 222) 3 ∧ De bdL_law_1471 20 (.istore 5) 2 ∧ De bdL_law_1471 22 (.aload_n 2) 1 := by decide +kernel
theorem dL_law_1471 : decode cL_law 1471 = .ok (.goto 1738, 3) := dAt wdL_law_1471 adL_law_1471.1 rfl
theorem dL_law_1474 : decode cL_law 1474 = .ok (.aload_n 1, 1) := dAt wdL_law_1471 adL_law_1471.2.1 rfl
theorem dL_law_1475 : decode cL_law 1475 = .ok (.aload_n 0, 1) := dAt wdL_law_1471 adL_law_1471.2.2.1 rfl
theorem dL_law_1476 : decode cL_law 1476 = .ok (.iload 4, 2) := dAt wdL_law_1471 adL_law_1471.2.2.2.1 rfl
theorem dL_law_1478 : decode cL_law 1478 = .ok (.iconst 1, 1) := dAt wdL_law_1471 adL_law_1471.2.2.2.2.1 rfl
theorem dL_law_1479 : decode cL_law 1479 = .ok (.iadd, 1) := dAt wdL_law_1471 adL_law_1471.2.2.2.2.2.1 rfl
theorem dL_law_1480 : decode cL_law 1480 = .ok (.iaload, 1) := dAt wdL_law_1471 adL_law_1471.2.2.2.2.2.2.1 rfl
theorem dL_law_1481 : decode cL_law 1481 = .ok (.aload_n 0, 1) := dAt wdL_law_1471 adL_law_1471.2.2.2.2.2.2.2.1 rfl
theorem dL_law_1482 : decode cL_law 1482 = .ok (.iload 4, 2) := dAt wdL_law_1471 adL_law_1471.2.2.2.2.2.2.2.2.1 rfl
theorem dL_law_1484 : decode cL_law 1484 = .ok (.iconst 2, 1) := dAt wdL_law_1471 adL_law_1471.2.2.2.2.2.2.2.2.2.1 rfl
theorem dL_law_1485 : decode cL_law 1485 = .ok (.iadd, 1) := dAt wdL_law_1471 adL_law_1471.2.2.2.2.2.2.2.2.2.2.1 rfl
theorem dL_law_1486 : decode cL_law 1486 = .ok (.iaload, 1) := dAt wdL_law_1471 adL_law_1471.2.2.2.2.2.2.2.2.2.2.2.1 rfl
theorem dL_law_1487 : decode cL_law 1487 = .ok (.aload_n 3, 1) := dAt wdL_law_1471 adL_law_1471.2.2.2.2.2.2.2.2.2.2.2.2.1 rfl
theorem dL_law_1488 : decode cL_law 1488 = .ok (.invokestatic 222, 3) := dAt wdL_law_1471 adL_law_1471.2.2.2.2.2.2.2.2.2.2.2.2.2.1 rfl
theorem dL_law_1491 : decode cL_law 1491 = .ok (.istore 5, 2) := dAt wdL_law_1471 adL_law_1471.2.2.2.2.2.2.2.2.2.2.2.2.2.2.1 rfl
theorem dL_law_1493 : decode cL_law 1493 = .ok (.aload_n 2, 1) := dAt wdL_law_1471 adL_law_1471.2.2.2.2.2.2.2.2.2.2.2.2.2.2.2 rfl
def bdL_law_1494 : ByteArray := .mk #[42, 21, 4, 4, 96, 46, 42, 21, 4, 5, 96, 46, 182, 0, 224, 54, 6, 44, 182, 0, 166, 21, 5, 159, 0, 5]
theorem wdL_law_1494 : LocW cL_law 1494 bdL_law_1494 := loc_of (by decide +kernel)
theorem adL_law_1494 : De bdL_law_1494 0 (.aload_n 0) 1 ∧ De bdL_law_1494 1 (.iload 4) 2 ∧ De bdL_law_1494 3 (.iconst 1) 1 ∧ De bdL_law_1494 4 (.iadd) 1 ∧ De bdL_law_1494 5 (.iaload) 1 ∧ De bdL_law_1494 6 (.aload_n 0) 1 ∧ De bdL_law_1494 7 (.iload 4) 2 ∧ De bdL_law_1494 9 (.iconst 2) 1 ∧ De bdL_law_1494 10 (.iadd) 1 ∧ De bdL_law_1494 11 (.iaload) 1 ∧ De bdL_law_1494 12 (.invokevirtual 224) 3 ∧ De bdL_law_1494 15 (.istore 6) 2 ∧ De bdL_law_1494 17 (.aload_n 2) 1 ∧ De bdL_law_1494 18 (.invokevirtual 166) 3 ∧ De bdL_law_1494 21 (.iload 5) 2 ∧ De bdL_law_1494 23 (.if_icmp .eq 5) 3 := by decide +kernel
theorem dL_law_1494 : decode cL_law 1494 = .ok (.aload_n 0, 1) := dAt wdL_law_1494 adL_law_1494.1 rfl
theorem dL_law_1495 : decode cL_law 1495 = .ok (.iload 4, 2) := dAt wdL_law_1494 adL_law_1494.2.1 rfl
theorem dL_law_1497 : decode cL_law 1497 = .ok (.iconst 1, 1) := dAt wdL_law_1494 adL_law_1494.2.2.1 rfl
theorem dL_law_1498 : decode cL_law 1498 = .ok (.iadd, 1) := dAt wdL_law_1494 adL_law_1494.2.2.2.1 rfl
theorem dL_law_1499 : decode cL_law 1499 = .ok (.iaload, 1) := dAt wdL_law_1494 adL_law_1494.2.2.2.2.1 rfl
theorem dL_law_1500 : decode cL_law 1500 = .ok (.aload_n 0, 1) := dAt wdL_law_1494 adL_law_1494.2.2.2.2.2.1 rfl
theorem dL_law_1501 : decode cL_law 1501 = .ok (.iload 4, 2) := dAt wdL_law_1494 adL_law_1494.2.2.2.2.2.2.1 rfl
theorem dL_law_1503 : decode cL_law 1503 = .ok (.iconst 2, 1) := dAt wdL_law_1494 adL_law_1494.2.2.2.2.2.2.2.1 rfl
theorem dL_law_1504 : decode cL_law 1504 = .ok (.iadd, 1) := dAt wdL_law_1494 adL_law_1494.2.2.2.2.2.2.2.2.1 rfl
theorem dL_law_1505 : decode cL_law 1505 = .ok (.iaload, 1) := dAt wdL_law_1494 adL_law_1494.2.2.2.2.2.2.2.2.2.1 rfl
theorem dL_law_1506 : decode cL_law 1506 = .ok (.invokevirtual 224, 3) := dAt wdL_law_1494 adL_law_1494.2.2.2.2.2.2.2.2.2.2.1 rfl
theorem dL_law_1509 : decode cL_law 1509 = .ok (.istore 6, 2) := dAt wdL_law_1494 adL_law_1494.2.2.2.2.2.2.2.2.2.2.2.1 rfl
theorem dL_law_1511 : decode cL_law 1511 = .ok (.aload_n 2, 1) := dAt wdL_law_1494 adL_law_1494.2.2.2.2.2.2.2.2.2.2.2.2.1 rfl
theorem dL_law_1512 : decode cL_law 1512 = .ok (.invokevirtual 166, 3) := dAt wdL_law_1494 adL_law_1494.2.2.2.2.2.2.2.2.2.2.2.2.2.1 rfl
theorem dL_law_1515 : decode cL_law 1515 = .ok (.iload 5, 2) := dAt wdL_law_1494 adL_law_1494.2.2.2.2.2.2.2.2.2.2.2.2.2.2.1 rfl
theorem dL_law_1517 : decode cL_law 1517 = .ok (.if_icmp .eq 5, 3) := dAt wdL_law_1494 adL_law_1494.2.2.2.2.2.2.2.2.2.2.2.2.2.2.2 rfl
def bdL_law_1520 : ByteArray := .mk #[3, 172, 21, 5, 154, 0, 15, 45, 3, 47, 21, 6, 133, 148, 153, 0, 5, 3, 172, 167, 6, 134, 43, 42]
theorem wdL_law_1520 : LocW cL_law 1520 bdL_law_1520 := loc_of (by decide +kernel)
theorem adL_law_1520 : De bdL_law_1520 0 (.iconst 0) 1 ∧ De bdL_law_1520 1 (.ireturn) 1 ∧ De bdL_law_1520 2 (.iload 5) 2 ∧ De bdL_law_1520 4 (.ifCond .ne 15) 3 ∧ De bdL_law_1520 7 (.aload_n 3) 1 ∧ De bdL_law_1520 8 (.iconst 0) 1 ∧ De bdL_law_1520 9 (.laload) 1 ∧ De bdL_law_1520 10 (.iload 6) 2 ∧ De bdL_law_1520 12 (.i2l) 1 ∧ De bdL_law_1520 13 (.lcmp) 1 ∧ De bdL_law_1520 14 (.ifCond .eq 5) 3 ∧ De bdL_law_1520 17 (.iconst 0) 1 ∧ De bdL_law_1520 18 (.ireturn) 1 ∧ De bdL_law_1520 19 (.goto 1670) 3 ∧ De bdL_law_1520 22 (.aload_n 1) 1 ∧ De bdL_law_1520 23 (.aload_n 0) 1 := by decide +kernel
theorem dL_law_1520 : decode cL_law 1520 = .ok (.iconst 0, 1) := dAt wdL_law_1520 adL_law_1520.1 rfl
theorem dL_law_1521 : decode cL_law 1521 = .ok (.ireturn, 1) := dAt wdL_law_1520 adL_law_1520.2.1 rfl
theorem dL_law_1522 : decode cL_law 1522 = .ok (.iload 5, 2) := dAt wdL_law_1520 adL_law_1520.2.2.1 rfl
theorem dL_law_1524 : decode cL_law 1524 = .ok (.ifCond .ne 15, 3) := dAt wdL_law_1520 adL_law_1520.2.2.2.1 rfl
theorem dL_law_1527 : decode cL_law 1527 = .ok (.aload_n 3, 1) := dAt wdL_law_1520 adL_law_1520.2.2.2.2.1 rfl
theorem dL_law_1528 : decode cL_law 1528 = .ok (.iconst 0, 1) := dAt wdL_law_1520 adL_law_1520.2.2.2.2.2.1 rfl
theorem dL_law_1529 : decode cL_law 1529 = .ok (.laload, 1) := dAt wdL_law_1520 adL_law_1520.2.2.2.2.2.2.1 rfl
theorem dL_law_1530 : decode cL_law 1530 = .ok (.iload 6, 2) := dAt wdL_law_1520 adL_law_1520.2.2.2.2.2.2.2.1 rfl
theorem dL_law_1532 : decode cL_law 1532 = .ok (.i2l, 1) := dAt wdL_law_1520 adL_law_1520.2.2.2.2.2.2.2.2.1 rfl
theorem dL_law_1533 : decode cL_law 1533 = .ok (.lcmp, 1) := dAt wdL_law_1520 adL_law_1520.2.2.2.2.2.2.2.2.2.1 rfl
theorem dL_law_1534 : decode cL_law 1534 = .ok (.ifCond .eq 5, 3) := dAt wdL_law_1520 adL_law_1520.2.2.2.2.2.2.2.2.2.2.1 rfl
theorem dL_law_1537 : decode cL_law 1537 = .ok (.iconst 0, 1) := dAt wdL_law_1520 adL_law_1520.2.2.2.2.2.2.2.2.2.2.2.1 rfl
theorem dL_law_1538 : decode cL_law 1538 = .ok (.ireturn, 1) := dAt wdL_law_1520 adL_law_1520.2.2.2.2.2.2.2.2.2.2.2.2.1 rfl
theorem dL_law_1539 : decode cL_law 1539 = .ok (.goto 1670, 3) := dAt wdL_law_1520 adL_law_1520.2.2.2.2.2.2.2.2.2.2.2.2.2.1 rfl
theorem dL_law_1542 : decode cL_law 1542 = .ok (.aload_n 1, 1) := dAt wdL_law_1520 adL_law_1520.2.2.2.2.2.2.2.2.2.2.2.2.2.2.1 rfl
theorem dL_law_1543 : decode cL_law 1543 = .ok (.aload_n 0, 1) := dAt wdL_law_1520 adL_law_1520.2.2.2.2.2.2.2.2.2.2.2.2.2.2.2 rfl
def bdL_law_1544 : ByteArray := .mk #[21, 4, 4, 96, 46, 45, 184, 0, 225, 54, 5, 44, 42, 21, 4, 4, 96, 46, 182, 0, 227, 54, 6, 44]
theorem wdL_law_1544 : LocW cL_law 1544 bdL_law_1544 := loc_of (by decide +kernel)
theorem adL_law_1544 : De bdL_law_1544 0 (.iload 4) 2 ∧ De bdL_law_1544 2 (.iconst 1) 1 ∧ De bdL_law_1544 3 (.iadd) 1 ∧ De bdL_law_1544 4 (.iaload) 1 ∧ De bdL_law_1544 5 (.aload_n 3) 1 ∧ De bdL_law_1544 6 (.invokestatic 225) 3 ∧ De bdL_law_1544 9 (.istore 5) 2 ∧ De bdL_law_1544 11 (.aload_n 2) 1 ∧ De bdL_law_1544 12 (.aload_n 0) 1 ∧ De bdL_law_1544 13 (.iload 4) 2 ∧ De bdL_law_1544 15 (.iconst 1) 1 ∧ De bdL_law_1544 16 (.iadd) 1 ∧ De bdL_law_1544 17 (.iaload) 1 ∧ De bdL_law_1544 18 (.invokevirtual 227) 3 ∧ De bdL_law_1544 21 (.istore 6) 2 ∧ De bdL_law_1544 23 (.aload_n 2) 1 := by decide +kernel
theorem dL_law_1544 : decode cL_law 1544 = .ok (.iload 4, 2) := dAt wdL_law_1544 adL_law_1544.1 rfl
theorem dL_law_1546 : decode cL_law 1546 = .ok (.iconst 1, 1) := dAt wdL_law_1544 adL_law_1544.2.1 rfl
theorem dL_law_1547 : decode cL_law 1547 = .ok (.iadd, 1) := dAt wdL_law_1544 adL_law_1544.2.2.1 rfl
theorem dL_law_1548 : decode cL_law 1548 = .ok (.iaload, 1) := dAt wdL_law_1544 adL_law_1544.2.2.2.1 rfl
theorem dL_law_1549 : decode cL_law 1549 = .ok (.aload_n 3, 1) := dAt wdL_law_1544 adL_law_1544.2.2.2.2.1 rfl
theorem dL_law_1550 : decode cL_law 1550 = .ok (.invokestatic 225, 3) := dAt wdL_law_1544 adL_law_1544.2.2.2.2.2.1 rfl
theorem dL_law_1553 : decode cL_law 1553 = .ok (.istore 5, 2) := dAt wdL_law_1544 adL_law_1544.2.2.2.2.2.2.1 rfl
theorem dL_law_1555 : decode cL_law 1555 = .ok (.aload_n 2, 1) := dAt wdL_law_1544 adL_law_1544.2.2.2.2.2.2.2.1 rfl
theorem dL_law_1556 : decode cL_law 1556 = .ok (.aload_n 0, 1) := dAt wdL_law_1544 adL_law_1544.2.2.2.2.2.2.2.2.1 rfl
theorem dL_law_1557 : decode cL_law 1557 = .ok (.iload 4, 2) := dAt wdL_law_1544 adL_law_1544.2.2.2.2.2.2.2.2.2.1 rfl
theorem dL_law_1559 : decode cL_law 1559 = .ok (.iconst 1, 1) := dAt wdL_law_1544 adL_law_1544.2.2.2.2.2.2.2.2.2.2.1 rfl
theorem dL_law_1560 : decode cL_law 1560 = .ok (.iadd, 1) := dAt wdL_law_1544 adL_law_1544.2.2.2.2.2.2.2.2.2.2.2.1 rfl
theorem dL_law_1561 : decode cL_law 1561 = .ok (.iaload, 1) := dAt wdL_law_1544 adL_law_1544.2.2.2.2.2.2.2.2.2.2.2.2.1 rfl
theorem dL_law_1562 : decode cL_law 1562 = .ok (.invokevirtual 227, 3) := dAt wdL_law_1544 adL_law_1544.2.2.2.2.2.2.2.2.2.2.2.2.2.1 rfl
theorem dL_law_1565 : decode cL_law 1565 = .ok (.istore 6, 2) := dAt wdL_law_1544 adL_law_1544.2.2.2.2.2.2.2.2.2.2.2.2.2.2.1 rfl
theorem dL_law_1567 : decode cL_law 1567 = .ok (.aload_n 2, 1) := dAt wdL_law_1544 adL_law_1544.2.2.2.2.2.2.2.2.2.2.2.2.2.2.2 rfl
def bdL_law_1568 : ByteArray := .mk #[182, 0, 166, 21, 5, 159, 0, 5, 3, 172, 21, 5, 154, 0, 15, 45, 3, 47, 21, 6, 133, 148, 153, 0, 5, 3, 172]
theorem wdL_law_1568 : LocW cL_law 1568 bdL_law_1568 := loc_of (by decide +kernel)
theorem adL_law_1568 : De bdL_law_1568 0 (.invokevirtual 166) 3 ∧ De bdL_law_1568 3 (.iload 5) 2 ∧ De bdL_law_1568 5 (.if_icmp .eq 5) 3 ∧ De bdL_law_1568 8 (.iconst 0) 1 ∧ De bdL_law_1568 9 (.ireturn) 1 ∧ De bdL_law_1568 10 (.iload 5) 2 ∧ De bdL_law_1568 12 (.ifCond .ne 15) 3 ∧ De bdL_law_1568 15 (.aload_n 3) 1 ∧ De bdL_law_1568 16 (.iconst 0) 1 ∧ De bdL_law_1568 17 (.laload) 1 ∧ De bdL_law_1568 18 (.iload 6) 2 ∧ De bdL_law_1568 20 (.i2l) 1 ∧ De bdL_law_1568 21 (.lcmp) 1 ∧ De bdL_law_1568 22 (.ifCond .eq 5) 3 ∧ De bdL_law_1568 25 (.iconst 0) 1 ∧ De bdL_law_1568 26 (.ireturn) 1 := by decide +kernel
theorem dL_law_1568 : decode cL_law 1568 = .ok (.invokevirtual 166, 3) := dAt wdL_law_1568 adL_law_1568.1 rfl
theorem dL_law_1571 : decode cL_law 1571 = .ok (.iload 5, 2) := dAt wdL_law_1568 adL_law_1568.2.1 rfl
theorem dL_law_1573 : decode cL_law 1573 = .ok (.if_icmp .eq 5, 3) := dAt wdL_law_1568 adL_law_1568.2.2.1 rfl
theorem dL_law_1576 : decode cL_law 1576 = .ok (.iconst 0, 1) := dAt wdL_law_1568 adL_law_1568.2.2.2.1 rfl
theorem dL_law_1577 : decode cL_law 1577 = .ok (.ireturn, 1) := dAt wdL_law_1568 adL_law_1568.2.2.2.2.1 rfl
theorem dL_law_1578 : decode cL_law 1578 = .ok (.iload 5, 2) := dAt wdL_law_1568 adL_law_1568.2.2.2.2.2.1 rfl
theorem dL_law_1580 : decode cL_law 1580 = .ok (.ifCond .ne 15, 3) := dAt wdL_law_1568 adL_law_1568.2.2.2.2.2.2.1 rfl
theorem dL_law_1583 : decode cL_law 1583 = .ok (.aload_n 3, 1) := dAt wdL_law_1568 adL_law_1568.2.2.2.2.2.2.2.1 rfl
theorem dL_law_1584 : decode cL_law 1584 = .ok (.iconst 0, 1) := dAt wdL_law_1568 adL_law_1568.2.2.2.2.2.2.2.2.1 rfl
theorem dL_law_1585 : decode cL_law 1585 = .ok (.laload, 1) := dAt wdL_law_1568 adL_law_1568.2.2.2.2.2.2.2.2.2.1 rfl
theorem dL_law_1586 : decode cL_law 1586 = .ok (.iload 6, 2) := dAt wdL_law_1568 adL_law_1568.2.2.2.2.2.2.2.2.2.2.1 rfl
theorem dL_law_1588 : decode cL_law 1588 = .ok (.i2l, 1) := dAt wdL_law_1568 adL_law_1568.2.2.2.2.2.2.2.2.2.2.2.1 rfl
theorem dL_law_1589 : decode cL_law 1589 = .ok (.lcmp, 1) := dAt wdL_law_1568 adL_law_1568.2.2.2.2.2.2.2.2.2.2.2.2.1 rfl
theorem dL_law_1590 : decode cL_law 1590 = .ok (.ifCond .eq 5, 3) := dAt wdL_law_1568 adL_law_1568.2.2.2.2.2.2.2.2.2.2.2.2.2.1 rfl
theorem dL_law_1593 : decode cL_law 1593 = .ok (.iconst 0, 1) := dAt wdL_law_1568 adL_law_1568.2.2.2.2.2.2.2.2.2.2.2.2.2.2.1 rfl
theorem dL_law_1594 : decode cL_law 1594 = .ok (.ireturn, 1) := dAt wdL_law_1568 adL_law_1568.2.2.2.2.2.2.2.2.2.2.2.2.2.2.2 rfl
def bdL_law_1595 : ByteArray := .mk #[167, 6, 78, 43, 42, 21, 4, 4, 96, 46, 45, 184, 0, 228, 54, 5, 44, 42, 21, 4, 4, 96, 46]
theorem wdL_law_1595 : LocW cL_law 1595 bdL_law_1595 := loc_of (by decide +kernel)
theorem adL_law_1595 : De bdL_law_1595 0 (.goto 1614) 3 ∧ De bdL_law_1595 3 (.aload_n 1) 1 ∧ De bdL_law_1595 4 (.aload_n 0) 1 ∧ De bdL_law_1595 5 (.iload 4) 2 ∧ De bdL_law_1595 7 (.iconst 1) 1 ∧ De bdL_law_1595 8 (.iadd) 1 ∧ De bdL_law_1595 9 (.iaload) 1 ∧ De bdL_law_1595 10 (.aload_n 3) 1 ∧ De bdL_law_1595 11 (.invokestatic 228) 3 ∧ De bdL_law_1595 14 (.istore 5) 2 ∧ De bdL_law_1595 16 (.aload_n 2) 1 ∧ De bdL_law_1595 17 (.aload_n 0) 1 ∧ De bdL_law_1595 18 (.iload 4) 2 ∧ De bdL_law_1595 20 (.iconst 1) 1 ∧ De bdL_law_1595 21 (.iadd) 1 ∧ De bdL_law_1595 22 (.iaload) 1 := by decide +kernel
theorem dL_law_1595 : decode cL_law 1595 = .ok (.goto 1614, 3) := dAt wdL_law_1595 adL_law_1595.1 rfl
theorem dL_law_1598 : decode cL_law 1598 = .ok (.aload_n 1, 1) := dAt wdL_law_1595 adL_law_1595.2.1 rfl
theorem dL_law_1599 : decode cL_law 1599 = .ok (.aload_n 0, 1) := dAt wdL_law_1595 adL_law_1595.2.2.1 rfl
theorem dL_law_1600 : decode cL_law 1600 = .ok (.iload 4, 2) := dAt wdL_law_1595 adL_law_1595.2.2.2.1 rfl
theorem dL_law_1602 : decode cL_law 1602 = .ok (.iconst 1, 1) := dAt wdL_law_1595 adL_law_1595.2.2.2.2.1 rfl
theorem dL_law_1603 : decode cL_law 1603 = .ok (.iadd, 1) := dAt wdL_law_1595 adL_law_1595.2.2.2.2.2.1 rfl
theorem dL_law_1604 : decode cL_law 1604 = .ok (.iaload, 1) := dAt wdL_law_1595 adL_law_1595.2.2.2.2.2.2.1 rfl
theorem dL_law_1605 : decode cL_law 1605 = .ok (.aload_n 3, 1) := dAt wdL_law_1595 adL_law_1595.2.2.2.2.2.2.2.1 rfl
theorem dL_law_1606 : decode cL_law 1606 = .ok (.invokestatic 228, 3) := dAt wdL_law_1595 adL_law_1595.2.2.2.2.2.2.2.2.1 rfl
theorem dL_law_1609 : decode cL_law 1609 = .ok (.istore 5, 2) := dAt wdL_law_1595 adL_law_1595.2.2.2.2.2.2.2.2.2.1 rfl
theorem dL_law_1611 : decode cL_law 1611 = .ok (.aload_n 2, 1) := dAt wdL_law_1595 adL_law_1595.2.2.2.2.2.2.2.2.2.2.1 rfl
theorem dL_law_1612 : decode cL_law 1612 = .ok (.aload_n 0, 1) := dAt wdL_law_1595 adL_law_1595.2.2.2.2.2.2.2.2.2.2.2.1 rfl
theorem dL_law_1613 : decode cL_law 1613 = .ok (.iload 4, 2) := dAt wdL_law_1595 adL_law_1595.2.2.2.2.2.2.2.2.2.2.2.2.1 rfl
theorem dL_law_1615 : decode cL_law 1615 = .ok (.iconst 1, 1) := dAt wdL_law_1595 adL_law_1595.2.2.2.2.2.2.2.2.2.2.2.2.2.1 rfl
theorem dL_law_1616 : decode cL_law 1616 = .ok (.iadd, 1) := dAt wdL_law_1595 adL_law_1595.2.2.2.2.2.2.2.2.2.2.2.2.2.2.1 rfl
theorem dL_law_1617 : decode cL_law 1617 = .ok (.iaload, 1) := dAt wdL_law_1595 adL_law_1595.2.2.2.2.2.2.2.2.2.2.2.2.2.2.2 rfl
def bdL_law_1618 : ByteArray := .mk #[182, 0, 230, 54, 6, 44, 182, 0, 166, 21, 5, 159, 0, 5, 3, 172, 21, 5, 154, 0, 22, 45, 3, 47, 21, 6, 153, 0, 7, 10]
theorem wdL_law_1618 : LocW cL_law 1618 bdL_law_1618 := loc_of (by decide +kernel)
theorem adL_law_1618 : De bdL_law_1618 0 (.invokevirtual 230) 3 ∧ De bdL_law_1618 3 (.istore 6) 2 ∧ De bdL_law_1618 5 (.aload_n 2) 1 ∧ De bdL_law_1618 6 (.invokevirtual 166) 3 ∧ De bdL_law_1618 9 (.iload 5) 2 ∧ De bdL_law_1618 11 (.if_icmp .eq 5) 3 ∧ De bdL_law_1618 14 (.iconst 0) 1 ∧ De bdL_law_1618 15 (.ireturn) 1 ∧ De bdL_law_1618 16 (.iload 5) 2 ∧ De bdL_law_1618 18 (.ifCond .ne 22) 3 ∧ De bdL_law_1618 21 (.aload_n 3) 1 ∧ De bdL_law_1618 22 (.iconst 0) 1 ∧ De bdL_law_1618 23 (.laload) 1 ∧ De bdL_law_1618 24 (.iload 6) 2 ∧ De bdL_law_1618 26 (.ifCond .eq 7) 3 ∧ De bdL_law_1618 29 (.lconst 1) 1 := by decide +kernel
theorem dL_law_1618 : decode cL_law 1618 = .ok (.invokevirtual 230, 3) := dAt wdL_law_1618 adL_law_1618.1 rfl
theorem dL_law_1621 : decode cL_law 1621 = .ok (.istore 6, 2) := dAt wdL_law_1618 adL_law_1618.2.1 rfl
theorem dL_law_1623 : decode cL_law 1623 = .ok (.aload_n 2, 1) := dAt wdL_law_1618 adL_law_1618.2.2.1 rfl
theorem dL_law_1624 : decode cL_law 1624 = .ok (.invokevirtual 166, 3) := dAt wdL_law_1618 adL_law_1618.2.2.2.1 rfl
theorem dL_law_1627 : decode cL_law 1627 = .ok (.iload 5, 2) := dAt wdL_law_1618 adL_law_1618.2.2.2.2.1 rfl
theorem dL_law_1629 : decode cL_law 1629 = .ok (.if_icmp .eq 5, 3) := dAt wdL_law_1618 adL_law_1618.2.2.2.2.2.1 rfl
theorem dL_law_1632 : decode cL_law 1632 = .ok (.iconst 0, 1) := dAt wdL_law_1618 adL_law_1618.2.2.2.2.2.2.1 rfl
theorem dL_law_1633 : decode cL_law 1633 = .ok (.ireturn, 1) := dAt wdL_law_1618 adL_law_1618.2.2.2.2.2.2.2.1 rfl
theorem dL_law_1634 : decode cL_law 1634 = .ok (.iload 5, 2) := dAt wdL_law_1618 adL_law_1618.2.2.2.2.2.2.2.2.1 rfl
theorem dL_law_1636 : decode cL_law 1636 = .ok (.ifCond .ne 22, 3) := dAt wdL_law_1618 adL_law_1618.2.2.2.2.2.2.2.2.2.1 rfl
theorem dL_law_1639 : decode cL_law 1639 = .ok (.aload_n 3, 1) := dAt wdL_law_1618 adL_law_1618.2.2.2.2.2.2.2.2.2.2.1 rfl
theorem dL_law_1640 : decode cL_law 1640 = .ok (.iconst 0, 1) := dAt wdL_law_1618 adL_law_1618.2.2.2.2.2.2.2.2.2.2.2.1 rfl
theorem dL_law_1641 : decode cL_law 1641 = .ok (.laload, 1) := dAt wdL_law_1618 adL_law_1618.2.2.2.2.2.2.2.2.2.2.2.2.1 rfl
theorem dL_law_1642 : decode cL_law 1642 = .ok (.iload 6, 2) := dAt wdL_law_1618 adL_law_1618.2.2.2.2.2.2.2.2.2.2.2.2.2.1 rfl
theorem dL_law_1644 : decode cL_law 1644 = .ok (.ifCond .eq 7, 3) := dAt wdL_law_1618 adL_law_1618.2.2.2.2.2.2.2.2.2.2.2.2.2.2.1 rfl
theorem dL_law_1647 : decode cL_law 1647 = .ok (.lconst 1, 1) := dAt wdL_law_1618 adL_law_1618.2.2.2.2.2.2.2.2.2.2.2.2.2.2.2 rfl
def bdL_law_1648 : ByteArray := .mk #[167, 0, 4, 9, 148, 153, 0, 5, 3, 172, 167, 6, 15, 43, 42, 21, 4, 4, 96, 46, 42, 21, 4, 5]
theorem wdL_law_1648 : LocW cL_law 1648 bdL_law_1648 := loc_of (by decide +kernel)
theorem adL_law_1648 : De bdL_law_1648 0 (.goto 4) 3 ∧ De bdL_law_1648 3 (.lconst 0) 1 ∧ De bdL_law_1648 4 (.lcmp) 1 ∧ De bdL_law_1648 5 (.ifCond .eq 5) 3 ∧ De bdL_law_1648 8 (.iconst 0) 1 ∧ De bdL_law_1648 9 (.ireturn) 1 ∧ De bdL_law_1648 10 (.goto 1551) 3 ∧ De bdL_law_1648 13 (.aload_n 1) 1 ∧ De bdL_law_1648 14 (.aload_n 0) 1 ∧ De bdL_law_1648 15 (.iload 4) 2 ∧ De bdL_law_1648 17 (.iconst 1) 1 ∧ De bdL_law_1648 18 (.iadd) 1 ∧ De bdL_law_1648 19 (.iaload) 1 ∧ De bdL_law_1648 20 (.aload_n 0) 1 ∧ De bdL_law_1648 21 (.iload 4) 2 ∧ De bdL_law_1648 23 (.iconst 2) 1 := by decide +kernel
theorem dL_law_1648 : decode cL_law 1648 = .ok (.goto 4, 3) := dAt wdL_law_1648 adL_law_1648.1 rfl
theorem dL_law_1651 : decode cL_law 1651 = .ok (.lconst 0, 1) := dAt wdL_law_1648 adL_law_1648.2.1 rfl
theorem dL_law_1652 : decode cL_law 1652 = .ok (.lcmp, 1) := dAt wdL_law_1648 adL_law_1648.2.2.1 rfl
theorem dL_law_1653 : decode cL_law 1653 = .ok (.ifCond .eq 5, 3) := dAt wdL_law_1648 adL_law_1648.2.2.2.1 rfl
theorem dL_law_1656 : decode cL_law 1656 = .ok (.iconst 0, 1) := dAt wdL_law_1648 adL_law_1648.2.2.2.2.1 rfl
theorem dL_law_1657 : decode cL_law 1657 = .ok (.ireturn, 1) := dAt wdL_law_1648 adL_law_1648.2.2.2.2.2.1 rfl
theorem dL_law_1658 : decode cL_law 1658 = .ok (.goto 1551, 3) := dAt wdL_law_1648 adL_law_1648.2.2.2.2.2.2.1 rfl
theorem dL_law_1661 : decode cL_law 1661 = .ok (.aload_n 1, 1) := dAt wdL_law_1648 adL_law_1648.2.2.2.2.2.2.2.1 rfl
theorem dL_law_1662 : decode cL_law 1662 = .ok (.aload_n 0, 1) := dAt wdL_law_1648 adL_law_1648.2.2.2.2.2.2.2.2.1 rfl
theorem dL_law_1663 : decode cL_law 1663 = .ok (.iload 4, 2) := dAt wdL_law_1648 adL_law_1648.2.2.2.2.2.2.2.2.2.1 rfl
theorem dL_law_1665 : decode cL_law 1665 = .ok (.iconst 1, 1) := dAt wdL_law_1648 adL_law_1648.2.2.2.2.2.2.2.2.2.2.1 rfl
theorem dL_law_1666 : decode cL_law 1666 = .ok (.iadd, 1) := dAt wdL_law_1648 adL_law_1648.2.2.2.2.2.2.2.2.2.2.2.1 rfl
theorem dL_law_1667 : decode cL_law 1667 = .ok (.iaload, 1) := dAt wdL_law_1648 adL_law_1648.2.2.2.2.2.2.2.2.2.2.2.2.1 rfl
theorem dL_law_1668 : decode cL_law 1668 = .ok (.aload_n 0, 1) := dAt wdL_law_1648 adL_law_1648.2.2.2.2.2.2.2.2.2.2.2.2.2.1 rfl
theorem dL_law_1669 : decode cL_law 1669 = .ok (.iload 4, 2) := dAt wdL_law_1648 adL_law_1648.2.2.2.2.2.2.2.2.2.2.2.2.2.2.1 rfl
theorem dL_law_1671 : decode cL_law 1671 = .ok (.iconst 2, 1) := dAt wdL_law_1648 adL_law_1648.2.2.2.2.2.2.2.2.2.2.2.2.2.2.2 rfl
def bdL_law_1672 : ByteArray := .mk #[96, 46, 45, 184, 0, 231, 54, 5, 44, 42, 21, 4, 4, 96, 46, 42, 21, 4, 5, 96, 46]
theorem wdL_law_1672 : LocW cL_law 1672 bdL_law_1672 := loc_of (by decide +kernel)
theorem adL_law_1672 : De bdL_law_1672 0 (.iadd) 1 ∧ De bdL_law_1672 1 (.iaload) 1 ∧ De bdL_law_1672 2 (.aload_n 3) 1 ∧ De bdL_law_1672 3 (.invokestatic 231) 3 ∧ De bdL_law_1672 6 (.istore 5) 2 ∧ De bdL_law_1672 8 (.aload_n 2) 1 ∧ De bdL_law_1672 9 (.aload_n 0) 1 ∧ De bdL_law_1672 10 (.iload 4) 2 ∧ De bdL_law_1672 12 (.iconst 1) 1 ∧ De bdL_law_1672 13 (.iadd) 1 ∧ De bdL_law_1672 14 (.iaload) 1 ∧ De bdL_law_1672 15 (.aload_n 0) 1 ∧ De bdL_law_1672 16 (.iload 4) 2 ∧ De bdL_law_1672 18 (.iconst 2) 1 ∧ De bdL_law_1672 19 (.iadd) 1 ∧ De bdL_law_1672 20 (.iaload) 1 := by decide +kernel
theorem dL_law_1672 : decode cL_law 1672 = .ok (.iadd, 1) := dAt wdL_law_1672 adL_law_1672.1 rfl
theorem dL_law_1673 : decode cL_law 1673 = .ok (.iaload, 1) := dAt wdL_law_1672 adL_law_1672.2.1 rfl
theorem dL_law_1674 : decode cL_law 1674 = .ok (.aload_n 3, 1) := dAt wdL_law_1672 adL_law_1672.2.2.1 rfl
theorem dL_law_1675 : decode cL_law 1675 = .ok (.invokestatic 231, 3) := dAt wdL_law_1672 adL_law_1672.2.2.2.1 rfl
theorem dL_law_1678 : decode cL_law 1678 = .ok (.istore 5, 2) := dAt wdL_law_1672 adL_law_1672.2.2.2.2.1 rfl
theorem dL_law_1680 : decode cL_law 1680 = .ok (.aload_n 2, 1) := dAt wdL_law_1672 adL_law_1672.2.2.2.2.2.1 rfl
theorem dL_law_1681 : decode cL_law 1681 = .ok (.aload_n 0, 1) := dAt wdL_law_1672 adL_law_1672.2.2.2.2.2.2.1 rfl
theorem dL_law_1682 : decode cL_law 1682 = .ok (.iload 4, 2) := dAt wdL_law_1672 adL_law_1672.2.2.2.2.2.2.2.1 rfl
theorem dL_law_1684 : decode cL_law 1684 = .ok (.iconst 1, 1) := dAt wdL_law_1672 adL_law_1672.2.2.2.2.2.2.2.2.1 rfl
theorem dL_law_1685 : decode cL_law 1685 = .ok (.iadd, 1) := dAt wdL_law_1672 adL_law_1672.2.2.2.2.2.2.2.2.2.1 rfl
theorem dL_law_1686 : decode cL_law 1686 = .ok (.iaload, 1) := dAt wdL_law_1672 adL_law_1672.2.2.2.2.2.2.2.2.2.2.1 rfl
theorem dL_law_1687 : decode cL_law 1687 = .ok (.aload_n 0, 1) := dAt wdL_law_1672 adL_law_1672.2.2.2.2.2.2.2.2.2.2.2.1 rfl
theorem dL_law_1688 : decode cL_law 1688 = .ok (.iload 4, 2) := dAt wdL_law_1672 adL_law_1672.2.2.2.2.2.2.2.2.2.2.2.2.1 rfl
theorem dL_law_1690 : decode cL_law 1690 = .ok (.iconst 2, 1) := dAt wdL_law_1672 adL_law_1672.2.2.2.2.2.2.2.2.2.2.2.2.2.1 rfl
theorem dL_law_1691 : decode cL_law 1691 = .ok (.iadd, 1) := dAt wdL_law_1672 adL_law_1672.2.2.2.2.2.2.2.2.2.2.2.2.2.2.1 rfl
theorem dL_law_1692 : decode cL_law 1692 = .ok (.iaload, 1) := dAt wdL_law_1672 adL_law_1672.2.2.2.2.2.2.2.2.2.2.2.2.2.2.2 rfl
def bdL_law_1693 : ByteArray := .mk #[182, 0, 233, 54, 6, 44, 182, 0, 166, 21, 5, 159, 0, 5, 3, 172, 21, 5, 154, 0, 22, 45, 3, 47, 21, 6, 153, 0, 7, 10]
theorem wdL_law_1693 : LocW cL_law 1693 bdL_law_1693 := loc_of (by decide +kernel)
theorem adL_law_1693 : De bdL_law_1693 0 (.invokevirtual 233) 3 ∧ De bdL_law_1693 3 (.istore 6) 2 ∧ De bdL_law_1693 5 (.aload_n 2) 1 ∧ De bdL_law_1693 6 (.invokevirtual 166) 3 ∧ De bdL_law_1693 9 (.iload 5) 2 ∧ De bdL_law_1693 11 (.if_icmp .eq 5) 3 ∧ De bdL_law_1693 14 (.iconst 0) 1 ∧ De bdL_law_1693 15 (.ireturn) 1 ∧ De bdL_law_1693 16 (.iload 5) 2 ∧ De bdL_law_1693 18 (.ifCond .ne 22) 3 ∧ De bdL_law_1693 21 (.aload_n 3) 1 ∧ De bdL_law_1693 22 (.iconst 0) 1 ∧ De bdL_law_1693 23 (.laload) 1 ∧ De bdL_law_1693 24 (.iload 6) 2 ∧ De bdL_law_1693 26 (.ifCond .eq 7) 3 ∧ De bdL_law_1693 29 (.lconst 1) 1 := by decide +kernel
theorem dL_law_1693 : decode cL_law 1693 = .ok (.invokevirtual 233, 3) := dAt wdL_law_1693 adL_law_1693.1 rfl
theorem dL_law_1696 : decode cL_law 1696 = .ok (.istore 6, 2) := dAt wdL_law_1693 adL_law_1693.2.1 rfl
theorem dL_law_1698 : decode cL_law 1698 = .ok (.aload_n 2, 1) := dAt wdL_law_1693 adL_law_1693.2.2.1 rfl
theorem dL_law_1699 : decode cL_law 1699 = .ok (.invokevirtual 166, 3) := dAt wdL_law_1693 adL_law_1693.2.2.2.1 rfl
theorem dL_law_1702 : decode cL_law 1702 = .ok (.iload 5, 2) := dAt wdL_law_1693 adL_law_1693.2.2.2.2.1 rfl
theorem dL_law_1704 : decode cL_law 1704 = .ok (.if_icmp .eq 5, 3) := dAt wdL_law_1693 adL_law_1693.2.2.2.2.2.1 rfl
theorem dL_law_1707 : decode cL_law 1707 = .ok (.iconst 0, 1) := dAt wdL_law_1693 adL_law_1693.2.2.2.2.2.2.1 rfl
theorem dL_law_1708 : decode cL_law 1708 = .ok (.ireturn, 1) := dAt wdL_law_1693 adL_law_1693.2.2.2.2.2.2.2.1 rfl
theorem dL_law_1709 : decode cL_law 1709 = .ok (.iload 5, 2) := dAt wdL_law_1693 adL_law_1693.2.2.2.2.2.2.2.2.1 rfl
theorem dL_law_1711 : decode cL_law 1711 = .ok (.ifCond .ne 22, 3) := dAt wdL_law_1693 adL_law_1693.2.2.2.2.2.2.2.2.2.1 rfl
theorem dL_law_1714 : decode cL_law 1714 = .ok (.aload_n 3, 1) := dAt wdL_law_1693 adL_law_1693.2.2.2.2.2.2.2.2.2.2.1 rfl
theorem dL_law_1715 : decode cL_law 1715 = .ok (.iconst 0, 1) := dAt wdL_law_1693 adL_law_1693.2.2.2.2.2.2.2.2.2.2.2.1 rfl
theorem dL_law_1716 : decode cL_law 1716 = .ok (.laload, 1) := dAt wdL_law_1693 adL_law_1693.2.2.2.2.2.2.2.2.2.2.2.2.1 rfl
theorem dL_law_1717 : decode cL_law 1717 = .ok (.iload 6, 2) := dAt wdL_law_1693 adL_law_1693.2.2.2.2.2.2.2.2.2.2.2.2.2.1 rfl
theorem dL_law_1719 : decode cL_law 1719 = .ok (.ifCond .eq 7, 3) := dAt wdL_law_1693 adL_law_1693.2.2.2.2.2.2.2.2.2.2.2.2.2.2.1 rfl
theorem dL_law_1722 : decode cL_law 1722 = .ok (.lconst 1, 1) := dAt wdL_law_1693 adL_law_1693.2.2.2.2.2.2.2.2.2.2.2.2.2.2.2 rfl
def bdL_law_1723 : ByteArray := .mk #[167, 0, 4, 9, 148, 153, 0, 5, 3, 172, 167, 5, 196, 43, 42, 21, 4, 4, 96, 46, 42, 21, 4, 5]
theorem wdL_law_1723 : LocW cL_law 1723 bdL_law_1723 := loc_of (by decide +kernel)
theorem adL_law_1723 : De bdL_law_1723 0 (.goto 4) 3 ∧ De bdL_law_1723 3 (.lconst 0) 1 ∧ De bdL_law_1723 4 (.lcmp) 1 ∧ De bdL_law_1723 5 (.ifCond .eq 5) 3 ∧ De bdL_law_1723 8 (.iconst 0) 1 ∧ De bdL_law_1723 9 (.ireturn) 1 ∧ De bdL_law_1723 10 (.goto 1476) 3 ∧ De bdL_law_1723 13 (.aload_n 1) 1 ∧ De bdL_law_1723 14 (.aload_n 0) 1 ∧ De bdL_law_1723 15 (.iload 4) 2 ∧ De bdL_law_1723 17 (.iconst 1) 1 ∧ De bdL_law_1723 18 (.iadd) 1 ∧ De bdL_law_1723 19 (.iaload) 1 ∧ De bdL_law_1723 20 (.aload_n 0) 1 ∧ De bdL_law_1723 21 (.iload 4) 2 ∧ De bdL_law_1723 23 (.iconst 2) 1 := by decide +kernel
theorem dL_law_1723 : decode cL_law 1723 = .ok (.goto 4, 3) := dAt wdL_law_1723 adL_law_1723.1 rfl
theorem dL_law_1726 : decode cL_law 1726 = .ok (.lconst 0, 1) := dAt wdL_law_1723 adL_law_1723.2.1 rfl
theorem dL_law_1727 : decode cL_law 1727 = .ok (.lcmp, 1) := dAt wdL_law_1723 adL_law_1723.2.2.1 rfl
theorem dL_law_1728 : decode cL_law 1728 = .ok (.ifCond .eq 5, 3) := dAt wdL_law_1723 adL_law_1723.2.2.2.1 rfl
theorem dL_law_1731 : decode cL_law 1731 = .ok (.iconst 0, 1) := dAt wdL_law_1723 adL_law_1723.2.2.2.2.1 rfl
theorem dL_law_1732 : decode cL_law 1732 = .ok (.ireturn, 1) := dAt wdL_law_1723 adL_law_1723.2.2.2.2.2.1 rfl
theorem dL_law_1733 : decode cL_law 1733 = .ok (.goto 1476, 3) := dAt wdL_law_1723 adL_law_1723.2.2.2.2.2.2.1 rfl
theorem dL_law_1736 : decode cL_law 1736 = .ok (.aload_n 1, 1) := dAt wdL_law_1723 adL_law_1723.2.2.2.2.2.2.2.1 rfl
theorem dL_law_1737 : decode cL_law 1737 = .ok (.aload_n 0, 1) := dAt wdL_law_1723 adL_law_1723.2.2.2.2.2.2.2.2.1 rfl
theorem dL_law_1738 : decode cL_law 1738 = .ok (.iload 4, 2) := dAt wdL_law_1723 adL_law_1723.2.2.2.2.2.2.2.2.2.1 rfl
theorem dL_law_1740 : decode cL_law 1740 = .ok (.iconst 1, 1) := dAt wdL_law_1723 adL_law_1723.2.2.2.2.2.2.2.2.2.2.1 rfl
theorem dL_law_1741 : decode cL_law 1741 = .ok (.iadd, 1) := dAt wdL_law_1723 adL_law_1723.2.2.2.2.2.2.2.2.2.2.2.1 rfl
theorem dL_law_1742 : decode cL_law 1742 = .ok (.iaload, 1) := dAt wdL_law_1723 adL_law_1723.2.2.2.2.2.2.2.2.2.2.2.2.1 rfl
theorem dL_law_1743 : decode cL_law 1743 = .ok (.aload_n 0, 1) := dAt wdL_law_1723 adL_law_1723.2.2.2.2.2.2.2.2.2.2.2.2.2.1 rfl
theorem dL_law_1744 : decode cL_law 1744 = .ok (.iload 4, 2) := dAt wdL_law_1723 adL_law_1723.2.2.2.2.2.2.2.2.2.2.2.2.2.2.1 rfl
theorem dL_law_1746 : decode cL_law 1746 = .ok (.iconst 2, 1) := dAt wdL_law_1723 adL_law_1723.2.2.2.2.2.2.2.2.2.2.2.2.2.2.2 rfl
def bdL_law_1747 : ByteArray := .mk #[96, 46, 42, 21, 4, 6, 96, 46, 45, 184, 0, 234, 54, 5, 44, 42, 21, 4, 4, 96, 46]
theorem wdL_law_1747 : LocW cL_law 1747 bdL_law_1747 := loc_of (by decide +kernel)
theorem adL_law_1747 : De bdL_law_1747 0 (.iadd) 1 ∧ De bdL_law_1747 1 (.iaload) 1 ∧ De bdL_law_1747 2 (.aload_n 0) 1 ∧ De bdL_law_1747 3 (.iload 4) 2 ∧ De bdL_law_1747 5 (.iconst 3) 1 ∧ De bdL_law_1747 6 (.iadd) 1 ∧ De bdL_law_1747 7 (.iaload) 1 ∧ De bdL_law_1747 8 (.aload_n 3) 1 ∧ De bdL_law_1747 9 (.invokestatic 234) 3 ∧ De bdL_law_1747 12 (.istore 5) 2 ∧ De bdL_law_1747 14 (.aload_n 2) 1 ∧ De bdL_law_1747 15 (.aload_n 0) 1 ∧ De bdL_law_1747 16 (.iload 4) 2 ∧ De bdL_law_1747 18 (.iconst 1) 1 ∧ De bdL_law_1747 19 (.iadd) 1 ∧ De bdL_law_1747 20 (.iaload) 1 := by decide +kernel
theorem dL_law_1747 : decode cL_law 1747 = .ok (.iadd, 1) := dAt wdL_law_1747 adL_law_1747.1 rfl
theorem dL_law_1748 : decode cL_law 1748 = .ok (.iaload, 1) := dAt wdL_law_1747 adL_law_1747.2.1 rfl
theorem dL_law_1749 : decode cL_law 1749 = .ok (.aload_n 0, 1) := dAt wdL_law_1747 adL_law_1747.2.2.1 rfl
theorem dL_law_1750 : decode cL_law 1750 = .ok (.iload 4, 2) := dAt wdL_law_1747 adL_law_1747.2.2.2.1 rfl
theorem dL_law_1752 : decode cL_law 1752 = .ok (.iconst 3, 1) := dAt wdL_law_1747 adL_law_1747.2.2.2.2.1 rfl
theorem dL_law_1753 : decode cL_law 1753 = .ok (.iadd, 1) := dAt wdL_law_1747 adL_law_1747.2.2.2.2.2.1 rfl
theorem dL_law_1754 : decode cL_law 1754 = .ok (.iaload, 1) := dAt wdL_law_1747 adL_law_1747.2.2.2.2.2.2.1 rfl
theorem dL_law_1755 : decode cL_law 1755 = .ok (.aload_n 3, 1) := dAt wdL_law_1747 adL_law_1747.2.2.2.2.2.2.2.1 rfl
theorem dL_law_1756 : decode cL_law 1756 = .ok (.invokestatic 234, 3) := dAt wdL_law_1747 adL_law_1747.2.2.2.2.2.2.2.2.1 rfl
theorem dL_law_1759 : decode cL_law 1759 = .ok (.istore 5, 2) := dAt wdL_law_1747 adL_law_1747.2.2.2.2.2.2.2.2.2.1 rfl
theorem dL_law_1761 : decode cL_law 1761 = .ok (.aload_n 2, 1) := dAt wdL_law_1747 adL_law_1747.2.2.2.2.2.2.2.2.2.2.1 rfl
theorem dL_law_1762 : decode cL_law 1762 = .ok (.aload_n 0, 1) := dAt wdL_law_1747 adL_law_1747.2.2.2.2.2.2.2.2.2.2.2.1 rfl
theorem dL_law_1763 : decode cL_law 1763 = .ok (.iload 4, 2) := dAt wdL_law_1747 adL_law_1747.2.2.2.2.2.2.2.2.2.2.2.2.1 rfl
theorem dL_law_1765 : decode cL_law 1765 = .ok (.iconst 1, 1) := dAt wdL_law_1747 adL_law_1747.2.2.2.2.2.2.2.2.2.2.2.2.2.1 rfl
theorem dL_law_1766 : decode cL_law 1766 = .ok (.iadd, 1) := dAt wdL_law_1747 adL_law_1747.2.2.2.2.2.2.2.2.2.2.2.2.2.2.1 rfl
theorem dL_law_1767 : decode cL_law 1767 = .ok (.iaload, 1) := dAt wdL_law_1747 adL_law_1747.2.2.2.2.2.2.2.2.2.2.2.2.2.2.2 rfl
def bdL_law_1768 : ByteArray := .mk #[42, 21, 4, 5, 96, 46, 42, 21, 4, 6, 96, 46, 182, 0, 236, 54, 6, 44, 182, 0, 166, 21, 5, 159, 0, 5]
theorem wdL_law_1768 : LocW cL_law 1768 bdL_law_1768 := loc_of (by decide +kernel)
theorem adL_law_1768 : De bdL_law_1768 0 (.aload_n 0) 1 ∧ De bdL_law_1768 1 (.iload 4) 2 ∧ De bdL_law_1768 3 (.iconst 2) 1 ∧ De bdL_law_1768 4 (.iadd) 1 ∧ De bdL_law_1768 5 (.iaload) 1 ∧ De bdL_law_1768 6 (.aload_n 0) 1 ∧ De bdL_law_1768 7 (.iload 4) 2 ∧ De bdL_law_1768 9 (.iconst 3) 1 ∧ De bdL_law_1768 10 (.iadd) 1 ∧ De bdL_law_1768 11 (.iaload) 1 ∧ De bdL_law_1768 12 (.invokevirtual 236) 3 ∧ De bdL_law_1768 15 (.istore 6) 2 ∧ De bdL_law_1768 17 (.aload_n 2) 1 ∧ De bdL_law_1768 18 (.invokevirtual 166) 3 ∧ De bdL_law_1768 21 (.iload 5) 2 ∧ De bdL_law_1768 23 (.if_icmp .eq 5) 3 := by decide +kernel
theorem dL_law_1768 : decode cL_law 1768 = .ok (.aload_n 0, 1) := dAt wdL_law_1768 adL_law_1768.1 rfl
theorem dL_law_1769 : decode cL_law 1769 = .ok (.iload 4, 2) := dAt wdL_law_1768 adL_law_1768.2.1 rfl
theorem dL_law_1771 : decode cL_law 1771 = .ok (.iconst 2, 1) := dAt wdL_law_1768 adL_law_1768.2.2.1 rfl
theorem dL_law_1772 : decode cL_law 1772 = .ok (.iadd, 1) := dAt wdL_law_1768 adL_law_1768.2.2.2.1 rfl
theorem dL_law_1773 : decode cL_law 1773 = .ok (.iaload, 1) := dAt wdL_law_1768 adL_law_1768.2.2.2.2.1 rfl
theorem dL_law_1774 : decode cL_law 1774 = .ok (.aload_n 0, 1) := dAt wdL_law_1768 adL_law_1768.2.2.2.2.2.1 rfl
theorem dL_law_1775 : decode cL_law 1775 = .ok (.iload 4, 2) := dAt wdL_law_1768 adL_law_1768.2.2.2.2.2.2.1 rfl
theorem dL_law_1777 : decode cL_law 1777 = .ok (.iconst 3, 1) := dAt wdL_law_1768 adL_law_1768.2.2.2.2.2.2.2.1 rfl
theorem dL_law_1778 : decode cL_law 1778 = .ok (.iadd, 1) := dAt wdL_law_1768 adL_law_1768.2.2.2.2.2.2.2.2.1 rfl
theorem dL_law_1779 : decode cL_law 1779 = .ok (.iaload, 1) := dAt wdL_law_1768 adL_law_1768.2.2.2.2.2.2.2.2.2.1 rfl
theorem dL_law_1780 : decode cL_law 1780 = .ok (.invokevirtual 236, 3) := dAt wdL_law_1768 adL_law_1768.2.2.2.2.2.2.2.2.2.2.1 rfl
theorem dL_law_1783 : decode cL_law 1783 = .ok (.istore 6, 2) := dAt wdL_law_1768 adL_law_1768.2.2.2.2.2.2.2.2.2.2.2.1 rfl
theorem dL_law_1785 : decode cL_law 1785 = .ok (.aload_n 2, 1) := dAt wdL_law_1768 adL_law_1768.2.2.2.2.2.2.2.2.2.2.2.2.1 rfl
theorem dL_law_1786 : decode cL_law 1786 = .ok (.invokevirtual 166, 3) := dAt wdL_law_1768 adL_law_1768.2.2.2.2.2.2.2.2.2.2.2.2.2.1 rfl
theorem dL_law_1789 : decode cL_law 1789 = .ok (.iload 5, 2) := dAt wdL_law_1768 adL_law_1768.2.2.2.2.2.2.2.2.2.2.2.2.2.2.1 rfl
theorem dL_law_1791 : decode cL_law 1791 = .ok (.if_icmp .eq 5, 3) := dAt wdL_law_1768 adL_law_1768.2.2.2.2.2.2.2.2.2.2.2.2.2.2.2 rfl
def bdL_law_1794 : ByteArray := .mk #[3, 172, 21, 5, 154, 0, 15, 45, 3, 47, 21, 6, 133, 148, 153, 0, 5, 3, 172, 167, 5, 116, 43, 42]
theorem wdL_law_1794 : LocW cL_law 1794 bdL_law_1794 := loc_of (by decide +kernel)
theorem adL_law_1794 : De bdL_law_1794 0 (.iconst 0) 1 ∧ De bdL_law_1794 1 (.ireturn) 1 ∧ De bdL_law_1794 2 (.iload 5) 2 ∧ De bdL_law_1794 4 (.ifCond .ne 15) 3 ∧ De bdL_law_1794 7 (.aload_n 3) 1 ∧ De bdL_law_1794 8 (.iconst 0) 1 ∧ De bdL_law_1794 9 (.laload) 1 ∧ De bdL_law_1794 10 (.iload 6) 2 ∧ De bdL_law_1794 12 (.i2l) 1 ∧ De bdL_law_1794 13 (.lcmp) 1 ∧ De bdL_law_1794 14 (.ifCond .eq 5) 3 ∧ De bdL_law_1794 17 (.iconst 0) 1 ∧ De bdL_law_1794 18 (.ireturn) 1 ∧ De bdL_law_1794 19 (.goto 1396) 3 ∧ De bdL_law_1794 22 (.aload_n 1) 1 ∧ De bdL_law_1794 23 (.aload_n 0) 1 := by decide +kernel
theorem dL_law_1794 : decode cL_law 1794 = .ok (.iconst 0, 1) := dAt wdL_law_1794 adL_law_1794.1 rfl
theorem dL_law_1795 : decode cL_law 1795 = .ok (.ireturn, 1) := dAt wdL_law_1794 adL_law_1794.2.1 rfl
theorem dL_law_1796 : decode cL_law 1796 = .ok (.iload 5, 2) := dAt wdL_law_1794 adL_law_1794.2.2.1 rfl
theorem dL_law_1798 : decode cL_law 1798 = .ok (.ifCond .ne 15, 3) := dAt wdL_law_1794 adL_law_1794.2.2.2.1 rfl
theorem dL_law_1801 : decode cL_law 1801 = .ok (.aload_n 3, 1) := dAt wdL_law_1794 adL_law_1794.2.2.2.2.1 rfl
theorem dL_law_1802 : decode cL_law 1802 = .ok (.iconst 0, 1) := dAt wdL_law_1794 adL_law_1794.2.2.2.2.2.1 rfl
theorem dL_law_1803 : decode cL_law 1803 = .ok (.laload, 1) := dAt wdL_law_1794 adL_law_1794.2.2.2.2.2.2.1 rfl
theorem dL_law_1804 : decode cL_law 1804 = .ok (.iload 6, 2) := dAt wdL_law_1794 adL_law_1794.2.2.2.2.2.2.2.1 rfl
theorem dL_law_1806 : decode cL_law 1806 = .ok (.i2l, 1) := dAt wdL_law_1794 adL_law_1794.2.2.2.2.2.2.2.2.1 rfl
theorem dL_law_1807 : decode cL_law 1807 = .ok (.lcmp, 1) := dAt wdL_law_1794 adL_law_1794.2.2.2.2.2.2.2.2.2.1 rfl
theorem dL_law_1808 : decode cL_law 1808 = .ok (.ifCond .eq 5, 3) := dAt wdL_law_1794 adL_law_1794.2.2.2.2.2.2.2.2.2.2.1 rfl
theorem dL_law_1811 : decode cL_law 1811 = .ok (.iconst 0, 1) := dAt wdL_law_1794 adL_law_1794.2.2.2.2.2.2.2.2.2.2.2.1 rfl
theorem dL_law_1812 : decode cL_law 1812 = .ok (.ireturn, 1) := dAt wdL_law_1794 adL_law_1794.2.2.2.2.2.2.2.2.2.2.2.2.1 rfl
theorem dL_law_1813 : decode cL_law 1813 = .ok (.goto 1396, 3) := dAt wdL_law_1794 adL_law_1794.2.2.2.2.2.2.2.2.2.2.2.2.2.1 rfl
theorem dL_law_1816 : decode cL_law 1816 = .ok (.aload_n 1, 1) := dAt wdL_law_1794 adL_law_1794.2.2.2.2.2.2.2.2.2.2.2.2.2.2.1 rfl
theorem dL_law_1817 : decode cL_law 1817 = .ok (.aload_n 0, 1) := dAt wdL_law_1794 adL_law_1794.2.2.2.2.2.2.2.2.2.2.2.2.2.2.2 rfl
def bdL_law_1818 : ByteArray := .mk #[21, 4, 4, 96, 46, 42, 21, 4, 5, 96, 46, 42, 21, 4, 6, 96, 46, 45, 184, 0, 237]
theorem wdL_law_1818 : LocW cL_law 1818 bdL_law_1818 := loc_of (by decide +kernel)
theorem adL_law_1818 : De bdL_law_1818 0 (.iload 4) 2 ∧ De bdL_law_1818 2 (.iconst 1) 1 ∧ De bdL_law_1818 3 (.iadd) 1 ∧ De bdL_law_1818 4 (.iaload) 1 ∧ De bdL_law_1818 5 (.aload_n 0) 1 ∧ De bdL_law_1818 6 (.iload 4) 2 ∧ De bdL_law_1818 8 (.iconst 2) 1 ∧ De bdL_law_1818 9 (.iadd) 1 ∧ De bdL_law_1818 10 (.iaload) 1 ∧ De bdL_law_1818 11 (.aload_n 0) 1 ∧ De bdL_law_1818 12 (.iload 4) 2 ∧ De bdL_law_1818 14 (.iconst 3) 1 ∧ De bdL_law_1818 15 (.iadd) 1 ∧ De bdL_law_1818 16 (.iaload) 1 ∧ De bdL_law_1818 17 (.aload_n 3) 1 ∧ De bdL_law_1818 18 (.invokestatic 237) 3 := by decide +kernel
theorem dL_law_1818 : decode cL_law 1818 = .ok (.iload 4, 2) := dAt wdL_law_1818 adL_law_1818.1 rfl
theorem dL_law_1820 : decode cL_law 1820 = .ok (.iconst 1, 1) := dAt wdL_law_1818 adL_law_1818.2.1 rfl
theorem dL_law_1821 : decode cL_law 1821 = .ok (.iadd, 1) := dAt wdL_law_1818 adL_law_1818.2.2.1 rfl
theorem dL_law_1822 : decode cL_law 1822 = .ok (.iaload, 1) := dAt wdL_law_1818 adL_law_1818.2.2.2.1 rfl
theorem dL_law_1823 : decode cL_law 1823 = .ok (.aload_n 0, 1) := dAt wdL_law_1818 adL_law_1818.2.2.2.2.1 rfl
theorem dL_law_1824 : decode cL_law 1824 = .ok (.iload 4, 2) := dAt wdL_law_1818 adL_law_1818.2.2.2.2.2.1 rfl
theorem dL_law_1826 : decode cL_law 1826 = .ok (.iconst 2, 1) := dAt wdL_law_1818 adL_law_1818.2.2.2.2.2.2.1 rfl
theorem dL_law_1827 : decode cL_law 1827 = .ok (.iadd, 1) := dAt wdL_law_1818 adL_law_1818.2.2.2.2.2.2.2.1 rfl
theorem dL_law_1828 : decode cL_law 1828 = .ok (.iaload, 1) := dAt wdL_law_1818 adL_law_1818.2.2.2.2.2.2.2.2.1 rfl
theorem dL_law_1829 : decode cL_law 1829 = .ok (.aload_n 0, 1) := dAt wdL_law_1818 adL_law_1818.2.2.2.2.2.2.2.2.2.1 rfl
theorem dL_law_1830 : decode cL_law 1830 = .ok (.iload 4, 2) := dAt wdL_law_1818 adL_law_1818.2.2.2.2.2.2.2.2.2.2.1 rfl
theorem dL_law_1832 : decode cL_law 1832 = .ok (.iconst 3, 1) := dAt wdL_law_1818 adL_law_1818.2.2.2.2.2.2.2.2.2.2.2.1 rfl
theorem dL_law_1833 : decode cL_law 1833 = .ok (.iadd, 1) := dAt wdL_law_1818 adL_law_1818.2.2.2.2.2.2.2.2.2.2.2.2.1 rfl
theorem dL_law_1834 : decode cL_law 1834 = .ok (.iaload, 1) := dAt wdL_law_1818 adL_law_1818.2.2.2.2.2.2.2.2.2.2.2.2.2.1 rfl
theorem dL_law_1835 : decode cL_law 1835 = .ok (.aload_n 3, 1) := dAt wdL_law_1818 adL_law_1818.2.2.2.2.2.2.2.2.2.2.2.2.2.2.1 rfl
theorem dL_law_1836 : decode cL_law 1836 = .ok (.invokestatic 237, 3) := dAt wdL_law_1818 adL_law_1818.2.2.2.2.2.2.2.2.2.2.2.2.2.2.2 rfl
def bdL_law_1839 : ByteArray := .mk #[54, 5, 44, 42, 21, 4, 4, 96, 46, 42, 21, 4, 5, 96, 46, 42, 21, 4, 6, 96]
theorem wdL_law_1839 : LocW cL_law 1839 bdL_law_1839 := loc_of (by decide +kernel)
theorem adL_law_1839 : De bdL_law_1839 0 (.istore 5) 2 ∧ De bdL_law_1839 2 (.aload_n 2) 1 ∧ De bdL_law_1839 3 (.aload_n 0) 1 ∧ De bdL_law_1839 4 (.iload 4) 2 ∧ De bdL_law_1839 6 (.iconst 1) 1 ∧ De bdL_law_1839 7 (.iadd) 1 ∧ De bdL_law_1839 8 (.iaload) 1 ∧ De bdL_law_1839 9 (.aload_n 0) 1 ∧ De bdL_law_1839 10 (.iload 4) 2 ∧ De bdL_law_1839 12 (.iconst 2) 1 ∧ De bdL_law_1839 13 (.iadd) 1 ∧ De bdL_law_1839 14 (.iaload) 1 ∧ De bdL_law_1839 15 (.aload_n 0) 1 ∧ De bdL_law_1839 16 (.iload 4) 2 ∧ De bdL_law_1839 18 (.iconst 3) 1 ∧ De bdL_law_1839 19 (.iadd) 1 := by decide +kernel
theorem dL_law_1839 : decode cL_law 1839 = .ok (.istore 5, 2) := dAt wdL_law_1839 adL_law_1839.1 rfl
theorem dL_law_1841 : decode cL_law 1841 = .ok (.aload_n 2, 1) := dAt wdL_law_1839 adL_law_1839.2.1 rfl
theorem dL_law_1842 : decode cL_law 1842 = .ok (.aload_n 0, 1) := dAt wdL_law_1839 adL_law_1839.2.2.1 rfl
theorem dL_law_1843 : decode cL_law 1843 = .ok (.iload 4, 2) := dAt wdL_law_1839 adL_law_1839.2.2.2.1 rfl
theorem dL_law_1845 : decode cL_law 1845 = .ok (.iconst 1, 1) := dAt wdL_law_1839 adL_law_1839.2.2.2.2.1 rfl
theorem dL_law_1846 : decode cL_law 1846 = .ok (.iadd, 1) := dAt wdL_law_1839 adL_law_1839.2.2.2.2.2.1 rfl
theorem dL_law_1847 : decode cL_law 1847 = .ok (.iaload, 1) := dAt wdL_law_1839 adL_law_1839.2.2.2.2.2.2.1 rfl
theorem dL_law_1848 : decode cL_law 1848 = .ok (.aload_n 0, 1) := dAt wdL_law_1839 adL_law_1839.2.2.2.2.2.2.2.1 rfl
theorem dL_law_1849 : decode cL_law 1849 = .ok (.iload 4, 2) := dAt wdL_law_1839 adL_law_1839.2.2.2.2.2.2.2.2.1 rfl
theorem dL_law_1851 : decode cL_law 1851 = .ok (.iconst 2, 1) := dAt wdL_law_1839 adL_law_1839.2.2.2.2.2.2.2.2.2.1 rfl
theorem dL_law_1852 : decode cL_law 1852 = .ok (.iadd, 1) := dAt wdL_law_1839 adL_law_1839.2.2.2.2.2.2.2.2.2.2.1 rfl
theorem dL_law_1853 : decode cL_law 1853 = .ok (.iaload, 1) := dAt wdL_law_1839 adL_law_1839.2.2.2.2.2.2.2.2.2.2.2.1 rfl
theorem dL_law_1854 : decode cL_law 1854 = .ok (.aload_n 0, 1) := dAt wdL_law_1839 adL_law_1839.2.2.2.2.2.2.2.2.2.2.2.2.1 rfl
theorem dL_law_1855 : decode cL_law 1855 = .ok (.iload 4, 2) := dAt wdL_law_1839 adL_law_1839.2.2.2.2.2.2.2.2.2.2.2.2.2.1 rfl
theorem dL_law_1857 : decode cL_law 1857 = .ok (.iconst 3, 1) := dAt wdL_law_1839 adL_law_1839.2.2.2.2.2.2.2.2.2.2.2.2.2.2.1 rfl
theorem dL_law_1858 : decode cL_law 1858 = .ok (.iadd, 1) := dAt wdL_law_1839 adL_law_1839.2.2.2.2.2.2.2.2.2.2.2.2.2.2.2 rfl
def bdL_law_1859 : ByteArray := .mk #[46, 182, 0, 239, 54, 6, 44, 182, 0, 166, 21, 5, 159, 0, 5, 3, 172, 21, 5, 154, 0, 15, 45, 3, 47, 21, 6, 133]
theorem wdL_law_1859 : LocW cL_law 1859 bdL_law_1859 := loc_of (by decide +kernel)
theorem adL_law_1859 : De bdL_law_1859 0 (.iaload) 1 ∧ De bdL_law_1859 1 (.invokevirtual 239) 3 ∧ De bdL_law_1859 4 (.istore 6) 2 ∧ De bdL_law_1859 6 (.aload_n 2) 1 ∧ De bdL_law_1859 7 (.invokevirtual 166) 3 ∧ De bdL_law_1859 10 (.iload 5) 2 ∧ De bdL_law_1859 12 (.if_icmp .eq 5) 3 ∧ De bdL_law_1859 15 (.iconst 0) 1 ∧ De bdL_law_1859 16 (.ireturn) 1 ∧ De bdL_law_1859 17 (.iload 5) 2 ∧ De bdL_law_1859 19 (.ifCond .ne 15) 3 ∧ De bdL_law_1859 22 (.aload_n 3) 1 ∧ De bdL_law_1859 23 (.iconst 0) 1 ∧ De bdL_law_1859 24 (.laload) 1 ∧ De bdL_law_1859 25 (.iload 6) 2 ∧ De bdL_law_1859 27 (.i2l) 1 := by decide +kernel
theorem dL_law_1859 : decode cL_law 1859 = .ok (.iaload, 1) := dAt wdL_law_1859 adL_law_1859.1 rfl
theorem dL_law_1860 : decode cL_law 1860 = .ok (.invokevirtual 239, 3) := dAt wdL_law_1859 adL_law_1859.2.1 rfl
theorem dL_law_1863 : decode cL_law 1863 = .ok (.istore 6, 2) := dAt wdL_law_1859 adL_law_1859.2.2.1 rfl
theorem dL_law_1865 : decode cL_law 1865 = .ok (.aload_n 2, 1) := dAt wdL_law_1859 adL_law_1859.2.2.2.1 rfl
theorem dL_law_1866 : decode cL_law 1866 = .ok (.invokevirtual 166, 3) := dAt wdL_law_1859 adL_law_1859.2.2.2.2.1 rfl
theorem dL_law_1869 : decode cL_law 1869 = .ok (.iload 5, 2) := dAt wdL_law_1859 adL_law_1859.2.2.2.2.2.1 rfl
theorem dL_law_1871 : decode cL_law 1871 = .ok (.if_icmp .eq 5, 3) := dAt wdL_law_1859 adL_law_1859.2.2.2.2.2.2.1 rfl
theorem dL_law_1874 : decode cL_law 1874 = .ok (.iconst 0, 1) := dAt wdL_law_1859 adL_law_1859.2.2.2.2.2.2.2.1 rfl
theorem dL_law_1875 : decode cL_law 1875 = .ok (.ireturn, 1) := dAt wdL_law_1859 adL_law_1859.2.2.2.2.2.2.2.2.1 rfl
theorem dL_law_1876 : decode cL_law 1876 = .ok (.iload 5, 2) := dAt wdL_law_1859 adL_law_1859.2.2.2.2.2.2.2.2.2.1 rfl
theorem dL_law_1878 : decode cL_law 1878 = .ok (.ifCond .ne 15, 3) := dAt wdL_law_1859 adL_law_1859.2.2.2.2.2.2.2.2.2.2.1 rfl
theorem dL_law_1881 : decode cL_law 1881 = .ok (.aload_n 3, 1) := dAt wdL_law_1859 adL_law_1859.2.2.2.2.2.2.2.2.2.2.2.1 rfl
theorem dL_law_1882 : decode cL_law 1882 = .ok (.iconst 0, 1) := dAt wdL_law_1859 adL_law_1859.2.2.2.2.2.2.2.2.2.2.2.2.1 rfl
theorem dL_law_1883 : decode cL_law 1883 = .ok (.laload, 1) := dAt wdL_law_1859 adL_law_1859.2.2.2.2.2.2.2.2.2.2.2.2.2.1 rfl
theorem dL_law_1884 : decode cL_law 1884 = .ok (.iload 6, 2) := dAt wdL_law_1859 adL_law_1859.2.2.2.2.2.2.2.2.2.2.2.2.2.2.1 rfl
theorem dL_law_1886 : decode cL_law 1886 = .ok (.i2l, 1) := dAt wdL_law_1859 adL_law_1859.2.2.2.2.2.2.2.2.2.2.2.2.2.2.2 rfl
def bdL_law_1887 : ByteArray := .mk #[148, 153, 0, 5, 3, 172, 167, 5, 36, 43, 42, 21, 4, 4, 96, 46, 42, 21, 4, 5, 96, 46]
theorem wdL_law_1887 : LocW cL_law 1887 bdL_law_1887 := loc_of (by decide +kernel)
theorem adL_law_1887 : De bdL_law_1887 0 (.lcmp) 1 ∧ De bdL_law_1887 1 (.ifCond .eq 5) 3 ∧ De bdL_law_1887 4 (.iconst 0) 1 ∧ De bdL_law_1887 5 (.ireturn) 1 ∧ De bdL_law_1887 6 (.goto 1316) 3 ∧ De bdL_law_1887 9 (.aload_n 1) 1 ∧ De bdL_law_1887 10 (.aload_n 0) 1 ∧ De bdL_law_1887 11 (.iload 4) 2 ∧ De bdL_law_1887 13 (.iconst 1) 1 ∧ De bdL_law_1887 14 (.iadd) 1 ∧ De bdL_law_1887 15 (.iaload) 1 ∧ De bdL_law_1887 16 (.aload_n 0) 1 ∧ De bdL_law_1887 17 (.iload 4) 2 ∧ De bdL_law_1887 19 (.iconst 2) 1 ∧ De bdL_law_1887 20 (.iadd) 1 ∧ De bdL_law_1887 21 (.iaload) 1 := by decide +kernel
theorem dL_law_1887 : decode cL_law 1887 = .ok (.lcmp, 1) := dAt wdL_law_1887 adL_law_1887.1 rfl
theorem dL_law_1888 : decode cL_law 1888 = .ok (.ifCond .eq 5, 3) := dAt wdL_law_1887 adL_law_1887.2.1 rfl
theorem dL_law_1891 : decode cL_law 1891 = .ok (.iconst 0, 1) := dAt wdL_law_1887 adL_law_1887.2.2.1 rfl
theorem dL_law_1892 : decode cL_law 1892 = .ok (.ireturn, 1) := dAt wdL_law_1887 adL_law_1887.2.2.2.1 rfl
theorem dL_law_1893 : decode cL_law 1893 = .ok (.goto 1316, 3) := dAt wdL_law_1887 adL_law_1887.2.2.2.2.1 rfl
theorem dL_law_1896 : decode cL_law 1896 = .ok (.aload_n 1, 1) := dAt wdL_law_1887 adL_law_1887.2.2.2.2.2.1 rfl
theorem dL_law_1897 : decode cL_law 1897 = .ok (.aload_n 0, 1) := dAt wdL_law_1887 adL_law_1887.2.2.2.2.2.2.1 rfl
theorem dL_law_1898 : decode cL_law 1898 = .ok (.iload 4, 2) := dAt wdL_law_1887 adL_law_1887.2.2.2.2.2.2.2.1 rfl
theorem dL_law_1900 : decode cL_law 1900 = .ok (.iconst 1, 1) := dAt wdL_law_1887 adL_law_1887.2.2.2.2.2.2.2.2.1 rfl
theorem dL_law_1901 : decode cL_law 1901 = .ok (.iadd, 1) := dAt wdL_law_1887 adL_law_1887.2.2.2.2.2.2.2.2.2.1 rfl
theorem dL_law_1902 : decode cL_law 1902 = .ok (.iaload, 1) := dAt wdL_law_1887 adL_law_1887.2.2.2.2.2.2.2.2.2.2.1 rfl
theorem dL_law_1903 : decode cL_law 1903 = .ok (.aload_n 0, 1) := dAt wdL_law_1887 adL_law_1887.2.2.2.2.2.2.2.2.2.2.2.1 rfl
theorem dL_law_1904 : decode cL_law 1904 = .ok (.iload 4, 2) := dAt wdL_law_1887 adL_law_1887.2.2.2.2.2.2.2.2.2.2.2.2.1 rfl
theorem dL_law_1906 : decode cL_law 1906 = .ok (.iconst 2, 1) := dAt wdL_law_1887 adL_law_1887.2.2.2.2.2.2.2.2.2.2.2.2.2.1 rfl
theorem dL_law_1907 : decode cL_law 1907 = .ok (.iadd, 1) := dAt wdL_law_1887 adL_law_1887.2.2.2.2.2.2.2.2.2.2.2.2.2.2.1 rfl
theorem dL_law_1908 : decode cL_law 1908 = .ok (.iaload, 1) := dAt wdL_law_1887 adL_law_1887.2.2.2.2.2.2.2.2.2.2.2.2.2.2.2 rfl
def bdL_law_1909 : ByteArray := .mk #[42, 21, 4, 6, 96, 46, 45, 184, 0, 240, 54, 5, 44, 42, 21, 4, 4, 96, 46, 42, 21, 4]
theorem wdL_law_1909 : LocW cL_law 1909 bdL_law_1909 := loc_of (by decide +kernel)
theorem adL_law_1909 : De bdL_law_1909 0 (.aload_n 0) 1 ∧ De bdL_law_1909 1 (.iload 4) 2 ∧ De bdL_law_1909 3 (.iconst 3) 1 ∧ De bdL_law_1909 4 (.iadd) 1 ∧ De bdL_law_1909 5 (.iaload) 1 ∧ De bdL_law_1909 6 (.aload_n 3) 1 ∧ De bdL_law_1909 7 (.invokestatic 240) 3 ∧ De bdL_law_1909 10 (.istore 5) 2 ∧ De bdL_law_1909 12 (.aload_n 2) 1 ∧ De bdL_law_1909 13 (.aload_n 0) 1 ∧ De bdL_law_1909 14 (.iload 4) 2 ∧ De bdL_law_1909 16 (.iconst 1) 1 ∧ De bdL_law_1909 17 (.iadd) 1 ∧ De bdL_law_1909 18 (.iaload) 1 ∧ De bdL_law_1909 19 (.aload_n 0) 1 ∧ De bdL_law_1909 20 (.iload 4) 2 := by decide +kernel
theorem dL_law_1909 : decode cL_law 1909 = .ok (.aload_n 0, 1) := dAt wdL_law_1909 adL_law_1909.1 rfl
theorem dL_law_1910 : decode cL_law 1910 = .ok (.iload 4, 2) := dAt wdL_law_1909 adL_law_1909.2.1 rfl
theorem dL_law_1912 : decode cL_law 1912 = .ok (.iconst 3, 1) := dAt wdL_law_1909 adL_law_1909.2.2.1 rfl
theorem dL_law_1913 : decode cL_law 1913 = .ok (.iadd, 1) := dAt wdL_law_1909 adL_law_1909.2.2.2.1 rfl
theorem dL_law_1914 : decode cL_law 1914 = .ok (.iaload, 1) := dAt wdL_law_1909 adL_law_1909.2.2.2.2.1 rfl
theorem dL_law_1915 : decode cL_law 1915 = .ok (.aload_n 3, 1) := dAt wdL_law_1909 adL_law_1909.2.2.2.2.2.1 rfl
theorem dL_law_1916 : decode cL_law 1916 = .ok (.invokestatic 240, 3) := dAt wdL_law_1909 adL_law_1909.2.2.2.2.2.2.1 rfl
theorem dL_law_1919 : decode cL_law 1919 = .ok (.istore 5, 2) := dAt wdL_law_1909 adL_law_1909.2.2.2.2.2.2.2.1 rfl
theorem dL_law_1921 : decode cL_law 1921 = .ok (.aload_n 2, 1) := dAt wdL_law_1909 adL_law_1909.2.2.2.2.2.2.2.2.1 rfl
theorem dL_law_1922 : decode cL_law 1922 = .ok (.aload_n 0, 1) := dAt wdL_law_1909 adL_law_1909.2.2.2.2.2.2.2.2.2.1 rfl
theorem dL_law_1923 : decode cL_law 1923 = .ok (.iload 4, 2) := dAt wdL_law_1909 adL_law_1909.2.2.2.2.2.2.2.2.2.2.1 rfl
theorem dL_law_1925 : decode cL_law 1925 = .ok (.iconst 1, 1) := dAt wdL_law_1909 adL_law_1909.2.2.2.2.2.2.2.2.2.2.2.1 rfl
theorem dL_law_1926 : decode cL_law 1926 = .ok (.iadd, 1) := dAt wdL_law_1909 adL_law_1909.2.2.2.2.2.2.2.2.2.2.2.2.1 rfl
theorem dL_law_1927 : decode cL_law 1927 = .ok (.iaload, 1) := dAt wdL_law_1909 adL_law_1909.2.2.2.2.2.2.2.2.2.2.2.2.2.1 rfl
theorem dL_law_1928 : decode cL_law 1928 = .ok (.aload_n 0, 1) := dAt wdL_law_1909 adL_law_1909.2.2.2.2.2.2.2.2.2.2.2.2.2.2.1 rfl
theorem dL_law_1929 : decode cL_law 1929 = .ok (.iload 4, 2) := dAt wdL_law_1909 adL_law_1909.2.2.2.2.2.2.2.2.2.2.2.2.2.2.2 rfl
def bdL_law_1931 : ByteArray := .mk #[5, 96, 46, 42, 21, 4, 6, 96, 46, 182, 0, 242, 54, 6, 44, 182, 0, 166, 21, 5, 159, 0, 5, 3, 172]
theorem wdL_law_1931 : LocW cL_law 1931 bdL_law_1931 := loc_of (by decide +kernel)
theorem adL_law_1931 : De bdL_law_1931 0 (.iconst 2) 1 ∧ De bdL_law_1931 1 (.iadd) 1 ∧ De bdL_law_1931 2 (.iaload) 1 ∧ De bdL_law_1931 3 (.aload_n 0) 1 ∧ De bdL_law_1931 4 (.iload 4) 2 ∧ De bdL_law_1931 6 (.iconst 3) 1 ∧ De bdL_law_1931 7 (.iadd) 1 ∧ De bdL_law_1931 8 (.iaload) 1 ∧ De bdL_law_1931 9 (.invokevirtual 242) 3 ∧ De bdL_law_1931 12 (.istore 6) 2 ∧ De bdL_law_1931 14 (.aload_n 2) 1 ∧ De bdL_law_1931 15 (.invokevirtual 166) 3 ∧ De bdL_law_1931 18 (.iload 5) 2 ∧ De bdL_law_1931 20 (.if_icmp .eq 5) 3 ∧ De bdL_law_1931 23 (.iconst 0) 1 ∧ De bdL_law_1931 24 (.ireturn) 1 := by decide +kernel
theorem dL_law_1931 : decode cL_law 1931 = .ok (.iconst 2, 1) := dAt wdL_law_1931 adL_law_1931.1 rfl
theorem dL_law_1932 : decode cL_law 1932 = .ok (.iadd, 1) := dAt wdL_law_1931 adL_law_1931.2.1 rfl
theorem dL_law_1933 : decode cL_law 1933 = .ok (.iaload, 1) := dAt wdL_law_1931 adL_law_1931.2.2.1 rfl
theorem dL_law_1934 : decode cL_law 1934 = .ok (.aload_n 0, 1) := dAt wdL_law_1931 adL_law_1931.2.2.2.1 rfl
theorem dL_law_1935 : decode cL_law 1935 = .ok (.iload 4, 2) := dAt wdL_law_1931 adL_law_1931.2.2.2.2.1 rfl
theorem dL_law_1937 : decode cL_law 1937 = .ok (.iconst 3, 1) := dAt wdL_law_1931 adL_law_1931.2.2.2.2.2.1 rfl
theorem dL_law_1938 : decode cL_law 1938 = .ok (.iadd, 1) := dAt wdL_law_1931 adL_law_1931.2.2.2.2.2.2.1 rfl
theorem dL_law_1939 : decode cL_law 1939 = .ok (.iaload, 1) := dAt wdL_law_1931 adL_law_1931.2.2.2.2.2.2.2.1 rfl
theorem dL_law_1940 : decode cL_law 1940 = .ok (.invokevirtual 242, 3) := dAt wdL_law_1931 adL_law_1931.2.2.2.2.2.2.2.2.1 rfl
theorem dL_law_1943 : decode cL_law 1943 = .ok (.istore 6, 2) := dAt wdL_law_1931 adL_law_1931.2.2.2.2.2.2.2.2.2.1 rfl
theorem dL_law_1945 : decode cL_law 1945 = .ok (.aload_n 2, 1) := dAt wdL_law_1931 adL_law_1931.2.2.2.2.2.2.2.2.2.2.1 rfl
theorem dL_law_1946 : decode cL_law 1946 = .ok (.invokevirtual 166, 3) := dAt wdL_law_1931 adL_law_1931.2.2.2.2.2.2.2.2.2.2.2.1 rfl
theorem dL_law_1949 : decode cL_law 1949 = .ok (.iload 5, 2) := dAt wdL_law_1931 adL_law_1931.2.2.2.2.2.2.2.2.2.2.2.2.1 rfl
theorem dL_law_1951 : decode cL_law 1951 = .ok (.if_icmp .eq 5, 3) := dAt wdL_law_1931 adL_law_1931.2.2.2.2.2.2.2.2.2.2.2.2.2.1 rfl
theorem dL_law_1954 : decode cL_law 1954 = .ok (.iconst 0, 1) := dAt wdL_law_1931 adL_law_1931.2.2.2.2.2.2.2.2.2.2.2.2.2.2.1 rfl
theorem dL_law_1955 : decode cL_law 1955 = .ok (.ireturn, 1) := dAt wdL_law_1931 adL_law_1931.2.2.2.2.2.2.2.2.2.2.2.2.2.2.2 rfl
def bdL_law_1956 : ByteArray := .mk #[21, 5, 154, 0, 22, 45, 3, 47, 21, 6, 153, 0, 7, 10, 167, 0, 4, 9, 148, 153, 0, 5, 3, 172, 167, 4, 205, 43]
theorem wdL_law_1956 : LocW cL_law 1956 bdL_law_1956 := loc_of (by decide +kernel)
theorem adL_law_1956 : De bdL_law_1956 0 (.iload 5) 2 ∧ De bdL_law_1956 2 (.ifCond .ne 22) 3 ∧ De bdL_law_1956 5 (.aload_n 3) 1 ∧ De bdL_law_1956 6 (.iconst 0) 1 ∧ De bdL_law_1956 7 (.laload) 1 ∧ De bdL_law_1956 8 (.iload 6) 2 ∧ De bdL_law_1956 10 (.ifCond .eq 7) 3 ∧ De bdL_law_1956 13 (.lconst 1) 1 ∧ De bdL_law_1956 14 (.goto 4) 3 ∧ De bdL_law_1956 17 (.lconst 0) 1 ∧ De bdL_law_1956 18 (.lcmp) 1 ∧ De bdL_law_1956 19 (.ifCond .eq 5) 3 ∧ De bdL_law_1956 22 (.iconst 0) 1 ∧ De bdL_law_1956 23 (.ireturn) 1 ∧ De bdL_law_1956 24 (.goto 1229) 3 ∧ De bdL_law_1956 27 (.aload_n 1) 1 := by decide +kernel
theorem dL_law_1956 : decode cL_law 1956 = .ok (.iload 5, 2) := dAt wdL_law_1956 adL_law_1956.1 rfl
theorem dL_law_1958 : decode cL_law 1958 = .ok (.ifCond .ne 22, 3) := dAt wdL_law_1956 adL_law_1956.2.1 rfl
theorem dL_law_1961 : decode cL_law 1961 = .ok (.aload_n 3, 1) := dAt wdL_law_1956 adL_law_1956.2.2.1 rfl
theorem dL_law_1962 : decode cL_law 1962 = .ok (.iconst 0, 1) := dAt wdL_law_1956 adL_law_1956.2.2.2.1 rfl
theorem dL_law_1963 : decode cL_law 1963 = .ok (.laload, 1) := dAt wdL_law_1956 adL_law_1956.2.2.2.2.1 rfl
theorem dL_law_1964 : decode cL_law 1964 = .ok (.iload 6, 2) := dAt wdL_law_1956 adL_law_1956.2.2.2.2.2.1 rfl
theorem dL_law_1966 : decode cL_law 1966 = .ok (.ifCond .eq 7, 3) := dAt wdL_law_1956 adL_law_1956.2.2.2.2.2.2.1 rfl
theorem dL_law_1969 : decode cL_law 1969 = .ok (.lconst 1, 1) := dAt wdL_law_1956 adL_law_1956.2.2.2.2.2.2.2.1 rfl
theorem dL_law_1970 : decode cL_law 1970 = .ok (.goto 4, 3) := dAt wdL_law_1956 adL_law_1956.2.2.2.2.2.2.2.2.1 rfl
theorem dL_law_1973 : decode cL_law 1973 = .ok (.lconst 0, 1) := dAt wdL_law_1956 adL_law_1956.2.2.2.2.2.2.2.2.2.1 rfl
theorem dL_law_1974 : decode cL_law 1974 = .ok (.lcmp, 1) := dAt wdL_law_1956 adL_law_1956.2.2.2.2.2.2.2.2.2.2.1 rfl
theorem dL_law_1975 : decode cL_law 1975 = .ok (.ifCond .eq 5, 3) := dAt wdL_law_1956 adL_law_1956.2.2.2.2.2.2.2.2.2.2.2.1 rfl
theorem dL_law_1978 : decode cL_law 1978 = .ok (.iconst 0, 1) := dAt wdL_law_1956 adL_law_1956.2.2.2.2.2.2.2.2.2.2.2.2.1 rfl
theorem dL_law_1979 : decode cL_law 1979 = .ok (.ireturn, 1) := dAt wdL_law_1956 adL_law_1956.2.2.2.2.2.2.2.2.2.2.2.2.2.1 rfl
theorem dL_law_1980 : decode cL_law 1980 = .ok (.goto 1229, 3) := dAt wdL_law_1956 adL_law_1956.2.2.2.2.2.2.2.2.2.2.2.2.2.2.1 rfl
theorem dL_law_1983 : decode cL_law 1983 = .ok (.aload_n 1, 1) := dAt wdL_law_1956 adL_law_1956.2.2.2.2.2.2.2.2.2.2.2.2.2.2.2 rfl
def bdL_law_1984 : ByteArray := .mk #[42, 21, 4, 4, 96, 46, 42, 21, 4, 5, 96, 46, 45, 184, 0, 243, 54, 5, 44, 42, 21, 4]
theorem wdL_law_1984 : LocW cL_law 1984 bdL_law_1984 := loc_of (by decide +kernel)
theorem adL_law_1984 : De bdL_law_1984 0 (.aload_n 0) 1 ∧ De bdL_law_1984 1 (.iload 4) 2 ∧ De bdL_law_1984 3 (.iconst 1) 1 ∧ De bdL_law_1984 4 (.iadd) 1 ∧ De bdL_law_1984 5 (.iaload) 1 ∧ De bdL_law_1984 6 (.aload_n 0) 1 ∧ De bdL_law_1984 7 (.iload 4) 2 ∧ De bdL_law_1984 9 (.iconst 2) 1 ∧ De bdL_law_1984 10 (.iadd) 1 ∧ De bdL_law_1984 11 (.iaload) 1 ∧ De bdL_law_1984 12 (.aload_n 3) 1 ∧ De bdL_law_1984 13 (.invokestatic 243) 3 ∧ De bdL_law_1984 16 (.istore 5) 2 ∧ De bdL_law_1984 18 (.aload_n 2) 1 ∧ De bdL_law_1984 19 (.aload_n 0) 1 ∧ De bdL_law_1984 20 (.iload 4) 2 := by decide +kernel
theorem dL_law_1984 : decode cL_law 1984 = .ok (.aload_n 0, 1) := dAt wdL_law_1984 adL_law_1984.1 rfl
theorem dL_law_1985 : decode cL_law 1985 = .ok (.iload 4, 2) := dAt wdL_law_1984 adL_law_1984.2.1 rfl
theorem dL_law_1987 : decode cL_law 1987 = .ok (.iconst 1, 1) := dAt wdL_law_1984 adL_law_1984.2.2.1 rfl
theorem dL_law_1988 : decode cL_law 1988 = .ok (.iadd, 1) := dAt wdL_law_1984 adL_law_1984.2.2.2.1 rfl
theorem dL_law_1989 : decode cL_law 1989 = .ok (.iaload, 1) := dAt wdL_law_1984 adL_law_1984.2.2.2.2.1 rfl
theorem dL_law_1990 : decode cL_law 1990 = .ok (.aload_n 0, 1) := dAt wdL_law_1984 adL_law_1984.2.2.2.2.2.1 rfl
theorem dL_law_1991 : decode cL_law 1991 = .ok (.iload 4, 2) := dAt wdL_law_1984 adL_law_1984.2.2.2.2.2.2.1 rfl
theorem dL_law_1993 : decode cL_law 1993 = .ok (.iconst 2, 1) := dAt wdL_law_1984 adL_law_1984.2.2.2.2.2.2.2.1 rfl
theorem dL_law_1994 : decode cL_law 1994 = .ok (.iadd, 1) := dAt wdL_law_1984 adL_law_1984.2.2.2.2.2.2.2.2.1 rfl
theorem dL_law_1995 : decode cL_law 1995 = .ok (.iaload, 1) := dAt wdL_law_1984 adL_law_1984.2.2.2.2.2.2.2.2.2.1 rfl
theorem dL_law_1996 : decode cL_law 1996 = .ok (.aload_n 3, 1) := dAt wdL_law_1984 adL_law_1984.2.2.2.2.2.2.2.2.2.2.1 rfl
theorem dL_law_1997 : decode cL_law 1997 = .ok (.invokestatic 243, 3) := dAt wdL_law_1984 adL_law_1984.2.2.2.2.2.2.2.2.2.2.2.1 rfl
theorem dL_law_2000 : decode cL_law 2000 = .ok (.istore 5, 2) := dAt wdL_law_1984 adL_law_1984.2.2.2.2.2.2.2.2.2.2.2.2.1 rfl
theorem dL_law_2002 : decode cL_law 2002 = .ok (.aload_n 2, 1) := dAt wdL_law_1984 adL_law_1984.2.2.2.2.2.2.2.2.2.2.2.2.2.1 rfl
theorem dL_law_2003 : decode cL_law 2003 = .ok (.aload_n 0, 1) := dAt wdL_law_1984 adL_law_1984.2.2.2.2.2.2.2.2.2.2.2.2.2.2.1 rfl
theorem dL_law_2004 : decode cL_law 2004 = .ok (.iload 4, 2) := dAt wdL_law_1984 adL_law_1984.2.2.2.2.2.2.2.2.2.2.2.2.2.2.2 rfl
def bdL_law_2006 : ByteArray := .mk #[4, 96, 46, 42, 21, 4, 5, 96, 46, 182, 0, 245, 54, 6, 44, 182, 0, 166, 21, 5, 159, 0, 5, 3, 172]
theorem wdL_law_2006 : LocW cL_law 2006 bdL_law_2006 := loc_of (by decide +kernel)
theorem adL_law_2006 : De bdL_law_2006 0 (.iconst 1) 1 ∧ De bdL_law_2006 1 (.iadd) 1 ∧ De bdL_law_2006 2 (.iaload) 1 ∧ De bdL_law_2006 3 (.aload_n 0) 1 ∧ De bdL_law_2006 4 (.iload 4) 2 ∧ De bdL_law_2006 6 (.iconst 2) 1 ∧ De bdL_law_2006 7 (.iadd) 1 ∧ De bdL_law_2006 8 (.iaload) 1 ∧ De bdL_law_2006 9 (.invokevirtual 245) 3 ∧ De bdL_law_2006 12 (.istore 6) 2 ∧ De bdL_law_2006 14 (.aload_n 2) 1 ∧ De bdL_law_2006 15 (.invokevirtual 166) 3 ∧ De bdL_law_2006 18 (.iload 5) 2 ∧ De bdL_law_2006 20 (.if_icmp .eq 5) 3 ∧ De bdL_law_2006 23 (.iconst 0) 1 ∧ De bdL_law_2006 24 (.ireturn) 1 := by decide +kernel
theorem dL_law_2006 : decode cL_law 2006 = .ok (.iconst 1, 1) := dAt wdL_law_2006 adL_law_2006.1 rfl
theorem dL_law_2007 : decode cL_law 2007 = .ok (.iadd, 1) := dAt wdL_law_2006 adL_law_2006.2.1 rfl
theorem dL_law_2008 : decode cL_law 2008 = .ok (.iaload, 1) := dAt wdL_law_2006 adL_law_2006.2.2.1 rfl
theorem dL_law_2009 : decode cL_law 2009 = .ok (.aload_n 0, 1) := dAt wdL_law_2006 adL_law_2006.2.2.2.1 rfl
theorem dL_law_2010 : decode cL_law 2010 = .ok (.iload 4, 2) := dAt wdL_law_2006 adL_law_2006.2.2.2.2.1 rfl
theorem dL_law_2012 : decode cL_law 2012 = .ok (.iconst 2, 1) := dAt wdL_law_2006 adL_law_2006.2.2.2.2.2.1 rfl
theorem dL_law_2013 : decode cL_law 2013 = .ok (.iadd, 1) := dAt wdL_law_2006 adL_law_2006.2.2.2.2.2.2.1 rfl
theorem dL_law_2014 : decode cL_law 2014 = .ok (.iaload, 1) := dAt wdL_law_2006 adL_law_2006.2.2.2.2.2.2.2.1 rfl
theorem dL_law_2015 : decode cL_law 2015 = .ok (.invokevirtual 245, 3) := dAt wdL_law_2006 adL_law_2006.2.2.2.2.2.2.2.2.1 rfl
theorem dL_law_2018 : decode cL_law 2018 = .ok (.istore 6, 2) := dAt wdL_law_2006 adL_law_2006.2.2.2.2.2.2.2.2.2.1 rfl
theorem dL_law_2020 : decode cL_law 2020 = .ok (.aload_n 2, 1) := dAt wdL_law_2006 adL_law_2006.2.2.2.2.2.2.2.2.2.2.1 rfl
theorem dL_law_2021 : decode cL_law 2021 = .ok (.invokevirtual 166, 3) := dAt wdL_law_2006 adL_law_2006.2.2.2.2.2.2.2.2.2.2.2.1 rfl
theorem dL_law_2024 : decode cL_law 2024 = .ok (.iload 5, 2) := dAt wdL_law_2006 adL_law_2006.2.2.2.2.2.2.2.2.2.2.2.2.1 rfl
theorem dL_law_2026 : decode cL_law 2026 = .ok (.if_icmp .eq 5, 3) := dAt wdL_law_2006 adL_law_2006.2.2.2.2.2.2.2.2.2.2.2.2.2.1 rfl
theorem dL_law_2029 : decode cL_law 2029 = .ok (.iconst 0, 1) := dAt wdL_law_2006 adL_law_2006.2.2.2.2.2.2.2.2.2.2.2.2.2.2.1 rfl
theorem dL_law_2030 : decode cL_law 2030 = .ok (.ireturn, 1) := dAt wdL_law_2006 adL_law_2006.2.2.2.2.2.2.2.2.2.2.2.2.2.2.2 rfl
def bdL_law_2031 : ByteArray := .mk #[21, 5, 154, 0, 22, 45, 3, 47, 21, 6, 153, 0, 7, 10, 167, 0, 4, 9, 148, 153, 0, 5, 3, 172, 167, 4, 130, 43]
theorem wdL_law_2031 : LocW cL_law 2031 bdL_law_2031 := loc_of (by decide +kernel)
theorem adL_law_2031 : De bdL_law_2031 0 (.iload 5) 2 ∧ De bdL_law_2031 2 (.ifCond .ne 22) 3 ∧ De bdL_law_2031 5 (.aload_n 3) 1 ∧ De bdL_law_2031 6 (.iconst 0) 1 ∧ De bdL_law_2031 7 (.laload) 1 ∧ De bdL_law_2031 8 (.iload 6) 2 ∧ De bdL_law_2031 10 (.ifCond .eq 7) 3 ∧ De bdL_law_2031 13 (.lconst 1) 1 ∧ De bdL_law_2031 14 (.goto 4) 3 ∧ De bdL_law_2031 17 (.lconst 0) 1 ∧ De bdL_law_2031 18 (.lcmp) 1 ∧ De bdL_law_2031 19 (.ifCond .eq 5) 3 ∧ De bdL_law_2031 22 (.iconst 0) 1 ∧ De bdL_law_2031 23 (.ireturn) 1 ∧ De bdL_law_2031 24 (.goto 1154) 3 ∧ De bdL_law_2031 27 (.aload_n 1) 1 := by decide +kernel
theorem dL_law_2031 : decode cL_law 2031 = .ok (.iload 5, 2) := dAt wdL_law_2031 adL_law_2031.1 rfl
theorem dL_law_2033 : decode cL_law 2033 = .ok (.ifCond .ne 22, 3) := dAt wdL_law_2031 adL_law_2031.2.1 rfl
theorem dL_law_2036 : decode cL_law 2036 = .ok (.aload_n 3, 1) := dAt wdL_law_2031 adL_law_2031.2.2.1 rfl
theorem dL_law_2037 : decode cL_law 2037 = .ok (.iconst 0, 1) := dAt wdL_law_2031 adL_law_2031.2.2.2.1 rfl
theorem dL_law_2038 : decode cL_law 2038 = .ok (.laload, 1) := dAt wdL_law_2031 adL_law_2031.2.2.2.2.1 rfl
theorem dL_law_2039 : decode cL_law 2039 = .ok (.iload 6, 2) := dAt wdL_law_2031 adL_law_2031.2.2.2.2.2.1 rfl
theorem dL_law_2041 : decode cL_law 2041 = .ok (.ifCond .eq 7, 3) := dAt wdL_law_2031 adL_law_2031.2.2.2.2.2.2.1 rfl
theorem dL_law_2044 : decode cL_law 2044 = .ok (.lconst 1, 1) := dAt wdL_law_2031 adL_law_2031.2.2.2.2.2.2.2.1 rfl
theorem dL_law_2045 : decode cL_law 2045 = .ok (.goto 4, 3) := dAt wdL_law_2031 adL_law_2031.2.2.2.2.2.2.2.2.1 rfl
theorem dL_law_2048 : decode cL_law 2048 = .ok (.lconst 0, 1) := dAt wdL_law_2031 adL_law_2031.2.2.2.2.2.2.2.2.2.1 rfl
theorem dL_law_2049 : decode cL_law 2049 = .ok (.lcmp, 1) := dAt wdL_law_2031 adL_law_2031.2.2.2.2.2.2.2.2.2.2.1 rfl
theorem dL_law_2050 : decode cL_law 2050 = .ok (.ifCond .eq 5, 3) := dAt wdL_law_2031 adL_law_2031.2.2.2.2.2.2.2.2.2.2.2.1 rfl
theorem dL_law_2053 : decode cL_law 2053 = .ok (.iconst 0, 1) := dAt wdL_law_2031 adL_law_2031.2.2.2.2.2.2.2.2.2.2.2.2.1 rfl
theorem dL_law_2054 : decode cL_law 2054 = .ok (.ireturn, 1) := dAt wdL_law_2031 adL_law_2031.2.2.2.2.2.2.2.2.2.2.2.2.2.1 rfl
theorem dL_law_2055 : decode cL_law 2055 = .ok (.goto 1154, 3) := dAt wdL_law_2031 adL_law_2031.2.2.2.2.2.2.2.2.2.2.2.2.2.2.1 rfl
theorem dL_law_2058 : decode cL_law 2058 = .ok (.aload_n 1, 1) := dAt wdL_law_2031 adL_law_2031.2.2.2.2.2.2.2.2.2.2.2.2.2.2.2 rfl
def bdL_law_2059 : ByteArray := .mk #[42, 21, 4, 4, 96, 46, 45, 184, 0, 246, 54, 5, 44, 42, 21, 4, 4, 96, 46, 182, 0, 248, 54, 6]
theorem wdL_law_2059 : LocW cL_law 2059 bdL_law_2059 := loc_of (by decide +kernel)
theorem adL_law_2059 : De bdL_law_2059 0 (.aload_n 0) 1 ∧ De bdL_law_2059 1 (.iload 4) 2 ∧ De bdL_law_2059 3 (.iconst 1) 1 ∧ De bdL_law_2059 4 (.iadd) 1 ∧ De bdL_law_2059 5 (.iaload) 1 ∧ De bdL_law_2059 6 (.aload_n 3) 1 ∧ De bdL_law_2059 7 (.invokestatic 246) 3 ∧ De bdL_law_2059 10 (.istore 5) 2 ∧ De bdL_law_2059 12 (.aload_n 2) 1 ∧ De bdL_law_2059 13 (.aload_n 0) 1 ∧ De bdL_law_2059 14 (.iload 4) 2 ∧ De bdL_law_2059 16 (.iconst 1) 1 ∧ De bdL_law_2059 17 (.iadd) 1 ∧ De bdL_law_2059 18 (.iaload) 1 ∧ De bdL_law_2059 19 (.invokevirtual 248) 3 ∧ De bdL_law_2059 22 (.istore 6) 2 := by decide +kernel
theorem dL_law_2059 : decode cL_law 2059 = .ok (.aload_n 0, 1) := dAt wdL_law_2059 adL_law_2059.1 rfl
theorem dL_law_2060 : decode cL_law 2060 = .ok (.iload 4, 2) := dAt wdL_law_2059 adL_law_2059.2.1 rfl
theorem dL_law_2062 : decode cL_law 2062 = .ok (.iconst 1, 1) := dAt wdL_law_2059 adL_law_2059.2.2.1 rfl
theorem dL_law_2063 : decode cL_law 2063 = .ok (.iadd, 1) := dAt wdL_law_2059 adL_law_2059.2.2.2.1 rfl
theorem dL_law_2064 : decode cL_law 2064 = .ok (.iaload, 1) := dAt wdL_law_2059 adL_law_2059.2.2.2.2.1 rfl
theorem dL_law_2065 : decode cL_law 2065 = .ok (.aload_n 3, 1) := dAt wdL_law_2059 adL_law_2059.2.2.2.2.2.1 rfl
theorem dL_law_2066 : decode cL_law 2066 = .ok (.invokestatic 246, 3) := dAt wdL_law_2059 adL_law_2059.2.2.2.2.2.2.1 rfl
theorem dL_law_2069 : decode cL_law 2069 = .ok (.istore 5, 2) := dAt wdL_law_2059 adL_law_2059.2.2.2.2.2.2.2.1 rfl
theorem dL_law_2071 : decode cL_law 2071 = .ok (.aload_n 2, 1) := dAt wdL_law_2059 adL_law_2059.2.2.2.2.2.2.2.2.1 rfl
theorem dL_law_2072 : decode cL_law 2072 = .ok (.aload_n 0, 1) := dAt wdL_law_2059 adL_law_2059.2.2.2.2.2.2.2.2.2.1 rfl
theorem dL_law_2073 : decode cL_law 2073 = .ok (.iload 4, 2) := dAt wdL_law_2059 adL_law_2059.2.2.2.2.2.2.2.2.2.2.1 rfl
theorem dL_law_2075 : decode cL_law 2075 = .ok (.iconst 1, 1) := dAt wdL_law_2059 adL_law_2059.2.2.2.2.2.2.2.2.2.2.2.1 rfl
theorem dL_law_2076 : decode cL_law 2076 = .ok (.iadd, 1) := dAt wdL_law_2059 adL_law_2059.2.2.2.2.2.2.2.2.2.2.2.2.1 rfl
theorem dL_law_2077 : decode cL_law 2077 = .ok (.iaload, 1) := dAt wdL_law_2059 adL_law_2059.2.2.2.2.2.2.2.2.2.2.2.2.2.1 rfl
theorem dL_law_2078 : decode cL_law 2078 = .ok (.invokevirtual 248, 3) := dAt wdL_law_2059 adL_law_2059.2.2.2.2.2.2.2.2.2.2.2.2.2.2.1 rfl
theorem dL_law_2081 : decode cL_law 2081 = .ok (.istore 6, 2) := dAt wdL_law_2059 adL_law_2059.2.2.2.2.2.2.2.2.2.2.2.2.2.2.2 rfl
def bdL_law_2083 : ByteArray := .mk #[44, 182, 0, 166, 21, 5, 159, 0, 5, 3, 172, 21, 5, 154, 0, 15, 45, 3, 47, 21, 6, 133, 148, 153, 0, 5, 3]
theorem wdL_law_2083 : LocW cL_law 2083 bdL_law_2083 := loc_of (by decide +kernel)
theorem adL_law_2083 : De bdL_law_2083 0 (.aload_n 2) 1 ∧ De bdL_law_2083 1 (.invokevirtual 166) 3 ∧ De bdL_law_2083 4 (.iload 5) 2 ∧ De bdL_law_2083 6 (.if_icmp .eq 5) 3 ∧ De bdL_law_2083 9 (.iconst 0) 1 ∧ De bdL_law_2083 10 (.ireturn) 1 ∧ De bdL_law_2083 11 (.iload 5) 2 ∧ De bdL_law_2083 13 (.ifCond .ne 15) 3 ∧ De bdL_law_2083 16 (.aload_n 3) 1 ∧ De bdL_law_2083 17 (.iconst 0) 1 ∧ De bdL_law_2083 18 (.laload) 1 ∧ De bdL_law_2083 19 (.iload 6) 2 ∧ De bdL_law_2083 21 (.i2l) 1 ∧ De bdL_law_2083 22 (.lcmp) 1 ∧ De bdL_law_2083 23 (.ifCond .eq 5) 3 ∧ De bdL_law_2083 26 (.iconst 0) 1 := by decide +kernel
theorem dL_law_2083 : decode cL_law 2083 = .ok (.aload_n 2, 1) := dAt wdL_law_2083 adL_law_2083.1 rfl
theorem dL_law_2084 : decode cL_law 2084 = .ok (.invokevirtual 166, 3) := dAt wdL_law_2083 adL_law_2083.2.1 rfl
theorem dL_law_2087 : decode cL_law 2087 = .ok (.iload 5, 2) := dAt wdL_law_2083 adL_law_2083.2.2.1 rfl
theorem dL_law_2089 : decode cL_law 2089 = .ok (.if_icmp .eq 5, 3) := dAt wdL_law_2083 adL_law_2083.2.2.2.1 rfl
theorem dL_law_2092 : decode cL_law 2092 = .ok (.iconst 0, 1) := dAt wdL_law_2083 adL_law_2083.2.2.2.2.1 rfl
theorem dL_law_2093 : decode cL_law 2093 = .ok (.ireturn, 1) := dAt wdL_law_2083 adL_law_2083.2.2.2.2.2.1 rfl
theorem dL_law_2094 : decode cL_law 2094 = .ok (.iload 5, 2) := dAt wdL_law_2083 adL_law_2083.2.2.2.2.2.2.1 rfl
theorem dL_law_2096 : decode cL_law 2096 = .ok (.ifCond .ne 15, 3) := dAt wdL_law_2083 adL_law_2083.2.2.2.2.2.2.2.1 rfl
theorem dL_law_2099 : decode cL_law 2099 = .ok (.aload_n 3, 1) := dAt wdL_law_2083 adL_law_2083.2.2.2.2.2.2.2.2.1 rfl
theorem dL_law_2100 : decode cL_law 2100 = .ok (.iconst 0, 1) := dAt wdL_law_2083 adL_law_2083.2.2.2.2.2.2.2.2.2.1 rfl
theorem dL_law_2101 : decode cL_law 2101 = .ok (.laload, 1) := dAt wdL_law_2083 adL_law_2083.2.2.2.2.2.2.2.2.2.2.1 rfl
theorem dL_law_2102 : decode cL_law 2102 = .ok (.iload 6, 2) := dAt wdL_law_2083 adL_law_2083.2.2.2.2.2.2.2.2.2.2.2.1 rfl
theorem dL_law_2104 : decode cL_law 2104 = .ok (.i2l, 1) := dAt wdL_law_2083 adL_law_2083.2.2.2.2.2.2.2.2.2.2.2.2.1 rfl
theorem dL_law_2105 : decode cL_law 2105 = .ok (.lcmp, 1) := dAt wdL_law_2083 adL_law_2083.2.2.2.2.2.2.2.2.2.2.2.2.2.1 rfl
theorem dL_law_2106 : decode cL_law 2106 = .ok (.ifCond .eq 5, 3) := dAt wdL_law_2083 adL_law_2083.2.2.2.2.2.2.2.2.2.2.2.2.2.2.1 rfl
theorem dL_law_2109 : decode cL_law 2109 = .ok (.iconst 0, 1) := dAt wdL_law_2083 adL_law_2083.2.2.2.2.2.2.2.2.2.2.2.2.2.2.2 rfl
def bdL_law_2110 : ByteArray := .mk #[172, 167, 4, 74, 43, 42, 21, 4, 4, 96, 46, 42, 21, 4, 5, 96, 46, 42, 21, 4, 6]
theorem wdL_law_2110 : LocW cL_law 2110 bdL_law_2110 := loc_of (by decide +kernel)
theorem adL_law_2110 : De bdL_law_2110 0 (.ireturn) 1 ∧ De bdL_law_2110 1 (.goto 1098) 3 ∧ De bdL_law_2110 4 (.aload_n 1) 1 ∧ De bdL_law_2110 5 (.aload_n 0) 1 ∧ De bdL_law_2110 6 (.iload 4) 2 ∧ De bdL_law_2110 8 (.iconst 1) 1 ∧ De bdL_law_2110 9 (.iadd) 1 ∧ De bdL_law_2110 10 (.iaload) 1 ∧ De bdL_law_2110 11 (.aload_n 0) 1 ∧ De bdL_law_2110 12 (.iload 4) 2 ∧ De bdL_law_2110 14 (.iconst 2) 1 ∧ De bdL_law_2110 15 (.iadd) 1 ∧ De bdL_law_2110 16 (.iaload) 1 ∧ De bdL_law_2110 17 (.aload_n 0) 1 ∧ De bdL_law_2110 18 (.iload 4) 2 ∧ De bdL_law_2110 20 (.iconst 3) 1 := by decide +kernel
theorem dL_law_2110 : decode cL_law 2110 = .ok (.ireturn, 1) := dAt wdL_law_2110 adL_law_2110.1 rfl
theorem dL_law_2111 : decode cL_law 2111 = .ok (.goto 1098, 3) := dAt wdL_law_2110 adL_law_2110.2.1 rfl
theorem dL_law_2114 : decode cL_law 2114 = .ok (.aload_n 1, 1) := dAt wdL_law_2110 adL_law_2110.2.2.1 rfl
theorem dL_law_2115 : decode cL_law 2115 = .ok (.aload_n 0, 1) := dAt wdL_law_2110 adL_law_2110.2.2.2.1 rfl
theorem dL_law_2116 : decode cL_law 2116 = .ok (.iload 4, 2) := dAt wdL_law_2110 adL_law_2110.2.2.2.2.1 rfl
theorem dL_law_2118 : decode cL_law 2118 = .ok (.iconst 1, 1) := dAt wdL_law_2110 adL_law_2110.2.2.2.2.2.1 rfl
theorem dL_law_2119 : decode cL_law 2119 = .ok (.iadd, 1) := dAt wdL_law_2110 adL_law_2110.2.2.2.2.2.2.1 rfl
theorem dL_law_2120 : decode cL_law 2120 = .ok (.iaload, 1) := dAt wdL_law_2110 adL_law_2110.2.2.2.2.2.2.2.1 rfl
theorem dL_law_2121 : decode cL_law 2121 = .ok (.aload_n 0, 1) := dAt wdL_law_2110 adL_law_2110.2.2.2.2.2.2.2.2.1 rfl
theorem dL_law_2122 : decode cL_law 2122 = .ok (.iload 4, 2) := dAt wdL_law_2110 adL_law_2110.2.2.2.2.2.2.2.2.2.1 rfl
theorem dL_law_2124 : decode cL_law 2124 = .ok (.iconst 2, 1) := dAt wdL_law_2110 adL_law_2110.2.2.2.2.2.2.2.2.2.2.1 rfl
theorem dL_law_2125 : decode cL_law 2125 = .ok (.iadd, 1) := dAt wdL_law_2110 adL_law_2110.2.2.2.2.2.2.2.2.2.2.2.1 rfl
theorem dL_law_2126 : decode cL_law 2126 = .ok (.iaload, 1) := dAt wdL_law_2110 adL_law_2110.2.2.2.2.2.2.2.2.2.2.2.2.1 rfl
theorem dL_law_2127 : decode cL_law 2127 = .ok (.aload_n 0, 1) := dAt wdL_law_2110 adL_law_2110.2.2.2.2.2.2.2.2.2.2.2.2.2.1 rfl
theorem dL_law_2128 : decode cL_law 2128 = .ok (.iload 4, 2) := dAt wdL_law_2110 adL_law_2110.2.2.2.2.2.2.2.2.2.2.2.2.2.2.1 rfl
theorem dL_law_2130 : decode cL_law 2130 = .ok (.iconst 3, 1) := dAt wdL_law_2110 adL_law_2110.2.2.2.2.2.2.2.2.2.2.2.2.2.2.2 rfl
def bdL_law_2131 : ByteArray := .mk #[96, 46, 45, 184, 0, 249, 54, 5, 44, 42, 21, 4, 4, 96, 46, 42, 21, 4, 5, 96, 46]
theorem wdL_law_2131 : LocW cL_law 2131 bdL_law_2131 := loc_of (by decide +kernel)
theorem adL_law_2131 : De bdL_law_2131 0 (.iadd) 1 ∧ De bdL_law_2131 1 (.iaload) 1 ∧ De bdL_law_2131 2 (.aload_n 3) 1 ∧ De bdL_law_2131 3 (.invokestatic 249) 3 ∧ De bdL_law_2131 6 (.istore 5) 2 ∧ De bdL_law_2131 8 (.aload_n 2) 1 ∧ De bdL_law_2131 9 (.aload_n 0) 1 ∧ De bdL_law_2131 10 (.iload 4) 2 ∧ De bdL_law_2131 12 (.iconst 1) 1 ∧ De bdL_law_2131 13 (.iadd) 1 ∧ De bdL_law_2131 14 (.iaload) 1 ∧ De bdL_law_2131 15 (.aload_n 0) 1 ∧ De bdL_law_2131 16 (.iload 4) 2 ∧ De bdL_law_2131 18 (.iconst 2) 1 ∧ De bdL_law_2131 19 (.iadd) 1 ∧ De bdL_law_2131 20 (.iaload) 1 := by decide +kernel
theorem dL_law_2131 : decode cL_law 2131 = .ok (.iadd, 1) := dAt wdL_law_2131 adL_law_2131.1 rfl
theorem dL_law_2132 : decode cL_law 2132 = .ok (.iaload, 1) := dAt wdL_law_2131 adL_law_2131.2.1 rfl
theorem dL_law_2133 : decode cL_law 2133 = .ok (.aload_n 3, 1) := dAt wdL_law_2131 adL_law_2131.2.2.1 rfl
theorem dL_law_2134 : decode cL_law 2134 = .ok (.invokestatic 249, 3) := dAt wdL_law_2131 adL_law_2131.2.2.2.1 rfl
theorem dL_law_2137 : decode cL_law 2137 = .ok (.istore 5, 2) := dAt wdL_law_2131 adL_law_2131.2.2.2.2.1 rfl
theorem dL_law_2139 : decode cL_law 2139 = .ok (.aload_n 2, 1) := dAt wdL_law_2131 adL_law_2131.2.2.2.2.2.1 rfl
theorem dL_law_2140 : decode cL_law 2140 = .ok (.aload_n 0, 1) := dAt wdL_law_2131 adL_law_2131.2.2.2.2.2.2.1 rfl
theorem dL_law_2141 : decode cL_law 2141 = .ok (.iload 4, 2) := dAt wdL_law_2131 adL_law_2131.2.2.2.2.2.2.2.1 rfl
theorem dL_law_2143 : decode cL_law 2143 = .ok (.iconst 1, 1) := dAt wdL_law_2131 adL_law_2131.2.2.2.2.2.2.2.2.1 rfl
theorem dL_law_2144 : decode cL_law 2144 = .ok (.iadd, 1) := dAt wdL_law_2131 adL_law_2131.2.2.2.2.2.2.2.2.2.1 rfl
theorem dL_law_2145 : decode cL_law 2145 = .ok (.iaload, 1) := dAt wdL_law_2131 adL_law_2131.2.2.2.2.2.2.2.2.2.2.1 rfl
theorem dL_law_2146 : decode cL_law 2146 = .ok (.aload_n 0, 1) := dAt wdL_law_2131 adL_law_2131.2.2.2.2.2.2.2.2.2.2.2.1 rfl
theorem dL_law_2147 : decode cL_law 2147 = .ok (.iload 4, 2) := dAt wdL_law_2131 adL_law_2131.2.2.2.2.2.2.2.2.2.2.2.2.1 rfl
theorem dL_law_2149 : decode cL_law 2149 = .ok (.iconst 2, 1) := dAt wdL_law_2131 adL_law_2131.2.2.2.2.2.2.2.2.2.2.2.2.2.1 rfl
theorem dL_law_2150 : decode cL_law 2150 = .ok (.iadd, 1) := dAt wdL_law_2131 adL_law_2131.2.2.2.2.2.2.2.2.2.2.2.2.2.2.1 rfl
theorem dL_law_2151 : decode cL_law 2151 = .ok (.iaload, 1) := dAt wdL_law_2131 adL_law_2131.2.2.2.2.2.2.2.2.2.2.2.2.2.2.2 rfl
def bdL_law_2152 : ByteArray := .mk #[42, 21, 4, 6, 96, 46, 182, 0, 251, 54, 6, 44, 182, 0, 166, 21, 5, 159, 0, 5, 3, 172, 21, 5, 154, 0, 15, 45]
theorem wdL_law_2152 : LocW cL_law 2152 bdL_law_2152 := loc_of (by decide +kernel)
theorem adL_law_2152 : De bdL_law_2152 0 (.aload_n 0) 1 ∧ De bdL_law_2152 1 (.iload 4) 2 ∧ De bdL_law_2152 3 (.iconst 3) 1 ∧ De bdL_law_2152 4 (.iadd) 1 ∧ De bdL_law_2152 5 (.iaload) 1 ∧ De bdL_law_2152 6 (.invokevirtual 251) 3 ∧ De bdL_law_2152 9 (.istore 6) 2 ∧ De bdL_law_2152 11 (.aload_n 2) 1 ∧ De bdL_law_2152 12 (.invokevirtual 166) 3 ∧ De bdL_law_2152 15 (.iload 5) 2 ∧ De bdL_law_2152 17 (.if_icmp .eq 5) 3 ∧ De bdL_law_2152 20 (.iconst 0) 1 ∧ De bdL_law_2152 21 (.ireturn) 1 ∧ De bdL_law_2152 22 (.iload 5) 2 ∧ De bdL_law_2152 24 (.ifCond .ne 15) 3 ∧ De bdL_law_2152 27 (.aload_n 3) 1 := by decide +kernel
theorem dL_law_2152 : decode cL_law 2152 = .ok (.aload_n 0, 1) := dAt wdL_law_2152 adL_law_2152.1 rfl
theorem dL_law_2153 : decode cL_law 2153 = .ok (.iload 4, 2) := dAt wdL_law_2152 adL_law_2152.2.1 rfl
theorem dL_law_2155 : decode cL_law 2155 = .ok (.iconst 3, 1) := dAt wdL_law_2152 adL_law_2152.2.2.1 rfl
theorem dL_law_2156 : decode cL_law 2156 = .ok (.iadd, 1) := dAt wdL_law_2152 adL_law_2152.2.2.2.1 rfl
theorem dL_law_2157 : decode cL_law 2157 = .ok (.iaload, 1) := dAt wdL_law_2152 adL_law_2152.2.2.2.2.1 rfl
theorem dL_law_2158 : decode cL_law 2158 = .ok (.invokevirtual 251, 3) := dAt wdL_law_2152 adL_law_2152.2.2.2.2.2.1 rfl
theorem dL_law_2161 : decode cL_law 2161 = .ok (.istore 6, 2) := dAt wdL_law_2152 adL_law_2152.2.2.2.2.2.2.1 rfl
theorem dL_law_2163 : decode cL_law 2163 = .ok (.aload_n 2, 1) := dAt wdL_law_2152 adL_law_2152.2.2.2.2.2.2.2.1 rfl
theorem dL_law_2164 : decode cL_law 2164 = .ok (.invokevirtual 166, 3) := dAt wdL_law_2152 adL_law_2152.2.2.2.2.2.2.2.2.1 rfl
theorem dL_law_2167 : decode cL_law 2167 = .ok (.iload 5, 2) := dAt wdL_law_2152 adL_law_2152.2.2.2.2.2.2.2.2.2.1 rfl
theorem dL_law_2169 : decode cL_law 2169 = .ok (.if_icmp .eq 5, 3) := dAt wdL_law_2152 adL_law_2152.2.2.2.2.2.2.2.2.2.2.1 rfl
theorem dL_law_2172 : decode cL_law 2172 = .ok (.iconst 0, 1) := dAt wdL_law_2152 adL_law_2152.2.2.2.2.2.2.2.2.2.2.2.1 rfl
theorem dL_law_2173 : decode cL_law 2173 = .ok (.ireturn, 1) := dAt wdL_law_2152 adL_law_2152.2.2.2.2.2.2.2.2.2.2.2.2.1 rfl
theorem dL_law_2174 : decode cL_law 2174 = .ok (.iload 5, 2) := dAt wdL_law_2152 adL_law_2152.2.2.2.2.2.2.2.2.2.2.2.2.2.1 rfl
theorem dL_law_2176 : decode cL_law 2176 = .ok (.ifCond .ne 15, 3) := dAt wdL_law_2152 adL_law_2152.2.2.2.2.2.2.2.2.2.2.2.2.2.2.1 rfl
theorem dL_law_2179 : decode cL_law 2179 = .ok (.aload_n 3, 1) := dAt wdL_law_2152 adL_law_2152.2.2.2.2.2.2.2.2.2.2.2.2.2.2.2 rfl
def bdL_law_2180 : ByteArray := .mk #[3, 47, 21, 6, 133, 148, 153, 0, 5, 3, 172, 167, 3, 250, 43, 42, 21, 4, 4, 96, 46, 42]
theorem wdL_law_2180 : LocW cL_law 2180 bdL_law_2180 := loc_of (by decide +kernel)
theorem adL_law_2180 : De bdL_law_2180 0 (.iconst 0) 1 ∧ De bdL_law_2180 1 (.laload) 1 ∧ De bdL_law_2180 2 (.iload 6) 2 ∧ De bdL_law_2180 4 (.i2l) 1 ∧ De bdL_law_2180 5 (.lcmp) 1 ∧ De bdL_law_2180 6 (.ifCond .eq 5) 3 ∧ De bdL_law_2180 9 (.iconst 0) 1 ∧ De bdL_law_2180 10 (.ireturn) 1 ∧ De bdL_law_2180 11 (.goto 1018) 3 ∧ De bdL_law_2180 14 (.aload_n 1) 1 ∧ De bdL_law_2180 15 (.aload_n 0) 1 ∧ De bdL_law_2180 16 (.iload 4) 2 ∧ De bdL_law_2180 18 (.iconst 1) 1 ∧ De bdL_law_2180 19 (.iadd) 1 ∧ De bdL_law_2180 20 (.iaload) 1 ∧ De bdL_law_2180 21 (.aload_n 0) 1 := by decide +kernel
theorem dL_law_2180 : decode cL_law 2180 = .ok (.iconst 0, 1) := dAt wdL_law_2180 adL_law_2180.1 rfl
theorem dL_law_2181 : decode cL_law 2181 = .ok (.laload, 1) := dAt wdL_law_2180 adL_law_2180.2.1 rfl
theorem dL_law_2182 : decode cL_law 2182 = .ok (.iload 6, 2) := dAt wdL_law_2180 adL_law_2180.2.2.1 rfl
theorem dL_law_2184 : decode cL_law 2184 = .ok (.i2l, 1) := dAt wdL_law_2180 adL_law_2180.2.2.2.1 rfl
theorem dL_law_2185 : decode cL_law 2185 = .ok (.lcmp, 1) := dAt wdL_law_2180 adL_law_2180.2.2.2.2.1 rfl
theorem dL_law_2186 : decode cL_law 2186 = .ok (.ifCond .eq 5, 3) := dAt wdL_law_2180 adL_law_2180.2.2.2.2.2.1 rfl
theorem dL_law_2189 : decode cL_law 2189 = .ok (.iconst 0, 1) := dAt wdL_law_2180 adL_law_2180.2.2.2.2.2.2.1 rfl
theorem dL_law_2190 : decode cL_law 2190 = .ok (.ireturn, 1) := dAt wdL_law_2180 adL_law_2180.2.2.2.2.2.2.2.1 rfl
theorem dL_law_2191 : decode cL_law 2191 = .ok (.goto 1018, 3) := dAt wdL_law_2180 adL_law_2180.2.2.2.2.2.2.2.2.1 rfl
theorem dL_law_2194 : decode cL_law 2194 = .ok (.aload_n 1, 1) := dAt wdL_law_2180 adL_law_2180.2.2.2.2.2.2.2.2.2.1 rfl
theorem dL_law_2195 : decode cL_law 2195 = .ok (.aload_n 0, 1) := dAt wdL_law_2180 adL_law_2180.2.2.2.2.2.2.2.2.2.2.1 rfl
theorem dL_law_2196 : decode cL_law 2196 = .ok (.iload 4, 2) := dAt wdL_law_2180 adL_law_2180.2.2.2.2.2.2.2.2.2.2.2.1 rfl
theorem dL_law_2198 : decode cL_law 2198 = .ok (.iconst 1, 1) := dAt wdL_law_2180 adL_law_2180.2.2.2.2.2.2.2.2.2.2.2.2.1 rfl
theorem dL_law_2199 : decode cL_law 2199 = .ok (.iadd, 1) := dAt wdL_law_2180 adL_law_2180.2.2.2.2.2.2.2.2.2.2.2.2.2.1 rfl
theorem dL_law_2200 : decode cL_law 2200 = .ok (.iaload, 1) := dAt wdL_law_2180 adL_law_2180.2.2.2.2.2.2.2.2.2.2.2.2.2.2.1 rfl
theorem dL_law_2201 : decode cL_law 2201 = .ok (.aload_n 0, 1) := dAt wdL_law_2180 adL_law_2180.2.2.2.2.2.2.2.2.2.2.2.2.2.2.2 rfl
def bdL_law_2202 : ByteArray := .mk #[21, 4, 5, 96, 46, 42, 21, 4, 6, 96, 46, 45, 184, 0, 252, 54, 5, 44, 42, 21, 4, 4]
theorem wdL_law_2202 : LocW cL_law 2202 bdL_law_2202 := loc_of (by decide +kernel)
theorem adL_law_2202 : De bdL_law_2202 0 (.iload 4) 2 ∧ De bdL_law_2202 2 (.iconst 2) 1 ∧ De bdL_law_2202 3 (.iadd) 1 ∧ De bdL_law_2202 4 (.iaload) 1 ∧ De bdL_law_2202 5 (.aload_n 0) 1 ∧ De bdL_law_2202 6 (.iload 4) 2 ∧ De bdL_law_2202 8 (.iconst 3) 1 ∧ De bdL_law_2202 9 (.iadd) 1 ∧ De bdL_law_2202 10 (.iaload) 1 ∧ De bdL_law_2202 11 (.aload_n 3) 1 ∧ De bdL_law_2202 12 (.invokestatic 252) 3 ∧ De bdL_law_2202 15 (.istore 5) 2 ∧ De bdL_law_2202 17 (.aload_n 2) 1 ∧ De bdL_law_2202 18 (.aload_n 0) 1 ∧ De bdL_law_2202 19 (.iload 4) 2 ∧ De bdL_law_2202 21 (.iconst 1) 1 := by decide +kernel
theorem dL_law_2202 : decode cL_law 2202 = .ok (.iload 4, 2) := dAt wdL_law_2202 adL_law_2202.1 rfl
theorem dL_law_2204 : decode cL_law 2204 = .ok (.iconst 2, 1) := dAt wdL_law_2202 adL_law_2202.2.1 rfl
theorem dL_law_2205 : decode cL_law 2205 = .ok (.iadd, 1) := dAt wdL_law_2202 adL_law_2202.2.2.1 rfl
theorem dL_law_2206 : decode cL_law 2206 = .ok (.iaload, 1) := dAt wdL_law_2202 adL_law_2202.2.2.2.1 rfl
theorem dL_law_2207 : decode cL_law 2207 = .ok (.aload_n 0, 1) := dAt wdL_law_2202 adL_law_2202.2.2.2.2.1 rfl
theorem dL_law_2208 : decode cL_law 2208 = .ok (.iload 4, 2) := dAt wdL_law_2202 adL_law_2202.2.2.2.2.2.1 rfl
theorem dL_law_2210 : decode cL_law 2210 = .ok (.iconst 3, 1) := dAt wdL_law_2202 adL_law_2202.2.2.2.2.2.2.1 rfl
theorem dL_law_2211 : decode cL_law 2211 = .ok (.iadd, 1) := dAt wdL_law_2202 adL_law_2202.2.2.2.2.2.2.2.1 rfl
theorem dL_law_2212 : decode cL_law 2212 = .ok (.iaload, 1) := dAt wdL_law_2202 adL_law_2202.2.2.2.2.2.2.2.2.1 rfl
theorem dL_law_2213 : decode cL_law 2213 = .ok (.aload_n 3, 1) := dAt wdL_law_2202 adL_law_2202.2.2.2.2.2.2.2.2.2.1 rfl
theorem dL_law_2214 : decode cL_law 2214 = .ok (.invokestatic 252, 3) := dAt wdL_law_2202 adL_law_2202.2.2.2.2.2.2.2.2.2.2.1 rfl
theorem dL_law_2217 : decode cL_law 2217 = .ok (.istore 5, 2) := dAt wdL_law_2202 adL_law_2202.2.2.2.2.2.2.2.2.2.2.2.1 rfl
theorem dL_law_2219 : decode cL_law 2219 = .ok (.aload_n 2, 1) := dAt wdL_law_2202 adL_law_2202.2.2.2.2.2.2.2.2.2.2.2.2.1 rfl
theorem dL_law_2220 : decode cL_law 2220 = .ok (.aload_n 0, 1) := dAt wdL_law_2202 adL_law_2202.2.2.2.2.2.2.2.2.2.2.2.2.2.1 rfl
theorem dL_law_2221 : decode cL_law 2221 = .ok (.iload 4, 2) := dAt wdL_law_2202 adL_law_2202.2.2.2.2.2.2.2.2.2.2.2.2.2.2.1 rfl
theorem dL_law_2223 : decode cL_law 2223 = .ok (.iconst 1, 1) := dAt wdL_law_2202 adL_law_2202.2.2.2.2.2.2.2.2.2.2.2.2.2.2.2 rfl
def bdL_law_2224 : ByteArray := .mk #[96, 46, 42, 21, 4, 5, 96, 46, 42, 21, 4, 6, 96, 46, 182, 0, 254, 54, 6, 44, 182, 0, 166]
theorem wdL_law_2224 : LocW cL_law 2224 bdL_law_2224 := loc_of (by decide +kernel)
theorem adL_law_2224 : De bdL_law_2224 0 (.iadd) 1 ∧ De bdL_law_2224 1 (.iaload) 1 ∧ De bdL_law_2224 2 (.aload_n 0) 1 ∧ De bdL_law_2224 3 (.iload 4) 2 ∧ De bdL_law_2224 5 (.iconst 2) 1 ∧ De bdL_law_2224 6 (.iadd) 1 ∧ De bdL_law_2224 7 (.iaload) 1 ∧ De bdL_law_2224 8 (.aload_n 0) 1 ∧ De bdL_law_2224 9 (.iload 4) 2 ∧ De bdL_law_2224 11 (.iconst 3) 1 ∧ De bdL_law_2224 12 (.iadd) 1 ∧ De bdL_law_2224 13 (.iaload) 1 ∧ De bdL_law_2224 14 (.invokevirtual 254) 3 ∧ De bdL_law_2224 17 (.istore 6) 2 ∧ De bdL_law_2224 19 (.aload_n 2) 1 ∧ De bdL_law_2224 20 (.invokevirtual 166) 3 := by decide +kernel
theorem dL_law_2224 : decode cL_law 2224 = .ok (.iadd, 1) := dAt wdL_law_2224 adL_law_2224.1 rfl
theorem dL_law_2225 : decode cL_law 2225 = .ok (.iaload, 1) := dAt wdL_law_2224 adL_law_2224.2.1 rfl
theorem dL_law_2226 : decode cL_law 2226 = .ok (.aload_n 0, 1) := dAt wdL_law_2224 adL_law_2224.2.2.1 rfl
theorem dL_law_2227 : decode cL_law 2227 = .ok (.iload 4, 2) := dAt wdL_law_2224 adL_law_2224.2.2.2.1 rfl
theorem dL_law_2229 : decode cL_law 2229 = .ok (.iconst 2, 1) := dAt wdL_law_2224 adL_law_2224.2.2.2.2.1 rfl
theorem dL_law_2230 : decode cL_law 2230 = .ok (.iadd, 1) := dAt wdL_law_2224 adL_law_2224.2.2.2.2.2.1 rfl
theorem dL_law_2231 : decode cL_law 2231 = .ok (.iaload, 1) := dAt wdL_law_2224 adL_law_2224.2.2.2.2.2.2.1 rfl
theorem dL_law_2232 : decode cL_law 2232 = .ok (.aload_n 0, 1) := dAt wdL_law_2224 adL_law_2224.2.2.2.2.2.2.2.1 rfl
theorem dL_law_2233 : decode cL_law 2233 = .ok (.iload 4, 2) := dAt wdL_law_2224 adL_law_2224.2.2.2.2.2.2.2.2.1 rfl
theorem dL_law_2235 : decode cL_law 2235 = .ok (.iconst 3, 1) := dAt wdL_law_2224 adL_law_2224.2.2.2.2.2.2.2.2.2.1 rfl
theorem dL_law_2236 : decode cL_law 2236 = .ok (.iadd, 1) := dAt wdL_law_2224 adL_law_2224.2.2.2.2.2.2.2.2.2.2.1 rfl
theorem dL_law_2237 : decode cL_law 2237 = .ok (.iaload, 1) := dAt wdL_law_2224 adL_law_2224.2.2.2.2.2.2.2.2.2.2.2.1 rfl
theorem dL_law_2238 : decode cL_law 2238 = .ok (.invokevirtual 254, 3) := dAt wdL_law_2224 adL_law_2224.2.2.2.2.2.2.2.2.2.2.2.2.1 rfl
theorem dL_law_2241 : decode cL_law 2241 = .ok (.istore 6, 2) := dAt wdL_law_2224 adL_law_2224.2.2.2.2.2.2.2.2.2.2.2.2.2.1 rfl
theorem dL_law_2243 : decode cL_law 2243 = .ok (.aload_n 2, 1) := dAt wdL_law_2224 adL_law_2224.2.2.2.2.2.2.2.2.2.2.2.2.2.2.1 rfl
theorem dL_law_2244 : decode cL_law 2244 = .ok (.invokevirtual 166, 3) := dAt wdL_law_2224 adL_law_2224.2.2.2.2.2.2.2.2.2.2.2.2.2.2.2 rfl
def bdL_law_2247 : ByteArray := .mk #[21, 5, 159, 0, 5, 3, 172, 21, 5, 154, 0, 15, 45, 3, 47, 21, 6, 133, 148, 153, 0, 5, 3, 172, 167, 3, 170]
theorem wdL_law_2247 : LocW cL_law 2247 bdL_law_2247 := loc_of (by decide +kernel)
theorem adL_law_2247 : De bdL_law_2247 0 (.iload 5) 2 ∧ De bdL_law_2247 2 (.if_icmp .eq 5) 3 ∧ De bdL_law_2247 5 (.iconst 0) 1 ∧ De bdL_law_2247 6 (.ireturn) 1 ∧ De bdL_law_2247 7 (.iload 5) 2 ∧ De bdL_law_2247 9 (.ifCond .ne 15) 3 ∧ De bdL_law_2247 12 (.aload_n 3) 1 ∧ De bdL_law_2247 13 (.iconst 0) 1 ∧ De bdL_law_2247 14 (.laload) 1 ∧ De bdL_law_2247 15 (.iload 6) 2 ∧ De bdL_law_2247 17 (.i2l) 1 ∧ De bdL_law_2247 18 (.lcmp) 1 ∧ De bdL_law_2247 19 (.ifCond .eq 5) 3 ∧ De bdL_law_2247 22 (.iconst 0) 1 ∧ De bdL_law_2247 23 (.ireturn) 1 ∧ De bdL_law_2247 24 (.goto 938) 3 := by decide +kernel
theorem dL_law_2247 : decode cL_law 2247 = .ok (.iload 5, 2) := dAt wdL_law_2247 adL_law_2247.1 rfl
theorem dL_law_2249 : decode cL_law 2249 = .ok (.if_icmp .eq 5, 3) := dAt wdL_law_2247 adL_law_2247.2.1 rfl
theorem dL_law_2252 : decode cL_law 2252 = .ok (.iconst 0, 1) := dAt wdL_law_2247 adL_law_2247.2.2.1 rfl
theorem dL_law_2253 : decode cL_law 2253 = .ok (.ireturn, 1) := dAt wdL_law_2247 adL_law_2247.2.2.2.1 rfl
theorem dL_law_2254 : decode cL_law 2254 = .ok (.iload 5, 2) := dAt wdL_law_2247 adL_law_2247.2.2.2.2.1 rfl
theorem dL_law_2256 : decode cL_law 2256 = .ok (.ifCond .ne 15, 3) := dAt wdL_law_2247 adL_law_2247.2.2.2.2.2.1 rfl
theorem dL_law_2259 : decode cL_law 2259 = .ok (.aload_n 3, 1) := dAt wdL_law_2247 adL_law_2247.2.2.2.2.2.2.1 rfl
theorem dL_law_2260 : decode cL_law 2260 = .ok (.iconst 0, 1) := dAt wdL_law_2247 adL_law_2247.2.2.2.2.2.2.2.1 rfl
theorem dL_law_2261 : decode cL_law 2261 = .ok (.laload, 1) := dAt wdL_law_2247 adL_law_2247.2.2.2.2.2.2.2.2.1 rfl
theorem dL_law_2262 : decode cL_law 2262 = .ok (.iload 6, 2) := dAt wdL_law_2247 adL_law_2247.2.2.2.2.2.2.2.2.2.1 rfl
theorem dL_law_2264 : decode cL_law 2264 = .ok (.i2l, 1) := dAt wdL_law_2247 adL_law_2247.2.2.2.2.2.2.2.2.2.2.1 rfl
theorem dL_law_2265 : decode cL_law 2265 = .ok (.lcmp, 1) := dAt wdL_law_2247 adL_law_2247.2.2.2.2.2.2.2.2.2.2.2.1 rfl
theorem dL_law_2266 : decode cL_law 2266 = .ok (.ifCond .eq 5, 3) := dAt wdL_law_2247 adL_law_2247.2.2.2.2.2.2.2.2.2.2.2.2.1 rfl
theorem dL_law_2269 : decode cL_law 2269 = .ok (.iconst 0, 1) := dAt wdL_law_2247 adL_law_2247.2.2.2.2.2.2.2.2.2.2.2.2.2.1 rfl
theorem dL_law_2270 : decode cL_law 2270 = .ok (.ireturn, 1) := dAt wdL_law_2247 adL_law_2247.2.2.2.2.2.2.2.2.2.2.2.2.2.2.1 rfl
theorem dL_law_2271 : decode cL_law 2271 = .ok (.goto 938, 3) := dAt wdL_law_2247 adL_law_2247.2.2.2.2.2.2.2.2.2.2.2.2.2.2.2 rfl
def bdL_law_2274 : ByteArray := .mk #[43, 42, 21, 4, 4, 96, 46, 42, 21, 4, 5, 96, 46, 42, 21, 4, 6, 96, 46]
theorem wdL_law_2274 : LocW cL_law 2274 bdL_law_2274 := loc_of (by decide +kernel)
theorem adL_law_2274 : De bdL_law_2274 0 (.aload_n 1) 1 ∧ De bdL_law_2274 1 (.aload_n 0) 1 ∧ De bdL_law_2274 2 (.iload 4) 2 ∧ De bdL_law_2274 4 (.iconst 1) 1 ∧ De bdL_law_2274 5 (.iadd) 1 ∧ De bdL_law_2274 6 (.iaload) 1 ∧ De bdL_law_2274 7 (.aload_n 0) 1 ∧ De bdL_law_2274 8 (.iload 4) 2 ∧ De bdL_law_2274 10 (.iconst 2) 1 ∧ De bdL_law_2274 11 (.iadd) 1 ∧ De bdL_law_2274 12 (.iaload) 1 ∧ De bdL_law_2274 13 (.aload_n 0) 1 ∧ De bdL_law_2274 14 (.iload 4) 2 ∧ De bdL_law_2274 16 (.iconst 3) 1 ∧ De bdL_law_2274 17 (.iadd) 1 ∧ De bdL_law_2274 18 (.iaload) 1 := by decide +kernel
theorem dL_law_2274 : decode cL_law 2274 = .ok (.aload_n 1, 1) := dAt wdL_law_2274 adL_law_2274.1 rfl
theorem dL_law_2275 : decode cL_law 2275 = .ok (.aload_n 0, 1) := dAt wdL_law_2274 adL_law_2274.2.1 rfl
theorem dL_law_2276 : decode cL_law 2276 = .ok (.iload 4, 2) := dAt wdL_law_2274 adL_law_2274.2.2.1 rfl
theorem dL_law_2278 : decode cL_law 2278 = .ok (.iconst 1, 1) := dAt wdL_law_2274 adL_law_2274.2.2.2.1 rfl
theorem dL_law_2279 : decode cL_law 2279 = .ok (.iadd, 1) := dAt wdL_law_2274 adL_law_2274.2.2.2.2.1 rfl
theorem dL_law_2280 : decode cL_law 2280 = .ok (.iaload, 1) := dAt wdL_law_2274 adL_law_2274.2.2.2.2.2.1 rfl
theorem dL_law_2281 : decode cL_law 2281 = .ok (.aload_n 0, 1) := dAt wdL_law_2274 adL_law_2274.2.2.2.2.2.2.1 rfl
theorem dL_law_2282 : decode cL_law 2282 = .ok (.iload 4, 2) := dAt wdL_law_2274 adL_law_2274.2.2.2.2.2.2.2.1 rfl
theorem dL_law_2284 : decode cL_law 2284 = .ok (.iconst 2, 1) := dAt wdL_law_2274 adL_law_2274.2.2.2.2.2.2.2.2.1 rfl
theorem dL_law_2285 : decode cL_law 2285 = .ok (.iadd, 1) := dAt wdL_law_2274 adL_law_2274.2.2.2.2.2.2.2.2.2.1 rfl
theorem dL_law_2286 : decode cL_law 2286 = .ok (.iaload, 1) := dAt wdL_law_2274 adL_law_2274.2.2.2.2.2.2.2.2.2.2.1 rfl
theorem dL_law_2287 : decode cL_law 2287 = .ok (.aload_n 0, 1) := dAt wdL_law_2274 adL_law_2274.2.2.2.2.2.2.2.2.2.2.2.1 rfl
theorem dL_law_2288 : decode cL_law 2288 = .ok (.iload 4, 2) := dAt wdL_law_2274 adL_law_2274.2.2.2.2.2.2.2.2.2.2.2.2.1 rfl
theorem dL_law_2290 : decode cL_law 2290 = .ok (.iconst 3, 1) := dAt wdL_law_2274 adL_law_2274.2.2.2.2.2.2.2.2.2.2.2.2.2.1 rfl
theorem dL_law_2291 : decode cL_law 2291 = .ok (.iadd, 1) := dAt wdL_law_2274 adL_law_2274.2.2.2.2.2.2.2.2.2.2.2.2.2.2.1 rfl
theorem dL_law_2292 : decode cL_law 2292 = .ok (.iaload, 1) := dAt wdL_law_2274 adL_law_2274.2.2.2.2.2.2.2.2.2.2.2.2.2.2.2 rfl
def bdL_law_2293 : ByteArray := .mk #[184, 0, 255, 54, 5, 44, 42, 21, 4, 4, 96, 46, 42, 21, 4, 5, 96, 46, 42, 21, 4, 6]
theorem wdL_law_2293 : LocW cL_law 2293 bdL_law_2293 := loc_of (by decide +kernel)
theorem adL_law_2293 : De bdL_law_2293 0 (.invokestatic 255) 3 ∧ De bdL_law_2293 3 (.istore 5) 2 ∧ De bdL_law_2293 5 (.aload_n 2) 1 ∧ De bdL_law_2293 6 (.aload_n 0) 1 ∧ De bdL_law_2293 7 (.iload 4) 2 ∧ De bdL_law_2293 9 (.iconst 1) 1 ∧ De bdL_law_2293 10 (.iadd) 1 ∧ De bdL_law_2293 11 (.iaload) 1 ∧ De bdL_law_2293 12 (.aload_n 0) 1 ∧ De bdL_law_2293 13 (.iload 4) 2 ∧ De bdL_law_2293 15 (.iconst 2) 1 ∧ De bdL_law_2293 16 (.iadd) 1 ∧ De bdL_law_2293 17 (.iaload) 1 ∧ De bdL_law_2293 18 (.aload_n 0) 1 ∧ De bdL_law_2293 19 (.iload 4) 2 ∧ De bdL_law_2293 21 (.iconst 3) 1 := by decide +kernel
theorem dL_law_2293 : decode cL_law 2293 = .ok (.invokestatic 255, 3) := dAt wdL_law_2293 adL_law_2293.1 rfl
theorem dL_law_2296 : decode cL_law 2296 = .ok (.istore 5, 2) := dAt wdL_law_2293 adL_law_2293.2.1 rfl
theorem dL_law_2298 : decode cL_law 2298 = .ok (.aload_n 2, 1) := dAt wdL_law_2293 adL_law_2293.2.2.1 rfl
theorem dL_law_2299 : decode cL_law 2299 = .ok (.aload_n 0, 1) := dAt wdL_law_2293 adL_law_2293.2.2.2.1 rfl
theorem dL_law_2300 : decode cL_law 2300 = .ok (.iload 4, 2) := dAt wdL_law_2293 adL_law_2293.2.2.2.2.1 rfl
theorem dL_law_2302 : decode cL_law 2302 = .ok (.iconst 1, 1) := dAt wdL_law_2293 adL_law_2293.2.2.2.2.2.1 rfl
theorem dL_law_2303 : decode cL_law 2303 = .ok (.iadd, 1) := dAt wdL_law_2293 adL_law_2293.2.2.2.2.2.2.1 rfl
theorem dL_law_2304 : decode cL_law 2304 = .ok (.iaload, 1) := dAt wdL_law_2293 adL_law_2293.2.2.2.2.2.2.2.1 rfl
theorem dL_law_2305 : decode cL_law 2305 = .ok (.aload_n 0, 1) := dAt wdL_law_2293 adL_law_2293.2.2.2.2.2.2.2.2.1 rfl
theorem dL_law_2306 : decode cL_law 2306 = .ok (.iload 4, 2) := dAt wdL_law_2293 adL_law_2293.2.2.2.2.2.2.2.2.2.1 rfl
theorem dL_law_2308 : decode cL_law 2308 = .ok (.iconst 2, 1) := dAt wdL_law_2293 adL_law_2293.2.2.2.2.2.2.2.2.2.2.1 rfl
theorem dL_law_2309 : decode cL_law 2309 = .ok (.iadd, 1) := dAt wdL_law_2293 adL_law_2293.2.2.2.2.2.2.2.2.2.2.2.1 rfl
theorem dL_law_2310 : decode cL_law 2310 = .ok (.iaload, 1) := dAt wdL_law_2293 adL_law_2293.2.2.2.2.2.2.2.2.2.2.2.2.1 rfl
theorem dL_law_2311 : decode cL_law 2311 = .ok (.aload_n 0, 1) := dAt wdL_law_2293 adL_law_2293.2.2.2.2.2.2.2.2.2.2.2.2.2.1 rfl
theorem dL_law_2312 : decode cL_law 2312 = .ok (.iload 4, 2) := dAt wdL_law_2293 adL_law_2293.2.2.2.2.2.2.2.2.2.2.2.2.2.2.1 rfl
theorem dL_law_2314 : decode cL_law 2314 = .ok (.iconst 3, 1) := dAt wdL_law_2293 adL_law_2293.2.2.2.2.2.2.2.2.2.2.2.2.2.2.2 rfl
def bdL_law_2315 : ByteArray := .mk #[96, 46, 182, 1, 1, 44, 182, 0, 166, 21, 5, 159, 0, 5, 3, 172, 167, 3, 110, 43, 42, 21, 4, 4, 96, 46]
theorem wdL_law_2315 : LocW cL_law 2315 bdL_law_2315 := loc_of (by decide +kernel)
theorem adL_law_2315 : De bdL_law_2315 0 (.iadd) 1 ∧ De bdL_law_2315 1 (.iaload) 1 ∧ De bdL_law_2315 2 (.invokevirtual 257) 3 ∧ De bdL_law_2315 5 (.aload_n 2) 1 ∧ De bdL_law_2315 6 (.invokevirtual 166) 3 ∧ De bdL_law_2315 9 (.iload 5) 2 ∧ De bdL_law_2315 11 (.if_icmp .eq 5) 3 ∧ De bdL_law_2315 14 (.iconst 0) 1 ∧ De bdL_law_2315 15 (.ireturn) 1 ∧ De bdL_law_2315 16 (.goto 878) 3 ∧ De bdL_law_2315 19 (.aload_n 1) 1 ∧ De bdL_law_2315 20 (.aload_n 0) 1 ∧ De bdL_law_2315 21 (.iload 4) 2 ∧ De bdL_law_2315 23 (.iconst 1) 1 ∧ De bdL_law_2315 24 (.iadd) 1 ∧ De bdL_law_2315 25 (.iaload) 1 := by decide +kernel
theorem dL_law_2315 : decode cL_law 2315 = .ok (.iadd, 1) := dAt wdL_law_2315 adL_law_2315.1 rfl
theorem dL_law_2316 : decode cL_law 2316 = .ok (.iaload, 1) := dAt wdL_law_2315 adL_law_2315.2.1 rfl
theorem dL_law_2317 : decode cL_law 2317 = .ok (.invokevirtual 257, 3) := dAt wdL_law_2315 adL_law_2315.2.2.1 rfl
theorem dL_law_2320 : decode cL_law 2320 = .ok (.aload_n 2, 1) := dAt wdL_law_2315 adL_law_2315.2.2.2.1 rfl
theorem dL_law_2321 : decode cL_law 2321 = .ok (.invokevirtual 166, 3) := dAt wdL_law_2315 adL_law_2315.2.2.2.2.1 rfl
theorem dL_law_2324 : decode cL_law 2324 = .ok (.iload 5, 2) := dAt wdL_law_2315 adL_law_2315.2.2.2.2.2.1 rfl
theorem dL_law_2326 : decode cL_law 2326 = .ok (.if_icmp .eq 5, 3) := dAt wdL_law_2315 adL_law_2315.2.2.2.2.2.2.1 rfl
theorem dL_law_2329 : decode cL_law 2329 = .ok (.iconst 0, 1) := dAt wdL_law_2315 adL_law_2315.2.2.2.2.2.2.2.1 rfl
theorem dL_law_2330 : decode cL_law 2330 = .ok (.ireturn, 1) := dAt wdL_law_2315 adL_law_2315.2.2.2.2.2.2.2.2.1 rfl
theorem dL_law_2331 : decode cL_law 2331 = .ok (.goto 878, 3) := dAt wdL_law_2315 adL_law_2315.2.2.2.2.2.2.2.2.2.1 rfl
theorem dL_law_2334 : decode cL_law 2334 = .ok (.aload_n 1, 1) := dAt wdL_law_2315 adL_law_2315.2.2.2.2.2.2.2.2.2.2.1 rfl
theorem dL_law_2335 : decode cL_law 2335 = .ok (.aload_n 0, 1) := dAt wdL_law_2315 adL_law_2315.2.2.2.2.2.2.2.2.2.2.2.1 rfl
theorem dL_law_2336 : decode cL_law 2336 = .ok (.iload 4, 2) := dAt wdL_law_2315 adL_law_2315.2.2.2.2.2.2.2.2.2.2.2.2.1 rfl
theorem dL_law_2338 : decode cL_law 2338 = .ok (.iconst 1, 1) := dAt wdL_law_2315 adL_law_2315.2.2.2.2.2.2.2.2.2.2.2.2.2.1 rfl
theorem dL_law_2339 : decode cL_law 2339 = .ok (.iadd, 1) := dAt wdL_law_2315 adL_law_2315.2.2.2.2.2.2.2.2.2.2.2.2.2.2.1 rfl
theorem dL_law_2340 : decode cL_law 2340 = .ok (.iaload, 1) := dAt wdL_law_2315 adL_law_2315.2.2.2.2.2.2.2.2.2.2.2.2.2.2.2 rfl
def bdL_law_2341 : ByteArray := .mk #[42, 21, 4, 5, 96, 46, 45, 184, 1, 2, 54, 5, 44, 42, 21, 4, 4, 96, 46, 42, 21, 4]
theorem wdL_law_2341 : LocW cL_law 2341 bdL_law_2341 := loc_of (by decide +kernel)
theorem adL_law_2341 : De bdL_law_2341 0 (.aload_n 0) 1 ∧ De bdL_law_2341 1 (.iload 4) 2 ∧ De bdL_law_2341 3 (.iconst 2) 1 ∧ De bdL_law_2341 4 (.iadd) 1 ∧ De bdL_law_2341 5 (.iaload) 1 ∧ De bdL_law_2341 6 (.aload_n 3) 1 ∧ De bdL_law_2341 7 (.invokestatic 258) 3 ∧ De bdL_law_2341 10 (.istore 5) 2 ∧ De bdL_law_2341 12 (.aload_n 2) 1 ∧ De bdL_law_2341 13 (.aload_n 0) 1 ∧ De bdL_law_2341 14 (.iload 4) 2 ∧ De bdL_law_2341 16 (.iconst 1) 1 ∧ De bdL_law_2341 17 (.iadd) 1 ∧ De bdL_law_2341 18 (.iaload) 1 ∧ De bdL_law_2341 19 (.aload_n 0) 1 ∧ De bdL_law_2341 20 (.iload 4) 2 := by decide +kernel
theorem dL_law_2341 : decode cL_law 2341 = .ok (.aload_n 0, 1) := dAt wdL_law_2341 adL_law_2341.1 rfl
theorem dL_law_2342 : decode cL_law 2342 = .ok (.iload 4, 2) := dAt wdL_law_2341 adL_law_2341.2.1 rfl
theorem dL_law_2344 : decode cL_law 2344 = .ok (.iconst 2, 1) := dAt wdL_law_2341 adL_law_2341.2.2.1 rfl
theorem dL_law_2345 : decode cL_law 2345 = .ok (.iadd, 1) := dAt wdL_law_2341 adL_law_2341.2.2.2.1 rfl
theorem dL_law_2346 : decode cL_law 2346 = .ok (.iaload, 1) := dAt wdL_law_2341 adL_law_2341.2.2.2.2.1 rfl
theorem dL_law_2347 : decode cL_law 2347 = .ok (.aload_n 3, 1) := dAt wdL_law_2341 adL_law_2341.2.2.2.2.2.1 rfl
theorem dL_law_2348 : decode cL_law 2348 = .ok (.invokestatic 258, 3) := dAt wdL_law_2341 adL_law_2341.2.2.2.2.2.2.1 rfl
theorem dL_law_2351 : decode cL_law 2351 = .ok (.istore 5, 2) := dAt wdL_law_2341 adL_law_2341.2.2.2.2.2.2.2.1 rfl
theorem dL_law_2353 : decode cL_law 2353 = .ok (.aload_n 2, 1) := dAt wdL_law_2341 adL_law_2341.2.2.2.2.2.2.2.2.1 rfl
theorem dL_law_2354 : decode cL_law 2354 = .ok (.aload_n 0, 1) := dAt wdL_law_2341 adL_law_2341.2.2.2.2.2.2.2.2.2.1 rfl
theorem dL_law_2355 : decode cL_law 2355 = .ok (.iload 4, 2) := dAt wdL_law_2341 adL_law_2341.2.2.2.2.2.2.2.2.2.2.1 rfl
theorem dL_law_2357 : decode cL_law 2357 = .ok (.iconst 1, 1) := dAt wdL_law_2341 adL_law_2341.2.2.2.2.2.2.2.2.2.2.2.1 rfl
theorem dL_law_2358 : decode cL_law 2358 = .ok (.iadd, 1) := dAt wdL_law_2341 adL_law_2341.2.2.2.2.2.2.2.2.2.2.2.2.1 rfl
theorem dL_law_2359 : decode cL_law 2359 = .ok (.iaload, 1) := dAt wdL_law_2341 adL_law_2341.2.2.2.2.2.2.2.2.2.2.2.2.2.1 rfl
theorem dL_law_2360 : decode cL_law 2360 = .ok (.aload_n 0, 1) := dAt wdL_law_2341 adL_law_2341.2.2.2.2.2.2.2.2.2.2.2.2.2.2.1 rfl
theorem dL_law_2361 : decode cL_law 2361 = .ok (.iload 4, 2) := dAt wdL_law_2341 adL_law_2341.2.2.2.2.2.2.2.2.2.2.2.2.2.2.2 rfl
def bdL_law_2363 : ByteArray := .mk #[5, 96, 46, 182, 1, 4, 54, 6, 44, 182, 0, 166, 21, 5, 159, 0, 5, 3, 172, 21, 5, 154, 0, 15, 45, 3, 47]
theorem wdL_law_2363 : LocW cL_law 2363 bdL_law_2363 := loc_of (by decide +kernel)
theorem adL_law_2363 : De bdL_law_2363 0 (.iconst 2) 1 ∧ De bdL_law_2363 1 (.iadd) 1 ∧ De bdL_law_2363 2 (.iaload) 1 ∧ De bdL_law_2363 3 (.invokevirtual 260) 3 ∧ De bdL_law_2363 6 (.istore 6) 2 ∧ De bdL_law_2363 8 (.aload_n 2) 1 ∧ De bdL_law_2363 9 (.invokevirtual 166) 3 ∧ De bdL_law_2363 12 (.iload 5) 2 ∧ De bdL_law_2363 14 (.if_icmp .eq 5) 3 ∧ De bdL_law_2363 17 (.iconst 0) 1 ∧ De bdL_law_2363 18 (.ireturn) 1 ∧ De bdL_law_2363 19 (.iload 5) 2 ∧ De bdL_law_2363 21 (.ifCond .ne 15) 3 ∧ De bdL_law_2363 24 (.aload_n 3) 1 ∧ De bdL_law_2363 25 (.iconst 0) 1 ∧ De bdL_law_2363 26 (.laload) 1 := by decide +kernel
theorem dL_law_2363 : decode cL_law 2363 = .ok (.iconst 2, 1) := dAt wdL_law_2363 adL_law_2363.1 rfl
theorem dL_law_2364 : decode cL_law 2364 = .ok (.iadd, 1) := dAt wdL_law_2363 adL_law_2363.2.1 rfl
theorem dL_law_2365 : decode cL_law 2365 = .ok (.iaload, 1) := dAt wdL_law_2363 adL_law_2363.2.2.1 rfl
theorem dL_law_2366 : decode cL_law 2366 = .ok (.invokevirtual 260, 3) := dAt wdL_law_2363 adL_law_2363.2.2.2.1 rfl
theorem dL_law_2369 : decode cL_law 2369 = .ok (.istore 6, 2) := dAt wdL_law_2363 adL_law_2363.2.2.2.2.1 rfl
theorem dL_law_2371 : decode cL_law 2371 = .ok (.aload_n 2, 1) := dAt wdL_law_2363 adL_law_2363.2.2.2.2.2.1 rfl
theorem dL_law_2372 : decode cL_law 2372 = .ok (.invokevirtual 166, 3) := dAt wdL_law_2363 adL_law_2363.2.2.2.2.2.2.1 rfl
theorem dL_law_2375 : decode cL_law 2375 = .ok (.iload 5, 2) := dAt wdL_law_2363 adL_law_2363.2.2.2.2.2.2.2.1 rfl
theorem dL_law_2377 : decode cL_law 2377 = .ok (.if_icmp .eq 5, 3) := dAt wdL_law_2363 adL_law_2363.2.2.2.2.2.2.2.2.1 rfl
theorem dL_law_2380 : decode cL_law 2380 = .ok (.iconst 0, 1) := dAt wdL_law_2363 adL_law_2363.2.2.2.2.2.2.2.2.2.1 rfl
theorem dL_law_2381 : decode cL_law 2381 = .ok (.ireturn, 1) := dAt wdL_law_2363 adL_law_2363.2.2.2.2.2.2.2.2.2.2.1 rfl
theorem dL_law_2382 : decode cL_law 2382 = .ok (.iload 5, 2) := dAt wdL_law_2363 adL_law_2363.2.2.2.2.2.2.2.2.2.2.2.1 rfl
theorem dL_law_2384 : decode cL_law 2384 = .ok (.ifCond .ne 15, 3) := dAt wdL_law_2363 adL_law_2363.2.2.2.2.2.2.2.2.2.2.2.2.1 rfl
theorem dL_law_2387 : decode cL_law 2387 = .ok (.aload_n 3, 1) := dAt wdL_law_2363 adL_law_2363.2.2.2.2.2.2.2.2.2.2.2.2.2.1 rfl
theorem dL_law_2388 : decode cL_law 2388 = .ok (.iconst 0, 1) := dAt wdL_law_2363 adL_law_2363.2.2.2.2.2.2.2.2.2.2.2.2.2.2.1 rfl
theorem dL_law_2389 : decode cL_law 2389 = .ok (.laload, 1) := dAt wdL_law_2363 adL_law_2363.2.2.2.2.2.2.2.2.2.2.2.2.2.2.2 rfl
def bdL_law_2390 : ByteArray := .mk #[21, 6, 133, 148, 153, 0, 5, 3, 172, 167, 3, 42, 43, 42, 21, 4, 4, 96, 46, 42, 21, 4, 5]
theorem wdL_law_2390 : LocW cL_law 2390 bdL_law_2390 := loc_of (by decide +kernel)
theorem adL_law_2390 : De bdL_law_2390 0 (.iload 6) 2 ∧ De bdL_law_2390 2 (.i2l) 1 ∧ De bdL_law_2390 3 (.lcmp) 1 ∧ De bdL_law_2390 4 (.ifCond .eq 5) 3 ∧ De bdL_law_2390 7 (.iconst 0) 1 ∧ De bdL_law_2390 8 (.ireturn) 1 ∧ De bdL_law_2390 9 (.goto 810) 3 ∧ De bdL_law_2390 12 (.aload_n 1) 1 ∧ De bdL_law_2390 13 (.aload_n 0) 1 ∧ De bdL_law_2390 14 (.iload 4) 2 ∧ De bdL_law_2390 16 (.iconst 1) 1 ∧ De bdL_law_2390 17 (.iadd) 1 ∧ De bdL_law_2390 18 (.iaload) 1 ∧ De bdL_law_2390 19 (.aload_n 0) 1 ∧ De bdL_law_2390 20 (.iload 4) 2 ∧ De bdL_law_2390 22 (.iconst 2) 1 := by decide +kernel
theorem dL_law_2390 : decode cL_law 2390 = .ok (.iload 6, 2) := dAt wdL_law_2390 adL_law_2390.1 rfl
theorem dL_law_2392 : decode cL_law 2392 = .ok (.i2l, 1) := dAt wdL_law_2390 adL_law_2390.2.1 rfl
theorem dL_law_2393 : decode cL_law 2393 = .ok (.lcmp, 1) := dAt wdL_law_2390 adL_law_2390.2.2.1 rfl
theorem dL_law_2394 : decode cL_law 2394 = .ok (.ifCond .eq 5, 3) := dAt wdL_law_2390 adL_law_2390.2.2.2.1 rfl
theorem dL_law_2397 : decode cL_law 2397 = .ok (.iconst 0, 1) := dAt wdL_law_2390 adL_law_2390.2.2.2.2.1 rfl
theorem dL_law_2398 : decode cL_law 2398 = .ok (.ireturn, 1) := dAt wdL_law_2390 adL_law_2390.2.2.2.2.2.1 rfl
theorem dL_law_2399 : decode cL_law 2399 = .ok (.goto 810, 3) := dAt wdL_law_2390 adL_law_2390.2.2.2.2.2.2.1 rfl
theorem dL_law_2402 : decode cL_law 2402 = .ok (.aload_n 1, 1) := dAt wdL_law_2390 adL_law_2390.2.2.2.2.2.2.2.1 rfl
theorem dL_law_2403 : decode cL_law 2403 = .ok (.aload_n 0, 1) := dAt wdL_law_2390 adL_law_2390.2.2.2.2.2.2.2.2.1 rfl
theorem dL_law_2404 : decode cL_law 2404 = .ok (.iload 4, 2) := dAt wdL_law_2390 adL_law_2390.2.2.2.2.2.2.2.2.2.1 rfl
theorem dL_law_2406 : decode cL_law 2406 = .ok (.iconst 1, 1) := dAt wdL_law_2390 adL_law_2390.2.2.2.2.2.2.2.2.2.2.1 rfl
theorem dL_law_2407 : decode cL_law 2407 = .ok (.iadd, 1) := dAt wdL_law_2390 adL_law_2390.2.2.2.2.2.2.2.2.2.2.2.1 rfl
theorem dL_law_2408 : decode cL_law 2408 = .ok (.iaload, 1) := dAt wdL_law_2390 adL_law_2390.2.2.2.2.2.2.2.2.2.2.2.2.1 rfl
theorem dL_law_2409 : decode cL_law 2409 = .ok (.aload_n 0, 1) := dAt wdL_law_2390 adL_law_2390.2.2.2.2.2.2.2.2.2.2.2.2.2.1 rfl
theorem dL_law_2410 : decode cL_law 2410 = .ok (.iload 4, 2) := dAt wdL_law_2390 adL_law_2390.2.2.2.2.2.2.2.2.2.2.2.2.2.2.1 rfl
theorem dL_law_2412 : decode cL_law 2412 = .ok (.iconst 2, 1) := dAt wdL_law_2390 adL_law_2390.2.2.2.2.2.2.2.2.2.2.2.2.2.2.2 rfl
def bdL_law_2413 : ByteArray := .mk #[96, 46, 42, 21, 4, 6, 96, 46, 42, 21, 4, 7, 96, 46, 153, 0, 7, 4, 167, 0, 4, 3]
theorem wdL_law_2413 : LocW cL_law 2413 bdL_law_2413 := loc_of (by decide +kernel)
theorem adL_law_2413 : De bdL_law_2413 0 (.iadd) 1 ∧ De bdL_law_2413 1 (.iaload) 1 ∧ De bdL_law_2413 2 (.aload_n 0) 1 ∧ De bdL_law_2413 3 (.iload 4) 2 ∧ De bdL_law_2413 5 (.iconst 3) 1 ∧ De bdL_law_2413 6 (.iadd) 1 ∧ De bdL_law_2413 7 (.iaload) 1 ∧ De bdL_law_2413 8 (.aload_n 0) 1 ∧ De bdL_law_2413 9 (.iload 4) 2 ∧ De bdL_law_2413 11 (.iconst 4) 1 ∧ De bdL_law_2413 12 (.iadd) 1 ∧ De bdL_law_2413 13 (.iaload) 1 ∧ De bdL_law_2413 14 (.ifCond .eq 7) 3 ∧ De bdL_law_2413 17 (.iconst 1) 1 ∧ De bdL_law_2413 18 (.goto 4) 3 ∧ De bdL_law_2413 21 (.iconst 0) 1 := by decide +kernel
theorem dL_law_2413 : decode cL_law 2413 = .ok (.iadd, 1) := dAt wdL_law_2413 adL_law_2413.1 rfl
theorem dL_law_2414 : decode cL_law 2414 = .ok (.iaload, 1) := dAt wdL_law_2413 adL_law_2413.2.1 rfl
theorem dL_law_2415 : decode cL_law 2415 = .ok (.aload_n 0, 1) := dAt wdL_law_2413 adL_law_2413.2.2.1 rfl
theorem dL_law_2416 : decode cL_law 2416 = .ok (.iload 4, 2) := dAt wdL_law_2413 adL_law_2413.2.2.2.1 rfl
theorem dL_law_2418 : decode cL_law 2418 = .ok (.iconst 3, 1) := dAt wdL_law_2413 adL_law_2413.2.2.2.2.1 rfl
theorem dL_law_2419 : decode cL_law 2419 = .ok (.iadd, 1) := dAt wdL_law_2413 adL_law_2413.2.2.2.2.2.1 rfl
theorem dL_law_2420 : decode cL_law 2420 = .ok (.iaload, 1) := dAt wdL_law_2413 adL_law_2413.2.2.2.2.2.2.1 rfl
theorem dL_law_2421 : decode cL_law 2421 = .ok (.aload_n 0, 1) := dAt wdL_law_2413 adL_law_2413.2.2.2.2.2.2.2.1 rfl
theorem dL_law_2422 : decode cL_law 2422 = .ok (.iload 4, 2) := dAt wdL_law_2413 adL_law_2413.2.2.2.2.2.2.2.2.1 rfl
theorem dL_law_2424 : decode cL_law 2424 = .ok (.iconst 4, 1) := dAt wdL_law_2413 adL_law_2413.2.2.2.2.2.2.2.2.2.1 rfl
theorem dL_law_2425 : decode cL_law 2425 = .ok (.iadd, 1) := dAt wdL_law_2413 adL_law_2413.2.2.2.2.2.2.2.2.2.2.1 rfl
theorem dL_law_2426 : decode cL_law 2426 = .ok (.iaload, 1) := dAt wdL_law_2413 adL_law_2413.2.2.2.2.2.2.2.2.2.2.2.1 rfl
theorem dL_law_2427 : decode cL_law 2427 = .ok (.ifCond .eq 7, 3) := dAt wdL_law_2413 adL_law_2413.2.2.2.2.2.2.2.2.2.2.2.2.1 rfl
theorem dL_law_2430 : decode cL_law 2430 = .ok (.iconst 1, 1) := dAt wdL_law_2413 adL_law_2413.2.2.2.2.2.2.2.2.2.2.2.2.2.1 rfl
theorem dL_law_2431 : decode cL_law 2431 = .ok (.goto 4, 3) := dAt wdL_law_2413 adL_law_2413.2.2.2.2.2.2.2.2.2.2.2.2.2.2.1 rfl
theorem dL_law_2434 : decode cL_law 2434 = .ok (.iconst 0, 1) := dAt wdL_law_2413 adL_law_2413.2.2.2.2.2.2.2.2.2.2.2.2.2.2.2 rfl
def bdL_law_2435 : ByteArray := .mk #[45, 184, 1, 5, 54, 5, 44, 42, 21, 4, 4, 96, 46, 42, 21, 4, 5, 96, 46, 42, 21, 4]
theorem wdL_law_2435 : LocW cL_law 2435 bdL_law_2435 := loc_of (by decide +kernel)
theorem adL_law_2435 : De bdL_law_2435 0 (.aload_n 3) 1 ∧ De bdL_law_2435 1 (.invokestatic 261) 3 ∧ De bdL_law_2435 4 (.istore 5) 2 ∧ De bdL_law_2435 6 (.aload_n 2) 1 ∧ De bdL_law_2435 7 (.aload_n 0) 1 ∧ De bdL_law_2435 8 (.iload 4) 2 ∧ De bdL_law_2435 10 (.iconst 1) 1 ∧ De bdL_law_2435 11 (.iadd) 1 ∧ De bdL_law_2435 12 (.iaload) 1 ∧ De bdL_law_2435 13 (.aload_n 0) 1 ∧ De bdL_law_2435 14 (.iload 4) 2 ∧ De bdL_law_2435 16 (.iconst 2) 1 ∧ De bdL_law_2435 17 (.iadd) 1 ∧ De bdL_law_2435 18 (.iaload) 1 ∧ De bdL_law_2435 19 (.aload_n 0) 1 ∧ De bdL_law_2435 20 (.iload 4) 2 := by decide +kernel
theorem dL_law_2435 : decode cL_law 2435 = .ok (.aload_n 3, 1) := dAt wdL_law_2435 adL_law_2435.1 rfl
theorem dL_law_2436 : decode cL_law 2436 = .ok (.invokestatic 261, 3) := dAt wdL_law_2435 adL_law_2435.2.1 rfl
theorem dL_law_2439 : decode cL_law 2439 = .ok (.istore 5, 2) := dAt wdL_law_2435 adL_law_2435.2.2.1 rfl
theorem dL_law_2441 : decode cL_law 2441 = .ok (.aload_n 2, 1) := dAt wdL_law_2435 adL_law_2435.2.2.2.1 rfl
theorem dL_law_2442 : decode cL_law 2442 = .ok (.aload_n 0, 1) := dAt wdL_law_2435 adL_law_2435.2.2.2.2.1 rfl
theorem dL_law_2443 : decode cL_law 2443 = .ok (.iload 4, 2) := dAt wdL_law_2435 adL_law_2435.2.2.2.2.2.1 rfl
theorem dL_law_2445 : decode cL_law 2445 = .ok (.iconst 1, 1) := dAt wdL_law_2435 adL_law_2435.2.2.2.2.2.2.1 rfl
theorem dL_law_2446 : decode cL_law 2446 = .ok (.iadd, 1) := dAt wdL_law_2435 adL_law_2435.2.2.2.2.2.2.2.1 rfl
theorem dL_law_2447 : decode cL_law 2447 = .ok (.iaload, 1) := dAt wdL_law_2435 adL_law_2435.2.2.2.2.2.2.2.2.1 rfl
theorem dL_law_2448 : decode cL_law 2448 = .ok (.aload_n 0, 1) := dAt wdL_law_2435 adL_law_2435.2.2.2.2.2.2.2.2.2.1 rfl
theorem dL_law_2449 : decode cL_law 2449 = .ok (.iload 4, 2) := dAt wdL_law_2435 adL_law_2435.2.2.2.2.2.2.2.2.2.2.1 rfl
theorem dL_law_2451 : decode cL_law 2451 = .ok (.iconst 2, 1) := dAt wdL_law_2435 adL_law_2435.2.2.2.2.2.2.2.2.2.2.2.1 rfl
theorem dL_law_2452 : decode cL_law 2452 = .ok (.iadd, 1) := dAt wdL_law_2435 adL_law_2435.2.2.2.2.2.2.2.2.2.2.2.2.1 rfl
theorem dL_law_2453 : decode cL_law 2453 = .ok (.iaload, 1) := dAt wdL_law_2435 adL_law_2435.2.2.2.2.2.2.2.2.2.2.2.2.2.1 rfl
theorem dL_law_2454 : decode cL_law 2454 = .ok (.aload_n 0, 1) := dAt wdL_law_2435 adL_law_2435.2.2.2.2.2.2.2.2.2.2.2.2.2.2.1 rfl
theorem dL_law_2455 : decode cL_law 2455 = .ok (.iload 4, 2) := dAt wdL_law_2435 adL_law_2435.2.2.2.2.2.2.2.2.2.2.2.2.2.2.2 rfl
def bdL_law_2457 : ByteArray := .mk #[6, 96, 46, 42, 21, 4, 7, 96, 46, 153, 0, 7, 4, 167, 0, 4, 3, 182, 1, 8, 54, 6, 44, 182, 0, 166]
theorem wdL_law_2457 : LocW cL_law 2457 bdL_law_2457 := loc_of (by decide +kernel)
theorem adL_law_2457 : De bdL_law_2457 0 (.iconst 3) 1 ∧ De bdL_law_2457 1 (.iadd) 1 ∧ De bdL_law_2457 2 (.iaload) 1 ∧ De bdL_law_2457 3 (.aload_n 0) 1 ∧ De bdL_law_2457 4 (.iload 4) 2 ∧ De bdL_law_2457 6 (.iconst 4) 1 ∧ De bdL_law_2457 7 (.iadd) 1 ∧ De bdL_law_2457 8 (.iaload) 1 ∧ De bdL_law_2457 9 (.ifCond .eq 7) 3 ∧ De bdL_law_2457 12 (.iconst 1) 1 ∧ De bdL_law_2457 13 (.goto 4) 3 ∧ De bdL_law_2457 16 (.iconst 0) 1 ∧ De bdL_law_2457 17 (.invokevirtual 264) 3 ∧ De bdL_law_2457 20 (.istore 6) 2 ∧ De bdL_law_2457 22 (.aload_n 2) 1 ∧ De bdL_law_2457 23 (.invokevirtual 166) 3 := by decide +kernel
theorem dL_law_2457 : decode cL_law 2457 = .ok (.iconst 3, 1) := dAt wdL_law_2457 adL_law_2457.1 rfl
theorem dL_law_2458 : decode cL_law 2458 = .ok (.iadd, 1) := dAt wdL_law_2457 adL_law_2457.2.1 rfl
theorem dL_law_2459 : decode cL_law 2459 = .ok (.iaload, 1) := dAt wdL_law_2457 adL_law_2457.2.2.1 rfl
theorem dL_law_2460 : decode cL_law 2460 = .ok (.aload_n 0, 1) := dAt wdL_law_2457 adL_law_2457.2.2.2.1 rfl
theorem dL_law_2461 : decode cL_law 2461 = .ok (.iload 4, 2) := dAt wdL_law_2457 adL_law_2457.2.2.2.2.1 rfl
theorem dL_law_2463 : decode cL_law 2463 = .ok (.iconst 4, 1) := dAt wdL_law_2457 adL_law_2457.2.2.2.2.2.1 rfl
theorem dL_law_2464 : decode cL_law 2464 = .ok (.iadd, 1) := dAt wdL_law_2457 adL_law_2457.2.2.2.2.2.2.1 rfl
theorem dL_law_2465 : decode cL_law 2465 = .ok (.iaload, 1) := dAt wdL_law_2457 adL_law_2457.2.2.2.2.2.2.2.1 rfl
theorem dL_law_2466 : decode cL_law 2466 = .ok (.ifCond .eq 7, 3) := dAt wdL_law_2457 adL_law_2457.2.2.2.2.2.2.2.2.1 rfl
theorem dL_law_2469 : decode cL_law 2469 = .ok (.iconst 1, 1) := dAt wdL_law_2457 adL_law_2457.2.2.2.2.2.2.2.2.2.1 rfl
theorem dL_law_2470 : decode cL_law 2470 = .ok (.goto 4, 3) := dAt wdL_law_2457 adL_law_2457.2.2.2.2.2.2.2.2.2.2.1 rfl
theorem dL_law_2473 : decode cL_law 2473 = .ok (.iconst 0, 1) := dAt wdL_law_2457 adL_law_2457.2.2.2.2.2.2.2.2.2.2.2.1 rfl
theorem dL_law_2474 : decode cL_law 2474 = .ok (.invokevirtual 264, 3) := dAt wdL_law_2457 adL_law_2457.2.2.2.2.2.2.2.2.2.2.2.2.1 rfl
theorem dL_law_2477 : decode cL_law 2477 = .ok (.istore 6, 2) := dAt wdL_law_2457 adL_law_2457.2.2.2.2.2.2.2.2.2.2.2.2.2.1 rfl
theorem dL_law_2479 : decode cL_law 2479 = .ok (.aload_n 2, 1) := dAt wdL_law_2457 adL_law_2457.2.2.2.2.2.2.2.2.2.2.2.2.2.2.1 rfl
theorem dL_law_2480 : decode cL_law 2480 = .ok (.invokevirtual 166, 3) := dAt wdL_law_2457 adL_law_2457.2.2.2.2.2.2.2.2.2.2.2.2.2.2.2 rfl
def bdL_law_2483 : ByteArray := .mk #[21, 5, 159, 0, 5, 3, 172, 21, 5, 154, 0, 15, 45, 3, 47, 21, 6, 133, 148, 153, 0, 5, 3, 172, 167, 2, 190]
theorem wdL_law_2483 : LocW cL_law 2483 bdL_law_2483 := loc_of (by decide +kernel)
theorem adL_law_2483 : De bdL_law_2483 0 (.iload 5) 2 ∧ De bdL_law_2483 2 (.if_icmp .eq 5) 3 ∧ De bdL_law_2483 5 (.iconst 0) 1 ∧ De bdL_law_2483 6 (.ireturn) 1 ∧ De bdL_law_2483 7 (.iload 5) 2 ∧ De bdL_law_2483 9 (.ifCond .ne 15) 3 ∧ De bdL_law_2483 12 (.aload_n 3) 1 ∧ De bdL_law_2483 13 (.iconst 0) 1 ∧ De bdL_law_2483 14 (.laload) 1 ∧ De bdL_law_2483 15 (.iload 6) 2 ∧ De bdL_law_2483 17 (.i2l) 1 ∧ De bdL_law_2483 18 (.lcmp) 1 ∧ De bdL_law_2483 19 (.ifCond .eq 5) 3 ∧ De bdL_law_2483 22 (.iconst 0) 1 ∧ De bdL_law_2483 23 (.ireturn) 1 ∧ De bdL_law_2483 24 (.goto 702) 3 := by decide +kernel
theorem dL_law_2483 : decode cL_law 2483 = .ok (.iload 5, 2) := dAt wdL_law_2483 adL_law_2483.1 rfl
theorem dL_law_2485 : decode cL_law 2485 = .ok (.if_icmp .eq 5, 3) := dAt wdL_law_2483 adL_law_2483.2.1 rfl
theorem dL_law_2488 : decode cL_law 2488 = .ok (.iconst 0, 1) := dAt wdL_law_2483 adL_law_2483.2.2.1 rfl
theorem dL_law_2489 : decode cL_law 2489 = .ok (.ireturn, 1) := dAt wdL_law_2483 adL_law_2483.2.2.2.1 rfl
theorem dL_law_2490 : decode cL_law 2490 = .ok (.iload 5, 2) := dAt wdL_law_2483 adL_law_2483.2.2.2.2.1 rfl
theorem dL_law_2492 : decode cL_law 2492 = .ok (.ifCond .ne 15, 3) := dAt wdL_law_2483 adL_law_2483.2.2.2.2.2.1 rfl
theorem dL_law_2495 : decode cL_law 2495 = .ok (.aload_n 3, 1) := dAt wdL_law_2483 adL_law_2483.2.2.2.2.2.2.1 rfl
theorem dL_law_2496 : decode cL_law 2496 = .ok (.iconst 0, 1) := dAt wdL_law_2483 adL_law_2483.2.2.2.2.2.2.2.1 rfl
theorem dL_law_2497 : decode cL_law 2497 = .ok (.laload, 1) := dAt wdL_law_2483 adL_law_2483.2.2.2.2.2.2.2.2.1 rfl
theorem dL_law_2498 : decode cL_law 2498 = .ok (.iload 6, 2) := dAt wdL_law_2483 adL_law_2483.2.2.2.2.2.2.2.2.2.1 rfl
theorem dL_law_2500 : decode cL_law 2500 = .ok (.i2l, 1) := dAt wdL_law_2483 adL_law_2483.2.2.2.2.2.2.2.2.2.2.1 rfl
theorem dL_law_2501 : decode cL_law 2501 = .ok (.lcmp, 1) := dAt wdL_law_2483 adL_law_2483.2.2.2.2.2.2.2.2.2.2.2.1 rfl
theorem dL_law_2502 : decode cL_law 2502 = .ok (.ifCond .eq 5, 3) := dAt wdL_law_2483 adL_law_2483.2.2.2.2.2.2.2.2.2.2.2.2.1 rfl
theorem dL_law_2505 : decode cL_law 2505 = .ok (.iconst 0, 1) := dAt wdL_law_2483 adL_law_2483.2.2.2.2.2.2.2.2.2.2.2.2.2.1 rfl
theorem dL_law_2506 : decode cL_law 2506 = .ok (.ireturn, 1) := dAt wdL_law_2483 adL_law_2483.2.2.2.2.2.2.2.2.2.2.2.2.2.2.1 rfl
theorem dL_law_2507 : decode cL_law 2507 = .ok (.goto 702, 3) := dAt wdL_law_2483 adL_law_2483.2.2.2.2.2.2.2.2.2.2.2.2.2.2.2 rfl
def bdL_law_2510 : ByteArray := .mk #[43, 42, 21, 4, 4, 96, 46, 42, 21, 4, 5, 96, 46, 45, 184, 1, 9, 54, 5, 44, 42]
theorem wdL_law_2510 : LocW cL_law 2510 bdL_law_2510 := loc_of (by decide +kernel)
theorem adL_law_2510 : De bdL_law_2510 0 (.aload_n 1) 1 ∧ De bdL_law_2510 1 (.aload_n 0) 1 ∧ De bdL_law_2510 2 (.iload 4) 2 ∧ De bdL_law_2510 4 (.iconst 1) 1 ∧ De bdL_law_2510 5 (.iadd) 1 ∧ De bdL_law_2510 6 (.iaload) 1 ∧ De bdL_law_2510 7 (.aload_n 0) 1 ∧ De bdL_law_2510 8 (.iload 4) 2 ∧ De bdL_law_2510 10 (.iconst 2) 1 ∧ De bdL_law_2510 11 (.iadd) 1 ∧ De bdL_law_2510 12 (.iaload) 1 ∧ De bdL_law_2510 13 (.aload_n 3) 1 ∧ De bdL_law_2510 14 (.invokestatic 265) 3 ∧ De bdL_law_2510 17 (.istore 5) 2 ∧ De bdL_law_2510 19 (.aload_n 2) 1 ∧ De bdL_law_2510 20 (.aload_n 0) 1 := by decide +kernel
theorem dL_law_2510 : decode cL_law 2510 = .ok (.aload_n 1, 1) := dAt wdL_law_2510 adL_law_2510.1 rfl
theorem dL_law_2511 : decode cL_law 2511 = .ok (.aload_n 0, 1) := dAt wdL_law_2510 adL_law_2510.2.1 rfl
theorem dL_law_2512 : decode cL_law 2512 = .ok (.iload 4, 2) := dAt wdL_law_2510 adL_law_2510.2.2.1 rfl
theorem dL_law_2514 : decode cL_law 2514 = .ok (.iconst 1, 1) := dAt wdL_law_2510 adL_law_2510.2.2.2.1 rfl
theorem dL_law_2515 : decode cL_law 2515 = .ok (.iadd, 1) := dAt wdL_law_2510 adL_law_2510.2.2.2.2.1 rfl
theorem dL_law_2516 : decode cL_law 2516 = .ok (.iaload, 1) := dAt wdL_law_2510 adL_law_2510.2.2.2.2.2.1 rfl
theorem dL_law_2517 : decode cL_law 2517 = .ok (.aload_n 0, 1) := dAt wdL_law_2510 adL_law_2510.2.2.2.2.2.2.1 rfl
theorem dL_law_2518 : decode cL_law 2518 = .ok (.iload 4, 2) := dAt wdL_law_2510 adL_law_2510.2.2.2.2.2.2.2.1 rfl
theorem dL_law_2520 : decode cL_law 2520 = .ok (.iconst 2, 1) := dAt wdL_law_2510 adL_law_2510.2.2.2.2.2.2.2.2.1 rfl
theorem dL_law_2521 : decode cL_law 2521 = .ok (.iadd, 1) := dAt wdL_law_2510 adL_law_2510.2.2.2.2.2.2.2.2.2.1 rfl
theorem dL_law_2522 : decode cL_law 2522 = .ok (.iaload, 1) := dAt wdL_law_2510 adL_law_2510.2.2.2.2.2.2.2.2.2.2.1 rfl
theorem dL_law_2523 : decode cL_law 2523 = .ok (.aload_n 3, 1) := dAt wdL_law_2510 adL_law_2510.2.2.2.2.2.2.2.2.2.2.2.1 rfl
theorem dL_law_2524 : decode cL_law 2524 = .ok (.invokestatic 265, 3) := dAt wdL_law_2510 adL_law_2510.2.2.2.2.2.2.2.2.2.2.2.2.1 rfl
theorem dL_law_2527 : decode cL_law 2527 = .ok (.istore 5, 2) := dAt wdL_law_2510 adL_law_2510.2.2.2.2.2.2.2.2.2.2.2.2.2.1 rfl
theorem dL_law_2529 : decode cL_law 2529 = .ok (.aload_n 2, 1) := dAt wdL_law_2510 adL_law_2510.2.2.2.2.2.2.2.2.2.2.2.2.2.2.1 rfl
theorem dL_law_2530 : decode cL_law 2530 = .ok (.aload_n 0, 1) := dAt wdL_law_2510 adL_law_2510.2.2.2.2.2.2.2.2.2.2.2.2.2.2.2 rfl
def bdL_law_2531 : ByteArray := .mk #[21, 4, 4, 96, 46, 42, 21, 4, 5, 96, 46, 182, 1, 11, 54, 6, 44, 182, 0, 166, 21, 5, 159, 0, 5, 3]
theorem wdL_law_2531 : LocW cL_law 2531 bdL_law_2531 := loc_of (by decide +kernel)
theorem adL_law_2531 : De bdL_law_2531 0 (.iload 4) 2 ∧ De bdL_law_2531 2 (.iconst 1) 1 ∧ De bdL_law_2531 3 (.iadd) 1 ∧ De bdL_law_2531 4 (.iaload) 1 ∧ De bdL_law_2531 5 (.aload_n 0) 1 ∧ De bdL_law_2531 6 (.iload 4) 2 ∧ De bdL_law_2531 8 (.iconst 2) 1 ∧ De bdL_law_2531 9 (.iadd) 1 ∧ De bdL_law_2531 10 (.iaload) 1 ∧ De bdL_law_2531 11 (.invokevirtual 267) 3 ∧ De bdL_law_2531 14 (.istore 6) 2 ∧ De bdL_law_2531 16 (.aload_n 2) 1 ∧ De bdL_law_2531 17 (.invokevirtual 166) 3 ∧ De bdL_law_2531 20 (.iload 5) 2 ∧ De bdL_law_2531 22 (.if_icmp .eq 5) 3 ∧ De bdL_law_2531 25 (.iconst 0) 1 := by decide +kernel
theorem dL_law_2531 : decode cL_law 2531 = .ok (.iload 4, 2) := dAt wdL_law_2531 adL_law_2531.1 rfl
theorem dL_law_2533 : decode cL_law 2533 = .ok (.iconst 1, 1) := dAt wdL_law_2531 adL_law_2531.2.1 rfl
theorem dL_law_2534 : decode cL_law 2534 = .ok (.iadd, 1) := dAt wdL_law_2531 adL_law_2531.2.2.1 rfl
theorem dL_law_2535 : decode cL_law 2535 = .ok (.iaload, 1) := dAt wdL_law_2531 adL_law_2531.2.2.2.1 rfl
theorem dL_law_2536 : decode cL_law 2536 = .ok (.aload_n 0, 1) := dAt wdL_law_2531 adL_law_2531.2.2.2.2.1 rfl
theorem dL_law_2537 : decode cL_law 2537 = .ok (.iload 4, 2) := dAt wdL_law_2531 adL_law_2531.2.2.2.2.2.1 rfl
theorem dL_law_2539 : decode cL_law 2539 = .ok (.iconst 2, 1) := dAt wdL_law_2531 adL_law_2531.2.2.2.2.2.2.1 rfl
theorem dL_law_2540 : decode cL_law 2540 = .ok (.iadd, 1) := dAt wdL_law_2531 adL_law_2531.2.2.2.2.2.2.2.1 rfl
theorem dL_law_2541 : decode cL_law 2541 = .ok (.iaload, 1) := dAt wdL_law_2531 adL_law_2531.2.2.2.2.2.2.2.2.1 rfl
theorem dL_law_2542 : decode cL_law 2542 = .ok (.invokevirtual 267, 3) := dAt wdL_law_2531 adL_law_2531.2.2.2.2.2.2.2.2.2.1 rfl
theorem dL_law_2545 : decode cL_law 2545 = .ok (.istore 6, 2) := dAt wdL_law_2531 adL_law_2531.2.2.2.2.2.2.2.2.2.2.1 rfl
theorem dL_law_2547 : decode cL_law 2547 = .ok (.aload_n 2, 1) := dAt wdL_law_2531 adL_law_2531.2.2.2.2.2.2.2.2.2.2.2.1 rfl
theorem dL_law_2548 : decode cL_law 2548 = .ok (.invokevirtual 166, 3) := dAt wdL_law_2531 adL_law_2531.2.2.2.2.2.2.2.2.2.2.2.2.1 rfl
theorem dL_law_2551 : decode cL_law 2551 = .ok (.iload 5, 2) := dAt wdL_law_2531 adL_law_2531.2.2.2.2.2.2.2.2.2.2.2.2.2.1 rfl
theorem dL_law_2553 : decode cL_law 2553 = .ok (.if_icmp .eq 5, 3) := dAt wdL_law_2531 adL_law_2531.2.2.2.2.2.2.2.2.2.2.2.2.2.2.1 rfl
theorem dL_law_2556 : decode cL_law 2556 = .ok (.iconst 0, 1) := dAt wdL_law_2531 adL_law_2531.2.2.2.2.2.2.2.2.2.2.2.2.2.2.2 rfl
def bdL_law_2557 : ByteArray := .mk #[172, 21, 5, 154, 0, 15, 45, 3, 47, 21, 6, 133, 148, 153, 0, 5, 3, 172, 167, 2, 122, 43, 42, 21, 4]
theorem wdL_law_2557 : LocW cL_law 2557 bdL_law_2557 := loc_of (by decide +kernel)
theorem adL_law_2557 : De bdL_law_2557 0 (.ireturn) 1 ∧ De bdL_law_2557 1 (.iload 5) 2 ∧ De bdL_law_2557 3 (.ifCond .ne 15) 3 ∧ De bdL_law_2557 6 (.aload_n 3) 1 ∧ De bdL_law_2557 7 (.iconst 0) 1 ∧ De bdL_law_2557 8 (.laload) 1 ∧ De bdL_law_2557 9 (.iload 6) 2 ∧ De bdL_law_2557 11 (.i2l) 1 ∧ De bdL_law_2557 12 (.lcmp) 1 ∧ De bdL_law_2557 13 (.ifCond .eq 5) 3 ∧ De bdL_law_2557 16 (.iconst 0) 1 ∧ De bdL_law_2557 17 (.ireturn) 1 ∧ De bdL_law_2557 18 (.goto 634) 3 ∧ De bdL_law_2557 21 (.aload_n 1) 1 ∧ De bdL_law_2557 22 (.aload_n 0) 1 ∧ De bdL_law_2557 23 (.iload 4) 2 := by decide +kernel
theorem dL_law_2557 : decode cL_law 2557 = .ok (.ireturn, 1) := dAt wdL_law_2557 adL_law_2557.1 rfl
theorem dL_law_2558 : decode cL_law 2558 = .ok (.iload 5, 2) := dAt wdL_law_2557 adL_law_2557.2.1 rfl
theorem dL_law_2560 : decode cL_law 2560 = .ok (.ifCond .ne 15, 3) := dAt wdL_law_2557 adL_law_2557.2.2.1 rfl
theorem dL_law_2563 : decode cL_law 2563 = .ok (.aload_n 3, 1) := dAt wdL_law_2557 adL_law_2557.2.2.2.1 rfl
theorem dL_law_2564 : decode cL_law 2564 = .ok (.iconst 0, 1) := dAt wdL_law_2557 adL_law_2557.2.2.2.2.1 rfl
theorem dL_law_2565 : decode cL_law 2565 = .ok (.laload, 1) := dAt wdL_law_2557 adL_law_2557.2.2.2.2.2.1 rfl
theorem dL_law_2566 : decode cL_law 2566 = .ok (.iload 6, 2) := dAt wdL_law_2557 adL_law_2557.2.2.2.2.2.2.1 rfl
theorem dL_law_2568 : decode cL_law 2568 = .ok (.i2l, 1) := dAt wdL_law_2557 adL_law_2557.2.2.2.2.2.2.2.1 rfl
theorem dL_law_2569 : decode cL_law 2569 = .ok (.lcmp, 1) := dAt wdL_law_2557 adL_law_2557.2.2.2.2.2.2.2.2.1 rfl
theorem dL_law_2570 : decode cL_law 2570 = .ok (.ifCond .eq 5, 3) := dAt wdL_law_2557 adL_law_2557.2.2.2.2.2.2.2.2.2.1 rfl
theorem dL_law_2573 : decode cL_law 2573 = .ok (.iconst 0, 1) := dAt wdL_law_2557 adL_law_2557.2.2.2.2.2.2.2.2.2.2.1 rfl
theorem dL_law_2574 : decode cL_law 2574 = .ok (.ireturn, 1) := dAt wdL_law_2557 adL_law_2557.2.2.2.2.2.2.2.2.2.2.2.1 rfl
theorem dL_law_2575 : decode cL_law 2575 = .ok (.goto 634, 3) := dAt wdL_law_2557 adL_law_2557.2.2.2.2.2.2.2.2.2.2.2.2.1 rfl
theorem dL_law_2578 : decode cL_law 2578 = .ok (.aload_n 1, 1) := dAt wdL_law_2557 adL_law_2557.2.2.2.2.2.2.2.2.2.2.2.2.2.1 rfl
theorem dL_law_2579 : decode cL_law 2579 = .ok (.aload_n 0, 1) := dAt wdL_law_2557 adL_law_2557.2.2.2.2.2.2.2.2.2.2.2.2.2.2.1 rfl
theorem dL_law_2580 : decode cL_law 2580 = .ok (.iload 4, 2) := dAt wdL_law_2557 adL_law_2557.2.2.2.2.2.2.2.2.2.2.2.2.2.2.2 rfl
def bdL_law_2582 : ByteArray := .mk #[4, 96, 46, 42, 21, 4, 5, 96, 46, 45, 184, 1, 12, 54, 5, 44, 42, 21, 4, 4, 96]
theorem wdL_law_2582 : LocW cL_law 2582 bdL_law_2582 := loc_of (by decide +kernel)
theorem adL_law_2582 : De bdL_law_2582 0 (.iconst 1) 1 ∧ De bdL_law_2582 1 (.iadd) 1 ∧ De bdL_law_2582 2 (.iaload) 1 ∧ De bdL_law_2582 3 (.aload_n 0) 1 ∧ De bdL_law_2582 4 (.iload 4) 2 ∧ De bdL_law_2582 6 (.iconst 2) 1 ∧ De bdL_law_2582 7 (.iadd) 1 ∧ De bdL_law_2582 8 (.iaload) 1 ∧ De bdL_law_2582 9 (.aload_n 3) 1 ∧ De bdL_law_2582 10 (.invokestatic 268) 3 ∧ De bdL_law_2582 13 (.istore 5) 2 ∧ De bdL_law_2582 15 (.aload_n 2) 1 ∧ De bdL_law_2582 16 (.aload_n 0) 1 ∧ De bdL_law_2582 17 (.iload 4) 2 ∧ De bdL_law_2582 19 (.iconst 1) 1 ∧ De bdL_law_2582 20 (.iadd) 1 := by decide +kernel
theorem dL_law_2582 : decode cL_law 2582 = .ok (.iconst 1, 1) := dAt wdL_law_2582 adL_law_2582.1 rfl
theorem dL_law_2583 : decode cL_law 2583 = .ok (.iadd, 1) := dAt wdL_law_2582 adL_law_2582.2.1 rfl
theorem dL_law_2584 : decode cL_law 2584 = .ok (.iaload, 1) := dAt wdL_law_2582 adL_law_2582.2.2.1 rfl
theorem dL_law_2585 : decode cL_law 2585 = .ok (.aload_n 0, 1) := dAt wdL_law_2582 adL_law_2582.2.2.2.1 rfl
theorem dL_law_2586 : decode cL_law 2586 = .ok (.iload 4, 2) := dAt wdL_law_2582 adL_law_2582.2.2.2.2.1 rfl
theorem dL_law_2588 : decode cL_law 2588 = .ok (.iconst 2, 1) := dAt wdL_law_2582 adL_law_2582.2.2.2.2.2.1 rfl
theorem dL_law_2589 : decode cL_law 2589 = .ok (.iadd, 1) := dAt wdL_law_2582 adL_law_2582.2.2.2.2.2.2.1 rfl
theorem dL_law_2590 : decode cL_law 2590 = .ok (.iaload, 1) := dAt wdL_law_2582 adL_law_2582.2.2.2.2.2.2.2.1 rfl
theorem dL_law_2591 : decode cL_law 2591 = .ok (.aload_n 3, 1) := dAt wdL_law_2582 adL_law_2582.2.2.2.2.2.2.2.2.1 rfl
theorem dL_law_2592 : decode cL_law 2592 = .ok (.invokestatic 268, 3) := dAt wdL_law_2582 adL_law_2582.2.2.2.2.2.2.2.2.2.1 rfl
theorem dL_law_2595 : decode cL_law 2595 = .ok (.istore 5, 2) := dAt wdL_law_2582 adL_law_2582.2.2.2.2.2.2.2.2.2.2.1 rfl
theorem dL_law_2597 : decode cL_law 2597 = .ok (.aload_n 2, 1) := dAt wdL_law_2582 adL_law_2582.2.2.2.2.2.2.2.2.2.2.2.1 rfl
theorem dL_law_2598 : decode cL_law 2598 = .ok (.aload_n 0, 1) := dAt wdL_law_2582 adL_law_2582.2.2.2.2.2.2.2.2.2.2.2.2.1 rfl
theorem dL_law_2599 : decode cL_law 2599 = .ok (.iload 4, 2) := dAt wdL_law_2582 adL_law_2582.2.2.2.2.2.2.2.2.2.2.2.2.2.1 rfl
theorem dL_law_2601 : decode cL_law 2601 = .ok (.iconst 1, 1) := dAt wdL_law_2582 adL_law_2582.2.2.2.2.2.2.2.2.2.2.2.2.2.2.1 rfl
theorem dL_law_2602 : decode cL_law 2602 = .ok (.iadd, 1) := dAt wdL_law_2582 adL_law_2582.2.2.2.2.2.2.2.2.2.2.2.2.2.2.2 rfl
def bdL_law_2603 : ByteArray := .mk #[46, 42, 21, 4, 5, 96, 46, 182, 1, 14, 54, 6, 44, 182, 0, 166, 21, 5, 159, 0, 5, 3, 172, 21, 5, 154, 0, 15]
theorem wdL_law_2603 : LocW cL_law 2603 bdL_law_2603 := loc_of (by decide +kernel)
theorem adL_law_2603 : De bdL_law_2603 0 (.iaload) 1 ∧ De bdL_law_2603 1 (.aload_n 0) 1 ∧ De bdL_law_2603 2 (.iload 4) 2 ∧ De bdL_law_2603 4 (.iconst 2) 1 ∧ De bdL_law_2603 5 (.iadd) 1 ∧ De bdL_law_2603 6 (.iaload) 1 ∧ De bdL_law_2603 7 (.invokevirtual 270) 3 ∧ De bdL_law_2603 10 (.istore 6) 2 ∧ De bdL_law_2603 12 (.aload_n 2) 1 ∧ De bdL_law_2603 13 (.invokevirtual 166) 3 ∧ De bdL_law_2603 16 (.iload 5) 2 ∧ De bdL_law_2603 18 (.if_icmp .eq 5) 3 ∧ De bdL_law_2603 21 (.iconst 0) 1 ∧ De bdL_law_2603 22 (.ireturn) 1 ∧ De bdL_law_2603 23 (.iload 5) 2 ∧ De bdL_law_2603 25 (.ifCond .ne 15) 3 := by decide +kernel
theorem dL_law_2603 : decode cL_law 2603 = .ok (.iaload, 1) := dAt wdL_law_2603 adL_law_2603.1 rfl
theorem dL_law_2604 : decode cL_law 2604 = .ok (.aload_n 0, 1) := dAt wdL_law_2603 adL_law_2603.2.1 rfl
theorem dL_law_2605 : decode cL_law 2605 = .ok (.iload 4, 2) := dAt wdL_law_2603 adL_law_2603.2.2.1 rfl
theorem dL_law_2607 : decode cL_law 2607 = .ok (.iconst 2, 1) := dAt wdL_law_2603 adL_law_2603.2.2.2.1 rfl
theorem dL_law_2608 : decode cL_law 2608 = .ok (.iadd, 1) := dAt wdL_law_2603 adL_law_2603.2.2.2.2.1 rfl
theorem dL_law_2609 : decode cL_law 2609 = .ok (.iaload, 1) := dAt wdL_law_2603 adL_law_2603.2.2.2.2.2.1 rfl
theorem dL_law_2610 : decode cL_law 2610 = .ok (.invokevirtual 270, 3) := dAt wdL_law_2603 adL_law_2603.2.2.2.2.2.2.1 rfl
theorem dL_law_2613 : decode cL_law 2613 = .ok (.istore 6, 2) := dAt wdL_law_2603 adL_law_2603.2.2.2.2.2.2.2.1 rfl
theorem dL_law_2615 : decode cL_law 2615 = .ok (.aload_n 2, 1) := dAt wdL_law_2603 adL_law_2603.2.2.2.2.2.2.2.2.1 rfl
theorem dL_law_2616 : decode cL_law 2616 = .ok (.invokevirtual 166, 3) := dAt wdL_law_2603 adL_law_2603.2.2.2.2.2.2.2.2.2.1 rfl
theorem dL_law_2619 : decode cL_law 2619 = .ok (.iload 5, 2) := dAt wdL_law_2603 adL_law_2603.2.2.2.2.2.2.2.2.2.2.1 rfl
theorem dL_law_2621 : decode cL_law 2621 = .ok (.if_icmp .eq 5, 3) := dAt wdL_law_2603 adL_law_2603.2.2.2.2.2.2.2.2.2.2.2.1 rfl
theorem dL_law_2624 : decode cL_law 2624 = .ok (.iconst 0, 1) := dAt wdL_law_2603 adL_law_2603.2.2.2.2.2.2.2.2.2.2.2.2.1 rfl
theorem dL_law_2625 : decode cL_law 2625 = .ok (.ireturn, 1) := dAt wdL_law_2603 adL_law_2603.2.2.2.2.2.2.2.2.2.2.2.2.2.1 rfl
theorem dL_law_2626 : decode cL_law 2626 = .ok (.iload 5, 2) := dAt wdL_law_2603 adL_law_2603.2.2.2.2.2.2.2.2.2.2.2.2.2.2.1 rfl
theorem dL_law_2628 : decode cL_law 2628 = .ok (.ifCond .ne 15, 3) := dAt wdL_law_2603 adL_law_2603.2.2.2.2.2.2.2.2.2.2.2.2.2.2.2 rfl
def bdL_law_2631 : ByteArray := .mk #[45, 3, 47, 21, 6, 133, 148, 153, 0, 5, 3, 172, 167, 2, 54, 43, 42, 21, 4, 4, 96, 46]
theorem wdL_law_2631 : LocW cL_law 2631 bdL_law_2631 := loc_of (by decide +kernel)
theorem adL_law_2631 : De bdL_law_2631 0 (.aload_n 3) 1 ∧ De bdL_law_2631 1 (.iconst 0) 1 ∧ De bdL_law_2631 2 (.laload) 1 ∧ De bdL_law_2631 3 (.iload 6) 2 ∧ De bdL_law_2631 5 (.i2l) 1 ∧ De bdL_law_2631 6 (.lcmp) 1 ∧ De bdL_law_2631 7 (.ifCond .eq 5) 3 ∧ De bdL_law_2631 10 (.iconst 0) 1 ∧ De bdL_law_2631 11 (.ireturn) 1 ∧ De bdL_law_2631 12 (.goto 566) 3 ∧ De bdL_law_2631 15 (.aload_n 1) 1 ∧ De bdL_law_2631 16 (.aload_n 0) 1 ∧ De bdL_law_2631 17 (.iload 4) 2 ∧ De bdL_law_2631 19 (.iconst 1) 1 ∧ De bdL_law_2631 20 (.iadd) 1 ∧ De bdL_law_2631 21 (.iaload) 1 := by decide +kernel
theorem dL_law_2631 : decode cL_law 2631 = .ok (.aload_n 3, 1) := dAt wdL_law_2631 adL_law_2631.1 rfl
theorem dL_law_2632 : decode cL_law 2632 = .ok (.iconst 0, 1) := dAt wdL_law_2631 adL_law_2631.2.1 rfl
theorem dL_law_2633 : decode cL_law 2633 = .ok (.laload, 1) := dAt wdL_law_2631 adL_law_2631.2.2.1 rfl
theorem dL_law_2634 : decode cL_law 2634 = .ok (.iload 6, 2) := dAt wdL_law_2631 adL_law_2631.2.2.2.1 rfl
theorem dL_law_2636 : decode cL_law 2636 = .ok (.i2l, 1) := dAt wdL_law_2631 adL_law_2631.2.2.2.2.1 rfl
theorem dL_law_2637 : decode cL_law 2637 = .ok (.lcmp, 1) := dAt wdL_law_2631 adL_law_2631.2.2.2.2.2.1 rfl
theorem dL_law_2638 : decode cL_law 2638 = .ok (.ifCond .eq 5, 3) := dAt wdL_law_2631 adL_law_2631.2.2.2.2.2.2.1 rfl
theorem dL_law_2641 : decode cL_law 2641 = .ok (.iconst 0, 1) := dAt wdL_law_2631 adL_law_2631.2.2.2.2.2.2.2.1 rfl
theorem dL_law_2642 : decode cL_law 2642 = .ok (.ireturn, 1) := dAt wdL_law_2631 adL_law_2631.2.2.2.2.2.2.2.2.1 rfl
theorem dL_law_2643 : decode cL_law 2643 = .ok (.goto 566, 3) := dAt wdL_law_2631 adL_law_2631.2.2.2.2.2.2.2.2.2.1 rfl
theorem dL_law_2646 : decode cL_law 2646 = .ok (.aload_n 1, 1) := dAt wdL_law_2631 adL_law_2631.2.2.2.2.2.2.2.2.2.2.1 rfl
theorem dL_law_2647 : decode cL_law 2647 = .ok (.aload_n 0, 1) := dAt wdL_law_2631 adL_law_2631.2.2.2.2.2.2.2.2.2.2.2.1 rfl
theorem dL_law_2648 : decode cL_law 2648 = .ok (.iload 4, 2) := dAt wdL_law_2631 adL_law_2631.2.2.2.2.2.2.2.2.2.2.2.2.1 rfl
theorem dL_law_2650 : decode cL_law 2650 = .ok (.iconst 1, 1) := dAt wdL_law_2631 adL_law_2631.2.2.2.2.2.2.2.2.2.2.2.2.2.1 rfl
theorem dL_law_2651 : decode cL_law 2651 = .ok (.iadd, 1) := dAt wdL_law_2631 adL_law_2631.2.2.2.2.2.2.2.2.2.2.2.2.2.2.1 rfl
theorem dL_law_2652 : decode cL_law 2652 = .ok (.iaload, 1) := dAt wdL_law_2631 adL_law_2631.2.2.2.2.2.2.2.2.2.2.2.2.2.2.2 rfl
def bdL_law_2653 : ByteArray := .mk #[42, 21, 4, 5, 96, 46, 42, 21, 4, 6, 96, 46, 45, 184, 1, 15, 54, 5, 44, 42, 21, 4]
theorem wdL_law_2653 : LocW cL_law 2653 bdL_law_2653 := loc_of (by decide +kernel)
theorem adL_law_2653 : De bdL_law_2653 0 (.aload_n 0) 1 ∧ De bdL_law_2653 1 (.iload 4) 2 ∧ De bdL_law_2653 3 (.iconst 2) 1 ∧ De bdL_law_2653 4 (.iadd) 1 ∧ De bdL_law_2653 5 (.iaload) 1 ∧ De bdL_law_2653 6 (.aload_n 0) 1 ∧ De bdL_law_2653 7 (.iload 4) 2 ∧ De bdL_law_2653 9 (.iconst 3) 1 ∧ De bdL_law_2653 10 (.iadd) 1 ∧ De bdL_law_2653 11 (.iaload) 1 ∧ De bdL_law_2653 12 (.aload_n 3) 1 ∧ De bdL_law_2653 13 (.invokestatic 271) 3 ∧ De bdL_law_2653 16 (.istore 5) 2 ∧ De bdL_law_2653 18 (.aload_n 2) 1 ∧ De bdL_law_2653 19 (.aload_n 0) 1 ∧ De bdL_law_2653 20 (.iload 4) 2 := by decide +kernel
theorem dL_law_2653 : decode cL_law 2653 = .ok (.aload_n 0, 1) := dAt wdL_law_2653 adL_law_2653.1 rfl
theorem dL_law_2654 : decode cL_law 2654 = .ok (.iload 4, 2) := dAt wdL_law_2653 adL_law_2653.2.1 rfl
theorem dL_law_2656 : decode cL_law 2656 = .ok (.iconst 2, 1) := dAt wdL_law_2653 adL_law_2653.2.2.1 rfl
theorem dL_law_2657 : decode cL_law 2657 = .ok (.iadd, 1) := dAt wdL_law_2653 adL_law_2653.2.2.2.1 rfl
theorem dL_law_2658 : decode cL_law 2658 = .ok (.iaload, 1) := dAt wdL_law_2653 adL_law_2653.2.2.2.2.1 rfl
theorem dL_law_2659 : decode cL_law 2659 = .ok (.aload_n 0, 1) := dAt wdL_law_2653 adL_law_2653.2.2.2.2.2.1 rfl
theorem dL_law_2660 : decode cL_law 2660 = .ok (.iload 4, 2) := dAt wdL_law_2653 adL_law_2653.2.2.2.2.2.2.1 rfl
theorem dL_law_2662 : decode cL_law 2662 = .ok (.iconst 3, 1) := dAt wdL_law_2653 adL_law_2653.2.2.2.2.2.2.2.1 rfl
theorem dL_law_2663 : decode cL_law 2663 = .ok (.iadd, 1) := dAt wdL_law_2653 adL_law_2653.2.2.2.2.2.2.2.2.1 rfl
theorem dL_law_2664 : decode cL_law 2664 = .ok (.iaload, 1) := dAt wdL_law_2653 adL_law_2653.2.2.2.2.2.2.2.2.2.1 rfl
theorem dL_law_2665 : decode cL_law 2665 = .ok (.aload_n 3, 1) := dAt wdL_law_2653 adL_law_2653.2.2.2.2.2.2.2.2.2.2.1 rfl
theorem dL_law_2666 : decode cL_law 2666 = .ok (.invokestatic 271, 3) := dAt wdL_law_2653 adL_law_2653.2.2.2.2.2.2.2.2.2.2.2.1 rfl
theorem dL_law_2669 : decode cL_law 2669 = .ok (.istore 5, 2) := dAt wdL_law_2653 adL_law_2653.2.2.2.2.2.2.2.2.2.2.2.2.1 rfl
theorem dL_law_2671 : decode cL_law 2671 = .ok (.aload_n 2, 1) := dAt wdL_law_2653 adL_law_2653.2.2.2.2.2.2.2.2.2.2.2.2.2.1 rfl
theorem dL_law_2672 : decode cL_law 2672 = .ok (.aload_n 0, 1) := dAt wdL_law_2653 adL_law_2653.2.2.2.2.2.2.2.2.2.2.2.2.2.2.1 rfl
theorem dL_law_2673 : decode cL_law 2673 = .ok (.iload 4, 2) := dAt wdL_law_2653 adL_law_2653.2.2.2.2.2.2.2.2.2.2.2.2.2.2.2 rfl
def bdL_law_2675 : ByteArray := .mk #[4, 96, 46, 42, 21, 4, 5, 96, 46, 42, 21, 4, 6, 96, 46, 182, 1, 17, 54, 6, 44]
theorem wdL_law_2675 : LocW cL_law 2675 bdL_law_2675 := loc_of (by decide +kernel)
theorem adL_law_2675 : De bdL_law_2675 0 (.iconst 1) 1 ∧ De bdL_law_2675 1 (.iadd) 1 ∧ De bdL_law_2675 2 (.iaload) 1 ∧ De bdL_law_2675 3 (.aload_n 0) 1 ∧ De bdL_law_2675 4 (.iload 4) 2 ∧ De bdL_law_2675 6 (.iconst 2) 1 ∧ De bdL_law_2675 7 (.iadd) 1 ∧ De bdL_law_2675 8 (.iaload) 1 ∧ De bdL_law_2675 9 (.aload_n 0) 1 ∧ De bdL_law_2675 10 (.iload 4) 2 ∧ De bdL_law_2675 12 (.iconst 3) 1 ∧ De bdL_law_2675 13 (.iadd) 1 ∧ De bdL_law_2675 14 (.iaload) 1 ∧ De bdL_law_2675 15 (.invokevirtual 273) 3 ∧ De bdL_law_2675 18 (.istore 6) 2 ∧ De bdL_law_2675 20 (.aload_n 2) 1 := by decide +kernel
theorem dL_law_2675 : decode cL_law 2675 = .ok (.iconst 1, 1) := dAt wdL_law_2675 adL_law_2675.1 rfl
theorem dL_law_2676 : decode cL_law 2676 = .ok (.iadd, 1) := dAt wdL_law_2675 adL_law_2675.2.1 rfl
theorem dL_law_2677 : decode cL_law 2677 = .ok (.iaload, 1) := dAt wdL_law_2675 adL_law_2675.2.2.1 rfl
theorem dL_law_2678 : decode cL_law 2678 = .ok (.aload_n 0, 1) := dAt wdL_law_2675 adL_law_2675.2.2.2.1 rfl
theorem dL_law_2679 : decode cL_law 2679 = .ok (.iload 4, 2) := dAt wdL_law_2675 adL_law_2675.2.2.2.2.1 rfl
theorem dL_law_2681 : decode cL_law 2681 = .ok (.iconst 2, 1) := dAt wdL_law_2675 adL_law_2675.2.2.2.2.2.1 rfl
theorem dL_law_2682 : decode cL_law 2682 = .ok (.iadd, 1) := dAt wdL_law_2675 adL_law_2675.2.2.2.2.2.2.1 rfl
theorem dL_law_2683 : decode cL_law 2683 = .ok (.iaload, 1) := dAt wdL_law_2675 adL_law_2675.2.2.2.2.2.2.2.1 rfl
theorem dL_law_2684 : decode cL_law 2684 = .ok (.aload_n 0, 1) := dAt wdL_law_2675 adL_law_2675.2.2.2.2.2.2.2.2.1 rfl
theorem dL_law_2685 : decode cL_law 2685 = .ok (.iload 4, 2) := dAt wdL_law_2675 adL_law_2675.2.2.2.2.2.2.2.2.2.1 rfl
theorem dL_law_2687 : decode cL_law 2687 = .ok (.iconst 3, 1) := dAt wdL_law_2675 adL_law_2675.2.2.2.2.2.2.2.2.2.2.1 rfl
theorem dL_law_2688 : decode cL_law 2688 = .ok (.iadd, 1) := dAt wdL_law_2675 adL_law_2675.2.2.2.2.2.2.2.2.2.2.2.1 rfl
theorem dL_law_2689 : decode cL_law 2689 = .ok (.iaload, 1) := dAt wdL_law_2675 adL_law_2675.2.2.2.2.2.2.2.2.2.2.2.2.1 rfl
theorem dL_law_2690 : decode cL_law 2690 = .ok (.invokevirtual 273, 3) := dAt wdL_law_2675 adL_law_2675.2.2.2.2.2.2.2.2.2.2.2.2.2.1 rfl
theorem dL_law_2693 : decode cL_law 2693 = .ok (.istore 6, 2) := dAt wdL_law_2675 adL_law_2675.2.2.2.2.2.2.2.2.2.2.2.2.2.2.1 rfl
theorem dL_law_2695 : decode cL_law 2695 = .ok (.aload_n 2, 1) := dAt wdL_law_2675 adL_law_2675.2.2.2.2.2.2.2.2.2.2.2.2.2.2.2 rfl
def bdL_law_2696 : ByteArray := .mk #[182, 0, 166, 21, 5, 159, 0, 5, 3, 172, 21, 5, 154, 0, 15, 45, 3, 47, 21, 6, 133, 148, 153, 0, 5, 3, 172]
theorem wdL_law_2696 : LocW cL_law 2696 bdL_law_2696 := loc_of (by decide +kernel)
theorem adL_law_2696 : De bdL_law_2696 0 (.invokevirtual 166) 3 ∧ De bdL_law_2696 3 (.iload 5) 2 ∧ De bdL_law_2696 5 (.if_icmp .eq 5) 3 ∧ De bdL_law_2696 8 (.iconst 0) 1 ∧ De bdL_law_2696 9 (.ireturn) 1 ∧ De bdL_law_2696 10 (.iload 5) 2 ∧ De bdL_law_2696 12 (.ifCond .ne 15) 3 ∧ De bdL_law_2696 15 (.aload_n 3) 1 ∧ De bdL_law_2696 16 (.iconst 0) 1 ∧ De bdL_law_2696 17 (.laload) 1 ∧ De bdL_law_2696 18 (.iload 6) 2 ∧ De bdL_law_2696 20 (.i2l) 1 ∧ De bdL_law_2696 21 (.lcmp) 1 ∧ De bdL_law_2696 22 (.ifCond .eq 5) 3 ∧ De bdL_law_2696 25 (.iconst 0) 1 ∧ De bdL_law_2696 26 (.ireturn) 1 := by decide +kernel
theorem dL_law_2696 : decode cL_law 2696 = .ok (.invokevirtual 166, 3) := dAt wdL_law_2696 adL_law_2696.1 rfl
theorem dL_law_2699 : decode cL_law 2699 = .ok (.iload 5, 2) := dAt wdL_law_2696 adL_law_2696.2.1 rfl
theorem dL_law_2701 : decode cL_law 2701 = .ok (.if_icmp .eq 5, 3) := dAt wdL_law_2696 adL_law_2696.2.2.1 rfl
theorem dL_law_2704 : decode cL_law 2704 = .ok (.iconst 0, 1) := dAt wdL_law_2696 adL_law_2696.2.2.2.1 rfl
theorem dL_law_2705 : decode cL_law 2705 = .ok (.ireturn, 1) := dAt wdL_law_2696 adL_law_2696.2.2.2.2.1 rfl
theorem dL_law_2706 : decode cL_law 2706 = .ok (.iload 5, 2) := dAt wdL_law_2696 adL_law_2696.2.2.2.2.2.1 rfl
theorem dL_law_2708 : decode cL_law 2708 = .ok (.ifCond .ne 15, 3) := dAt wdL_law_2696 adL_law_2696.2.2.2.2.2.2.1 rfl
theorem dL_law_2711 : decode cL_law 2711 = .ok (.aload_n 3, 1) := dAt wdL_law_2696 adL_law_2696.2.2.2.2.2.2.2.1 rfl
theorem dL_law_2712 : decode cL_law 2712 = .ok (.iconst 0, 1) := dAt wdL_law_2696 adL_law_2696.2.2.2.2.2.2.2.2.1 rfl
theorem dL_law_2713 : decode cL_law 2713 = .ok (.laload, 1) := dAt wdL_law_2696 adL_law_2696.2.2.2.2.2.2.2.2.2.1 rfl
theorem dL_law_2714 : decode cL_law 2714 = .ok (.iload 6, 2) := dAt wdL_law_2696 adL_law_2696.2.2.2.2.2.2.2.2.2.2.1 rfl
theorem dL_law_2716 : decode cL_law 2716 = .ok (.i2l, 1) := dAt wdL_law_2696 adL_law_2696.2.2.2.2.2.2.2.2.2.2.2.1 rfl
theorem dL_law_2717 : decode cL_law 2717 = .ok (.lcmp, 1) := dAt wdL_law_2696 adL_law_2696.2.2.2.2.2.2.2.2.2.2.2.2.1 rfl
theorem dL_law_2718 : decode cL_law 2718 = .ok (.ifCond .eq 5, 3) := dAt wdL_law_2696 adL_law_2696.2.2.2.2.2.2.2.2.2.2.2.2.2.1 rfl
theorem dL_law_2721 : decode cL_law 2721 = .ok (.iconst 0, 1) := dAt wdL_law_2696 adL_law_2696.2.2.2.2.2.2.2.2.2.2.2.2.2.2.1 rfl
theorem dL_law_2722 : decode cL_law 2722 = .ok (.ireturn, 1) := dAt wdL_law_2696 adL_law_2696.2.2.2.2.2.2.2.2.2.2.2.2.2.2.2 rfl
def bdL_law_2723 : ByteArray := .mk #[167, 1, 230, 43, 45, 184, 1, 18, 54, 5, 44, 182, 1, 21, 54, 6, 44, 182, 0, 166, 21, 5, 159, 0, 5, 3, 172, 21, 5, 154, 0, 15]
theorem wdL_law_2723 : LocW cL_law 2723 bdL_law_2723 := loc_of (by decide +kernel)
theorem adL_law_2723 : De bdL_law_2723 0 (.goto 486) 3 ∧ De bdL_law_2723 3 (.aload_n 1) 1 ∧ De bdL_law_2723 4 (.aload_n 3) 1 ∧ De bdL_law_2723 5 (.invokestatic 274) 3 ∧ De bdL_law_2723 8 (.istore 5) 2 ∧ De bdL_law_2723 10 (.aload_n 2) 1 ∧ De bdL_law_2723 11 (.invokevirtual 277) 3 ∧ De bdL_law_2723 14 (.istore 6) 2 ∧ De bdL_law_2723 16 (.aload_n 2) 1 ∧ De bdL_law_2723 17 (.invokevirtual 166) 3 ∧ De bdL_law_2723 20 (.iload 5) 2 ∧ De bdL_law_2723 22 (.if_icmp .eq 5) 3 ∧ De bdL_law_2723 25 (.iconst 0) 1 ∧ De bdL_law_2723 26 (.ireturn) 1 ∧ De bdL_law_2723 27 (.iload 5) 2 ∧ De bdL_law_2723 29 (.ifCond .ne 15) 3 := by decide +kernel
theorem dL_law_2723 : decode cL_law 2723 = .ok (.goto 486, 3) := dAt wdL_law_2723 adL_law_2723.1 rfl
theorem dL_law_2726 : decode cL_law 2726 = .ok (.aload_n 1, 1) := dAt wdL_law_2723 adL_law_2723.2.1 rfl
theorem dL_law_2727 : decode cL_law 2727 = .ok (.aload_n 3, 1) := dAt wdL_law_2723 adL_law_2723.2.2.1 rfl
theorem dL_law_2728 : decode cL_law 2728 = .ok (.invokestatic 274, 3) := dAt wdL_law_2723 adL_law_2723.2.2.2.1 rfl
theorem dL_law_2731 : decode cL_law 2731 = .ok (.istore 5, 2) := dAt wdL_law_2723 adL_law_2723.2.2.2.2.1 rfl
theorem dL_law_2733 : decode cL_law 2733 = .ok (.aload_n 2, 1) := dAt wdL_law_2723 adL_law_2723.2.2.2.2.2.1 rfl
theorem dL_law_2734 : decode cL_law 2734 = .ok (.invokevirtual 277, 3) := dAt wdL_law_2723 adL_law_2723.2.2.2.2.2.2.1 rfl
theorem dL_law_2737 : decode cL_law 2737 = .ok (.istore 6, 2) := dAt wdL_law_2723 adL_law_2723.2.2.2.2.2.2.2.1 rfl
theorem dL_law_2739 : decode cL_law 2739 = .ok (.aload_n 2, 1) := dAt wdL_law_2723 adL_law_2723.2.2.2.2.2.2.2.2.1 rfl
theorem dL_law_2740 : decode cL_law 2740 = .ok (.invokevirtual 166, 3) := dAt wdL_law_2723 adL_law_2723.2.2.2.2.2.2.2.2.2.1 rfl
theorem dL_law_2743 : decode cL_law 2743 = .ok (.iload 5, 2) := dAt wdL_law_2723 adL_law_2723.2.2.2.2.2.2.2.2.2.2.1 rfl
theorem dL_law_2745 : decode cL_law 2745 = .ok (.if_icmp .eq 5, 3) := dAt wdL_law_2723 adL_law_2723.2.2.2.2.2.2.2.2.2.2.2.1 rfl
theorem dL_law_2748 : decode cL_law 2748 = .ok (.iconst 0, 1) := dAt wdL_law_2723 adL_law_2723.2.2.2.2.2.2.2.2.2.2.2.2.1 rfl
theorem dL_law_2749 : decode cL_law 2749 = .ok (.ireturn, 1) := dAt wdL_law_2723 adL_law_2723.2.2.2.2.2.2.2.2.2.2.2.2.2.1 rfl
theorem dL_law_2750 : decode cL_law 2750 = .ok (.iload 5, 2) := dAt wdL_law_2723 adL_law_2723.2.2.2.2.2.2.2.2.2.2.2.2.2.2.1 rfl
theorem dL_law_2752 : decode cL_law 2752 = .ok (.ifCond .ne 15, 3) := dAt wdL_law_2723 adL_law_2723.2.2.2.2.2.2.2.2.2.2.2.2.2.2.2 rfl
def bdL_law_2755 : ByteArray := .mk #[45, 3, 47, 21, 6, 133, 148, 153, 0, 5, 3, 172, 167, 1, 186, 43, 42, 21, 4, 4, 96, 46]
theorem wdL_law_2755 : LocW cL_law 2755 bdL_law_2755 := loc_of (by decide +kernel)
theorem adL_law_2755 : De bdL_law_2755 0 (.aload_n 3) 1 ∧ De bdL_law_2755 1 (.iconst 0) 1 ∧ De bdL_law_2755 2 (.laload) 1 ∧ De bdL_law_2755 3 (.iload 6) 2 ∧ De bdL_law_2755 5 (.i2l) 1 ∧ De bdL_law_2755 6 (.lcmp) 1 ∧ De bdL_law_2755 7 (.ifCond .eq 5) 3 ∧ De bdL_law_2755 10 (.iconst 0) 1 ∧ De bdL_law_2755 11 (.ireturn) 1 ∧ De bdL_law_2755 12 (.goto 442) 3 ∧ De bdL_law_2755 15 (.aload_n 1) 1 ∧ De bdL_law_2755 16 (.aload_n 0) 1 ∧ De bdL_law_2755 17 (.iload 4) 2 ∧ De bdL_law_2755 19 (.iconst 1) 1 ∧ De bdL_law_2755 20 (.iadd) 1 ∧ De bdL_law_2755 21 (.iaload) 1 := by decide +kernel
theorem dL_law_2755 : decode cL_law 2755 = .ok (.aload_n 3, 1) := dAt wdL_law_2755 adL_law_2755.1 rfl
theorem dL_law_2756 : decode cL_law 2756 = .ok (.iconst 0, 1) := dAt wdL_law_2755 adL_law_2755.2.1 rfl
theorem dL_law_2757 : decode cL_law 2757 = .ok (.laload, 1) := dAt wdL_law_2755 adL_law_2755.2.2.1 rfl
theorem dL_law_2758 : decode cL_law 2758 = .ok (.iload 6, 2) := dAt wdL_law_2755 adL_law_2755.2.2.2.1 rfl
theorem dL_law_2760 : decode cL_law 2760 = .ok (.i2l, 1) := dAt wdL_law_2755 adL_law_2755.2.2.2.2.1 rfl
theorem dL_law_2761 : decode cL_law 2761 = .ok (.lcmp, 1) := dAt wdL_law_2755 adL_law_2755.2.2.2.2.2.1 rfl
theorem dL_law_2762 : decode cL_law 2762 = .ok (.ifCond .eq 5, 3) := dAt wdL_law_2755 adL_law_2755.2.2.2.2.2.2.1 rfl
theorem dL_law_2765 : decode cL_law 2765 = .ok (.iconst 0, 1) := dAt wdL_law_2755 adL_law_2755.2.2.2.2.2.2.2.1 rfl
theorem dL_law_2766 : decode cL_law 2766 = .ok (.ireturn, 1) := dAt wdL_law_2755 adL_law_2755.2.2.2.2.2.2.2.2.1 rfl
theorem dL_law_2767 : decode cL_law 2767 = .ok (.goto 442, 3) := dAt wdL_law_2755 adL_law_2755.2.2.2.2.2.2.2.2.2.1 rfl
theorem dL_law_2770 : decode cL_law 2770 = .ok (.aload_n 1, 1) := dAt wdL_law_2755 adL_law_2755.2.2.2.2.2.2.2.2.2.2.1 rfl
theorem dL_law_2771 : decode cL_law 2771 = .ok (.aload_n 0, 1) := dAt wdL_law_2755 adL_law_2755.2.2.2.2.2.2.2.2.2.2.2.1 rfl
theorem dL_law_2772 : decode cL_law 2772 = .ok (.iload 4, 2) := dAt wdL_law_2755 adL_law_2755.2.2.2.2.2.2.2.2.2.2.2.2.1 rfl
theorem dL_law_2774 : decode cL_law 2774 = .ok (.iconst 1, 1) := dAt wdL_law_2755 adL_law_2755.2.2.2.2.2.2.2.2.2.2.2.2.2.1 rfl
theorem dL_law_2775 : decode cL_law 2775 = .ok (.iadd, 1) := dAt wdL_law_2755 adL_law_2755.2.2.2.2.2.2.2.2.2.2.2.2.2.2.1 rfl
theorem dL_law_2776 : decode cL_law 2776 = .ok (.iaload, 1) := dAt wdL_law_2755 adL_law_2755.2.2.2.2.2.2.2.2.2.2.2.2.2.2.2 rfl
def bdL_law_2777 : ByteArray := .mk #[42, 21, 4, 5, 96, 46, 42, 21, 4, 6, 96, 46, 45, 184, 1, 22, 54, 5, 44, 42, 21, 4]
theorem wdL_law_2777 : LocW cL_law 2777 bdL_law_2777 := loc_of (by decide +kernel)
theorem adL_law_2777 : De bdL_law_2777 0 (.aload_n 0) 1 ∧ De bdL_law_2777 1 (.iload 4) 2 ∧ De bdL_law_2777 3 (.iconst 2) 1 ∧ De bdL_law_2777 4 (.iadd) 1 ∧ De bdL_law_2777 5 (.iaload) 1 ∧ De bdL_law_2777 6 (.aload_n 0) 1 ∧ De bdL_law_2777 7 (.iload 4) 2 ∧ De bdL_law_2777 9 (.iconst 3) 1 ∧ De bdL_law_2777 10 (.iadd) 1 ∧ De bdL_law_2777 11 (.iaload) 1 ∧ De bdL_law_2777 12 (.aload_n 3) 1 ∧ De bdL_law_2777 13 (.invokestatic 278) 3 ∧ De bdL_law_2777 16 (.istore 5) 2 ∧ De bdL_law_2777 18 (.aload_n 2) 1 ∧ De bdL_law_2777 19 (.aload_n 0) 1 ∧ De bdL_law_2777 20 (.iload 4) 2 := by decide +kernel
theorem dL_law_2777 : decode cL_law 2777 = .ok (.aload_n 0, 1) := dAt wdL_law_2777 adL_law_2777.1 rfl
theorem dL_law_2778 : decode cL_law 2778 = .ok (.iload 4, 2) := dAt wdL_law_2777 adL_law_2777.2.1 rfl
theorem dL_law_2780 : decode cL_law 2780 = .ok (.iconst 2, 1) := dAt wdL_law_2777 adL_law_2777.2.2.1 rfl
theorem dL_law_2781 : decode cL_law 2781 = .ok (.iadd, 1) := dAt wdL_law_2777 adL_law_2777.2.2.2.1 rfl
theorem dL_law_2782 : decode cL_law 2782 = .ok (.iaload, 1) := dAt wdL_law_2777 adL_law_2777.2.2.2.2.1 rfl
theorem dL_law_2783 : decode cL_law 2783 = .ok (.aload_n 0, 1) := dAt wdL_law_2777 adL_law_2777.2.2.2.2.2.1 rfl
theorem dL_law_2784 : decode cL_law 2784 = .ok (.iload 4, 2) := dAt wdL_law_2777 adL_law_2777.2.2.2.2.2.2.1 rfl
theorem dL_law_2786 : decode cL_law 2786 = .ok (.iconst 3, 1) := dAt wdL_law_2777 adL_law_2777.2.2.2.2.2.2.2.1 rfl
theorem dL_law_2787 : decode cL_law 2787 = .ok (.iadd, 1) := dAt wdL_law_2777 adL_law_2777.2.2.2.2.2.2.2.2.1 rfl
theorem dL_law_2788 : decode cL_law 2788 = .ok (.iaload, 1) := dAt wdL_law_2777 adL_law_2777.2.2.2.2.2.2.2.2.2.1 rfl
theorem dL_law_2789 : decode cL_law 2789 = .ok (.aload_n 3, 1) := dAt wdL_law_2777 adL_law_2777.2.2.2.2.2.2.2.2.2.2.1 rfl
theorem dL_law_2790 : decode cL_law 2790 = .ok (.invokestatic 278, 3) := dAt wdL_law_2777 adL_law_2777.2.2.2.2.2.2.2.2.2.2.2.1 rfl
theorem dL_law_2793 : decode cL_law 2793 = .ok (.istore 5, 2) := dAt wdL_law_2777 adL_law_2777.2.2.2.2.2.2.2.2.2.2.2.2.1 rfl
theorem dL_law_2795 : decode cL_law 2795 = .ok (.aload_n 2, 1) := dAt wdL_law_2777 adL_law_2777.2.2.2.2.2.2.2.2.2.2.2.2.2.1 rfl
theorem dL_law_2796 : decode cL_law 2796 = .ok (.aload_n 0, 1) := dAt wdL_law_2777 adL_law_2777.2.2.2.2.2.2.2.2.2.2.2.2.2.2.1 rfl
theorem dL_law_2797 : decode cL_law 2797 = .ok (.iload 4, 2) := dAt wdL_law_2777 adL_law_2777.2.2.2.2.2.2.2.2.2.2.2.2.2.2.2 rfl
def bdL_law_2799 : ByteArray := .mk #[4, 96, 46, 42, 21, 4, 5, 96, 46, 42, 21, 4, 6, 96, 46, 182, 1, 24, 54, 6, 44]
theorem wdL_law_2799 : LocW cL_law 2799 bdL_law_2799 := loc_of (by decide +kernel)
theorem adL_law_2799 : De bdL_law_2799 0 (.iconst 1) 1 ∧ De bdL_law_2799 1 (.iadd) 1 ∧ De bdL_law_2799 2 (.iaload) 1 ∧ De bdL_law_2799 3 (.aload_n 0) 1 ∧ De bdL_law_2799 4 (.iload 4) 2 ∧ De bdL_law_2799 6 (.iconst 2) 1 ∧ De bdL_law_2799 7 (.iadd) 1 ∧ De bdL_law_2799 8 (.iaload) 1 ∧ De bdL_law_2799 9 (.aload_n 0) 1 ∧ De bdL_law_2799 10 (.iload 4) 2 ∧ De bdL_law_2799 12 (.iconst 3) 1 ∧ De bdL_law_2799 13 (.iadd) 1 ∧ De bdL_law_2799 14 (.iaload) 1 ∧ De bdL_law_2799 15 (.invokevirtual 280) 3 ∧ De bdL_law_2799 18 (.istore 6) 2 ∧ De bdL_law_2799 20 (.aload_n 2) 1 := by decide +kernel
theorem dL_law_2799 : decode cL_law 2799 = .ok (.iconst 1, 1) := dAt wdL_law_2799 adL_law_2799.1 rfl
theorem dL_law_2800 : decode cL_law 2800 = .ok (.iadd, 1) := dAt wdL_law_2799 adL_law_2799.2.1 rfl
theorem dL_law_2801 : decode cL_law 2801 = .ok (.iaload, 1) := dAt wdL_law_2799 adL_law_2799.2.2.1 rfl
theorem dL_law_2802 : decode cL_law 2802 = .ok (.aload_n 0, 1) := dAt wdL_law_2799 adL_law_2799.2.2.2.1 rfl
theorem dL_law_2803 : decode cL_law 2803 = .ok (.iload 4, 2) := dAt wdL_law_2799 adL_law_2799.2.2.2.2.1 rfl
theorem dL_law_2805 : decode cL_law 2805 = .ok (.iconst 2, 1) := dAt wdL_law_2799 adL_law_2799.2.2.2.2.2.1 rfl
theorem dL_law_2806 : decode cL_law 2806 = .ok (.iadd, 1) := dAt wdL_law_2799 adL_law_2799.2.2.2.2.2.2.1 rfl
theorem dL_law_2807 : decode cL_law 2807 = .ok (.iaload, 1) := dAt wdL_law_2799 adL_law_2799.2.2.2.2.2.2.2.1 rfl
theorem dL_law_2808 : decode cL_law 2808 = .ok (.aload_n 0, 1) := dAt wdL_law_2799 adL_law_2799.2.2.2.2.2.2.2.2.1 rfl
theorem dL_law_2809 : decode cL_law 2809 = .ok (.iload 4, 2) := dAt wdL_law_2799 adL_law_2799.2.2.2.2.2.2.2.2.2.1 rfl
theorem dL_law_2811 : decode cL_law 2811 = .ok (.iconst 3, 1) := dAt wdL_law_2799 adL_law_2799.2.2.2.2.2.2.2.2.2.2.1 rfl
theorem dL_law_2812 : decode cL_law 2812 = .ok (.iadd, 1) := dAt wdL_law_2799 adL_law_2799.2.2.2.2.2.2.2.2.2.2.2.1 rfl
theorem dL_law_2813 : decode cL_law 2813 = .ok (.iaload, 1) := dAt wdL_law_2799 adL_law_2799.2.2.2.2.2.2.2.2.2.2.2.2.1 rfl
theorem dL_law_2814 : decode cL_law 2814 = .ok (.invokevirtual 280, 3) := dAt wdL_law_2799 adL_law_2799.2.2.2.2.2.2.2.2.2.2.2.2.2.1 rfl
theorem dL_law_2817 : decode cL_law 2817 = .ok (.istore 6, 2) := dAt wdL_law_2799 adL_law_2799.2.2.2.2.2.2.2.2.2.2.2.2.2.2.1 rfl
theorem dL_law_2819 : decode cL_law 2819 = .ok (.aload_n 2, 1) := dAt wdL_law_2799 adL_law_2799.2.2.2.2.2.2.2.2.2.2.2.2.2.2.2 rfl
def bdL_law_2820 : ByteArray := .mk #[182, 0, 166, 21, 5, 159, 0, 5, 3, 172, 21, 5, 154, 0, 15, 45, 3, 47, 21, 6, 133, 148, 153, 0, 5, 3, 172]
theorem wdL_law_2820 : LocW cL_law 2820 bdL_law_2820 := loc_of (by decide +kernel)
theorem adL_law_2820 : De bdL_law_2820 0 (.invokevirtual 166) 3 ∧ De bdL_law_2820 3 (.iload 5) 2 ∧ De bdL_law_2820 5 (.if_icmp .eq 5) 3 ∧ De bdL_law_2820 8 (.iconst 0) 1 ∧ De bdL_law_2820 9 (.ireturn) 1 ∧ De bdL_law_2820 10 (.iload 5) 2 ∧ De bdL_law_2820 12 (.ifCond .ne 15) 3 ∧ De bdL_law_2820 15 (.aload_n 3) 1 ∧ De bdL_law_2820 16 (.iconst 0) 1 ∧ De bdL_law_2820 17 (.laload) 1 ∧ De bdL_law_2820 18 (.iload 6) 2 ∧ De bdL_law_2820 20 (.i2l) 1 ∧ De bdL_law_2820 21 (.lcmp) 1 ∧ De bdL_law_2820 22 (.ifCond .eq 5) 3 ∧ De bdL_law_2820 25 (.iconst 0) 1 ∧ De bdL_law_2820 26 (.ireturn) 1 := by decide +kernel
theorem dL_law_2820 : decode cL_law 2820 = .ok (.invokevirtual 166, 3) := dAt wdL_law_2820 adL_law_2820.1 rfl
theorem dL_law_2823 : decode cL_law 2823 = .ok (.iload 5, 2) := dAt wdL_law_2820 adL_law_2820.2.1 rfl
theorem dL_law_2825 : decode cL_law 2825 = .ok (.if_icmp .eq 5, 3) := dAt wdL_law_2820 adL_law_2820.2.2.1 rfl
theorem dL_law_2828 : decode cL_law 2828 = .ok (.iconst 0, 1) := dAt wdL_law_2820 adL_law_2820.2.2.2.1 rfl
theorem dL_law_2829 : decode cL_law 2829 = .ok (.ireturn, 1) := dAt wdL_law_2820 adL_law_2820.2.2.2.2.1 rfl
theorem dL_law_2830 : decode cL_law 2830 = .ok (.iload 5, 2) := dAt wdL_law_2820 adL_law_2820.2.2.2.2.2.1 rfl
theorem dL_law_2832 : decode cL_law 2832 = .ok (.ifCond .ne 15, 3) := dAt wdL_law_2820 adL_law_2820.2.2.2.2.2.2.1 rfl
theorem dL_law_2835 : decode cL_law 2835 = .ok (.aload_n 3, 1) := dAt wdL_law_2820 adL_law_2820.2.2.2.2.2.2.2.1 rfl
theorem dL_law_2836 : decode cL_law 2836 = .ok (.iconst 0, 1) := dAt wdL_law_2820 adL_law_2820.2.2.2.2.2.2.2.2.1 rfl
theorem dL_law_2837 : decode cL_law 2837 = .ok (.laload, 1) := dAt wdL_law_2820 adL_law_2820.2.2.2.2.2.2.2.2.2.1 rfl
theorem dL_law_2838 : decode cL_law 2838 = .ok (.iload 6, 2) := dAt wdL_law_2820 adL_law_2820.2.2.2.2.2.2.2.2.2.2.1 rfl
theorem dL_law_2840 : decode cL_law 2840 = .ok (.i2l, 1) := dAt wdL_law_2820 adL_law_2820.2.2.2.2.2.2.2.2.2.2.2.1 rfl
theorem dL_law_2841 : decode cL_law 2841 = .ok (.lcmp, 1) := dAt wdL_law_2820 adL_law_2820.2.2.2.2.2.2.2.2.2.2.2.2.1 rfl
theorem dL_law_2842 : decode cL_law 2842 = .ok (.ifCond .eq 5, 3) := dAt wdL_law_2820 adL_law_2820.2.2.2.2.2.2.2.2.2.2.2.2.2.1 rfl
theorem dL_law_2845 : decode cL_law 2845 = .ok (.iconst 0, 1) := dAt wdL_law_2820 adL_law_2820.2.2.2.2.2.2.2.2.2.2.2.2.2.2.1 rfl
theorem dL_law_2846 : decode cL_law 2846 = .ok (.ireturn, 1) := dAt wdL_law_2820 adL_law_2820.2.2.2.2.2.2.2.2.2.2.2.2.2.2.2 rfl
def bdL_law_2847 : ByteArray := .mk #[167, 1, 106, 43, 182, 1, 25, 44, 182, 1, 28, 159, 1, 95, 3, 172, 43, 42, 21, 4, 4, 96, 46, 45, 184, 1, 29]
theorem wdL_law_2847 : LocW cL_law 2847 bdL_law_2847 := loc_of (by decide +kernel)
theorem adL_law_2847 : De bdL_law_2847 0 (.goto 362) 3 ∧ De bdL_law_2847 3 (.aload_n 1) 1 ∧ De bdL_law_2847 4 (.invokevirtual 281) 3 ∧ De bdL_law_2847 7 (.aload_n 2) 1 ∧ De bdL_law_2847 8 (.invokevirtual 284) 3 ∧ De bdL_law_2847 11 (.if_icmp .eq 351) 3 ∧ De bdL_law_2847 14 (.iconst 0) 1 ∧ De bdL_law_2847 15 (.ireturn) 1 ∧ De bdL_law_2847 16 (.aload_n 1) 1 ∧ De bdL_law_2847 17 (.aload_n 0) 1 ∧ De bdL_law_2847 18 (.iload 4) 2 ∧ De bdL_law_2847 20 (.iconst 1) 1 ∧ De bdL_law_2847 21 (.iadd) 1 ∧ De bdL_law_2847 22 (.iaload) 1 ∧ De bdL_law_2847 23 (.aload_n 3) 1 ∧ De bdL_law_2847 24 (.invokestatic 285) 3 := by decide +kernel
theorem dL_law_2847 : decode cL_law 2847 = .ok (.goto 362, 3) := dAt wdL_law_2847 adL_law_2847.1 rfl
theorem dL_law_2850 : decode cL_law 2850 = .ok (.aload_n 1, 1) := dAt wdL_law_2847 adL_law_2847.2.1 rfl
theorem dL_law_2851 : decode cL_law 2851 = .ok (.invokevirtual 281, 3) := dAt wdL_law_2847 adL_law_2847.2.2.1 rfl
theorem dL_law_2854 : decode cL_law 2854 = .ok (.aload_n 2, 1) := dAt wdL_law_2847 adL_law_2847.2.2.2.1 rfl
theorem dL_law_2855 : decode cL_law 2855 = .ok (.invokevirtual 284, 3) := dAt wdL_law_2847 adL_law_2847.2.2.2.2.1 rfl
theorem dL_law_2858 : decode cL_law 2858 = .ok (.if_icmp .eq 351, 3) := dAt wdL_law_2847 adL_law_2847.2.2.2.2.2.1 rfl
theorem dL_law_2861 : decode cL_law 2861 = .ok (.iconst 0, 1) := dAt wdL_law_2847 adL_law_2847.2.2.2.2.2.2.1 rfl
theorem dL_law_2862 : decode cL_law 2862 = .ok (.ireturn, 1) := dAt wdL_law_2847 adL_law_2847.2.2.2.2.2.2.2.1 rfl
theorem dL_law_2863 : decode cL_law 2863 = .ok (.aload_n 1, 1) := dAt wdL_law_2847 adL_law_2847.2.2.2.2.2.2.2.2.1 rfl
theorem dL_law_2864 : decode cL_law 2864 = .ok (.aload_n 0, 1) := dAt wdL_law_2847 adL_law_2847.2.2.2.2.2.2.2.2.2.1 rfl
theorem dL_law_2865 : decode cL_law 2865 = .ok (.iload 4, 2) := dAt wdL_law_2847 adL_law_2847.2.2.2.2.2.2.2.2.2.2.1 rfl
theorem dL_law_2867 : decode cL_law 2867 = .ok (.iconst 1, 1) := dAt wdL_law_2847 adL_law_2847.2.2.2.2.2.2.2.2.2.2.2.1 rfl
theorem dL_law_2868 : decode cL_law 2868 = .ok (.iadd, 1) := dAt wdL_law_2847 adL_law_2847.2.2.2.2.2.2.2.2.2.2.2.2.1 rfl
theorem dL_law_2869 : decode cL_law 2869 = .ok (.iaload, 1) := dAt wdL_law_2847 adL_law_2847.2.2.2.2.2.2.2.2.2.2.2.2.2.1 rfl
theorem dL_law_2870 : decode cL_law 2870 = .ok (.aload_n 3, 1) := dAt wdL_law_2847 adL_law_2847.2.2.2.2.2.2.2.2.2.2.2.2.2.2.1 rfl
theorem dL_law_2871 : decode cL_law 2871 = .ok (.invokestatic 285, 3) := dAt wdL_law_2847 adL_law_2847.2.2.2.2.2.2.2.2.2.2.2.2.2.2.2 rfl
def bdL_law_2874 : ByteArray := .mk #[54, 5, 44, 42, 21, 4, 4, 96, 46, 182, 1, 31, 54, 6, 44, 182, 0, 166, 21, 5, 159, 0, 5, 3, 172, 21, 5]
theorem wdL_law_2874 : LocW cL_law 2874 bdL_law_2874 := loc_of (by decide +kernel)
theorem adL_law_2874 : De bdL_law_2874 0 (.istore 5) 2 ∧ De bdL_law_2874 2 (.aload_n 2) 1 ∧ De bdL_law_2874 3 (.aload_n 0) 1 ∧ De bdL_law_2874 4 (.iload 4) 2 ∧ De bdL_law_2874 6 (.iconst 1) 1 ∧ De bdL_law_2874 7 (.iadd) 1 ∧ De bdL_law_2874 8 (.iaload) 1 ∧ De bdL_law_2874 9 (.invokevirtual 287) 3 ∧ De bdL_law_2874 12 (.istore 6) 2 ∧ De bdL_law_2874 14 (.aload_n 2) 1 ∧ De bdL_law_2874 15 (.invokevirtual 166) 3 ∧ De bdL_law_2874 18 (.iload 5) 2 ∧ De bdL_law_2874 20 (.if_icmp .eq 5) 3 ∧ De bdL_law_2874 23 (.iconst 0) 1 ∧ De bdL_law_2874 24 (.ireturn) 1 ∧ De bdL_law_2874 25 (.iload 5) 2 := by decide +kernel
theorem dL_law_2874 : decode cL_law 2874 = .ok (.istore 5, 2) := dAt wdL_law_2874 adL_law_2874.1 rfl
theorem dL_law_2876 : decode cL_law 2876 = .ok (.aload_n 2, 1) := dAt wdL_law_2874 adL_law_2874.2.1 rfl
theorem dL_law_2877 : decode cL_law 2877 = .ok (.aload_n 0, 1) := dAt wdL_law_2874 adL_law_2874.2.2.1 rfl
theorem dL_law_2878 : decode cL_law 2878 = .ok (.iload 4, 2) := dAt wdL_law_2874 adL_law_2874.2.2.2.1 rfl
theorem dL_law_2880 : decode cL_law 2880 = .ok (.iconst 1, 1) := dAt wdL_law_2874 adL_law_2874.2.2.2.2.1 rfl
theorem dL_law_2881 : decode cL_law 2881 = .ok (.iadd, 1) := dAt wdL_law_2874 adL_law_2874.2.2.2.2.2.1 rfl
theorem dL_law_2882 : decode cL_law 2882 = .ok (.iaload, 1) := dAt wdL_law_2874 adL_law_2874.2.2.2.2.2.2.1 rfl
theorem dL_law_2883 : decode cL_law 2883 = .ok (.invokevirtual 287, 3) := dAt wdL_law_2874 adL_law_2874.2.2.2.2.2.2.2.1 rfl
theorem dL_law_2886 : decode cL_law 2886 = .ok (.istore 6, 2) := dAt wdL_law_2874 adL_law_2874.2.2.2.2.2.2.2.2.1 rfl
theorem dL_law_2888 : decode cL_law 2888 = .ok (.aload_n 2, 1) := dAt wdL_law_2874 adL_law_2874.2.2.2.2.2.2.2.2.2.1 rfl
theorem dL_law_2889 : decode cL_law 2889 = .ok (.invokevirtual 166, 3) := dAt wdL_law_2874 adL_law_2874.2.2.2.2.2.2.2.2.2.2.1 rfl
theorem dL_law_2892 : decode cL_law 2892 = .ok (.iload 5, 2) := dAt wdL_law_2874 adL_law_2874.2.2.2.2.2.2.2.2.2.2.2.1 rfl
theorem dL_law_2894 : decode cL_law 2894 = .ok (.if_icmp .eq 5, 3) := dAt wdL_law_2874 adL_law_2874.2.2.2.2.2.2.2.2.2.2.2.2.1 rfl
theorem dL_law_2897 : decode cL_law 2897 = .ok (.iconst 0, 1) := dAt wdL_law_2874 adL_law_2874.2.2.2.2.2.2.2.2.2.2.2.2.2.1 rfl
theorem dL_law_2898 : decode cL_law 2898 = .ok (.ireturn, 1) := dAt wdL_law_2874 adL_law_2874.2.2.2.2.2.2.2.2.2.2.2.2.2.2.1 rfl
theorem dL_law_2899 : decode cL_law 2899 = .ok (.iload 5, 2) := dAt wdL_law_2874 adL_law_2874.2.2.2.2.2.2.2.2.2.2.2.2.2.2.2 rfl
def bdL_law_2901 : ByteArray := .mk #[154, 0, 15, 45, 3, 47, 21, 6, 133, 148, 153, 0, 5, 3, 172, 167, 1, 37, 43, 42, 21, 4, 4, 96]
theorem wdL_law_2901 : LocW cL_law 2901 bdL_law_2901 := loc_of (by decide +kernel)
theorem adL_law_2901 : De bdL_law_2901 0 (.ifCond .ne 15) 3 ∧ De bdL_law_2901 3 (.aload_n 3) 1 ∧ De bdL_law_2901 4 (.iconst 0) 1 ∧ De bdL_law_2901 5 (.laload) 1 ∧ De bdL_law_2901 6 (.iload 6) 2 ∧ De bdL_law_2901 8 (.i2l) 1 ∧ De bdL_law_2901 9 (.lcmp) 1 ∧ De bdL_law_2901 10 (.ifCond .eq 5) 3 ∧ De bdL_law_2901 13 (.iconst 0) 1 ∧ De bdL_law_2901 14 (.ireturn) 1 ∧ De bdL_law_2901 15 (.goto 293) 3 ∧ De bdL_law_2901 18 (.aload_n 1) 1 ∧ De bdL_law_2901 19 (.aload_n 0) 1 ∧ De bdL_law_2901 20 (.iload 4) 2 ∧ De bdL_law_2901 22 (.iconst 1) 1 ∧ De bdL_law_2901 23 (.iadd) 1 := by decide +kernel
theorem dL_law_2901 : decode cL_law 2901 = .ok (.ifCond .ne 15, 3) := dAt wdL_law_2901 adL_law_2901.1 rfl
theorem dL_law_2904 : decode cL_law 2904 = .ok (.aload_n 3, 1) := dAt wdL_law_2901 adL_law_2901.2.1 rfl
theorem dL_law_2905 : decode cL_law 2905 = .ok (.iconst 0, 1) := dAt wdL_law_2901 adL_law_2901.2.2.1 rfl
theorem dL_law_2906 : decode cL_law 2906 = .ok (.laload, 1) := dAt wdL_law_2901 adL_law_2901.2.2.2.1 rfl
theorem dL_law_2907 : decode cL_law 2907 = .ok (.iload 6, 2) := dAt wdL_law_2901 adL_law_2901.2.2.2.2.1 rfl
theorem dL_law_2909 : decode cL_law 2909 = .ok (.i2l, 1) := dAt wdL_law_2901 adL_law_2901.2.2.2.2.2.1 rfl
theorem dL_law_2910 : decode cL_law 2910 = .ok (.lcmp, 1) := dAt wdL_law_2901 adL_law_2901.2.2.2.2.2.2.1 rfl
theorem dL_law_2911 : decode cL_law 2911 = .ok (.ifCond .eq 5, 3) := dAt wdL_law_2901 adL_law_2901.2.2.2.2.2.2.2.1 rfl
theorem dL_law_2914 : decode cL_law 2914 = .ok (.iconst 0, 1) := dAt wdL_law_2901 adL_law_2901.2.2.2.2.2.2.2.2.1 rfl
theorem dL_law_2915 : decode cL_law 2915 = .ok (.ireturn, 1) := dAt wdL_law_2901 adL_law_2901.2.2.2.2.2.2.2.2.2.1 rfl
theorem dL_law_2916 : decode cL_law 2916 = .ok (.goto 293, 3) := dAt wdL_law_2901 adL_law_2901.2.2.2.2.2.2.2.2.2.2.1 rfl
theorem dL_law_2919 : decode cL_law 2919 = .ok (.aload_n 1, 1) := dAt wdL_law_2901 adL_law_2901.2.2.2.2.2.2.2.2.2.2.2.1 rfl
theorem dL_law_2920 : decode cL_law 2920 = .ok (.aload_n 0, 1) := dAt wdL_law_2901 adL_law_2901.2.2.2.2.2.2.2.2.2.2.2.2.1 rfl
theorem dL_law_2921 : decode cL_law 2921 = .ok (.iload 4, 2) := dAt wdL_law_2901 adL_law_2901.2.2.2.2.2.2.2.2.2.2.2.2.2.1 rfl
theorem dL_law_2923 : decode cL_law 2923 = .ok (.iconst 1, 1) := dAt wdL_law_2901 adL_law_2901.2.2.2.2.2.2.2.2.2.2.2.2.2.2.1 rfl
theorem dL_law_2924 : decode cL_law 2924 = .ok (.iadd, 1) := dAt wdL_law_2901 adL_law_2901.2.2.2.2.2.2.2.2.2.2.2.2.2.2.2 rfl
def bdL_law_2925 : ByteArray := .mk #[46, 42, 21, 4, 5, 96, 46, 42, 21, 4, 6, 96, 46, 45, 184, 1, 32, 54, 5, 44, 42]
theorem wdL_law_2925 : LocW cL_law 2925 bdL_law_2925 := loc_of (by decide +kernel)
theorem adL_law_2925 : De bdL_law_2925 0 (.iaload) 1 ∧ De bdL_law_2925 1 (.aload_n 0) 1 ∧ De bdL_law_2925 2 (.iload 4) 2 ∧ De bdL_law_2925 4 (.iconst 2) 1 ∧ De bdL_law_2925 5 (.iadd) 1 ∧ De bdL_law_2925 6 (.iaload) 1 ∧ De bdL_law_2925 7 (.aload_n 0) 1 ∧ De bdL_law_2925 8 (.iload 4) 2 ∧ De bdL_law_2925 10 (.iconst 3) 1 ∧ De bdL_law_2925 11 (.iadd) 1 ∧ De bdL_law_2925 12 (.iaload) 1 ∧ De bdL_law_2925 13 (.aload_n 3) 1 ∧ De bdL_law_2925 14 (.invokestatic 288) 3 ∧ De bdL_law_2925 17 (.istore 5) 2 ∧ De bdL_law_2925 19 (.aload_n 2) 1 ∧ De bdL_law_2925 20 (.aload_n 0) 1 := by decide +kernel
theorem dL_law_2925 : decode cL_law 2925 = .ok (.iaload, 1) := dAt wdL_law_2925 adL_law_2925.1 rfl
theorem dL_law_2926 : decode cL_law 2926 = .ok (.aload_n 0, 1) := dAt wdL_law_2925 adL_law_2925.2.1 rfl
theorem dL_law_2927 : decode cL_law 2927 = .ok (.iload 4, 2) := dAt wdL_law_2925 adL_law_2925.2.2.1 rfl
theorem dL_law_2929 : decode cL_law 2929 = .ok (.iconst 2, 1) := dAt wdL_law_2925 adL_law_2925.2.2.2.1 rfl
theorem dL_law_2930 : decode cL_law 2930 = .ok (.iadd, 1) := dAt wdL_law_2925 adL_law_2925.2.2.2.2.1 rfl
theorem dL_law_2931 : decode cL_law 2931 = .ok (.iaload, 1) := dAt wdL_law_2925 adL_law_2925.2.2.2.2.2.1 rfl
theorem dL_law_2932 : decode cL_law 2932 = .ok (.aload_n 0, 1) := dAt wdL_law_2925 adL_law_2925.2.2.2.2.2.2.1 rfl
theorem dL_law_2933 : decode cL_law 2933 = .ok (.iload 4, 2) := dAt wdL_law_2925 adL_law_2925.2.2.2.2.2.2.2.1 rfl
theorem dL_law_2935 : decode cL_law 2935 = .ok (.iconst 3, 1) := dAt wdL_law_2925 adL_law_2925.2.2.2.2.2.2.2.2.1 rfl
theorem dL_law_2936 : decode cL_law 2936 = .ok (.iadd, 1) := dAt wdL_law_2925 adL_law_2925.2.2.2.2.2.2.2.2.2.1 rfl
theorem dL_law_2937 : decode cL_law 2937 = .ok (.iaload, 1) := dAt wdL_law_2925 adL_law_2925.2.2.2.2.2.2.2.2.2.2.1 rfl
theorem dL_law_2938 : decode cL_law 2938 = .ok (.aload_n 3, 1) := dAt wdL_law_2925 adL_law_2925.2.2.2.2.2.2.2.2.2.2.2.1 rfl
theorem dL_law_2939 : decode cL_law 2939 = .ok (.invokestatic 288, 3) := dAt wdL_law_2925 adL_law_2925.2.2.2.2.2.2.2.2.2.2.2.2.1 rfl
theorem dL_law_2942 : decode cL_law 2942 = .ok (.istore 5, 2) := dAt wdL_law_2925 adL_law_2925.2.2.2.2.2.2.2.2.2.2.2.2.2.1 rfl
theorem dL_law_2944 : decode cL_law 2944 = .ok (.aload_n 2, 1) := dAt wdL_law_2925 adL_law_2925.2.2.2.2.2.2.2.2.2.2.2.2.2.2.1 rfl
theorem dL_law_2945 : decode cL_law 2945 = .ok (.aload_n 0, 1) := dAt wdL_law_2925 adL_law_2925.2.2.2.2.2.2.2.2.2.2.2.2.2.2.2 rfl
def bdL_law_2946 : ByteArray := .mk #[21, 4, 4, 96, 46, 42, 21, 4, 5, 96, 46, 42, 21, 4, 6, 96, 46, 182, 1, 34, 54, 6]
theorem wdL_law_2946 : LocW cL_law 2946 bdL_law_2946 := loc_of (by decide +kernel)
theorem adL_law_2946 : De bdL_law_2946 0 (.iload 4) 2 ∧ De bdL_law_2946 2 (.iconst 1) 1 ∧ De bdL_law_2946 3 (.iadd) 1 ∧ De bdL_law_2946 4 (.iaload) 1 ∧ De bdL_law_2946 5 (.aload_n 0) 1 ∧ De bdL_law_2946 6 (.iload 4) 2 ∧ De bdL_law_2946 8 (.iconst 2) 1 ∧ De bdL_law_2946 9 (.iadd) 1 ∧ De bdL_law_2946 10 (.iaload) 1 ∧ De bdL_law_2946 11 (.aload_n 0) 1 ∧ De bdL_law_2946 12 (.iload 4) 2 ∧ De bdL_law_2946 14 (.iconst 3) 1 ∧ De bdL_law_2946 15 (.iadd) 1 ∧ De bdL_law_2946 16 (.iaload) 1 ∧ De bdL_law_2946 17 (.invokevirtual 290) 3 ∧ De bdL_law_2946 20 (.istore 6) 2 := by decide +kernel
theorem dL_law_2946 : decode cL_law 2946 = .ok (.iload 4, 2) := dAt wdL_law_2946 adL_law_2946.1 rfl
theorem dL_law_2948 : decode cL_law 2948 = .ok (.iconst 1, 1) := dAt wdL_law_2946 adL_law_2946.2.1 rfl
theorem dL_law_2949 : decode cL_law 2949 = .ok (.iadd, 1) := dAt wdL_law_2946 adL_law_2946.2.2.1 rfl
theorem dL_law_2950 : decode cL_law 2950 = .ok (.iaload, 1) := dAt wdL_law_2946 adL_law_2946.2.2.2.1 rfl
theorem dL_law_2951 : decode cL_law 2951 = .ok (.aload_n 0, 1) := dAt wdL_law_2946 adL_law_2946.2.2.2.2.1 rfl
theorem dL_law_2952 : decode cL_law 2952 = .ok (.iload 4, 2) := dAt wdL_law_2946 adL_law_2946.2.2.2.2.2.1 rfl
theorem dL_law_2954 : decode cL_law 2954 = .ok (.iconst 2, 1) := dAt wdL_law_2946 adL_law_2946.2.2.2.2.2.2.1 rfl
theorem dL_law_2955 : decode cL_law 2955 = .ok (.iadd, 1) := dAt wdL_law_2946 adL_law_2946.2.2.2.2.2.2.2.1 rfl
theorem dL_law_2956 : decode cL_law 2956 = .ok (.iaload, 1) := dAt wdL_law_2946 adL_law_2946.2.2.2.2.2.2.2.2.1 rfl
theorem dL_law_2957 : decode cL_law 2957 = .ok (.aload_n 0, 1) := dAt wdL_law_2946 adL_law_2946.2.2.2.2.2.2.2.2.2.1 rfl
theorem dL_law_2958 : decode cL_law 2958 = .ok (.iload 4, 2) := dAt wdL_law_2946 adL_law_2946.2.2.2.2.2.2.2.2.2.2.1 rfl
theorem dL_law_2960 : decode cL_law 2960 = .ok (.iconst 3, 1) := dAt wdL_law_2946 adL_law_2946.2.2.2.2.2.2.2.2.2.2.2.1 rfl
theorem dL_law_2961 : decode cL_law 2961 = .ok (.iadd, 1) := dAt wdL_law_2946 adL_law_2946.2.2.2.2.2.2.2.2.2.2.2.2.1 rfl
theorem dL_law_2962 : decode cL_law 2962 = .ok (.iaload, 1) := dAt wdL_law_2946 adL_law_2946.2.2.2.2.2.2.2.2.2.2.2.2.2.1 rfl
theorem dL_law_2963 : decode cL_law 2963 = .ok (.invokevirtual 290, 3) := dAt wdL_law_2946 adL_law_2946.2.2.2.2.2.2.2.2.2.2.2.2.2.2.1 rfl
theorem dL_law_2966 : decode cL_law 2966 = .ok (.istore 6, 2) := dAt wdL_law_2946 adL_law_2946.2.2.2.2.2.2.2.2.2.2.2.2.2.2.2 rfl
def bdL_law_2968 : ByteArray := .mk #[44, 182, 0, 166, 21, 5, 159, 0, 5, 3, 172, 21, 5, 154, 0, 15, 45, 3, 47, 21, 6, 133, 148, 153, 0, 5, 3]
theorem wdL_law_2968 : LocW cL_law 2968 bdL_law_2968 := loc_of (by decide +kernel)
theorem adL_law_2968 : De bdL_law_2968 0 (.aload_n 2) 1 ∧ De bdL_law_2968 1 (.invokevirtual 166) 3 ∧ De bdL_law_2968 4 (.iload 5) 2 ∧ De bdL_law_2968 6 (.if_icmp .eq 5) 3 ∧ De bdL_law_2968 9 (.iconst 0) 1 ∧ De bdL_law_2968 10 (.ireturn) 1 ∧ De bdL_law_2968 11 (.iload 5) 2 ∧ De bdL_law_2968 13 (.ifCond .ne 15) 3 ∧ De bdL_law_2968 16 (.aload_n 3) 1 ∧ De bdL_law_2968 17 (.iconst 0) 1 ∧ De bdL_law_2968 18 (.laload) 1 ∧ De bdL_law_2968 19 (.iload 6) 2 ∧ De bdL_law_2968 21 (.i2l) 1 ∧ De bdL_law_2968 22 (.lcmp) 1 ∧ De bdL_law_2968 23 (.ifCond .eq 5) 3 ∧ De bdL_law_2968 26 (.iconst 0) 1 := by decide +kernel
theorem dL_law_2968 : decode cL_law 2968 = .ok (.aload_n 2, 1) := dAt wdL_law_2968 adL_law_2968.1 rfl
theorem dL_law_2969 : decode cL_law 2969 = .ok (.invokevirtual 166, 3) := dAt wdL_law_2968 adL_law_2968.2.1 rfl
theorem dL_law_2972 : decode cL_law 2972 = .ok (.iload 5, 2) := dAt wdL_law_2968 adL_law_2968.2.2.1 rfl
theorem dL_law_2974 : decode cL_law 2974 = .ok (.if_icmp .eq 5, 3) := dAt wdL_law_2968 adL_law_2968.2.2.2.1 rfl
theorem dL_law_2977 : decode cL_law 2977 = .ok (.iconst 0, 1) := dAt wdL_law_2968 adL_law_2968.2.2.2.2.1 rfl
theorem dL_law_2978 : decode cL_law 2978 = .ok (.ireturn, 1) := dAt wdL_law_2968 adL_law_2968.2.2.2.2.2.1 rfl
theorem dL_law_2979 : decode cL_law 2979 = .ok (.iload 5, 2) := dAt wdL_law_2968 adL_law_2968.2.2.2.2.2.2.1 rfl
theorem dL_law_2981 : decode cL_law 2981 = .ok (.ifCond .ne 15, 3) := dAt wdL_law_2968 adL_law_2968.2.2.2.2.2.2.2.1 rfl
theorem dL_law_2984 : decode cL_law 2984 = .ok (.aload_n 3, 1) := dAt wdL_law_2968 adL_law_2968.2.2.2.2.2.2.2.2.1 rfl
theorem dL_law_2985 : decode cL_law 2985 = .ok (.iconst 0, 1) := dAt wdL_law_2968 adL_law_2968.2.2.2.2.2.2.2.2.2.1 rfl
theorem dL_law_2986 : decode cL_law 2986 = .ok (.laload, 1) := dAt wdL_law_2968 adL_law_2968.2.2.2.2.2.2.2.2.2.2.1 rfl
theorem dL_law_2987 : decode cL_law 2987 = .ok (.iload 6, 2) := dAt wdL_law_2968 adL_law_2968.2.2.2.2.2.2.2.2.2.2.2.1 rfl
theorem dL_law_2989 : decode cL_law 2989 = .ok (.i2l, 1) := dAt wdL_law_2968 adL_law_2968.2.2.2.2.2.2.2.2.2.2.2.2.1 rfl
theorem dL_law_2990 : decode cL_law 2990 = .ok (.lcmp, 1) := dAt wdL_law_2968 adL_law_2968.2.2.2.2.2.2.2.2.2.2.2.2.2.1 rfl
theorem dL_law_2991 : decode cL_law 2991 = .ok (.ifCond .eq 5, 3) := dAt wdL_law_2968 adL_law_2968.2.2.2.2.2.2.2.2.2.2.2.2.2.2.1 rfl
theorem dL_law_2994 : decode cL_law 2994 = .ok (.iconst 0, 1) := dAt wdL_law_2968 adL_law_2968.2.2.2.2.2.2.2.2.2.2.2.2.2.2.2 rfl
def bdL_law_2995 : ByteArray := .mk #[172, 167, 0, 213, 43, 42, 21, 4, 4, 96, 46, 42, 21, 4, 5, 96, 46, 45, 184, 1, 35, 54, 5]
theorem wdL_law_2995 : LocW cL_law 2995 bdL_law_2995 := loc_of (by decide +kernel)
theorem adL_law_2995 : De bdL_law_2995 0 (.ireturn) 1 ∧ De bdL_law_2995 1 (.goto 213) 3 ∧ De bdL_law_2995 4 (.aload_n 1) 1 ∧ De bdL_law_2995 5 (.aload_n 0) 1 ∧ De bdL_law_2995 6 (.iload 4) 2 ∧ De bdL_law_2995 8 (.iconst 1) 1 ∧ De bdL_law_2995 9 (.iadd) 1 ∧ De bdL_law_2995 10 (.iaload) 1 ∧ De bdL_law_2995 11 (.aload_n 0) 1 ∧ De bdL_law_2995 12 (.iload 4) 2 ∧ De bdL_law_2995 14 (.iconst 2) 1 ∧ De bdL_law_2995 15 (.iadd) 1 ∧ De bdL_law_2995 16 (.iaload) 1 ∧ De bdL_law_2995 17 (.aload_n 3) 1 ∧ De bdL_law_2995 18 (.invokestatic 291) 3 ∧ De bdL_law_2995 21 (.istore 5) 2 := by decide +kernel
theorem dL_law_2995 : decode cL_law 2995 = .ok (.ireturn, 1) := dAt wdL_law_2995 adL_law_2995.1 rfl
theorem dL_law_2996 : decode cL_law 2996 = .ok (.goto 213, 3) := dAt wdL_law_2995 adL_law_2995.2.1 rfl
theorem dL_law_2999 : decode cL_law 2999 = .ok (.aload_n 1, 1) := dAt wdL_law_2995 adL_law_2995.2.2.1 rfl
theorem dL_law_3000 : decode cL_law 3000 = .ok (.aload_n 0, 1) := dAt wdL_law_2995 adL_law_2995.2.2.2.1 rfl
theorem dL_law_3001 : decode cL_law 3001 = .ok (.iload 4, 2) := dAt wdL_law_2995 adL_law_2995.2.2.2.2.1 rfl
theorem dL_law_3003 : decode cL_law 3003 = .ok (.iconst 1, 1) := dAt wdL_law_2995 adL_law_2995.2.2.2.2.2.1 rfl
theorem dL_law_3004 : decode cL_law 3004 = .ok (.iadd, 1) := dAt wdL_law_2995 adL_law_2995.2.2.2.2.2.2.1 rfl
theorem dL_law_3005 : decode cL_law 3005 = .ok (.iaload, 1) := dAt wdL_law_2995 adL_law_2995.2.2.2.2.2.2.2.1 rfl
theorem dL_law_3006 : decode cL_law 3006 = .ok (.aload_n 0, 1) := dAt wdL_law_2995 adL_law_2995.2.2.2.2.2.2.2.2.1 rfl
theorem dL_law_3007 : decode cL_law 3007 = .ok (.iload 4, 2) := dAt wdL_law_2995 adL_law_2995.2.2.2.2.2.2.2.2.2.1 rfl
theorem dL_law_3009 : decode cL_law 3009 = .ok (.iconst 2, 1) := dAt wdL_law_2995 adL_law_2995.2.2.2.2.2.2.2.2.2.2.1 rfl
theorem dL_law_3010 : decode cL_law 3010 = .ok (.iadd, 1) := dAt wdL_law_2995 adL_law_2995.2.2.2.2.2.2.2.2.2.2.2.1 rfl
theorem dL_law_3011 : decode cL_law 3011 = .ok (.iaload, 1) := dAt wdL_law_2995 adL_law_2995.2.2.2.2.2.2.2.2.2.2.2.2.1 rfl
theorem dL_law_3012 : decode cL_law 3012 = .ok (.aload_n 3, 1) := dAt wdL_law_2995 adL_law_2995.2.2.2.2.2.2.2.2.2.2.2.2.2.1 rfl
theorem dL_law_3013 : decode cL_law 3013 = .ok (.invokestatic 291, 3) := dAt wdL_law_2995 adL_law_2995.2.2.2.2.2.2.2.2.2.2.2.2.2.2.1 rfl
theorem dL_law_3016 : decode cL_law 3016 = .ok (.istore 5, 2) := dAt wdL_law_2995 adL_law_2995.2.2.2.2.2.2.2.2.2.2.2.2.2.2.2 rfl
def bdL_law_3018 : ByteArray := .mk #[44, 42, 21, 4, 4, 96, 46, 42, 21, 4, 5, 96, 46, 182, 1, 37, 54, 6, 44, 182, 0, 166, 21, 5]
theorem wdL_law_3018 : LocW cL_law 3018 bdL_law_3018 := loc_of (by decide +kernel)
theorem adL_law_3018 : De bdL_law_3018 0 (.aload_n 2) 1 ∧ De bdL_law_3018 1 (.aload_n 0) 1 ∧ De bdL_law_3018 2 (.iload 4) 2 ∧ De bdL_law_3018 4 (.iconst 1) 1 ∧ De bdL_law_3018 5 (.iadd) 1 ∧ De bdL_law_3018 6 (.iaload) 1 ∧ De bdL_law_3018 7 (.aload_n 0) 1 ∧ De bdL_law_3018 8 (.iload 4) 2 ∧ De bdL_law_3018 10 (.iconst 2) 1 ∧ De bdL_law_3018 11 (.iadd) 1 ∧ De bdL_law_3018 12 (.iaload) 1 ∧ De bdL_law_3018 13 (.invokevirtual 293) 3 ∧ De bdL_law_3018 16 (.istore 6) 2 ∧ De bdL_law_3018 18 (.aload_n 2) 1 ∧ De bdL_law_3018 19 (.invokevirtual 166) 3 ∧ De bdL_law_3018 22 (.iload 5) 2 := by decide +kernel
theorem dL_law_3018 : decode cL_law 3018 = .ok (.aload_n 2, 1) := dAt wdL_law_3018 adL_law_3018.1 rfl
theorem dL_law_3019 : decode cL_law 3019 = .ok (.aload_n 0, 1) := dAt wdL_law_3018 adL_law_3018.2.1 rfl
theorem dL_law_3020 : decode cL_law 3020 = .ok (.iload 4, 2) := dAt wdL_law_3018 adL_law_3018.2.2.1 rfl
theorem dL_law_3022 : decode cL_law 3022 = .ok (.iconst 1, 1) := dAt wdL_law_3018 adL_law_3018.2.2.2.1 rfl
theorem dL_law_3023 : decode cL_law 3023 = .ok (.iadd, 1) := dAt wdL_law_3018 adL_law_3018.2.2.2.2.1 rfl
theorem dL_law_3024 : decode cL_law 3024 = .ok (.iaload, 1) := dAt wdL_law_3018 adL_law_3018.2.2.2.2.2.1 rfl
theorem dL_law_3025 : decode cL_law 3025 = .ok (.aload_n 0, 1) := dAt wdL_law_3018 adL_law_3018.2.2.2.2.2.2.1 rfl
theorem dL_law_3026 : decode cL_law 3026 = .ok (.iload 4, 2) := dAt wdL_law_3018 adL_law_3018.2.2.2.2.2.2.2.1 rfl
theorem dL_law_3028 : decode cL_law 3028 = .ok (.iconst 2, 1) := dAt wdL_law_3018 adL_law_3018.2.2.2.2.2.2.2.2.1 rfl
theorem dL_law_3029 : decode cL_law 3029 = .ok (.iadd, 1) := dAt wdL_law_3018 adL_law_3018.2.2.2.2.2.2.2.2.2.1 rfl
theorem dL_law_3030 : decode cL_law 3030 = .ok (.iaload, 1) := dAt wdL_law_3018 adL_law_3018.2.2.2.2.2.2.2.2.2.2.1 rfl
theorem dL_law_3031 : decode cL_law 3031 = .ok (.invokevirtual 293, 3) := dAt wdL_law_3018 adL_law_3018.2.2.2.2.2.2.2.2.2.2.2.1 rfl
theorem dL_law_3034 : decode cL_law 3034 = .ok (.istore 6, 2) := dAt wdL_law_3018 adL_law_3018.2.2.2.2.2.2.2.2.2.2.2.2.1 rfl
theorem dL_law_3036 : decode cL_law 3036 = .ok (.aload_n 2, 1) := dAt wdL_law_3018 adL_law_3018.2.2.2.2.2.2.2.2.2.2.2.2.2.1 rfl
theorem dL_law_3037 : decode cL_law 3037 = .ok (.invokevirtual 166, 3) := dAt wdL_law_3018 adL_law_3018.2.2.2.2.2.2.2.2.2.2.2.2.2.2.1 rfl
theorem dL_law_3040 : decode cL_law 3040 = .ok (.iload 5, 2) := dAt wdL_law_3018 adL_law_3018.2.2.2.2.2.2.2.2.2.2.2.2.2.2.2 rfl
def bdL_law_3042 : ByteArray := .mk #[159, 0, 5, 3, 172, 21, 5, 154, 0, 15, 45, 3, 47, 21, 6, 133, 148, 153, 0, 5, 3, 172, 167, 0, 145, 43]
theorem wdL_law_3042 : LocW cL_law 3042 bdL_law_3042 := loc_of (by decide +kernel)
theorem adL_law_3042 : De bdL_law_3042 0 (.if_icmp .eq 5) 3 ∧ De bdL_law_3042 3 (.iconst 0) 1 ∧ De bdL_law_3042 4 (.ireturn) 1 ∧ De bdL_law_3042 5 (.iload 5) 2 ∧ De bdL_law_3042 7 (.ifCond .ne 15) 3 ∧ De bdL_law_3042 10 (.aload_n 3) 1 ∧ De bdL_law_3042 11 (.iconst 0) 1 ∧ De bdL_law_3042 12 (.laload) 1 ∧ De bdL_law_3042 13 (.iload 6) 2 ∧ De bdL_law_3042 15 (.i2l) 1 ∧ De bdL_law_3042 16 (.lcmp) 1 ∧ De bdL_law_3042 17 (.ifCond .eq 5) 3 ∧ De bdL_law_3042 20 (.iconst 0) 1 ∧ De bdL_law_3042 21 (.ireturn) 1 ∧ De bdL_law_3042 22 (.goto 145) 3 ∧ De bdL_law_3042 25 (.aload_n 1) 1 := by decide +kernel
theorem dL_law_3042 : decode cL_law 3042 = .ok (.if_icmp .eq 5, 3) := dAt wdL_law_3042 adL_law_3042.1 rfl
theorem dL_law_3045 : decode cL_law 3045 = .ok (.iconst 0, 1) := dAt wdL_law_3042 adL_law_3042.2.1 rfl
theorem dL_law_3046 : decode cL_law 3046 = .ok (.ireturn, 1) := dAt wdL_law_3042 adL_law_3042.2.2.1 rfl
theorem dL_law_3047 : decode cL_law 3047 = .ok (.iload 5, 2) := dAt wdL_law_3042 adL_law_3042.2.2.2.1 rfl
theorem dL_law_3049 : decode cL_law 3049 = .ok (.ifCond .ne 15, 3) := dAt wdL_law_3042 adL_law_3042.2.2.2.2.1 rfl
theorem dL_law_3052 : decode cL_law 3052 = .ok (.aload_n 3, 1) := dAt wdL_law_3042 adL_law_3042.2.2.2.2.2.1 rfl
theorem dL_law_3053 : decode cL_law 3053 = .ok (.iconst 0, 1) := dAt wdL_law_3042 adL_law_3042.2.2.2.2.2.2.1 rfl
theorem dL_law_3054 : decode cL_law 3054 = .ok (.laload, 1) := dAt wdL_law_3042 adL_law_3042.2.2.2.2.2.2.2.1 rfl
theorem dL_law_3055 : decode cL_law 3055 = .ok (.iload 6, 2) := dAt wdL_law_3042 adL_law_3042.2.2.2.2.2.2.2.2.1 rfl
theorem dL_law_3057 : decode cL_law 3057 = .ok (.i2l, 1) := dAt wdL_law_3042 adL_law_3042.2.2.2.2.2.2.2.2.2.1 rfl
theorem dL_law_3058 : decode cL_law 3058 = .ok (.lcmp, 1) := dAt wdL_law_3042 adL_law_3042.2.2.2.2.2.2.2.2.2.2.1 rfl
theorem dL_law_3059 : decode cL_law 3059 = .ok (.ifCond .eq 5, 3) := dAt wdL_law_3042 adL_law_3042.2.2.2.2.2.2.2.2.2.2.2.1 rfl
theorem dL_law_3062 : decode cL_law 3062 = .ok (.iconst 0, 1) := dAt wdL_law_3042 adL_law_3042.2.2.2.2.2.2.2.2.2.2.2.2.1 rfl
theorem dL_law_3063 : decode cL_law 3063 = .ok (.ireturn, 1) := dAt wdL_law_3042 adL_law_3042.2.2.2.2.2.2.2.2.2.2.2.2.2.1 rfl
theorem dL_law_3064 : decode cL_law 3064 = .ok (.goto 145, 3) := dAt wdL_law_3042 adL_law_3042.2.2.2.2.2.2.2.2.2.2.2.2.2.2.1 rfl
theorem dL_law_3067 : decode cL_law 3067 = .ok (.aload_n 1, 1) := dAt wdL_law_3042 adL_law_3042.2.2.2.2.2.2.2.2.2.2.2.2.2.2.2 rfl
def bdL_law_3068 : ByteArray := .mk #[42, 21, 4, 4, 96, 46, 42, 21, 4, 5, 96, 46, 42, 21, 4, 6, 96, 46, 45]
theorem wdL_law_3068 : LocW cL_law 3068 bdL_law_3068 := loc_of (by decide +kernel)
theorem adL_law_3068 : De bdL_law_3068 0 (.aload_n 0) 1 ∧ De bdL_law_3068 1 (.iload 4) 2 ∧ De bdL_law_3068 3 (.iconst 1) 1 ∧ De bdL_law_3068 4 (.iadd) 1 ∧ De bdL_law_3068 5 (.iaload) 1 ∧ De bdL_law_3068 6 (.aload_n 0) 1 ∧ De bdL_law_3068 7 (.iload 4) 2 ∧ De bdL_law_3068 9 (.iconst 2) 1 ∧ De bdL_law_3068 10 (.iadd) 1 ∧ De bdL_law_3068 11 (.iaload) 1 ∧ De bdL_law_3068 12 (.aload_n 0) 1 ∧ De bdL_law_3068 13 (.iload 4) 2 ∧ De bdL_law_3068 15 (.iconst 3) 1 ∧ De bdL_law_3068 16 (.iadd) 1 ∧ De bdL_law_3068 17 (.iaload) 1 ∧ De bdL_law_3068 18 (.aload_n 3) 1 := by decide +kernel
theorem dL_law_3068 : decode cL_law 3068 = .ok (.aload_n 0, 1) := dAt wdL_law_3068 adL_law_3068.1 rfl
theorem dL_law_3069 : decode cL_law 3069 = .ok (.iload 4, 2) := dAt wdL_law_3068 adL_law_3068.2.1 rfl
theorem dL_law_3071 : decode cL_law 3071 = .ok (.iconst 1, 1) := dAt wdL_law_3068 adL_law_3068.2.2.1 rfl
theorem dL_law_3072 : decode cL_law 3072 = .ok (.iadd, 1) := dAt wdL_law_3068 adL_law_3068.2.2.2.1 rfl
theorem dL_law_3073 : decode cL_law 3073 = .ok (.iaload, 1) := dAt wdL_law_3068 adL_law_3068.2.2.2.2.1 rfl
theorem dL_law_3074 : decode cL_law 3074 = .ok (.aload_n 0, 1) := dAt wdL_law_3068 adL_law_3068.2.2.2.2.2.1 rfl
theorem dL_law_3075 : decode cL_law 3075 = .ok (.iload 4, 2) := dAt wdL_law_3068 adL_law_3068.2.2.2.2.2.2.1 rfl
theorem dL_law_3077 : decode cL_law 3077 = .ok (.iconst 2, 1) := dAt wdL_law_3068 adL_law_3068.2.2.2.2.2.2.2.1 rfl
theorem dL_law_3078 : decode cL_law 3078 = .ok (.iadd, 1) := dAt wdL_law_3068 adL_law_3068.2.2.2.2.2.2.2.2.1 rfl
theorem dL_law_3079 : decode cL_law 3079 = .ok (.iaload, 1) := dAt wdL_law_3068 adL_law_3068.2.2.2.2.2.2.2.2.2.1 rfl
theorem dL_law_3080 : decode cL_law 3080 = .ok (.aload_n 0, 1) := dAt wdL_law_3068 adL_law_3068.2.2.2.2.2.2.2.2.2.2.1 rfl
theorem dL_law_3081 : decode cL_law 3081 = .ok (.iload 4, 2) := dAt wdL_law_3068 adL_law_3068.2.2.2.2.2.2.2.2.2.2.2.1 rfl
theorem dL_law_3083 : decode cL_law 3083 = .ok (.iconst 3, 1) := dAt wdL_law_3068 adL_law_3068.2.2.2.2.2.2.2.2.2.2.2.2.1 rfl
theorem dL_law_3084 : decode cL_law 3084 = .ok (.iadd, 1) := dAt wdL_law_3068 adL_law_3068.2.2.2.2.2.2.2.2.2.2.2.2.2.1 rfl
theorem dL_law_3085 : decode cL_law 3085 = .ok (.iaload, 1) := dAt wdL_law_3068 adL_law_3068.2.2.2.2.2.2.2.2.2.2.2.2.2.2.1 rfl
theorem dL_law_3086 : decode cL_law 3086 = .ok (.aload_n 3, 1) := dAt wdL_law_3068 adL_law_3068.2.2.2.2.2.2.2.2.2.2.2.2.2.2.2 rfl
def bdL_law_3087 : ByteArray := .mk #[184, 1, 38, 54, 5, 44, 42, 21, 4, 4, 96, 46, 42, 21, 4, 5, 96, 46, 42, 21, 4, 6]
theorem wdL_law_3087 : LocW cL_law 3087 bdL_law_3087 := loc_of (by decide +kernel)
theorem adL_law_3087 : De bdL_law_3087 0 (.invokestatic 294) 3 ∧ De bdL_law_3087 3 (.istore 5) 2 ∧ De bdL_law_3087 5 (.aload_n 2) 1 ∧ De bdL_law_3087 6 (.aload_n 0) 1 ∧ De bdL_law_3087 7 (.iload 4) 2 ∧ De bdL_law_3087 9 (.iconst 1) 1 ∧ De bdL_law_3087 10 (.iadd) 1 ∧ De bdL_law_3087 11 (.iaload) 1 ∧ De bdL_law_3087 12 (.aload_n 0) 1 ∧ De bdL_law_3087 13 (.iload 4) 2 ∧ De bdL_law_3087 15 (.iconst 2) 1 ∧ De bdL_law_3087 16 (.iadd) 1 ∧ De bdL_law_3087 17 (.iaload) 1 ∧ De bdL_law_3087 18 (.aload_n 0) 1 ∧ De bdL_law_3087 19 (.iload 4) 2 ∧ De bdL_law_3087 21 (.iconst 3) 1 := by decide +kernel
theorem dL_law_3087 : decode cL_law 3087 = .ok (.invokestatic 294, 3) := dAt wdL_law_3087 adL_law_3087.1 rfl
theorem dL_law_3090 : decode cL_law 3090 = .ok (.istore 5, 2) := dAt wdL_law_3087 adL_law_3087.2.1 rfl
theorem dL_law_3092 : decode cL_law 3092 = .ok (.aload_n 2, 1) := dAt wdL_law_3087 adL_law_3087.2.2.1 rfl
theorem dL_law_3093 : decode cL_law 3093 = .ok (.aload_n 0, 1) := dAt wdL_law_3087 adL_law_3087.2.2.2.1 rfl
theorem dL_law_3094 : decode cL_law 3094 = .ok (.iload 4, 2) := dAt wdL_law_3087 adL_law_3087.2.2.2.2.1 rfl
theorem dL_law_3096 : decode cL_law 3096 = .ok (.iconst 1, 1) := dAt wdL_law_3087 adL_law_3087.2.2.2.2.2.1 rfl
theorem dL_law_3097 : decode cL_law 3097 = .ok (.iadd, 1) := dAt wdL_law_3087 adL_law_3087.2.2.2.2.2.2.1 rfl
theorem dL_law_3098 : decode cL_law 3098 = .ok (.iaload, 1) := dAt wdL_law_3087 adL_law_3087.2.2.2.2.2.2.2.1 rfl
theorem dL_law_3099 : decode cL_law 3099 = .ok (.aload_n 0, 1) := dAt wdL_law_3087 adL_law_3087.2.2.2.2.2.2.2.2.1 rfl
theorem dL_law_3100 : decode cL_law 3100 = .ok (.iload 4, 2) := dAt wdL_law_3087 adL_law_3087.2.2.2.2.2.2.2.2.2.1 rfl
theorem dL_law_3102 : decode cL_law 3102 = .ok (.iconst 2, 1) := dAt wdL_law_3087 adL_law_3087.2.2.2.2.2.2.2.2.2.2.1 rfl
theorem dL_law_3103 : decode cL_law 3103 = .ok (.iadd, 1) := dAt wdL_law_3087 adL_law_3087.2.2.2.2.2.2.2.2.2.2.2.1 rfl
theorem dL_law_3104 : decode cL_law 3104 = .ok (.iaload, 1) := dAt wdL_law_3087 adL_law_3087.2.2.2.2.2.2.2.2.2.2.2.2.1 rfl
theorem dL_law_3105 : decode cL_law 3105 = .ok (.aload_n 0, 1) := dAt wdL_law_3087 adL_law_3087.2.2.2.2.2.2.2.2.2.2.2.2.2.1 rfl
theorem dL_law_3106 : decode cL_law 3106 = .ok (.iload 4, 2) := dAt wdL_law_3087 adL_law_3087.2.2.2.2.2.2.2.2.2.2.2.2.2.2.1 rfl
theorem dL_law_3108 : decode cL_law 3108 = .ok (.iconst 3, 1) := dAt wdL_law_3087 adL_law_3087.2.2.2.2.2.2.2.2.2.2.2.2.2.2.2 rfl
def bdL_law_3109 : ByteArray := .mk #[96, 46, 182, 1, 40, 54, 6, 44, 182, 0, 166, 21, 5, 159, 0, 5, 3, 172, 21, 5, 154, 0, 15, 45, 3, 47, 21, 6]
theorem wdL_law_3109 : LocW cL_law 3109 bdL_law_3109 := loc_of (by decide +kernel)
theorem adL_law_3109 : De bdL_law_3109 0 (.iadd) 1 ∧ De bdL_law_3109 1 (.iaload) 1 ∧ De bdL_law_3109 2 (.invokevirtual 296) 3 ∧ De bdL_law_3109 5 (.istore 6) 2 ∧ De bdL_law_3109 7 (.aload_n 2) 1 ∧ De bdL_law_3109 8 (.invokevirtual 166) 3 ∧ De bdL_law_3109 11 (.iload 5) 2 ∧ De bdL_law_3109 13 (.if_icmp .eq 5) 3 ∧ De bdL_law_3109 16 (.iconst 0) 1 ∧ De bdL_law_3109 17 (.ireturn) 1 ∧ De bdL_law_3109 18 (.iload 5) 2 ∧ De bdL_law_3109 20 (.ifCond .ne 15) 3 ∧ De bdL_law_3109 23 (.aload_n 3) 1 ∧ De bdL_law_3109 24 (.iconst 0) 1 ∧ De bdL_law_3109 25 (.laload) 1 ∧ De bdL_law_3109 26 (.iload 6) 2 := by decide +kernel
theorem dL_law_3109 : decode cL_law 3109 = .ok (.iadd, 1) := dAt wdL_law_3109 adL_law_3109.1 rfl
theorem dL_law_3110 : decode cL_law 3110 = .ok (.iaload, 1) := dAt wdL_law_3109 adL_law_3109.2.1 rfl
theorem dL_law_3111 : decode cL_law 3111 = .ok (.invokevirtual 296, 3) := dAt wdL_law_3109 adL_law_3109.2.2.1 rfl
theorem dL_law_3114 : decode cL_law 3114 = .ok (.istore 6, 2) := dAt wdL_law_3109 adL_law_3109.2.2.2.1 rfl
theorem dL_law_3116 : decode cL_law 3116 = .ok (.aload_n 2, 1) := dAt wdL_law_3109 adL_law_3109.2.2.2.2.1 rfl
theorem dL_law_3117 : decode cL_law 3117 = .ok (.invokevirtual 166, 3) := dAt wdL_law_3109 adL_law_3109.2.2.2.2.2.1 rfl
theorem dL_law_3120 : decode cL_law 3120 = .ok (.iload 5, 2) := dAt wdL_law_3109 adL_law_3109.2.2.2.2.2.2.1 rfl
theorem dL_law_3122 : decode cL_law 3122 = .ok (.if_icmp .eq 5, 3) := dAt wdL_law_3109 adL_law_3109.2.2.2.2.2.2.2.1 rfl
theorem dL_law_3125 : decode cL_law 3125 = .ok (.iconst 0, 1) := dAt wdL_law_3109 adL_law_3109.2.2.2.2.2.2.2.2.1 rfl
theorem dL_law_3126 : decode cL_law 3126 = .ok (.ireturn, 1) := dAt wdL_law_3109 adL_law_3109.2.2.2.2.2.2.2.2.2.1 rfl
theorem dL_law_3127 : decode cL_law 3127 = .ok (.iload 5, 2) := dAt wdL_law_3109 adL_law_3109.2.2.2.2.2.2.2.2.2.2.1 rfl
theorem dL_law_3129 : decode cL_law 3129 = .ok (.ifCond .ne 15, 3) := dAt wdL_law_3109 adL_law_3109.2.2.2.2.2.2.2.2.2.2.2.1 rfl
theorem dL_law_3132 : decode cL_law 3132 = .ok (.aload_n 3, 1) := dAt wdL_law_3109 adL_law_3109.2.2.2.2.2.2.2.2.2.2.2.2.1 rfl
theorem dL_law_3133 : decode cL_law 3133 = .ok (.iconst 0, 1) := dAt wdL_law_3109 adL_law_3109.2.2.2.2.2.2.2.2.2.2.2.2.2.1 rfl
theorem dL_law_3134 : decode cL_law 3134 = .ok (.laload, 1) := dAt wdL_law_3109 adL_law_3109.2.2.2.2.2.2.2.2.2.2.2.2.2.2.1 rfl
theorem dL_law_3135 : decode cL_law 3135 = .ok (.iload 6, 2) := dAt wdL_law_3109 adL_law_3109.2.2.2.2.2.2.2.2.2.2.2.2.2.2.2 rfl
def bdL_law_3137 : ByteArray := .mk #[133, 148, 153, 0, 5, 3, 172, 167, 0, 65, 43, 182, 1, 41, 44, 182, 1, 44, 159, 0, 54, 3, 172, 43, 182, 1, 45, 44]
theorem wdL_law_3137 : LocW cL_law 3137 bdL_law_3137 := loc_of (by decide +kernel)
theorem adL_law_3137 : De bdL_law_3137 0 (.i2l) 1 ∧ De bdL_law_3137 1 (.lcmp) 1 ∧ De bdL_law_3137 2 (.ifCond .eq 5) 3 ∧ De bdL_law_3137 5 (.iconst 0) 1 ∧ De bdL_law_3137 6 (.ireturn) 1 ∧ De bdL_law_3137 7 (.goto 65) 3 ∧ De bdL_law_3137 10 (.aload_n 1) 1 ∧ De bdL_law_3137 11 (.invokevirtual 297) 3 ∧ De bdL_law_3137 14 (.aload_n 2) 1 ∧ De bdL_law_3137 15 (.invokevirtual 300) 3 ∧ De bdL_law_3137 18 (.if_icmp .eq 54) 3 ∧ De bdL_law_3137 21 (.iconst 0) 1 ∧ De bdL_law_3137 22 (.ireturn) 1 ∧ De bdL_law_3137 23 (.aload_n 1) 1 ∧ De bdL_law_3137 24 (.invokevirtual 301) 3 ∧ De bdL_law_3137 27 (.aload_n 2) 1 := by decide +kernel
theorem dL_law_3137 : decode cL_law 3137 = .ok (.i2l, 1) := dAt wdL_law_3137 adL_law_3137.1 rfl
theorem dL_law_3138 : decode cL_law 3138 = .ok (.lcmp, 1) := dAt wdL_law_3137 adL_law_3137.2.1 rfl
theorem dL_law_3139 : decode cL_law 3139 = .ok (.ifCond .eq 5, 3) := dAt wdL_law_3137 adL_law_3137.2.2.1 rfl
theorem dL_law_3142 : decode cL_law 3142 = .ok (.iconst 0, 1) := dAt wdL_law_3137 adL_law_3137.2.2.2.1 rfl
theorem dL_law_3143 : decode cL_law 3143 = .ok (.ireturn, 1) := dAt wdL_law_3137 adL_law_3137.2.2.2.2.1 rfl
theorem dL_law_3144 : decode cL_law 3144 = .ok (.goto 65, 3) := dAt wdL_law_3137 adL_law_3137.2.2.2.2.2.1 rfl
theorem dL_law_3147 : decode cL_law 3147 = .ok (.aload_n 1, 1) := dAt wdL_law_3137 adL_law_3137.2.2.2.2.2.2.1 rfl
theorem dL_law_3148 : decode cL_law 3148 = .ok (.invokevirtual 297, 3) := dAt wdL_law_3137 adL_law_3137.2.2.2.2.2.2.2.1 rfl
theorem dL_law_3151 : decode cL_law 3151 = .ok (.aload_n 2, 1) := dAt wdL_law_3137 adL_law_3137.2.2.2.2.2.2.2.2.1 rfl
theorem dL_law_3152 : decode cL_law 3152 = .ok (.invokevirtual 300, 3) := dAt wdL_law_3137 adL_law_3137.2.2.2.2.2.2.2.2.2.1 rfl
theorem dL_law_3155 : decode cL_law 3155 = .ok (.if_icmp .eq 54, 3) := dAt wdL_law_3137 adL_law_3137.2.2.2.2.2.2.2.2.2.2.1 rfl
theorem dL_law_3158 : decode cL_law 3158 = .ok (.iconst 0, 1) := dAt wdL_law_3137 adL_law_3137.2.2.2.2.2.2.2.2.2.2.2.1 rfl
theorem dL_law_3159 : decode cL_law 3159 = .ok (.ireturn, 1) := dAt wdL_law_3137 adL_law_3137.2.2.2.2.2.2.2.2.2.2.2.2.1 rfl
theorem dL_law_3160 : decode cL_law 3160 = .ok (.aload_n 1, 1) := dAt wdL_law_3137 adL_law_3137.2.2.2.2.2.2.2.2.2.2.2.2.2.1 rfl
theorem dL_law_3161 : decode cL_law 3161 = .ok (.invokevirtual 301, 3) := dAt wdL_law_3137 adL_law_3137.2.2.2.2.2.2.2.2.2.2.2.2.2.2.1 rfl
theorem dL_law_3164 : decode cL_law 3164 = .ok (.aload_n 2, 1) := dAt wdL_law_3137 adL_law_3137.2.2.2.2.2.2.2.2.2.2.2.2.2.2.2 rfl
def bdL_law_3165 : ByteArray := .mk #[182, 1, 48, 167, 0, 41, 43, 182, 1, 49, 44, 182, 1, 53, 159, 0, 30, 3, 172, 43, 42, 21, 4, 4, 96, 46, 182, 1, 54]
theorem wdL_law_3165 : LocW cL_law 3165 bdL_law_3165 := loc_of (by decide +kernel)
theorem adL_law_3165 : De bdL_law_3165 0 (.invokevirtual 304) 3 ∧ De bdL_law_3165 3 (.goto 41) 3 ∧ De bdL_law_3165 6 (.aload_n 1) 1 ∧ De bdL_law_3165 7 (.invokevirtual 305) 3 ∧ De bdL_law_3165 10 (.aload_n 2) 1 ∧ De bdL_law_3165 11 (.invokevirtual 309) 3 ∧ De bdL_law_3165 14 (.if_icmp .eq 30) 3 ∧ De bdL_law_3165 17 (.iconst 0) 1 ∧ De bdL_law_3165 18 (.ireturn) 1 ∧ De bdL_law_3165 19 (.aload_n 1) 1 ∧ De bdL_law_3165 20 (.aload_n 0) 1 ∧ De bdL_law_3165 21 (.iload 4) 2 ∧ De bdL_law_3165 23 (.iconst 1) 1 ∧ De bdL_law_3165 24 (.iadd) 1 ∧ De bdL_law_3165 25 (.iaload) 1 ∧ De bdL_law_3165 26 (.invokevirtual 310) 3 := by decide +kernel
theorem dL_law_3165 : decode cL_law 3165 = .ok (.invokevirtual 304, 3) := dAt wdL_law_3165 adL_law_3165.1 rfl
theorem dL_law_3168 : decode cL_law 3168 = .ok (.goto 41, 3) := dAt wdL_law_3165 adL_law_3165.2.1 rfl
theorem dL_law_3171 : decode cL_law 3171 = .ok (.aload_n 1, 1) := dAt wdL_law_3165 adL_law_3165.2.2.1 rfl
theorem dL_law_3172 : decode cL_law 3172 = .ok (.invokevirtual 305, 3) := dAt wdL_law_3165 adL_law_3165.2.2.2.1 rfl
theorem dL_law_3175 : decode cL_law 3175 = .ok (.aload_n 2, 1) := dAt wdL_law_3165 adL_law_3165.2.2.2.2.1 rfl
theorem dL_law_3176 : decode cL_law 3176 = .ok (.invokevirtual 309, 3) := dAt wdL_law_3165 adL_law_3165.2.2.2.2.2.1 rfl
theorem dL_law_3179 : decode cL_law 3179 = .ok (.if_icmp .eq 30, 3) := dAt wdL_law_3165 adL_law_3165.2.2.2.2.2.2.1 rfl
theorem dL_law_3182 : decode cL_law 3182 = .ok (.iconst 0, 1) := dAt wdL_law_3165 adL_law_3165.2.2.2.2.2.2.2.1 rfl
theorem dL_law_3183 : decode cL_law 3183 = .ok (.ireturn, 1) := dAt wdL_law_3165 adL_law_3165.2.2.2.2.2.2.2.2.1 rfl
theorem dL_law_3184 : decode cL_law 3184 = .ok (.aload_n 1, 1) := dAt wdL_law_3165 adL_law_3165.2.2.2.2.2.2.2.2.2.1 rfl
theorem dL_law_3185 : decode cL_law 3185 = .ok (.aload_n 0, 1) := dAt wdL_law_3165 adL_law_3165.2.2.2.2.2.2.2.2.2.2.1 rfl
theorem dL_law_3186 : decode cL_law 3186 = .ok (.iload 4, 2) := dAt wdL_law_3165 adL_law_3165.2.2.2.2.2.2.2.2.2.2.2.1 rfl
theorem dL_law_3188 : decode cL_law 3188 = .ok (.iconst 1, 1) := dAt wdL_law_3165 adL_law_3165.2.2.2.2.2.2.2.2.2.2.2.2.1 rfl
theorem dL_law_3189 : decode cL_law 3189 = .ok (.iadd, 1) := dAt wdL_law_3165 adL_law_3165.2.2.2.2.2.2.2.2.2.2.2.2.2.1 rfl
theorem dL_law_3190 : decode cL_law 3190 = .ok (.iaload, 1) := dAt wdL_law_3165 adL_law_3165.2.2.2.2.2.2.2.2.2.2.2.2.2.2.1 rfl
theorem dL_law_3191 : decode cL_law 3191 = .ok (.invokevirtual 310, 3) := dAt wdL_law_3165 adL_law_3165.2.2.2.2.2.2.2.2.2.2.2.2.2.2.2 rfl
def bdL_law_3194 : ByteArray := .mk #[44, 42, 21, 4, 4, 96, 46, 182, 1, 57, 159, 0, 5, 3, 172, 132, 4, 6, 167, 243, 139, 4, 172]
theorem wdL_law_3194 : LocW cL_law 3194 bdL_law_3194 := loc_of (by decide +kernel)
theorem adL_law_3194 : De bdL_law_3194 0 (.aload_n 2) 1 ∧ De bdL_law_3194 1 (.aload_n 0) 1 ∧ De bdL_law_3194 2 (.iload 4) 2 ∧ De bdL_law_3194 4 (.iconst 1) 1 ∧ De bdL_law_3194 5 (.iadd) 1 ∧ De bdL_law_3194 6 (.iaload) 1 ∧ De bdL_law_3194 7 (.invokevirtual 313) 3 ∧ De bdL_law_3194 10 (.if_icmp .eq 5) 3 ∧ De bdL_law_3194 13 (.iconst 0) 1 ∧ De bdL_law_3194 14 (.ireturn) 1 ∧ De bdL_law_3194 15 (.iinc 4 6) 3 ∧ De bdL_law_3194 18 (.goto (-3189)) 3 ∧ De bdL_law_3194 21 (.iconst 1) 1 ∧ De bdL_law_3194 22 (.ireturn) 1 := by decide +kernel
theorem dL_law_3194 : decode cL_law 3194 = .ok (.aload_n 2, 1) := dAt wdL_law_3194 adL_law_3194.1 rfl
theorem dL_law_3195 : decode cL_law 3195 = .ok (.aload_n 0, 1) := dAt wdL_law_3194 adL_law_3194.2.1 rfl
theorem dL_law_3196 : decode cL_law 3196 = .ok (.iload 4, 2) := dAt wdL_law_3194 adL_law_3194.2.2.1 rfl
theorem dL_law_3198 : decode cL_law 3198 = .ok (.iconst 1, 1) := dAt wdL_law_3194 adL_law_3194.2.2.2.1 rfl
theorem dL_law_3199 : decode cL_law 3199 = .ok (.iadd, 1) := dAt wdL_law_3194 adL_law_3194.2.2.2.2.1 rfl
theorem dL_law_3200 : decode cL_law 3200 = .ok (.iaload, 1) := dAt wdL_law_3194 adL_law_3194.2.2.2.2.2.1 rfl
theorem dL_law_3201 : decode cL_law 3201 = .ok (.invokevirtual 313, 3) := dAt wdL_law_3194 adL_law_3194.2.2.2.2.2.2.1 rfl
theorem dL_law_3204 : decode cL_law 3204 = .ok (.if_icmp .eq 5, 3) := dAt wdL_law_3194 adL_law_3194.2.2.2.2.2.2.2.1 rfl
theorem dL_law_3207 : decode cL_law 3207 = .ok (.iconst 0, 1) := dAt wdL_law_3194 adL_law_3194.2.2.2.2.2.2.2.2.1 rfl
theorem dL_law_3208 : decode cL_law 3208 = .ok (.ireturn, 1) := dAt wdL_law_3194 adL_law_3194.2.2.2.2.2.2.2.2.2.1 rfl
theorem dL_law_3209 : decode cL_law 3209 = .ok (.iinc 4 6, 3) := dAt wdL_law_3194 adL_law_3194.2.2.2.2.2.2.2.2.2.2.1 rfl
theorem dL_law_3212 : decode cL_law 3212 = .ok (.goto (-3189), 3) := dAt wdL_law_3194 adL_law_3194.2.2.2.2.2.2.2.2.2.2.2.1 rfl
theorem dL_law_3215 : decode cL_law 3215 = .ok (.iconst 1, 1) := dAt wdL_law_3194 adL_law_3194.2.2.2.2.2.2.2.2.2.2.2.2.1 rfl
theorem dL_law_3216 : decode cL_law 3216 = .ok (.ireturn, 1) := dAt wdL_law_3194 adL_law_3194.2.2.2.2.2.2.2.2.2.2.2.2.2 rfl

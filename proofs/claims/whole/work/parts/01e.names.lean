theorem dL_law_2505 : decode cL_law 2505 = .ok (.invokevirtual 299, 3) := by decide +kernel
theorem dL_law_2508 : decode cL_law 2508 = .ok (.aload_n 2, 1) := by decide +kernel
theorem dL_law_2509 : decode cL_law 2509 = .ok (.invokevirtual 302, 3) := by decide +kernel
theorem dL_law_2512 : decode cL_law 2512 = .ok (.if_icmp .eq 49, 3) := by decide +kernel
theorem dL_law_2515 : decode cL_law 2515 = .ok (.iconst 0, 1) := by decide +kernel
theorem dL_law_2516 : decode cL_law 2516 = .ok (.ireturn, 1) := by decide +kernel
theorem dL_law_2517 : decode cL_law 2517 = .ok (.aload_n 1, 1) := by decide +kernel
theorem dL_law_2518 : decode cL_law 2518 = .ok (.aload_n 3, 1) := by decide +kernel
theorem dL_law_2519 : decode cL_law 2519 = .ok (.invokestatic 303, 3) := by decide +kernel
theorem dL_law_2522 : decode cL_law 2522 = .ok (.istore 6, 2) := by decide +kernel
theorem dL_law_2524 : decode cL_law 2524 = .ok (.aload_n 2, 1) := by decide +kernel
theorem dL_law_2525 : decode cL_law 2525 = .ok (.invokevirtual 305, 3) := by decide +kernel
theorem dL_law_2528 : decode cL_law 2528 = .ok (.istore 7, 2) := by decide +kernel
theorem dL_law_2530 : decode cL_law 2530 = .ok (.aload_n 2, 1) := by decide +kernel
theorem dL_law_2531 : decode cL_law 2531 = .ok (.invokevirtual 152, 3) := by decide +kernel
theorem dL_law_2534 : decode cL_law 2534 = .ok (.iload 6, 2) := by decide +kernel
theorem dL_law_2536 : decode cL_law 2536 = .ok (.if_icmp .eq 5, 3) := by decide +kernel
theorem dL_law_2539 : decode cL_law 2539 = .ok (.iconst 0, 1) := by decide +kernel
theorem dL_law_2540 : decode cL_law 2540 = .ok (.ireturn, 1) := by decide +kernel
theorem dL_law_2541 : decode cL_law 2541 = .ok (.iload 6, 2) := by decide +kernel
theorem dL_law_2543 : decode cL_law 2543 = .ok (.ifCond .ne 15, 3) := by decide +kernel
theorem dL_law_2546 : decode cL_law 2546 = .ok (.aload_n 3, 1) := by decide +kernel
theorem dL_law_2547 : decode cL_law 2547 = .ok (.iconst 0, 1) := by decide +kernel
theorem dL_law_2548 : decode cL_law 2548 = .ok (.laload, 1) := by decide +kernel
theorem dL_law_2549 : decode cL_law 2549 = .ok (.iload 7, 2) := by decide +kernel
theorem dL_law_2551 : decode cL_law 2551 = .ok (.i2l, 1) := by decide +kernel
theorem dL_law_2552 : decode cL_law 2552 = .ok (.lcmp, 1) := by decide +kernel
theorem dL_law_2553 : decode cL_law 2553 = .ok (.ifCond .eq 5, 3) := by decide +kernel
theorem dL_law_2556 : decode cL_law 2556 = .ok (.iconst 0, 1) := by decide +kernel
theorem dL_law_2557 : decode cL_law 2557 = .ok (.ireturn, 1) := by decide +kernel
theorem dL_law_2558 : decode cL_law 2558 = .ok (.goto 3, 3) := by decide +kernel
theorem dL_law_2561 : decode cL_law 2561 = .ok (.iinc 5 4, 3) := by decide +kernel
theorem dL_law_2564 : decode cL_law 2564 = .ok (.goto (-2536), 3) := by decide +kernel
theorem dL_law_2567 : decode cL_law 2567 = .ok (.iconst 1, 1) := by decide +kernel
theorem dL_law_2568 : decode cL_law 2568 = .ok (.ireturn, 1) := by decide +kernel
abbrev vwCl : List vw_C := [(RJ0, TJ0, 4), (RJ4, TJ4, 4), (RJx00060, TJx00060, 6), (RJx7c733, TJx7c733, 6), (RX0, TX0, 2), (RX1, TX1, 3), (RX2, TX2, 3), (RX3, TX3, 6), (RX4, TX4, 4), (RX5, TX5, 7), (RX6, TX6, 6), (RX7, TX7, 12), (RX8, TX8, 25)]

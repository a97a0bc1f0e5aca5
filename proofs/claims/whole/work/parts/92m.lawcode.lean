/-! Part 92m: the law's instructions -/
theorem dL_law_2511 : decode code 2511 = .ok (.aload_n 3, 1) := by decide +kernel
theorem dL_law_2512 : decode code 2512 = .ok (.iconst 0, 1) := by decide +kernel
theorem dL_law_2513 : decode code 2513 = .ok (.laload, 1) := by decide +kernel
theorem dL_law_2514 : decode code 2514 = .ok (.iload 7, 2) := by decide +kernel
theorem dL_law_2516 : decode code 2516 = .ok (.i2l, 1) := by decide +kernel
theorem dL_law_2517 : decode code 2517 = .ok (.lcmp, 1) := by decide +kernel
theorem dL_law_2518 : decode code 2518 = .ok (.ifCond .eq 5, 3) := by decide +kernel
theorem dL_law_2521 : decode code 2521 = .ok (.iconst 0, 1) := by decide +kernel
theorem dL_law_2522 : decode code 2522 = .ok (.ireturn, 1) := by decide +kernel
theorem dL_law_2523 : decode code 2523 = .ok (.goto 390, 3) := by decide +kernel
theorem dL_law_2526 : decode code 2526 = .ok (.aload_n 1, 1) := by decide +kernel
theorem dL_law_2527 : decode code 2527 = .ok (.aload_n 0, 1) := by decide +kernel
theorem dL_law_2528 : decode code 2528 = .ok (.iload 5, 2) := by decide +kernel
theorem dL_law_2530 : decode code 2530 = .ok (.iconst 1, 1) := by decide +kernel
theorem dL_law_2531 : decode code 2531 = .ok (.iadd, 1) := by decide +kernel
theorem dL_law_2532 : decode code 2532 = .ok (.iaload, 1) := by decide +kernel
theorem dL_law_2533 : decode code 2533 = .ok (.aload_n 3, 1) := by decide +kernel
theorem dL_law_2534 : decode code 2534 = .ok (.invokestatic 276, 3) := by decide +kernel
theorem dL_law_2537 : decode code 2537 = .ok (.istore 6, 2) := by decide +kernel
theorem dL_law_2539 : decode code 2539 = .ok (.aload_n 2, 1) := by decide +kernel
theorem dL_law_2540 : decode code 2540 = .ok (.aload_n 0, 1) := by decide +kernel
theorem dL_law_2541 : decode code 2541 = .ok (.iload 5, 2) := by decide +kernel
theorem dL_law_2543 : decode code 2543 = .ok (.iconst 1, 1) := by decide +kernel
theorem dL_law_2544 : decode code 2544 = .ok (.iadd, 1) := by decide +kernel
theorem dL_law_2545 : decode code 2545 = .ok (.iaload, 1) := by decide +kernel
theorem dL_law_2546 : decode code 2546 = .ok (.invokevirtual 278, 3) := by decide +kernel
theorem dL_law_2549 : decode code 2549 = .ok (.istore 7, 2) := by decide +kernel
theorem dL_law_2551 : decode code 2551 = .ok (.aload_n 2, 1) := by decide +kernel
theorem dL_law_2552 : decode code 2552 = .ok (.invokevirtual 169, 3) := by decide +kernel
theorem dL_law_2555 : decode code 2555 = .ok (.iload 6, 2) := by decide +kernel
theorem dL_law_2557 : decode code 2557 = .ok (.if_icmp .eq 5, 3) := by decide +kernel
theorem dL_law_2560 : decode code 2560 = .ok (.iconst 0, 1) := by decide +kernel
theorem dL_law_2561 : decode code 2561 = .ok (.ireturn, 1) := by decide +kernel
theorem dL_law_2562 : decode code 2562 = .ok (.iload 6, 2) := by decide +kernel
theorem dL_law_2564 : decode code 2564 = .ok (.ifCond .ne 15, 3) := by decide +kernel
theorem dL_law_2567 : decode code 2567 = .ok (.aload_n 3, 1) := by decide +kernel
theorem dL_law_2568 : decode code 2568 = .ok (.iconst 0, 1) := by decide +kernel
theorem dL_law_2569 : decode code 2569 = .ok (.laload, 1) := by decide +kernel
theorem dL_law_2570 : decode code 2570 = .ok (.iload 7, 2) := by decide +kernel
theorem dL_law_2572 : decode code 2572 = .ok (.i2l, 1) := by decide +kernel
theorem dL_law_2573 : decode code 2573 = .ok (.lcmp, 1) := by decide +kernel
theorem dL_law_2574 : decode code 2574 = .ok (.ifCond .eq 5, 3) := by decide +kernel
theorem dL_law_2577 : decode code 2577 = .ok (.iconst 0, 1) := by decide +kernel
theorem dL_law_2578 : decode code 2578 = .ok (.ireturn, 1) := by decide +kernel
theorem dL_law_2579 : decode code 2579 = .ok (.goto 334, 3) := by decide +kernel
theorem dL_law_2582 : decode code 2582 = .ok (.aload_n 1, 1) := by decide +kernel
theorem dL_law_2583 : decode code 2583 = .ok (.aload_n 0, 1) := by decide +kernel
theorem dL_law_2584 : decode code 2584 = .ok (.iload 5, 2) := by decide +kernel
theorem dL_law_2586 : decode code 2586 = .ok (.iconst 1, 1) := by decide +kernel
theorem dL_law_2587 : decode code 2587 = .ok (.iadd, 1) := by decide +kernel
theorem dL_law_2588 : decode code 2588 = .ok (.iaload, 1) := by decide +kernel
theorem dL_law_2589 : decode code 2589 = .ok (.aload_n 0, 1) := by decide +kernel
theorem dL_law_2590 : decode code 2590 = .ok (.iload 5, 2) := by decide +kernel
theorem dL_law_2592 : decode code 2592 = .ok (.iconst 2, 1) := by decide +kernel
theorem dL_law_2593 : decode code 2593 = .ok (.iadd, 1) := by decide +kernel
theorem dL_law_2594 : decode code 2594 = .ok (.iaload, 1) := by decide +kernel
theorem dL_law_2595 : decode code 2595 = .ok (.aload_n 3, 1) := by decide +kernel
theorem dL_law_2596 : decode code 2596 = .ok (.invokestatic 279, 3) := by decide +kernel
theorem dL_law_2599 : decode code 2599 = .ok (.istore 6, 2) := by decide +kernel
theorem dL_law_2601 : decode code 2601 = .ok (.aload_n 2, 1) := by decide +kernel
theorem dL_law_2602 : decode code 2602 = .ok (.aload_n 0, 1) := by decide +kernel
theorem dL_law_2603 : decode code 2603 = .ok (.iload 5, 2) := by decide +kernel
theorem dL_law_2605 : decode code 2605 = .ok (.iconst 1, 1) := by decide +kernel
theorem dL_law_2606 : decode code 2606 = .ok (.iadd, 1) := by decide +kernel
theorem dL_law_2607 : decode code 2607 = .ok (.iaload, 1) := by decide +kernel
theorem dL_law_2608 : decode code 2608 = .ok (.aload_n 0, 1) := by decide +kernel
theorem dL_law_2609 : decode code 2609 = .ok (.iload 5, 2) := by decide +kernel
theorem dL_law_2611 : decode code 2611 = .ok (.iconst 2, 1) := by decide +kernel
theorem dL_law_2612 : decode code 2612 = .ok (.iadd, 1) := by decide +kernel
theorem dL_law_2613 : decode code 2613 = .ok (.iaload, 1) := by decide +kernel
theorem dL_law_2614 : decode code 2614 = .ok (.invokevirtual 281, 3) := by decide +kernel
theorem dL_law_2617 : decode code 2617 = .ok (.istore 7, 2) := by decide +kernel
theorem dL_law_2619 : decode code 2619 = .ok (.aload_n 2, 1) := by decide +kernel
theorem dL_law_2620 : decode code 2620 = .ok (.invokevirtual 169, 3) := by decide +kernel
theorem dL_law_2623 : decode code 2623 = .ok (.iload 6, 2) := by decide +kernel
theorem dL_law_2625 : decode code 2625 = .ok (.if_icmp .eq 5, 3) := by decide +kernel
theorem dL_law_2628 : decode code 2628 = .ok (.iconst 0, 1) := by decide +kernel
theorem dL_law_2629 : decode code 2629 = .ok (.ireturn, 1) := by decide +kernel
theorem dL_law_2630 : decode code 2630 = .ok (.iload 6, 2) := by decide +kernel
theorem dL_law_2632 : decode code 2632 = .ok (.ifCond .ne 15, 3) := by decide +kernel
theorem dL_law_2635 : decode code 2635 = .ok (.aload_n 3, 1) := by decide +kernel
theorem dL_law_2636 : decode code 2636 = .ok (.iconst 0, 1) := by decide +kernel
theorem dL_law_2637 : decode code 2637 = .ok (.laload, 1) := by decide +kernel
theorem dL_law_2638 : decode code 2638 = .ok (.iload 7, 2) := by decide +kernel
theorem dL_law_2640 : decode code 2640 = .ok (.i2l, 1) := by decide +kernel
theorem dL_law_2641 : decode code 2641 = .ok (.lcmp, 1) := by decide +kernel
theorem dL_law_2642 : decode code 2642 = .ok (.ifCond .eq 5, 3) := by decide +kernel
theorem dL_law_2645 : decode code 2645 = .ok (.iconst 0, 1) := by decide +kernel
theorem dL_law_2646 : decode code 2646 = .ok (.ireturn, 1) := by decide +kernel
theorem dL_law_2647 : decode code 2647 = .ok (.goto 266, 3) := by decide +kernel
theorem dL_law_2650 : decode code 2650 = .ok (.aload_n 1, 1) := by decide +kernel
theorem dL_law_2651 : decode code 2651 = .ok (.aload_n 3, 1) := by decide +kernel
theorem dL_law_2652 : decode code 2652 = .ok (.invokestatic 282, 3) := by decide +kernel
theorem dL_law_2655 : decode code 2655 = .ok (.istore 6, 2) := by decide +kernel
theorem dL_law_2657 : decode code 2657 = .ok (.aload_n 2, 1) := by decide +kernel
theorem dL_law_2658 : decode code 2658 = .ok (.invokevirtual 285, 3) := by decide +kernel
theorem dL_law_2661 : decode code 2661 = .ok (.istore 7, 2) := by decide +kernel
theorem dL_law_2663 : decode code 2663 = .ok (.aload_n 2, 1) := by decide +kernel
theorem dL_law_2664 : decode code 2664 = .ok (.invokevirtual 169, 3) := by decide +kernel
theorem dL_law_2667 : decode code 2667 = .ok (.iload 6, 2) := by decide +kernel
theorem dL_law_2669 : decode code 2669 = .ok (.if_icmp .eq 5, 3) := by decide +kernel
theorem dL_law_2672 : decode code 2672 = .ok (.iconst 0, 1) := by decide +kernel
theorem dL_law_2673 : decode code 2673 = .ok (.ireturn, 1) := by decide +kernel
theorem dL_law_2674 : decode code 2674 = .ok (.iload 6, 2) := by decide +kernel
theorem dL_law_2676 : decode code 2676 = .ok (.ifCond .ne 15, 3) := by decide +kernel
theorem dL_law_2679 : decode code 2679 = .ok (.aload_n 3, 1) := by decide +kernel
theorem dL_law_2680 : decode code 2680 = .ok (.iconst 0, 1) := by decide +kernel
theorem dL_law_2681 : decode code 2681 = .ok (.laload, 1) := by decide +kernel
theorem dL_law_2682 : decode code 2682 = .ok (.iload 7, 2) := by decide +kernel
theorem dL_law_2684 : decode code 2684 = .ok (.i2l, 1) := by decide +kernel
theorem dL_law_2685 : decode code 2685 = .ok (.lcmp, 1) := by decide +kernel
theorem dL_law_2686 : decode code 2686 = .ok (.ifCond .eq 5, 3) := by decide +kernel
theorem dL_law_2689 : decode code 2689 = .ok (.iconst 0, 1) := by decide +kernel
theorem dL_law_2690 : decode code 2690 = .ok (.ireturn, 1) := by decide +kernel
theorem dL_law_2691 : decode code 2691 = .ok (.goto 222, 3) := by decide +kernel
theorem dL_law_2694 : decode code 2694 = .ok (.aload_n 1, 1) := by decide +kernel
theorem dL_law_2695 : decode code 2695 = .ok (.aload_n 0, 1) := by decide +kernel
theorem dL_law_2696 : decode code 2696 = .ok (.iload 5, 2) := by decide +kernel
theorem dL_law_2698 : decode code 2698 = .ok (.iconst 1, 1) := by decide +kernel
theorem dL_law_2699 : decode code 2699 = .ok (.iadd, 1) := by decide +kernel
theorem dL_law_2700 : decode code 2700 = .ok (.iaload, 1) := by decide +kernel
theorem dL_law_2701 : decode code 2701 = .ok (.aload_n 0, 1) := by decide +kernel
theorem dL_law_2702 : decode code 2702 = .ok (.iload 5, 2) := by decide +kernel
theorem dL_law_2704 : decode code 2704 = .ok (.iconst 2, 1) := by decide +kernel
theorem dL_law_2705 : decode code 2705 = .ok (.iadd, 1) := by decide +kernel

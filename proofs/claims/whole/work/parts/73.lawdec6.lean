theorem dL_law_2387 : decode cL_law 2387 = .ok (.invokevirtual 145, 3) := by decide +kernel
theorem dL_law_2390 : decode cL_law 2390 = .ok (.iload 5, 2) := by decide +kernel
theorem dL_law_2392 : decode cL_law 2392 = .ok (.if_icmp .eq 5, 3) := by decide +kernel
theorem dL_law_2395 : decode cL_law 2395 = .ok (.iconst 0, 1) := by decide +kernel
theorem dL_law_2396 : decode cL_law 2396 = .ok (.ireturn, 1) := by decide +kernel
theorem dL_law_2397 : decode cL_law 2397 = .ok (.iload 5, 2) := by decide +kernel
theorem dL_law_2399 : decode cL_law 2399 = .ok (.ifCond .ne 15, 3) := by decide +kernel
theorem dL_law_2402 : decode cL_law 2402 = .ok (.aload_n 3, 1) := by decide +kernel
theorem dL_law_2403 : decode cL_law 2403 = .ok (.iconst 0, 1) := by decide +kernel
theorem dL_law_2404 : decode cL_law 2404 = .ok (.laload, 1) := by decide +kernel
theorem dL_law_2405 : decode cL_law 2405 = .ok (.iload 6, 2) := by decide +kernel
theorem dL_law_2407 : decode cL_law 2407 = .ok (.i2l, 1) := by decide +kernel
theorem dL_law_2408 : decode cL_law 2408 = .ok (.lcmp, 1) := by decide +kernel
theorem dL_law_2409 : decode cL_law 2409 = .ok (.ifCond .eq 5, 3) := by decide +kernel
theorem dL_law_2412 : decode cL_law 2412 = .ok (.iconst 0, 1) := by decide +kernel
theorem dL_law_2413 : decode cL_law 2413 = .ok (.ireturn, 1) := by decide +kernel
theorem dL_law_2414 : decode cL_law 2414 = .ok (.goto 688, 3) := by decide +kernel
theorem dL_law_2417 : decode cL_law 2417 = .ok (.aload_n 1, 1) := by decide +kernel
theorem dL_law_2418 : decode cL_law 2418 = .ok (.aload_n 0, 1) := by decide +kernel
theorem dL_law_2419 : decode cL_law 2419 = .ok (.iload 4, 2) := by decide +kernel
theorem dL_law_2421 : decode cL_law 2421 = .ok (.iconst 1, 1) := by decide +kernel
theorem dL_law_2422 : decode cL_law 2422 = .ok (.iadd, 1) := by decide +kernel
theorem dL_law_2423 : decode cL_law 2423 = .ok (.iaload, 1) := by decide +kernel
theorem dL_law_2424 : decode cL_law 2424 = .ok (.ifCond .eq 7, 3) := by decide +kernel
theorem dL_law_2427 : decode cL_law 2427 = .ok (.iconst 1, 1) := by decide +kernel
theorem dL_law_2428 : decode cL_law 2428 = .ok (.goto 4, 3) := by decide +kernel
theorem dL_law_2431 : decode cL_law 2431 = .ok (.iconst 0, 1) := by decide +kernel
theorem dL_law_2432 : decode cL_law 2432 = .ok (.invokevirtual 251, 3) := by decide +kernel
theorem dL_law_2435 : decode cL_law 2435 = .ok (.aload_n 2, 1) := by decide +kernel
theorem dL_law_2436 : decode cL_law 2436 = .ok (.aload_n 0, 1) := by decide +kernel
theorem dL_law_2437 : decode cL_law 2437 = .ok (.iload 4, 2) := by decide +kernel
theorem dL_law_2439 : decode cL_law 2439 = .ok (.iconst 1, 1) := by decide +kernel
theorem dL_law_2440 : decode cL_law 2440 = .ok (.iadd, 1) := by decide +kernel
theorem dL_law_2441 : decode cL_law 2441 = .ok (.iaload, 1) := by decide +kernel
theorem dL_law_2442 : decode cL_law 2442 = .ok (.ifCond .eq 7, 3) := by decide +kernel
theorem dL_law_2445 : decode cL_law 2445 = .ok (.iconst 1, 1) := by decide +kernel
theorem dL_law_2446 : decode cL_law 2446 = .ok (.goto 4, 3) := by decide +kernel
theorem dL_law_2449 : decode cL_law 2449 = .ok (.iconst 0, 1) := by decide +kernel
theorem dL_law_2450 : decode cL_law 2450 = .ok (.invokevirtual 255, 3) := by decide +kernel
theorem dL_law_2453 : decode cL_law 2453 = .ok (.lcmp, 1) := by decide +kernel
theorem dL_law_2454 : decode cL_law 2454 = .ok (.ifCond .eq 648, 3) := by decide +kernel
theorem dL_law_2457 : decode cL_law 2457 = .ok (.iconst 0, 1) := by decide +kernel
theorem dL_law_2458 : decode cL_law 2458 = .ok (.ireturn, 1) := by decide +kernel
theorem dL_law_2459 : decode cL_law 2459 = .ok (.aload_n 1, 1) := by decide +kernel
theorem dL_law_2460 : decode cL_law 2460 = .ok (.invokevirtual 256, 3) := by decide +kernel
theorem dL_law_2463 : decode cL_law 2463 = .ok (.aload_n 2, 1) := by decide +kernel
theorem dL_law_2464 : decode cL_law 2464 = .ok (.invokevirtual 259, 3) := by decide +kernel
theorem dL_law_2467 : decode cL_law 2467 = .ok (.if_icmp .eq 635, 3) := by decide +kernel
theorem dL_law_2470 : decode cL_law 2470 = .ok (.iconst 0, 1) := by decide +kernel
theorem dL_law_2471 : decode cL_law 2471 = .ok (.ireturn, 1) := by decide +kernel
theorem dL_law_2472 : decode cL_law 2472 = .ok (.aload_n 1, 1) := by decide +kernel
theorem dL_law_2473 : decode cL_law 2473 = .ok (.aload_n 0, 1) := by decide +kernel
theorem dL_law_2474 : decode cL_law 2474 = .ok (.iload 4, 2) := by decide +kernel
theorem dL_law_2476 : decode cL_law 2476 = .ok (.iconst 1, 1) := by decide +kernel
theorem dL_law_2477 : decode cL_law 2477 = .ok (.iadd, 1) := by decide +kernel
theorem dL_law_2478 : decode cL_law 2478 = .ok (.iaload, 1) := by decide +kernel
theorem dL_law_2479 : decode cL_law 2479 = .ok (.aload_n 0, 1) := by decide +kernel
theorem dL_law_2480 : decode cL_law 2480 = .ok (.iload 4, 2) := by decide +kernel
theorem dL_law_2482 : decode cL_law 2482 = .ok (.iconst 2, 1) := by decide +kernel
theorem dL_law_2483 : decode cL_law 2483 = .ok (.iadd, 1) := by decide +kernel
theorem dL_law_2484 : decode cL_law 2484 = .ok (.iaload, 1) := by decide +kernel
theorem dL_law_2485 : decode cL_law 2485 = .ok (.aload_n 0, 1) := by decide +kernel
theorem dL_law_2486 : decode cL_law 2486 = .ok (.iload 4, 2) := by decide +kernel
theorem dL_law_2488 : decode cL_law 2488 = .ok (.iconst 3, 1) := by decide +kernel
theorem dL_law_2489 : decode cL_law 2489 = .ok (.iadd, 1) := by decide +kernel
theorem dL_law_2490 : decode cL_law 2490 = .ok (.iaload, 1) := by decide +kernel
theorem dL_law_2491 : decode cL_law 2491 = .ok (.ifCond .eq 7, 3) := by decide +kernel
theorem dL_law_2494 : decode cL_law 2494 = .ok (.iconst 1, 1) := by decide +kernel
theorem dL_law_2495 : decode cL_law 2495 = .ok (.goto 4, 3) := by decide +kernel
theorem dL_law_2498 : decode cL_law 2498 = .ok (.iconst 0, 1) := by decide +kernel
theorem dL_law_2499 : decode cL_law 2499 = .ok (.aload_n 0, 1) := by decide +kernel
theorem dL_law_2500 : decode cL_law 2500 = .ok (.iload 4, 2) := by decide +kernel
theorem dL_law_2502 : decode cL_law 2502 = .ok (.iconst 4, 1) := by decide +kernel
theorem dL_law_2503 : decode cL_law 2503 = .ok (.iadd, 1) := by decide +kernel
theorem dL_law_2504 : decode cL_law 2504 = .ok (.iaload, 1) := by decide +kernel
theorem dL_law_2505 : decode cL_law 2505 = .ok (.aload_n 3, 1) := by decide +kernel
theorem dL_law_2506 : decode cL_law 2506 = .ok (.invokestatic 260, 3) := by decide +kernel
theorem dL_law_2509 : decode cL_law 2509 = .ok (.istore 5, 2) := by decide +kernel
theorem dL_law_2511 : decode cL_law 2511 = .ok (.aload_n 2, 1) := by decide +kernel
theorem dL_law_2512 : decode cL_law 2512 = .ok (.aload_n 0, 1) := by decide +kernel
theorem dL_law_2513 : decode cL_law 2513 = .ok (.iload 4, 2) := by decide +kernel
theorem dL_law_2515 : decode cL_law 2515 = .ok (.iconst 1, 1) := by decide +kernel
theorem dL_law_2516 : decode cL_law 2516 = .ok (.iadd, 1) := by decide +kernel
theorem dL_law_2517 : decode cL_law 2517 = .ok (.iaload, 1) := by decide +kernel
theorem dL_law_2518 : decode cL_law 2518 = .ok (.aload_n 0, 1) := by decide +kernel
theorem dL_law_2519 : decode cL_law 2519 = .ok (.iload 4, 2) := by decide +kernel
theorem dL_law_2521 : decode cL_law 2521 = .ok (.iconst 2, 1) := by decide +kernel
theorem dL_law_2522 : decode cL_law 2522 = .ok (.iadd, 1) := by decide +kernel
theorem dL_law_2523 : decode cL_law 2523 = .ok (.iaload, 1) := by decide +kernel
theorem dL_law_2524 : decode cL_law 2524 = .ok (.aload_n 0, 1) := by decide +kernel
theorem dL_law_2525 : decode cL_law 2525 = .ok (.iload 4, 2) := by decide +kernel
theorem dL_law_2527 : decode cL_law 2527 = .ok (.iconst 3, 1) := by decide +kernel
theorem dL_law_2528 : decode cL_law 2528 = .ok (.iadd, 1) := by decide +kernel
theorem dL_law_2529 : decode cL_law 2529 = .ok (.iaload, 1) := by decide +kernel
theorem dL_law_2530 : decode cL_law 2530 = .ok (.ifCond .eq 7, 3) := by decide +kernel
theorem dL_law_2533 : decode cL_law 2533 = .ok (.iconst 1, 1) := by decide +kernel
theorem dL_law_2534 : decode cL_law 2534 = .ok (.goto 4, 3) := by decide +kernel
theorem dL_law_2537 : decode cL_law 2537 = .ok (.iconst 0, 1) := by decide +kernel
theorem dL_law_2538 : decode cL_law 2538 = .ok (.aload_n 0, 1) := by decide +kernel
theorem dL_law_2539 : decode cL_law 2539 = .ok (.iload 4, 2) := by decide +kernel
theorem dL_law_2541 : decode cL_law 2541 = .ok (.iconst 4, 1) := by decide +kernel
theorem dL_law_2542 : decode cL_law 2542 = .ok (.iadd, 1) := by decide +kernel
theorem dL_law_2543 : decode cL_law 2543 = .ok (.iaload, 1) := by decide +kernel
theorem dL_law_2544 : decode cL_law 2544 = .ok (.invokevirtual 262, 3) := by decide +kernel
theorem dL_law_2547 : decode cL_law 2547 = .ok (.lstore 6, 2) := by decide +kernel
theorem dL_law_2549 : decode cL_law 2549 = .ok (.aload_n 2, 1) := by decide +kernel
theorem dL_law_2550 : decode cL_law 2550 = .ok (.invokevirtual 145, 3) := by decide +kernel
theorem dL_law_2553 : decode cL_law 2553 = .ok (.iload 5, 2) := by decide +kernel
theorem dL_law_2555 : decode cL_law 2555 = .ok (.if_icmp .eq 5, 3) := by decide +kernel
theorem dL_law_2558 : decode cL_law 2558 = .ok (.iconst 0, 1) := by decide +kernel
theorem dL_law_2559 : decode cL_law 2559 = .ok (.ireturn, 1) := by decide +kernel
theorem dL_law_2560 : decode cL_law 2560 = .ok (.iload 5, 2) := by decide +kernel
theorem dL_law_2562 : decode cL_law 2562 = .ok (.ifCond .ne 14, 3) := by decide +kernel
theorem dL_law_2565 : decode cL_law 2565 = .ok (.aload_n 3, 1) := by decide +kernel
theorem dL_law_2566 : decode cL_law 2566 = .ok (.iconst 0, 1) := by decide +kernel
theorem dL_law_2567 : decode cL_law 2567 = .ok (.laload, 1) := by decide +kernel
theorem dL_law_2568 : decode cL_law 2568 = .ok (.lload 6, 2) := by decide +kernel
theorem dL_law_2570 : decode cL_law 2570 = .ok (.lcmp, 1) := by decide +kernel
theorem dL_law_2571 : decode cL_law 2571 = .ok (.ifCond .eq 5, 3) := by decide +kernel
theorem dL_law_2574 : decode cL_law 2574 = .ok (.iconst 0, 1) := by decide +kernel
theorem dL_law_2575 : decode cL_law 2575 = .ok (.ireturn, 1) := by decide +kernel
theorem dL_law_2576 : decode cL_law 2576 = .ok (.goto 526, 3) := by decide +kernel
theorem dL_law_2579 : decode cL_law 2579 = .ok (.aload_n 1, 1) := by decide +kernel
theorem dL_law_2580 : decode cL_law 2580 = .ok (.aload_n 0, 1) := by decide +kernel
theorem dL_law_2581 : decode cL_law 2581 = .ok (.iload 4, 2) := by decide +kernel
theorem dL_law_2583 : decode cL_law 2583 = .ok (.iconst 1, 1) := by decide +kernel
theorem dL_law_2584 : decode cL_law 2584 = .ok (.iadd, 1) := by decide +kernel
theorem dL_law_2585 : decode cL_law 2585 = .ok (.iaload, 1) := by decide +kernel
theorem dL_law_2586 : decode cL_law 2586 = .ok (.aload_n 0, 1) := by decide +kernel
theorem dL_law_2587 : decode cL_law 2587 = .ok (.iload 4, 2) := by decide +kernel
theorem dL_law_2589 : decode cL_law 2589 = .ok (.iconst 2, 1) := by decide +kernel
theorem dL_law_2590 : decode cL_law 2590 = .ok (.iadd, 1) := by decide +kernel
theorem dL_law_2591 : decode cL_law 2591 = .ok (.iaload, 1) := by decide +kernel
theorem dL_law_2592 : decode cL_law 2592 = .ok (.aload_n 3, 1) := by decide +kernel
theorem dL_law_2593 : decode cL_law 2593 = .ok (.invokestatic 263, 3) := by decide +kernel
theorem dL_law_2596 : decode cL_law 2596 = .ok (.istore 5, 2) := by decide +kernel
theorem dL_law_2598 : decode cL_law 2598 = .ok (.aload_n 2, 1) := by decide +kernel
theorem dL_law_2599 : decode cL_law 2599 = .ok (.aload_n 0, 1) := by decide +kernel
theorem dL_law_2600 : decode cL_law 2600 = .ok (.iload 4, 2) := by decide +kernel
theorem dL_law_2602 : decode cL_law 2602 = .ok (.iconst 1, 1) := by decide +kernel
theorem dL_law_2603 : decode cL_law 2603 = .ok (.iadd, 1) := by decide +kernel
theorem dL_law_2604 : decode cL_law 2604 = .ok (.iaload, 1) := by decide +kernel
theorem dL_law_2605 : decode cL_law 2605 = .ok (.aload_n 0, 1) := by decide +kernel
theorem dL_law_2606 : decode cL_law 2606 = .ok (.iload 4, 2) := by decide +kernel
theorem dL_law_2608 : decode cL_law 2608 = .ok (.iconst 2, 1) := by decide +kernel
theorem dL_law_2609 : decode cL_law 2609 = .ok (.iadd, 1) := by decide +kernel
theorem dL_law_2610 : decode cL_law 2610 = .ok (.iaload, 1) := by decide +kernel
theorem dL_law_2611 : decode cL_law 2611 = .ok (.invokevirtual 265, 3) := by decide +kernel
theorem dL_law_2614 : decode cL_law 2614 = .ok (.istore 6, 2) := by decide +kernel
theorem dL_law_2616 : decode cL_law 2616 = .ok (.aload_n 2, 1) := by decide +kernel
theorem dL_law_2617 : decode cL_law 2617 = .ok (.invokevirtual 145, 3) := by decide +kernel
theorem dL_law_2620 : decode cL_law 2620 = .ok (.iload 5, 2) := by decide +kernel
theorem dL_law_2622 : decode cL_law 2622 = .ok (.if_icmp .eq 5, 3) := by decide +kernel
theorem dL_law_2625 : decode cL_law 2625 = .ok (.iconst 0, 1) := by decide +kernel
theorem dL_law_2626 : decode cL_law 2626 = .ok (.ireturn, 1) := by decide +kernel
theorem dL_law_2627 : decode cL_law 2627 = .ok (.iload 5, 2) := by decide +kernel
theorem dL_law_2629 : decode cL_law 2629 = .ok (.ifCond .ne 15, 3) := by decide +kernel
theorem dL_law_2632 : decode cL_law 2632 = .ok (.aload_n 3, 1) := by decide +kernel
theorem dL_law_2633 : decode cL_law 2633 = .ok (.iconst 0, 1) := by decide +kernel
theorem dL_law_2634 : decode cL_law 2634 = .ok (.laload, 1) := by decide +kernel
theorem dL_law_2635 : decode cL_law 2635 = .ok (.iload 6, 2) := by decide +kernel
theorem dL_law_2637 : decode cL_law 2637 = .ok (.i2l, 1) := by decide +kernel
theorem dL_law_2638 : decode cL_law 2638 = .ok (.lcmp, 1) := by decide +kernel
theorem dL_law_2639 : decode cL_law 2639 = .ok (.ifCond .eq 5, 3) := by decide +kernel
theorem dL_law_2642 : decode cL_law 2642 = .ok (.iconst 0, 1) := by decide +kernel
theorem dL_law_2643 : decode cL_law 2643 = .ok (.ireturn, 1) := by decide +kernel
theorem dL_law_2644 : decode cL_law 2644 = .ok (.goto 458, 3) := by decide +kernel
theorem dL_law_2647 : decode cL_law 2647 = .ok (.aload_n 1, 1) := by decide +kernel
theorem dL_law_2648 : decode cL_law 2648 = .ok (.aload_n 0, 1) := by decide +kernel
theorem dL_law_2649 : decode cL_law 2649 = .ok (.iload 4, 2) := by decide +kernel
theorem dL_law_2651 : decode cL_law 2651 = .ok (.iconst 1, 1) := by decide +kernel
theorem dL_law_2652 : decode cL_law 2652 = .ok (.iadd, 1) := by decide +kernel
theorem dL_law_2653 : decode cL_law 2653 = .ok (.iaload, 1) := by decide +kernel
theorem dL_law_2654 : decode cL_law 2654 = .ok (.aload_n 0, 1) := by decide +kernel
theorem dL_law_2655 : decode cL_law 2655 = .ok (.iload 4, 2) := by decide +kernel
theorem dL_law_2657 : decode cL_law 2657 = .ok (.iconst 2, 1) := by decide +kernel
theorem dL_law_2658 : decode cL_law 2658 = .ok (.iadd, 1) := by decide +kernel
theorem dL_law_2659 : decode cL_law 2659 = .ok (.iaload, 1) := by decide +kernel
theorem dL_law_2660 : decode cL_law 2660 = .ok (.aload_n 0, 1) := by decide +kernel
theorem dL_law_2661 : decode cL_law 2661 = .ok (.iload 4, 2) := by decide +kernel
theorem dL_law_2663 : decode cL_law 2663 = .ok (.iconst 3, 1) := by decide +kernel
theorem dL_law_2664 : decode cL_law 2664 = .ok (.iadd, 1) := by decide +kernel
theorem dL_law_2665 : decode cL_law 2665 = .ok (.iaload, 1) := by decide +kernel
theorem dL_law_2666 : decode cL_law 2666 = .ok (.ifCond .eq 7, 3) := by decide +kernel
theorem dL_law_2669 : decode cL_law 2669 = .ok (.iconst 1, 1) := by decide +kernel
theorem dL_law_2670 : decode cL_law 2670 = .ok (.goto 4, 3) := by decide +kernel
theorem dL_law_2673 : decode cL_law 2673 = .ok (.iconst 0, 1) := by decide +kernel
theorem dL_law_2674 : decode cL_law 2674 = .ok (.aload_n 0, 1) := by decide +kernel
theorem dL_law_2675 : decode cL_law 2675 = .ok (.iload 4, 2) := by decide +kernel
theorem dL_law_2677 : decode cL_law 2677 = .ok (.iconst 4, 1) := by decide +kernel
theorem dL_law_2678 : decode cL_law 2678 = .ok (.iadd, 1) := by decide +kernel
theorem dL_law_2679 : decode cL_law 2679 = .ok (.iaload, 1) := by decide +kernel
theorem dL_law_2680 : decode cL_law 2680 = .ok (.aload_n 0, 1) := by decide +kernel
theorem dL_law_2681 : decode cL_law 2681 = .ok (.iload 4, 2) := by decide +kernel
theorem dL_law_2683 : decode cL_law 2683 = .ok (.iconst 5, 1) := by decide +kernel
theorem dL_law_2684 : decode cL_law 2684 = .ok (.iadd, 1) := by decide +kernel
theorem dL_law_2685 : decode cL_law 2685 = .ok (.iaload, 1) := by decide +kernel
theorem dL_law_2686 : decode cL_law 2686 = .ok (.aload_n 3, 1) := by decide +kernel
theorem dL_law_2687 : decode cL_law 2687 = .ok (.invokestatic 266, 3) := by decide +kernel
theorem dL_law_2690 : decode cL_law 2690 = .ok (.istore 5, 2) := by decide +kernel
theorem dL_law_2692 : decode cL_law 2692 = .ok (.aload_n 2, 1) := by decide +kernel
theorem dL_law_2693 : decode cL_law 2693 = .ok (.aload_n 0, 1) := by decide +kernel
theorem dL_law_2694 : decode cL_law 2694 = .ok (.iload 4, 2) := by decide +kernel
theorem dL_law_2696 : decode cL_law 2696 = .ok (.iconst 1, 1) := by decide +kernel
theorem dL_law_2697 : decode cL_law 2697 = .ok (.iadd, 1) := by decide +kernel
theorem dL_law_2698 : decode cL_law 2698 = .ok (.iaload, 1) := by decide +kernel
theorem dL_law_2699 : decode cL_law 2699 = .ok (.aload_n 0, 1) := by decide +kernel
theorem dL_law_2700 : decode cL_law 2700 = .ok (.iload 4, 2) := by decide +kernel
theorem dL_law_2702 : decode cL_law 2702 = .ok (.iconst 2, 1) := by decide +kernel
theorem dL_law_2703 : decode cL_law 2703 = .ok (.iadd, 1) := by decide +kernel
theorem dL_law_2704 : decode cL_law 2704 = .ok (.iaload, 1) := by decide +kernel
theorem dL_law_2705 : decode cL_law 2705 = .ok (.aload_n 0, 1) := by decide +kernel
theorem dL_law_2706 : decode cL_law 2706 = .ok (.iload 4, 2) := by decide +kernel
theorem dL_law_2708 : decode cL_law 2708 = .ok (.iconst 3, 1) := by decide +kernel
theorem dL_law_2709 : decode cL_law 2709 = .ok (.iadd, 1) := by decide +kernel
theorem dL_law_2710 : decode cL_law 2710 = .ok (.iaload, 1) := by decide +kernel
theorem dL_law_2711 : decode cL_law 2711 = .ok (.ifCond .eq 7, 3) := by decide +kernel
theorem dL_law_2714 : decode cL_law 2714 = .ok (.iconst 1, 1) := by decide +kernel
theorem dL_law_2715 : decode cL_law 2715 = .ok (.goto 4, 3) := by decide +kernel
theorem dL_law_2718 : decode cL_law 2718 = .ok (.iconst 0, 1) := by decide +kernel
theorem dL_law_2719 : decode cL_law 2719 = .ok (.aload_n 0, 1) := by decide +kernel
theorem dL_law_2720 : decode cL_law 2720 = .ok (.iload 4, 2) := by decide +kernel
theorem dL_law_2722 : decode cL_law 2722 = .ok (.iconst 4, 1) := by decide +kernel
theorem dL_law_2723 : decode cL_law 2723 = .ok (.iadd, 1) := by decide +kernel
theorem dL_law_2724 : decode cL_law 2724 = .ok (.iaload, 1) := by decide +kernel
theorem dL_law_2725 : decode cL_law 2725 = .ok (.aload_n 0, 1) := by decide +kernel
theorem dL_law_2726 : decode cL_law 2726 = .ok (.iload 4, 2) := by decide +kernel
theorem dL_law_2728 : decode cL_law 2728 = .ok (.iconst 5, 1) := by decide +kernel
theorem dL_law_2729 : decode cL_law 2729 = .ok (.iadd, 1) := by decide +kernel
theorem dL_law_2730 : decode cL_law 2730 = .ok (.iaload, 1) := by decide +kernel
theorem dL_law_2731 : decode cL_law 2731 = .ok (.invokevirtual 269, 3) := by decide +kernel
theorem dL_law_2734 : decode cL_law 2734 = .ok (.istore 6, 2) := by decide +kernel
theorem dL_law_2736 : decode cL_law 2736 = .ok (.aload_n 2, 1) := by decide +kernel
theorem dL_law_2737 : decode cL_law 2737 = .ok (.invokevirtual 145, 3) := by decide +kernel
theorem dL_law_2740 : decode cL_law 2740 = .ok (.iload 5, 2) := by decide +kernel
theorem dL_law_2742 : decode cL_law 2742 = .ok (.if_icmp .eq 5, 3) := by decide +kernel
theorem dL_law_2745 : decode cL_law 2745 = .ok (.iconst 0, 1) := by decide +kernel
theorem dL_law_2746 : decode cL_law 2746 = .ok (.ireturn, 1) := by decide +kernel
theorem dL_law_2747 : decode cL_law 2747 = .ok (.iload 5, 2) := by decide +kernel
theorem dL_law_2749 : decode cL_law 2749 = .ok (.ifCond .ne 15, 3) := by decide +kernel

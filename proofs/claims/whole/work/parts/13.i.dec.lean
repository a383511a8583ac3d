/-! DECODE ROWS of the law -/
theorem dL_law__2341 : decode cL_law_ 2341 = .ok (.iadd, 1) := by decide +kernel
theorem dL_law__2342 : decode cL_law_ 2342 = .ok (.iaload, 1) := by decide +kernel
theorem dL_law__2343 : decode cL_law_ 2343 = .ok (.ifCond .eq 7, 3) := by decide +kernel
theorem dL_law__2346 : decode cL_law_ 2346 = .ok (.iconst 1, 1) := by decide +kernel
theorem dL_law__2347 : decode cL_law_ 2347 = .ok (.goto 4, 3) := by decide +kernel
theorem dL_law__2350 : decode cL_law_ 2350 = .ok (.iconst 0, 1) := by decide +kernel
theorem dL_law__2351 : decode cL_law_ 2351 = .ok (.invokevirtual 273, 3) := by decide +kernel
theorem dL_law__2354 : decode cL_law_ 2354 = .ok (.if_icmp .eq 464, 3) := by decide +kernel
theorem dL_law__2357 : decode cL_law_ 2357 = .ok (.iconst 0, 1) := by decide +kernel
theorem dL_law__2358 : decode cL_law_ 2358 = .ok (.ireturn, 1) := by decide +kernel
theorem dL_law__2359 : decode cL_law_ 2359 = .ok (.aload_n 1, 1) := by decide +kernel
theorem dL_law__2360 : decode cL_law_ 2360 = .ok (.aload_n 0, 1) := by decide +kernel
theorem dL_law__2361 : decode cL_law_ 2361 = .ok (.iload 4, 2) := by decide +kernel
theorem dL_law__2363 : decode cL_law_ 2363 = .ok (.iconst 1, 1) := by decide +kernel
theorem dL_law__2364 : decode cL_law_ 2364 = .ok (.iadd, 1) := by decide +kernel
theorem dL_law__2365 : decode cL_law_ 2365 = .ok (.iaload, 1) := by decide +kernel
theorem dL_law__2366 : decode cL_law_ 2366 = .ok (.aload_n 3, 1) := by decide +kernel
theorem dL_law__2367 : decode cL_law_ 2367 = .ok (.invokestatic 274, 3) := by decide +kernel
theorem dL_law__2370 : decode cL_law_ 2370 = .ok (.istore 5, 2) := by decide +kernel
theorem dL_law__2372 : decode cL_law_ 2372 = .ok (.aload_n 2, 1) := by decide +kernel
theorem dL_law__2373 : decode cL_law_ 2373 = .ok (.aload_n 0, 1) := by decide +kernel
theorem dL_law__2374 : decode cL_law_ 2374 = .ok (.iload 4, 2) := by decide +kernel
theorem dL_law__2376 : decode cL_law_ 2376 = .ok (.iconst 1, 1) := by decide +kernel
theorem dL_law__2377 : decode cL_law_ 2377 = .ok (.iadd, 1) := by decide +kernel
theorem dL_law__2378 : decode cL_law_ 2378 = .ok (.iaload, 1) := by decide +kernel
theorem dL_law__2379 : decode cL_law_ 2379 = .ok (.invokevirtual 276, 3) := by decide +kernel
theorem dL_law__2382 : decode cL_law_ 2382 = .ok (.istore 6, 2) := by decide +kernel
theorem dL_law__2384 : decode cL_law_ 2384 = .ok (.aload_n 2, 1) := by decide +kernel
theorem dL_law__2385 : decode cL_law_ 2385 = .ok (.invokevirtual 144, 3) := by decide +kernel
theorem dL_law__2388 : decode cL_law_ 2388 = .ok (.iload 5, 2) := by decide +kernel
theorem dL_law__2390 : decode cL_law_ 2390 = .ok (.if_icmp .eq 5, 3) := by decide +kernel
theorem dL_law__2393 : decode cL_law_ 2393 = .ok (.iconst 0, 1) := by decide +kernel
theorem dL_law__2394 : decode cL_law_ 2394 = .ok (.ireturn, 1) := by decide +kernel
theorem dL_law__2395 : decode cL_law_ 2395 = .ok (.iload 5, 2) := by decide +kernel
theorem dL_law__2397 : decode cL_law_ 2397 = .ok (.ifCond .ne 15, 3) := by decide +kernel
theorem dL_law__2400 : decode cL_law_ 2400 = .ok (.aload_n 3, 1) := by decide +kernel
theorem dL_law__2401 : decode cL_law_ 2401 = .ok (.iconst 0, 1) := by decide +kernel
theorem dL_law__2402 : decode cL_law_ 2402 = .ok (.laload, 1) := by decide +kernel
theorem dL_law__2403 : decode cL_law_ 2403 = .ok (.iload 6, 2) := by decide +kernel
theorem dL_law__2405 : decode cL_law_ 2405 = .ok (.i2l, 1) := by decide +kernel
theorem dL_law__2406 : decode cL_law_ 2406 = .ok (.lcmp, 1) := by decide +kernel
theorem dL_law__2407 : decode cL_law_ 2407 = .ok (.ifCond .eq 5, 3) := by decide +kernel
theorem dL_law__2410 : decode cL_law_ 2410 = .ok (.iconst 0, 1) := by decide +kernel
theorem dL_law__2411 : decode cL_law_ 2411 = .ok (.ireturn, 1) := by decide +kernel
theorem dL_law__2412 : decode cL_law_ 2412 = .ok (.goto 406, 3) := by decide +kernel
theorem dL_law__2415 : decode cL_law_ 2415 = .ok (.aload_n 1, 1) := by decide +kernel
theorem dL_law__2416 : decode cL_law_ 2416 = .ok (.aload_n 0, 1) := by decide +kernel
theorem dL_law__2417 : decode cL_law_ 2417 = .ok (.iload 4, 2) := by decide +kernel
theorem dL_law__2419 : decode cL_law_ 2419 = .ok (.iconst 1, 1) := by decide +kernel
theorem dL_law__2420 : decode cL_law_ 2420 = .ok (.iadd, 1) := by decide +kernel
theorem dL_law__2421 : decode cL_law_ 2421 = .ok (.iaload, 1) := by decide +kernel
theorem dL_law__2422 : decode cL_law_ 2422 = .ok (.aload_n 0, 1) := by decide +kernel
theorem dL_law__2423 : decode cL_law_ 2423 = .ok (.iload 4, 2) := by decide +kernel
theorem dL_law__2425 : decode cL_law_ 2425 = .ok (.iconst 2, 1) := by decide +kernel
theorem dL_law__2426 : decode cL_law_ 2426 = .ok (.iadd, 1) := by decide +kernel
theorem dL_law__2427 : decode cL_law_ 2427 = .ok (.iaload, 1) := by decide +kernel
theorem dL_law__2428 : decode cL_law_ 2428 = .ok (.aload_n 0, 1) := by decide +kernel
theorem dL_law__2429 : decode cL_law_ 2429 = .ok (.iload 4, 2) := by decide +kernel
theorem dL_law__2431 : decode cL_law_ 2431 = .ok (.iconst 3, 1) := by decide +kernel
theorem dL_law__2432 : decode cL_law_ 2432 = .ok (.iadd, 1) := by decide +kernel
theorem dL_law__2433 : decode cL_law_ 2433 = .ok (.iaload, 1) := by decide +kernel
theorem dL_law__2434 : decode cL_law_ 2434 = .ok (.ifCond .eq 7, 3) := by decide +kernel
theorem dL_law__2437 : decode cL_law_ 2437 = .ok (.iconst 1, 1) := by decide +kernel
theorem dL_law__2438 : decode cL_law_ 2438 = .ok (.goto 4, 3) := by decide +kernel
theorem dL_law__2441 : decode cL_law_ 2441 = .ok (.iconst 0, 1) := by decide +kernel
theorem dL_law__2442 : decode cL_law_ 2442 = .ok (.aload_n 3, 1) := by decide +kernel
theorem dL_law__2443 : decode cL_law_ 2443 = .ok (.invokestatic 277, 3) := by decide +kernel
theorem dL_law__2446 : decode cL_law_ 2446 = .ok (.istore 5, 2) := by decide +kernel
theorem dL_law__2448 : decode cL_law_ 2448 = .ok (.aload_n 2, 1) := by decide +kernel
theorem dL_law__2449 : decode cL_law_ 2449 = .ok (.aload_n 0, 1) := by decide +kernel
theorem dL_law__2450 : decode cL_law_ 2450 = .ok (.iload 4, 2) := by decide +kernel
theorem dL_law__2452 : decode cL_law_ 2452 = .ok (.iconst 1, 1) := by decide +kernel
theorem dL_law__2453 : decode cL_law_ 2453 = .ok (.iadd, 1) := by decide +kernel
theorem dL_law__2454 : decode cL_law_ 2454 = .ok (.iaload, 1) := by decide +kernel
theorem dL_law__2455 : decode cL_law_ 2455 = .ok (.aload_n 0, 1) := by decide +kernel
theorem dL_law__2456 : decode cL_law_ 2456 = .ok (.iload 4, 2) := by decide +kernel
theorem dL_law__2458 : decode cL_law_ 2458 = .ok (.iconst 2, 1) := by decide +kernel
theorem dL_law__2459 : decode cL_law_ 2459 = .ok (.iadd, 1) := by decide +kernel
theorem dL_law__2460 : decode cL_law_ 2460 = .ok (.iaload, 1) := by decide +kernel
theorem dL_law__2461 : decode cL_law_ 2461 = .ok (.aload_n 0, 1) := by decide +kernel
theorem dL_law__2462 : decode cL_law_ 2462 = .ok (.iload 4, 2) := by decide +kernel
theorem dL_law__2464 : decode cL_law_ 2464 = .ok (.iconst 3, 1) := by decide +kernel
theorem dL_law__2465 : decode cL_law_ 2465 = .ok (.iadd, 1) := by decide +kernel
theorem dL_law__2466 : decode cL_law_ 2466 = .ok (.iaload, 1) := by decide +kernel
theorem dL_law__2467 : decode cL_law_ 2467 = .ok (.ifCond .eq 7, 3) := by decide +kernel
theorem dL_law__2470 : decode cL_law_ 2470 = .ok (.iconst 1, 1) := by decide +kernel
theorem dL_law__2471 : decode cL_law_ 2471 = .ok (.goto 4, 3) := by decide +kernel
theorem dL_law__2474 : decode cL_law_ 2474 = .ok (.iconst 0, 1) := by decide +kernel
theorem dL_law__2475 : decode cL_law_ 2475 = .ok (.invokevirtual 279, 3) := by decide +kernel
theorem dL_law__2478 : decode cL_law_ 2478 = .ok (.istore 6, 2) := by decide +kernel
theorem dL_law__2480 : decode cL_law_ 2480 = .ok (.aload_n 2, 1) := by decide +kernel
theorem dL_law__2481 : decode cL_law_ 2481 = .ok (.invokevirtual 144, 3) := by decide +kernel
theorem dL_law__2484 : decode cL_law_ 2484 = .ok (.iload 5, 2) := by decide +kernel
theorem dL_law__2486 : decode cL_law_ 2486 = .ok (.if_icmp .eq 5, 3) := by decide +kernel
theorem dL_law__2489 : decode cL_law_ 2489 = .ok (.iconst 0, 1) := by decide +kernel
theorem dL_law__2490 : decode cL_law_ 2490 = .ok (.ireturn, 1) := by decide +kernel
theorem dL_law__2491 : decode cL_law_ 2491 = .ok (.iload 5, 2) := by decide +kernel
theorem dL_law__2493 : decode cL_law_ 2493 = .ok (.ifCond .ne 15, 3) := by decide +kernel
theorem dL_law__2496 : decode cL_law_ 2496 = .ok (.aload_n 3, 1) := by decide +kernel
theorem dL_law__2497 : decode cL_law_ 2497 = .ok (.iconst 0, 1) := by decide +kernel
theorem dL_law__2498 : decode cL_law_ 2498 = .ok (.laload, 1) := by decide +kernel
theorem dL_law__2499 : decode cL_law_ 2499 = .ok (.iload 6, 2) := by decide +kernel
theorem dL_law__2501 : decode cL_law_ 2501 = .ok (.i2l, 1) := by decide +kernel
theorem dL_law__2502 : decode cL_law_ 2502 = .ok (.lcmp, 1) := by decide +kernel
theorem dL_law__2503 : decode cL_law_ 2503 = .ok (.ifCond .eq 5, 3) := by decide +kernel
theorem dL_law__2506 : decode cL_law_ 2506 = .ok (.iconst 0, 1) := by decide +kernel
theorem dL_law__2507 : decode cL_law_ 2507 = .ok (.ireturn, 1) := by decide +kernel
theorem dL_law__2508 : decode cL_law_ 2508 = .ok (.goto 310, 3) := by decide +kernel
theorem dL_law__2511 : decode cL_law_ 2511 = .ok (.aload_n 1, 1) := by decide +kernel
theorem dL_law__2512 : decode cL_law_ 2512 = .ok (.aload_n 0, 1) := by decide +kernel
theorem dL_law__2513 : decode cL_law_ 2513 = .ok (.iload 4, 2) := by decide +kernel
theorem dL_law__2515 : decode cL_law_ 2515 = .ok (.iconst 1, 1) := by decide +kernel
theorem dL_law__2516 : decode cL_law_ 2516 = .ok (.iadd, 1) := by decide +kernel
theorem dL_law__2517 : decode cL_law_ 2517 = .ok (.iaload, 1) := by decide +kernel
theorem dL_law__2518 : decode cL_law_ 2518 = .ok (.aload_n 0, 1) := by decide +kernel
theorem dL_law__2519 : decode cL_law_ 2519 = .ok (.iload 4, 2) := by decide +kernel
theorem dL_law__2521 : decode cL_law_ 2521 = .ok (.iconst 2, 1) := by decide +kernel
theorem dL_law__2522 : decode cL_law_ 2522 = .ok (.iadd, 1) := by decide +kernel
theorem dL_law__2523 : decode cL_law_ 2523 = .ok (.iaload, 1) := by decide +kernel
theorem dL_law__2524 : decode cL_law_ 2524 = .ok (.aload_n 0, 1) := by decide +kernel
theorem dL_law__2525 : decode cL_law_ 2525 = .ok (.iload 4, 2) := by decide +kernel
theorem dL_law__2527 : decode cL_law_ 2527 = .ok (.iconst 3, 1) := by decide +kernel
theorem dL_law__2528 : decode cL_law_ 2528 = .ok (.iadd, 1) := by decide +kernel
theorem dL_law__2529 : decode cL_law_ 2529 = .ok (.iaload, 1) := by decide +kernel
theorem dL_law__2530 : decode cL_law_ 2530 = .ok (.ifCond .eq 7, 3) := by decide +kernel
theorem dL_law__2533 : decode cL_law_ 2533 = .ok (.iconst 1, 1) := by decide +kernel
theorem dL_law__2534 : decode cL_law_ 2534 = .ok (.goto 4, 3) := by decide +kernel
theorem dL_law__2537 : decode cL_law_ 2537 = .ok (.iconst 0, 1) := by decide +kernel
theorem dL_law__2538 : decode cL_law_ 2538 = .ok (.aload_n 3, 1) := by decide +kernel
theorem dL_law__2539 : decode cL_law_ 2539 = .ok (.invokestatic 280, 3) := by decide +kernel
theorem dL_law__2542 : decode cL_law_ 2542 = .ok (.istore 5, 2) := by decide +kernel
theorem dL_law__2544 : decode cL_law_ 2544 = .ok (.aload_n 2, 1) := by decide +kernel
theorem dL_law__2545 : decode cL_law_ 2545 = .ok (.aload_n 0, 1) := by decide +kernel
theorem dL_law__2546 : decode cL_law_ 2546 = .ok (.iload 4, 2) := by decide +kernel
theorem dL_law__2548 : decode cL_law_ 2548 = .ok (.iconst 1, 1) := by decide +kernel
theorem dL_law__2549 : decode cL_law_ 2549 = .ok (.iadd, 1) := by decide +kernel
theorem dL_law__2550 : decode cL_law_ 2550 = .ok (.iaload, 1) := by decide +kernel
theorem dL_law__2551 : decode cL_law_ 2551 = .ok (.aload_n 0, 1) := by decide +kernel
theorem dL_law__2552 : decode cL_law_ 2552 = .ok (.iload 4, 2) := by decide +kernel
theorem dL_law__2554 : decode cL_law_ 2554 = .ok (.iconst 2, 1) := by decide +kernel
theorem dL_law__2555 : decode cL_law_ 2555 = .ok (.iadd, 1) := by decide +kernel
theorem dL_law__2556 : decode cL_law_ 2556 = .ok (.iaload, 1) := by decide +kernel
theorem dL_law__2557 : decode cL_law_ 2557 = .ok (.aload_n 0, 1) := by decide +kernel
theorem dL_law__2558 : decode cL_law_ 2558 = .ok (.iload 4, 2) := by decide +kernel
theorem dL_law__2560 : decode cL_law_ 2560 = .ok (.iconst 3, 1) := by decide +kernel
theorem dL_law__2561 : decode cL_law_ 2561 = .ok (.iadd, 1) := by decide +kernel
theorem dL_law__2562 : decode cL_law_ 2562 = .ok (.iaload, 1) := by decide +kernel
theorem dL_law__2563 : decode cL_law_ 2563 = .ok (.ifCond .eq 7, 3) := by decide +kernel
theorem dL_law__2566 : decode cL_law_ 2566 = .ok (.iconst 1, 1) := by decide +kernel
theorem dL_law__2567 : decode cL_law_ 2567 = .ok (.goto 4, 3) := by decide +kernel
theorem dL_law__2570 : decode cL_law_ 2570 = .ok (.iconst 0, 1) := by decide +kernel
theorem dL_law__2571 : decode cL_law_ 2571 = .ok (.invokevirtual 282, 3) := by decide +kernel
theorem dL_law__2574 : decode cL_law_ 2574 = .ok (.istore 6, 2) := by decide +kernel
theorem dL_law__2576 : decode cL_law_ 2576 = .ok (.aload_n 2, 1) := by decide +kernel
theorem dL_law__2577 : decode cL_law_ 2577 = .ok (.invokevirtual 144, 3) := by decide +kernel
theorem dL_law__2580 : decode cL_law_ 2580 = .ok (.iload 5, 2) := by decide +kernel
theorem dL_law__2582 : decode cL_law_ 2582 = .ok (.if_icmp .eq 5, 3) := by decide +kernel
theorem dL_law__2585 : decode cL_law_ 2585 = .ok (.iconst 0, 1) := by decide +kernel
theorem dL_law__2586 : decode cL_law_ 2586 = .ok (.ireturn, 1) := by decide +kernel
theorem dL_law__2587 : decode cL_law_ 2587 = .ok (.iload 5, 2) := by decide +kernel
theorem dL_law__2589 : decode cL_law_ 2589 = .ok (.ifCond .ne 15, 3) := by decide +kernel
theorem dL_law__2592 : decode cL_law_ 2592 = .ok (.aload_n 3, 1) := by decide +kernel
theorem dL_law__2593 : decode cL_law_ 2593 = .ok (.iconst 0, 1) := by decide +kernel
theorem dL_law__2594 : decode cL_law_ 2594 = .ok (.laload, 1) := by decide +kernel
theorem dL_law__2595 : decode cL_law_ 2595 = .ok (.iload 6, 2) := by decide +kernel
theorem dL_law__2597 : decode cL_law_ 2597 = .ok (.i2l, 1) := by decide +kernel
theorem dL_law__2598 : decode cL_law_ 2598 = .ok (.lcmp, 1) := by decide +kernel
theorem dL_law__2599 : decode cL_law_ 2599 = .ok (.ifCond .eq 5, 3) := by decide +kernel
theorem dL_law__2602 : decode cL_law_ 2602 = .ok (.iconst 0, 1) := by decide +kernel
theorem dL_law__2603 : decode cL_law_ 2603 = .ok (.ireturn, 1) := by decide +kernel
theorem dL_law__2604 : decode cL_law_ 2604 = .ok (.goto 214, 3) := by decide +kernel
theorem dL_law__2607 : decode cL_law_ 2607 = .ok (.aload_n 1, 1) := by decide +kernel
theorem dL_law__2608 : decode cL_law_ 2608 = .ok (.aload_n 0, 1) := by decide +kernel
theorem dL_law__2609 : decode cL_law_ 2609 = .ok (.iload 4, 2) := by decide +kernel
theorem dL_law__2611 : decode cL_law_ 2611 = .ok (.iconst 1, 1) := by decide +kernel
theorem dL_law__2612 : decode cL_law_ 2612 = .ok (.iadd, 1) := by decide +kernel
theorem dL_law__2613 : decode cL_law_ 2613 = .ok (.iaload, 1) := by decide +kernel
theorem dL_law__2614 : decode cL_law_ 2614 = .ok (.aload_n 3, 1) := by decide +kernel
theorem dL_law__2615 : decode cL_law_ 2615 = .ok (.invokestatic 283, 3) := by decide +kernel
theorem dL_law__2618 : decode cL_law_ 2618 = .ok (.istore 5, 2) := by decide +kernel
theorem dL_law__2620 : decode cL_law_ 2620 = .ok (.aload_n 2, 1) := by decide +kernel
theorem dL_law__2621 : decode cL_law_ 2621 = .ok (.aload_n 0, 1) := by decide +kernel
theorem dL_law__2622 : decode cL_law_ 2622 = .ok (.iload 4, 2) := by decide +kernel
theorem dL_law__2624 : decode cL_law_ 2624 = .ok (.iconst 1, 1) := by decide +kernel
theorem dL_law__2625 : decode cL_law_ 2625 = .ok (.iadd, 1) := by decide +kernel
theorem dL_law__2626 : decode cL_law_ 2626 = .ok (.iaload, 1) := by decide +kernel
theorem dL_law__2627 : decode cL_law_ 2627 = .ok (.invokevirtual 285, 3) := by decide +kernel
theorem dL_law__2630 : decode cL_law_ 2630 = .ok (.istore 6, 2) := by decide +kernel
theorem dL_law__2632 : decode cL_law_ 2632 = .ok (.aload_n 2, 1) := by decide +kernel
theorem dL_law__2633 : decode cL_law_ 2633 = .ok (.invokevirtual 144, 3) := by decide +kernel
theorem dL_law__2636 : decode cL_law_ 2636 = .ok (.iload 5, 2) := by decide +kernel
theorem dL_law__2638 : decode cL_law_ 2638 = .ok (.if_icmp .eq 5, 3) := by decide +kernel
theorem dL_law__2641 : decode cL_law_ 2641 = .ok (.iconst 0, 1) := by decide +kernel
theorem dL_law__2642 : decode cL_law_ 2642 = .ok (.ireturn, 1) := by decide +kernel
theorem dL_law__2643 : decode cL_law_ 2643 = .ok (.iload 5, 2) := by decide +kernel
theorem dL_law__2645 : decode cL_law_ 2645 = .ok (.ifCond .ne 15, 3) := by decide +kernel
theorem dL_law__2648 : decode cL_law_ 2648 = .ok (.aload_n 3, 1) := by decide +kernel
theorem dL_law__2649 : decode cL_law_ 2649 = .ok (.iconst 0, 1) := by decide +kernel
theorem dL_law__2650 : decode cL_law_ 2650 = .ok (.laload, 1) := by decide +kernel
theorem dL_law__2651 : decode cL_law_ 2651 = .ok (.iload 6, 2) := by decide +kernel
theorem dL_law__2653 : decode cL_law_ 2653 = .ok (.i2l, 1) := by decide +kernel
theorem dL_law__2654 : decode cL_law_ 2654 = .ok (.lcmp, 1) := by decide +kernel
theorem dL_law__2655 : decode cL_law_ 2655 = .ok (.ifCond .eq 5, 3) := by decide +kernel
theorem dL_law__2658 : decode cL_law_ 2658 = .ok (.iconst 0, 1) := by decide +kernel
theorem dL_law__2659 : decode cL_law_ 2659 = .ok (.ireturn, 1) := by decide +kernel
theorem dL_law__2660 : decode cL_law_ 2660 = .ok (.goto 158, 3) := by decide +kernel
theorem dL_law__2663 : decode cL_law_ 2663 = .ok (.aload_n 1, 1) := by decide +kernel
theorem dL_law__2664 : decode cL_law_ 2664 = .ok (.aload_n 0, 1) := by decide +kernel
theorem dL_law__2665 : decode cL_law_ 2665 = .ok (.iload 4, 2) := by decide +kernel
theorem dL_law__2667 : decode cL_law_ 2667 = .ok (.iconst 1, 1) := by decide +kernel
theorem dL_law__2668 : decode cL_law_ 2668 = .ok (.iadd, 1) := by decide +kernel
theorem dL_law__2669 : decode cL_law_ 2669 = .ok (.iaload, 1) := by decide +kernel
theorem dL_law__2670 : decode cL_law_ 2670 = .ok (.aload_n 0, 1) := by decide +kernel
theorem dL_law__2671 : decode cL_law_ 2671 = .ok (.iload 4, 2) := by decide +kernel
theorem dL_law__2673 : decode cL_law_ 2673 = .ok (.iconst 2, 1) := by decide +kernel
theorem dL_law__2674 : decode cL_law_ 2674 = .ok (.iadd, 1) := by decide +kernel
theorem dL_law__2675 : decode cL_law_ 2675 = .ok (.iaload, 1) := by decide +kernel
theorem dL_law__2676 : decode cL_law_ 2676 = .ok (.aload_n 3, 1) := by decide +kernel
theorem dL_law__2677 : decode cL_law_ 2677 = .ok (.invokestatic 286, 3) := by decide +kernel
theorem dL_law__2680 : decode cL_law_ 2680 = .ok (.istore 5, 2) := by decide +kernel
theorem dL_law__2682 : decode cL_law_ 2682 = .ok (.aload_n 2, 1) := by decide +kernel
theorem dL_law__2683 : decode cL_law_ 2683 = .ok (.aload_n 0, 1) := by decide +kernel
theorem dL_law__2684 : decode cL_law_ 2684 = .ok (.iload 4, 2) := by decide +kernel
theorem dL_law__2686 : decode cL_law_ 2686 = .ok (.iconst 1, 1) := by decide +kernel
theorem dL_law__2687 : decode cL_law_ 2687 = .ok (.iadd, 1) := by decide +kernel
theorem dL_law__2688 : decode cL_law_ 2688 = .ok (.iaload, 1) := by decide +kernel
theorem dL_law__2689 : decode cL_law_ 2689 = .ok (.aload_n 0, 1) := by decide +kernel
theorem dL_law__2690 : decode cL_law_ 2690 = .ok (.iload 4, 2) := by decide +kernel
theorem dL_law__2692 : decode cL_law_ 2692 = .ok (.iconst 2, 1) := by decide +kernel
theorem dL_law__2693 : decode cL_law_ 2693 = .ok (.iadd, 1) := by decide +kernel
theorem dL_law__2694 : decode cL_law_ 2694 = .ok (.iaload, 1) := by decide +kernel
theorem dL_law__2695 : decode cL_law_ 2695 = .ok (.invokevirtual 288, 3) := by decide +kernel
theorem dL_law__2698 : decode cL_law_ 2698 = .ok (.istore 6, 2) := by decide +kernel
theorem dL_law__2700 : decode cL_law_ 2700 = .ok (.aload_n 2, 1) := by decide +kernel
theorem dL_law__2701 : decode cL_law_ 2701 = .ok (.invokevirtual 144, 3) := by decide +kernel
theorem dL_law__2704 : decode cL_law_ 2704 = .ok (.iload 5, 2) := by decide +kernel
theorem dL_law__2706 : decode cL_law_ 2706 = .ok (.if_icmp .eq 5, 3) := by decide +kernel
theorem dL_law__2709 : decode cL_law_ 2709 = .ok (.iconst 0, 1) := by decide +kernel
theorem dL_law__2710 : decode cL_law_ 2710 = .ok (.ireturn, 1) := by decide +kernel
theorem dL_law__2711 : decode cL_law_ 2711 = .ok (.iload 5, 2) := by decide +kernel
theorem dL_law__2713 : decode cL_law_ 2713 = .ok (.ifCond .ne 15, 3) := by decide +kernel
theorem dL_law__2716 : decode cL_law_ 2716 = .ok (.aload_n 3, 1) := by decide +kernel
theorem dL_law__2717 : decode cL_law_ 2717 = .ok (.iconst 0, 1) := by decide +kernel
theorem dL_law__2718 : decode cL_law_ 2718 = .ok (.laload, 1) := by decide +kernel
theorem dL_law__2719 : decode cL_law_ 2719 = .ok (.iload 6, 2) := by decide +kernel
theorem dL_law__2721 : decode cL_law_ 2721 = .ok (.i2l, 1) := by decide +kernel
theorem dL_law__2722 : decode cL_law_ 2722 = .ok (.lcmp, 1) := by decide +kernel
theorem dL_law__2723 : decode cL_law_ 2723 = .ok (.ifCond .eq 5, 3) := by decide +kernel
theorem dL_law__2726 : decode cL_law_ 2726 = .ok (.iconst 0, 1) := by decide +kernel
theorem dL_law__2727 : decode cL_law_ 2727 = .ok (.ireturn, 1) := by decide +kernel
theorem dL_law__2728 : decode cL_law_ 2728 = .ok (.goto 90, 3) := by decide +kernel
theorem dL_law__2731 : decode cL_law_ 2731 = .ok (.aload_n 1, 1) := by decide +kernel
theorem dL_law__2732 : decode cL_law_ 2732 = .ok (.aload_n 0, 1) := by decide +kernel
theorem dL_law__2733 : decode cL_law_ 2733 = .ok (.iload 4, 2) := by decide +kernel
theorem dL_law__2735 : decode cL_law_ 2735 = .ok (.iconst 1, 1) := by decide +kernel
theorem dL_law__2736 : decode cL_law_ 2736 = .ok (.iadd, 1) := by decide +kernel
theorem dL_law__2737 : decode cL_law_ 2737 = .ok (.iaload, 1) := by decide +kernel
theorem dL_law__2738 : decode cL_law_ 2738 = .ok (.invokevirtual 289, 3) := by decide +kernel
theorem dL_law__2741 : decode cL_law_ 2741 = .ok (.aload_n 2, 1) := by decide +kernel
theorem dL_law__2742 : decode cL_law_ 2742 = .ok (.aload_n 0, 1) := by decide +kernel
theorem dL_law__2743 : decode cL_law_ 2743 = .ok (.iload 4, 2) := by decide +kernel
theorem dL_law__2745 : decode cL_law_ 2745 = .ok (.iconst 1, 1) := by decide +kernel
theorem dL_law__2746 : decode cL_law_ 2746 = .ok (.iadd, 1) := by decide +kernel
theorem dL_law__2747 : decode cL_law_ 2747 = .ok (.iaload, 1) := by decide +kernel
theorem dL_law__2748 : decode cL_law_ 2748 = .ok (.invokevirtual 292, 3) := by decide +kernel
theorem dL_law__2751 : decode cL_law_ 2751 = .ok (.if_icmp .eq 67, 3) := by decide +kernel
theorem dL_law__2754 : decode cL_law_ 2754 = .ok (.iconst 0, 1) := by decide +kernel
theorem dL_law__2755 : decode cL_law_ 2755 = .ok (.ireturn, 1) := by decide +kernel
theorem dL_law__2756 : decode cL_law_ 2756 = .ok (.aload_n 1, 1) := by decide +kernel
theorem dL_law__2757 : decode cL_law_ 2757 = .ok (.invokevirtual 293, 3) := by decide +kernel
theorem dL_law__2760 : decode cL_law_ 2760 = .ok (.aload_n 2, 1) := by decide +kernel
theorem dL_law__2761 : decode cL_law_ 2761 = .ok (.invokevirtual 296, 3) := by decide +kernel
theorem dL_law__2764 : decode cL_law_ 2764 = .ok (.if_icmp .eq 54, 3) := by decide +kernel
theorem dL_law__2767 : decode cL_law_ 2767 = .ok (.iconst 0, 1) := by decide +kernel
theorem dL_law__2768 : decode cL_law_ 2768 = .ok (.ireturn, 1) := by decide +kernel
theorem dL_law__2769 : decode cL_law_ 2769 = .ok (.aload_n 1, 1) := by decide +kernel
theorem dL_law__2770 : decode cL_law_ 2770 = .ok (.invokevirtual 297, 3) := by decide +kernel
theorem dL_law__2773 : decode cL_law_ 2773 = .ok (.aload_n 2, 1) := by decide +kernel
theorem dL_law__2774 : decode cL_law_ 2774 = .ok (.invokevirtual 300, 3) := by decide +kernel
theorem dL_law__2777 : decode cL_law_ 2777 = .ok (.goto 41, 3) := by decide +kernel
theorem dL_law__2780 : decode cL_law_ 2780 = .ok (.aload_n 1, 1) := by decide +kernel
theorem dL_law__2781 : decode cL_law_ 2781 = .ok (.invokevirtual 301, 3) := by decide +kernel
theorem dL_law__2784 : decode cL_law_ 2784 = .ok (.aload_n 2, 1) := by decide +kernel
theorem dL_law__2785 : decode cL_law_ 2785 = .ok (.invokevirtual 304, 3) := by decide +kernel
theorem dL_law__2788 : decode cL_law_ 2788 = .ok (.if_icmp .eq 30, 3) := by decide +kernel
theorem dL_law__2791 : decode cL_law_ 2791 = .ok (.iconst 0, 1) := by decide +kernel
theorem dL_law__2792 : decode cL_law_ 2792 = .ok (.ireturn, 1) := by decide +kernel
theorem dL_law__2793 : decode cL_law_ 2793 = .ok (.aload_n 1, 1) := by decide +kernel
theorem dL_law__2794 : decode cL_law_ 2794 = .ok (.aload_n 0, 1) := by decide +kernel
theorem dL_law__2795 : decode cL_law_ 2795 = .ok (.iload 4, 2) := by decide +kernel
theorem dL_law__2797 : decode cL_law_ 2797 = .ok (.iconst 1, 1) := by decide +kernel
theorem dL_law__2798 : decode cL_law_ 2798 = .ok (.iadd, 1) := by decide +kernel
theorem dL_law__2799 : decode cL_law_ 2799 = .ok (.iaload, 1) := by decide +kernel
theorem dL_law__2800 : decode cL_law_ 2800 = .ok (.invokevirtual 305, 3) := by decide +kernel
theorem dL_law__2803 : decode cL_law_ 2803 = .ok (.aload_n 2, 1) := by decide +kernel
theorem dL_law__2804 : decode cL_law_ 2804 = .ok (.aload_n 0, 1) := by decide +kernel
theorem dL_law__2805 : decode cL_law_ 2805 = .ok (.iload 4, 2) := by decide +kernel
theorem dL_law__2807 : decode cL_law_ 2807 = .ok (.iconst 1, 1) := by decide +kernel
theorem dL_law__2808 : decode cL_law_ 2808 = .ok (.iadd, 1) := by decide +kernel
theorem dL_law__2809 : decode cL_law_ 2809 = .ok (.iaload, 1) := by decide +kernel
theorem dL_law__2810 : decode cL_law_ 2810 = .ok (.invokevirtual 308, 3) := by decide +kernel
theorem dL_law__2813 : decode cL_law_ 2813 = .ok (.if_icmp .eq 5, 3) := by decide +kernel
theorem dL_law__2816 : decode cL_law_ 2816 = .ok (.iconst 0, 1) := by decide +kernel
theorem dL_law__2817 : decode cL_law_ 2817 = .ok (.ireturn, 1) := by decide +kernel
theorem dL_law__2818 : decode cL_law_ 2818 = .ok (.iinc 4 6, 3) := by decide +kernel
theorem dL_law__2821 : decode cL_law_ 2821 = .ok (.goto (-2798), 3) := by decide +kernel
theorem dL_law__2824 : decode cL_law_ 2824 = .ok (.iconst 1, 1) := by decide +kernel
theorem dL_law__2825 : decode cL_law_ 2825 = .ok (.ireturn, 1) := by decide +kernel

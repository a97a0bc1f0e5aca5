/-! Part 92l: the law's instructions -/
theorem dL_law_2312 : decode code 2312 = .ok (.ireturn, 1) := by decide +kernel
theorem dL_law_2313 : decode code 2313 = .ok (.iload 6, 2) := by decide +kernel
theorem dL_law_2315 : decode code 2315 = .ok (.ifCond .ne 15, 3) := by decide +kernel
theorem dL_law_2318 : decode code 2318 = .ok (.aload_n 3, 1) := by decide +kernel
theorem dL_law_2319 : decode code 2319 = .ok (.iconst 0, 1) := by decide +kernel
theorem dL_law_2320 : decode code 2320 = .ok (.laload, 1) := by decide +kernel
theorem dL_law_2321 : decode code 2321 = .ok (.iload 7, 2) := by decide +kernel
theorem dL_law_2323 : decode code 2323 = .ok (.i2l, 1) := by decide +kernel
theorem dL_law_2324 : decode code 2324 = .ok (.lcmp, 1) := by decide +kernel
theorem dL_law_2325 : decode code 2325 = .ok (.ifCond .eq 5, 3) := by decide +kernel
theorem dL_law_2328 : decode code 2328 = .ok (.iconst 0, 1) := by decide +kernel
theorem dL_law_2329 : decode code 2329 = .ok (.ireturn, 1) := by decide +kernel
theorem dL_law_2330 : decode code 2330 = .ok (.goto 583, 3) := by decide +kernel
theorem dL_law_2333 : decode code 2333 = .ok (.aload_n 1, 1) := by decide +kernel
theorem dL_law_2334 : decode code 2334 = .ok (.aload_n 0, 1) := by decide +kernel
theorem dL_law_2335 : decode code 2335 = .ok (.iload 5, 2) := by decide +kernel
theorem dL_law_2337 : decode code 2337 = .ok (.iconst 1, 1) := by decide +kernel
theorem dL_law_2338 : decode code 2338 = .ok (.iadd, 1) := by decide +kernel
theorem dL_law_2339 : decode code 2339 = .ok (.iaload, 1) := by decide +kernel
theorem dL_law_2340 : decode code 2340 = .ok (.aload_n 3, 1) := by decide +kernel
theorem dL_law_2341 : decode code 2341 = .ok (.invokestatic 263, 3) := by decide +kernel
theorem dL_law_2344 : decode code 2344 = .ok (.istore 6, 2) := by decide +kernel
theorem dL_law_2346 : decode code 2346 = .ok (.aload_n 2, 1) := by decide +kernel
theorem dL_law_2347 : decode code 2347 = .ok (.aload_n 0, 1) := by decide +kernel
theorem dL_law_2348 : decode code 2348 = .ok (.iload 5, 2) := by decide +kernel
theorem dL_law_2350 : decode code 2350 = .ok (.iconst 1, 1) := by decide +kernel
theorem dL_law_2351 : decode code 2351 = .ok (.iadd, 1) := by decide +kernel
theorem dL_law_2352 : decode code 2352 = .ok (.iaload, 1) := by decide +kernel
theorem dL_law_2353 : decode code 2353 = .ok (.invokevirtual 265, 3) := by decide +kernel
theorem dL_law_2356 : decode code 2356 = .ok (.istore 7, 2) := by decide +kernel
theorem dL_law_2358 : decode code 2358 = .ok (.aload_n 2, 1) := by decide +kernel
theorem dL_law_2359 : decode code 2359 = .ok (.invokevirtual 169, 3) := by decide +kernel
theorem dL_law_2362 : decode code 2362 = .ok (.iload 6, 2) := by decide +kernel
theorem dL_law_2364 : decode code 2364 = .ok (.if_icmp .eq 5, 3) := by decide +kernel
theorem dL_law_2367 : decode code 2367 = .ok (.iconst 0, 1) := by decide +kernel
theorem dL_law_2368 : decode code 2368 = .ok (.ireturn, 1) := by decide +kernel
theorem dL_law_2369 : decode code 2369 = .ok (.iload 6, 2) := by decide +kernel
theorem dL_law_2371 : decode code 2371 = .ok (.ifCond .ne 15, 3) := by decide +kernel
theorem dL_law_2374 : decode code 2374 = .ok (.aload_n 3, 1) := by decide +kernel
theorem dL_law_2375 : decode code 2375 = .ok (.iconst 0, 1) := by decide +kernel
theorem dL_law_2376 : decode code 2376 = .ok (.laload, 1) := by decide +kernel
theorem dL_law_2377 : decode code 2377 = .ok (.iload 7, 2) := by decide +kernel
theorem dL_law_2379 : decode code 2379 = .ok (.i2l, 1) := by decide +kernel
theorem dL_law_2380 : decode code 2380 = .ok (.lcmp, 1) := by decide +kernel
theorem dL_law_2381 : decode code 2381 = .ok (.ifCond .eq 5, 3) := by decide +kernel
theorem dL_law_2384 : decode code 2384 = .ok (.iconst 0, 1) := by decide +kernel
theorem dL_law_2385 : decode code 2385 = .ok (.ireturn, 1) := by decide +kernel
theorem dL_law_2386 : decode code 2386 = .ok (.goto 527, 3) := by decide +kernel
theorem dL_law_2389 : decode code 2389 = .ok (.aload_n 1, 1) := by decide +kernel
theorem dL_law_2390 : decode code 2390 = .ok (.aload_n 0, 1) := by decide +kernel
theorem dL_law_2391 : decode code 2391 = .ok (.iload 5, 2) := by decide +kernel
theorem dL_law_2393 : decode code 2393 = .ok (.iconst 1, 1) := by decide +kernel
theorem dL_law_2394 : decode code 2394 = .ok (.iadd, 1) := by decide +kernel
theorem dL_law_2395 : decode code 2395 = .ok (.iaload, 1) := by decide +kernel
theorem dL_law_2396 : decode code 2396 = .ok (.aload_n 0, 1) := by decide +kernel
theorem dL_law_2397 : decode code 2397 = .ok (.iload 5, 2) := by decide +kernel
theorem dL_law_2399 : decode code 2399 = .ok (.iconst 2, 1) := by decide +kernel
theorem dL_law_2400 : decode code 2400 = .ok (.iadd, 1) := by decide +kernel
theorem dL_law_2401 : decode code 2401 = .ok (.iaload, 1) := by decide +kernel
theorem dL_law_2402 : decode code 2402 = .ok (.aload_n 3, 1) := by decide +kernel
theorem dL_law_2403 : decode code 2403 = .ok (.invokestatic 266, 3) := by decide +kernel
theorem dL_law_2406 : decode code 2406 = .ok (.istore 6, 2) := by decide +kernel
theorem dL_law_2408 : decode code 2408 = .ok (.aload_n 2, 1) := by decide +kernel
theorem dL_law_2409 : decode code 2409 = .ok (.aload_n 0, 1) := by decide +kernel
theorem dL_law_2410 : decode code 2410 = .ok (.iload 5, 2) := by decide +kernel
theorem dL_law_2412 : decode code 2412 = .ok (.iconst 1, 1) := by decide +kernel
theorem dL_law_2413 : decode code 2413 = .ok (.iadd, 1) := by decide +kernel
theorem dL_law_2414 : decode code 2414 = .ok (.iaload, 1) := by decide +kernel
theorem dL_law_2415 : decode code 2415 = .ok (.aload_n 0, 1) := by decide +kernel
theorem dL_law_2416 : decode code 2416 = .ok (.iload 5, 2) := by decide +kernel
theorem dL_law_2418 : decode code 2418 = .ok (.iconst 2, 1) := by decide +kernel
theorem dL_law_2419 : decode code 2419 = .ok (.iadd, 1) := by decide +kernel
theorem dL_law_2420 : decode code 2420 = .ok (.iaload, 1) := by decide +kernel
theorem dL_law_2421 : decode code 2421 = .ok (.invokevirtual 268, 3) := by decide +kernel
theorem dL_law_2424 : decode code 2424 = .ok (.istore 7, 2) := by decide +kernel
theorem dL_law_2426 : decode code 2426 = .ok (.aload_n 2, 1) := by decide +kernel
theorem dL_law_2427 : decode code 2427 = .ok (.invokevirtual 169, 3) := by decide +kernel
theorem dL_law_2430 : decode code 2430 = .ok (.iload 6, 2) := by decide +kernel
theorem dL_law_2432 : decode code 2432 = .ok (.if_icmp .eq 5, 3) := by decide +kernel
theorem dL_law_2435 : decode code 2435 = .ok (.iconst 0, 1) := by decide +kernel
theorem dL_law_2436 : decode code 2436 = .ok (.ireturn, 1) := by decide +kernel
theorem dL_law_2437 : decode code 2437 = .ok (.iload 6, 2) := by decide +kernel
theorem dL_law_2439 : decode code 2439 = .ok (.ifCond .ne 15, 3) := by decide +kernel
theorem dL_law_2442 : decode code 2442 = .ok (.aload_n 3, 1) := by decide +kernel
theorem dL_law_2443 : decode code 2443 = .ok (.iconst 0, 1) := by decide +kernel
theorem dL_law_2444 : decode code 2444 = .ok (.laload, 1) := by decide +kernel
theorem dL_law_2445 : decode code 2445 = .ok (.iload 7, 2) := by decide +kernel
theorem dL_law_2447 : decode code 2447 = .ok (.i2l, 1) := by decide +kernel
theorem dL_law_2448 : decode code 2448 = .ok (.lcmp, 1) := by decide +kernel
theorem dL_law_2449 : decode code 2449 = .ok (.ifCond .eq 5, 3) := by decide +kernel
theorem dL_law_2452 : decode code 2452 = .ok (.iconst 0, 1) := by decide +kernel
theorem dL_law_2453 : decode code 2453 = .ok (.ireturn, 1) := by decide +kernel
theorem dL_law_2454 : decode code 2454 = .ok (.goto 459, 3) := by decide +kernel
theorem dL_law_2457 : decode code 2457 = .ok (.aload_n 1, 1) := by decide +kernel
theorem dL_law_2458 : decode code 2458 = .ok (.invokevirtual 269, 3) := by decide +kernel
theorem dL_law_2461 : decode code 2461 = .ok (.aload_n 2, 1) := by decide +kernel
theorem dL_law_2462 : decode code 2462 = .ok (.invokevirtual 272, 3) := by decide +kernel
theorem dL_law_2465 : decode code 2465 = .ok (.if_icmp .eq 448, 3) := by decide +kernel
theorem dL_law_2468 : decode code 2468 = .ok (.iconst 0, 1) := by decide +kernel
theorem dL_law_2469 : decode code 2469 = .ok (.ireturn, 1) := by decide +kernel
theorem dL_law_2470 : decode code 2470 = .ok (.aload_n 1, 1) := by decide +kernel
theorem dL_law_2471 : decode code 2471 = .ok (.aload_n 0, 1) := by decide +kernel
theorem dL_law_2472 : decode code 2472 = .ok (.iload 5, 2) := by decide +kernel
theorem dL_law_2474 : decode code 2474 = .ok (.iconst 1, 1) := by decide +kernel
theorem dL_law_2475 : decode code 2475 = .ok (.iadd, 1) := by decide +kernel
theorem dL_law_2476 : decode code 2476 = .ok (.iaload, 1) := by decide +kernel
theorem dL_law_2477 : decode code 2477 = .ok (.aload_n 3, 1) := by decide +kernel
theorem dL_law_2478 : decode code 2478 = .ok (.invokestatic 273, 3) := by decide +kernel
theorem dL_law_2481 : decode code 2481 = .ok (.istore 6, 2) := by decide +kernel
theorem dL_law_2483 : decode code 2483 = .ok (.aload_n 2, 1) := by decide +kernel
theorem dL_law_2484 : decode code 2484 = .ok (.aload_n 0, 1) := by decide +kernel
theorem dL_law_2485 : decode code 2485 = .ok (.iload 5, 2) := by decide +kernel
theorem dL_law_2487 : decode code 2487 = .ok (.iconst 1, 1) := by decide +kernel
theorem dL_law_2488 : decode code 2488 = .ok (.iadd, 1) := by decide +kernel
theorem dL_law_2489 : decode code 2489 = .ok (.iaload, 1) := by decide +kernel
theorem dL_law_2490 : decode code 2490 = .ok (.invokevirtual 275, 3) := by decide +kernel
theorem dL_law_2493 : decode code 2493 = .ok (.istore 7, 2) := by decide +kernel
theorem dL_law_2495 : decode code 2495 = .ok (.aload_n 2, 1) := by decide +kernel
theorem dL_law_2496 : decode code 2496 = .ok (.invokevirtual 169, 3) := by decide +kernel
theorem dL_law_2499 : decode code 2499 = .ok (.iload 6, 2) := by decide +kernel
theorem dL_law_2501 : decode code 2501 = .ok (.if_icmp .eq 5, 3) := by decide +kernel
theorem dL_law_2504 : decode code 2504 = .ok (.iconst 0, 1) := by decide +kernel
theorem dL_law_2505 : decode code 2505 = .ok (.ireturn, 1) := by decide +kernel
theorem dL_law_2506 : decode code 2506 = .ok (.iload 6, 2) := by decide +kernel
theorem dL_law_2508 : decode code 2508 = .ok (.ifCond .ne 15, 3) := by decide +kernel

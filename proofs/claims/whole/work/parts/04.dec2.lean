theorem dX6_init_463 : decode cX6_init 463 = .ok (.dup, 1) := by decide +kernel
theorem dX6_init_464 : decode cX6_init 464 = .ok (.bipush 16, 2) := by decide +kernel
theorem dX6_init_466 : decode cX6_init 466 = .ok (.iconst 0, 1) := by decide +kernel
theorem dX6_init_467 : decode cX6_init 467 = .ok (.iastore, 1) := by decide +kernel
theorem dX6_init_468 : decode cX6_init 468 = .ok (.dup, 1) := by decide +kernel
theorem dX6_init_469 : decode cX6_init 469 = .ok (.bipush 17, 2) := by decide +kernel
theorem dX6_init_471 : decode cX6_init 471 = .ok (.iconst 0, 1) := by decide +kernel
theorem dX6_init_472 : decode cX6_init 472 = .ok (.iastore, 1) := by decide +kernel
theorem dX6_init_473 : decode cX6_init 473 = .ok (.dup, 1) := by decide +kernel
theorem dX6_init_474 : decode cX6_init 474 = .ok (.bipush 18, 2) := by decide +kernel
theorem dX6_init_476 : decode cX6_init 476 = .ok (.iconst 0, 1) := by decide +kernel
theorem dX6_init_477 : decode cX6_init 477 = .ok (.iastore, 1) := by decide +kernel
theorem dX6_init_478 : decode cX6_init 478 = .ok (.dup, 1) := by decide +kernel
theorem dX6_init_479 : decode cX6_init 479 = .ok (.bipush 19, 2) := by decide +kernel
theorem dX6_init_481 : decode cX6_init 481 = .ok (.iconst 0, 1) := by decide +kernel
theorem dX6_init_482 : decode cX6_init 482 = .ok (.iastore, 1) := by decide +kernel
theorem dX6_init_483 : decode cX6_init 483 = .ok (.dup, 1) := by decide +kernel
theorem dX6_init_484 : decode cX6_init 484 = .ok (.bipush 20, 2) := by decide +kernel
theorem dX6_init_486 : decode cX6_init 486 = .ok (.iconst 0, 1) := by decide +kernel
theorem dX6_init_487 : decode cX6_init 487 = .ok (.iastore, 1) := by decide +kernel
theorem dX6_init_488 : decode cX6_init 488 = .ok (.dup, 1) := by decide +kernel
theorem dX6_init_489 : decode cX6_init 489 = .ok (.bipush 21, 2) := by decide +kernel
theorem dX6_init_491 : decode cX6_init 491 = .ok (.iconst 0, 1) := by decide +kernel
theorem dX6_init_492 : decode cX6_init 492 = .ok (.iastore, 1) := by decide +kernel
theorem dX6_init_493 : decode cX6_init 493 = .ok (.dup, 1) := by decide +kernel
theorem dX6_init_494 : decode cX6_init 494 = .ok (.bipush 22, 2) := by decide +kernel
theorem dX6_init_496 : decode cX6_init 496 = .ok (.iconst 0, 1) := by decide +kernel
theorem dX6_init_497 : decode cX6_init 497 = .ok (.iastore, 1) := by decide +kernel
theorem dX6_init_498 : decode cX6_init 498 = .ok (.dup, 1) := by decide +kernel
theorem dX6_init_499 : decode cX6_init 499 = .ok (.bipush 23, 2) := by decide +kernel
theorem dX6_init_501 : decode cX6_init 501 = .ok (.iconst 0, 1) := by decide +kernel
theorem dX6_init_502 : decode cX6_init 502 = .ok (.iastore, 1) := by decide +kernel
theorem dX6_init_503 : decode cX6_init 503 = .ok (.putfield 23, 3) := by decide +kernel
theorem dX6_init_506 : decode cX6_init 506 = .ok (.aload_n 0, 1) := by decide +kernel
theorem dX6_init_507 : decode cX6_init 507 = .ok (.iconst 2, 1) := by decide +kernel
theorem dX6_init_508 : decode cX6_init 508 = .ok (.putfield 26, 3) := by decide +kernel
theorem dX6_init_511 : decode cX6_init 511 = .ok (.aload_n 0, 1) := by decide +kernel
theorem dX6_init_512 : decode cX6_init 512 = .ok (.bipush 12, 2) := by decide +kernel
theorem dX6_init_514 : decode cX6_init 514 = .ok (.newarray .int, 2) := by decide +kernel
theorem dX6_init_516 : decode cX6_init 516 = .ok (.putfield 29, 3) := by decide +kernel
theorem dX6_init_519 : decode cX6_init 519 = .ok (.aload_n 0, 1) := by decide +kernel
theorem dX6_init_520 : decode cX6_init 520 = .ok (.sipush 720, 3) := by decide +kernel
theorem dX6_init_523 : decode cX6_init 523 = .ok (.newarray .int, 2) := by decide +kernel
theorem dX6_init_525 : decode cX6_init 525 = .ok (.putfield 32, 3) := by decide +kernel
theorem dX6_init_528 : decode cX6_init 528 = .ok (.aload_n 0, 1) := by decide +kernel
theorem dX6_init_529 : decode cX6_init 529 = .ok (.sipush 180, 3) := by decide +kernel
theorem dX6_init_532 : decode cX6_init 532 = .ok (.newarray .int, 2) := by decide +kernel
theorem dX6_init_534 : decode cX6_init 534 = .ok (.putfield 35, 3) := by decide +kernel
theorem dX6_init_537 : decode cX6_init 537 = .ok (.aload_n 0, 1) := by decide +kernel
theorem dX6_init_538 : decode cX6_init 538 = .ok (.sipush 676, 3) := by decide +kernel
theorem dX6_init_541 : decode cX6_init 541 = .ok (.newarray .int, 2) := by decide +kernel
theorem dX6_init_543 : decode cX6_init 543 = .ok (.putfield 38, 3) := by decide +kernel
theorem dX6_init_546 : decode cX6_init 546 = .ok (.aload_n 0, 1) := by decide +kernel
theorem dX6_init_547 : decode cX6_init 547 = .ok (.sipush 676, 3) := by decide +kernel
theorem dX6_init_550 : decode cX6_init 550 = .ok (.newarray .int, 2) := by decide +kernel
theorem dX6_init_552 : decode cX6_init 552 = .ok (.putfield 41, 3) := by decide +kernel
theorem dX6_init_555 : decode cX6_init 555 = .ok (.aload_n 0, 1) := by decide +kernel
theorem dX6_init_556 : decode cX6_init 556 = .ok (.bipush 13, 2) := by decide +kernel
theorem dX6_init_558 : decode cX6_init 558 = .ok (.newarray .int, 2) := by decide +kernel
theorem dX6_init_560 : decode cX6_init 560 = .ok (.putfield 44, 3) := by decide +kernel
theorem dX6_init_563 : decode cX6_init 563 = .ok (.aload_n 0, 1) := by decide +kernel
theorem dX6_init_564 : decode cX6_init 564 = .ok (.bipush 13, 2) := by decide +kernel
theorem dX6_init_566 : decode cX6_init 566 = .ok (.newarray .int, 2) := by decide +kernel
theorem dX6_init_568 : decode cX6_init 568 = .ok (.putfield 47, 3) := by decide +kernel
theorem dX6_init_571 : decode cX6_init 571 = .ok (.aload_n 0, 1) := by decide +kernel
theorem dX6_init_572 : decode cX6_init 572 = .ok (.sipush 400, 3) := by decide +kernel
theorem dX6_init_575 : decode cX6_init 575 = .ok (.newarray .int, 2) := by decide +kernel
theorem dX6_init_577 : decode cX6_init 577 = .ok (.putfield 50, 3) := by decide +kernel
theorem dX6_init_580 : decode cX6_init 580 = .ok (.aload_n 0, 1) := by decide +kernel
theorem dX6_init_581 : decode cX6_init 581 = .ok (.sipush 5213, 3) := by decide +kernel
theorem dX6_init_584 : decode cX6_init 584 = .ok (.newarray .int, 2) := by decide +kernel
theorem dX6_init_586 : decode cX6_init 586 = .ok (.putfield 53, 3) := by decide +kernel
theorem dX6_init_589 : decode cX6_init 589 = .ok (.aload_n 0, 1) := by decide +kernel
theorem dX6_init_590 : decode cX6_init 590 = .ok (.bipush 13, 2) := by decide +kernel
theorem dX6_init_592 : decode cX6_init 592 = .ok (.newarray .int, 2) := by decide +kernel
theorem dX6_init_594 : decode cX6_init 594 = .ok (.putfield 56, 3) := by decide +kernel
theorem dX6_init_597 : decode cX6_init 597 = .ok (.aload_n 0, 1) := by decide +kernel
theorem dX6_init_598 : decode cX6_init 598 = .ok (.bipush 13, 2) := by decide +kernel
theorem dX6_init_600 : decode cX6_init 600 = .ok (.newarray .int, 2) := by decide +kernel
theorem dX6_init_602 : decode cX6_init 602 = .ok (.putfield 59, 3) := by decide +kernel
theorem dX6_init_605 : decode cX6_init 605 = .ok (.aload_n 0, 1) := by decide +kernel
theorem dX6_init_606 : decode cX6_init 606 = .ok (.bipush 36, 2) := by decide +kernel
theorem dX6_init_608 : decode cX6_init 608 = .ok (.newarray .int, 2) := by decide +kernel
theorem dX6_init_610 : decode cX6_init 610 = .ok (.putfield 62, 3) := by decide +kernel
theorem dX6_init_613 : decode cX6_init 613 = .ok (.aload_n 0, 1) := by decide +kernel
theorem dX6_init_614 : decode cX6_init 614 = .ok (.bipush 12, 2) := by decide +kernel
theorem dX6_init_616 : decode cX6_init 616 = .ok (.newarray .int, 2) := by decide +kernel
theorem dX6_init_618 : decode cX6_init 618 = .ok (.putfield 65, 3) := by decide +kernel
theorem dX6_init_621 : decode cX6_init 621 = .ok (.aload_n 0, 1) := by decide +kernel
theorem dX6_init_622 : decode cX6_init 622 = .ok (.iconst 3, 1) := by decide +kernel
theorem dX6_init_623 : decode cX6_init 623 = .ok (.newarray .int, 2) := by decide +kernel
theorem dX6_init_625 : decode cX6_init 625 = .ok (.putfield 68, 3) := by decide +kernel
theorem dX6_init_628 : decode cX6_init 628 = .ok (.aload_n 0, 1) := by decide +kernel
theorem dX6_init_629 : decode cX6_init 629 = .ok (.bipush 90, 2) := by decide +kernel
theorem dX6_init_631 : decode cX6_init 631 = .ok (.newarray .int, 2) := by decide +kernel
theorem dX6_init_633 : decode cX6_init 633 = .ok (.putfield 71, 3) := by decide +kernel
theorem dX6_init_636 : decode cX6_init 636 = .ok (.aload_n 0, 1) := by decide +kernel
theorem dX6_init_637 : decode cX6_init 637 = .ok (.sipush 200, 3) := by decide +kernel
theorem dX6_init_640 : decode cX6_init 640 = .ok (.newarray .int, 2) := by decide +kernel
theorem dX6_init_642 : decode cX6_init 642 = .ok (.putfield 74, 3) := by decide +kernel
theorem dX6_init_645 : decode cX6_init 645 = .ok (.aload_n 0, 1) := by decide +kernel
theorem dX6_init_646 : decode cX6_init 646 = .ok (.bipush 6, 2) := by decide +kernel
theorem dX6_init_648 : decode cX6_init 648 = .ok (.newarray .int, 2) := by decide +kernel
theorem dX6_init_650 : decode cX6_init 650 = .ok (.putfield 77, 3) := by decide +kernel
theorem dX6_init_653 : decode cX6_init 653 = .ok (.return_, 1) := by decide +kernel
theorem dX6_in_0 : decode cX6_in 0 = .ok (.iload_n 0, 1) := by decide +kernel
theorem dX6_in_1 : decode cX6_in 1 = .ok (.iload_n 1, 1) := by decide +kernel
theorem dX6_in_2 : decode cX6_in 2 = .ok (.if_icmp .lt 12, 3) := by decide +kernel
theorem dX6_in_5 : decode cX6_in 5 = .ok (.iload_n 0, 1) := by decide +kernel
theorem dX6_in_6 : decode cX6_in 6 = .ok (.iload_n 2, 1) := by decide +kernel
theorem dX6_in_7 : decode cX6_in 7 = .ok (.if_icmp .gt 7, 3) := by decide +kernel
theorem dX6_in_10 : decode cX6_in 10 = .ok (.iconst 1, 1) := by decide +kernel
theorem dX6_in_11 : decode cX6_in 11 = .ok (.goto 4, 3) := by decide +kernel
theorem dX6_in_14 : decode cX6_in 14 = .ok (.iconst 0, 1) := by decide +kernel
theorem dX6_in_15 : decode cX6_in 15 = .ok (.ireturn, 1) := by decide +kernel
theorem dX6_writes_0 : decode cX6_writes 0 = .ok (.aload_n 1, 1) := by decide +kernel
theorem dX6_writes_1 : decode cX6_writes 1 = .ok (.iload_n 2, 1) := by decide +kernel
theorem dX6_writes_2 : decode cX6_writes 2 = .ok (.aload_n 0, 1) := by decide +kernel
theorem dX6_writes_3 : decode cX6_writes 3 = .ok (.getfield 13, 3) := by decide +kernel
theorem dX6_writes_6 : decode cX6_writes 6 = .ok (.iastore, 1) := by decide +kernel
theorem dX6_writes_7 : decode cX6_writes 7 = .ok (.aload_n 1, 1) := by decide +kernel
theorem dX6_writes_8 : decode cX6_writes 8 = .ok (.iload_n 2, 1) := by decide +kernel
theorem dX6_writes_9 : decode cX6_writes 9 = .ok (.iconst 1, 1) := by decide +kernel
theorem dX6_writes_10 : decode cX6_writes 10 = .ok (.iadd, 1) := by decide +kernel
theorem dX6_writes_11 : decode cX6_writes 11 = .ok (.aload_n 0, 1) := by decide +kernel
theorem dX6_writes_12 : decode cX6_writes 12 = .ok (.getfield 80, 3) := by decide +kernel
theorem dX6_writes_15 : decode cX6_writes 15 = .ok (.iastore, 1) := by decide +kernel
theorem dX6_writes_16 : decode cX6_writes 16 = .ok (.aload_n 1, 1) := by decide +kernel
theorem dX6_writes_17 : decode cX6_writes 17 = .ok (.iload_n 2, 1) := by decide +kernel
theorem dX6_writes_18 : decode cX6_writes 18 = .ok (.iconst 2, 1) := by decide +kernel
theorem dX6_writes_19 : decode cX6_writes 19 = .ok (.iadd, 1) := by decide +kernel
theorem dX6_writes_20 : decode cX6_writes 20 = .ok (.aload_n 0, 1) := by decide +kernel
theorem dX6_writes_21 : decode cX6_writes 21 = .ok (.getfield 26, 3) := by decide +kernel
theorem dX6_writes_24 : decode cX6_writes 24 = .ok (.iastore, 1) := by decide +kernel
theorem dX6_writes_25 : decode cX6_writes 25 = .ok (.aload_n 1, 1) := by decide +kernel
theorem dX6_writes_26 : decode cX6_writes 26 = .ok (.iload_n 2, 1) := by decide +kernel
theorem dX6_writes_27 : decode cX6_writes 27 = .ok (.iconst 3, 1) := by decide +kernel
theorem dX6_writes_28 : decode cX6_writes 28 = .ok (.iadd, 1) := by decide +kernel
theorem dX6_writes_29 : decode cX6_writes 29 = .ok (.aload_n 0, 1) := by decide +kernel
theorem dX6_writes_30 : decode cX6_writes 30 = .ok (.getfield 83, 3) := by decide +kernel
theorem dX6_writes_33 : decode cX6_writes 33 = .ok (.iastore, 1) := by decide +kernel
theorem dX6_writes_34 : decode cX6_writes 34 = .ok (.iconst 0, 1) := by decide +kernel
theorem dX6_writes_35 : decode cX6_writes 35 = .ok (.istore_n 3, 1) := by decide +kernel
theorem dX6_writes_36 : decode cX6_writes 36 = .ok (.iload_n 3, 1) := by decide +kernel
theorem dX6_writes_37 : decode cX6_writes 37 = .ok (.bipush 12, 2) := by decide +kernel
theorem dX6_writes_39 : decode cX6_writes 39 = .ok (.if_icmp .ge 22, 3) := by decide +kernel
theorem dX6_writes_42 : decode cX6_writes 42 = .ok (.aload_n 1, 1) := by decide +kernel
theorem dX6_writes_43 : decode cX6_writes 43 = .ok (.iload_n 2, 1) := by decide +kernel
theorem dX6_writes_44 : decode cX6_writes 44 = .ok (.iconst 4, 1) := by decide +kernel
theorem dX6_writes_45 : decode cX6_writes 45 = .ok (.iadd, 1) := by decide +kernel
theorem dX6_writes_46 : decode cX6_writes 46 = .ok (.iload_n 3, 1) := by decide +kernel
theorem dX6_writes_47 : decode cX6_writes 47 = .ok (.iadd, 1) := by decide +kernel
theorem dX6_writes_48 : decode cX6_writes 48 = .ok (.aload_n 0, 1) := by decide +kernel
theorem dX6_writes_49 : decode cX6_writes 49 = .ok (.getfield 29, 3) := by decide +kernel
theorem dX6_writes_52 : decode cX6_writes 52 = .ok (.iload_n 3, 1) := by decide +kernel
theorem dX6_writes_53 : decode cX6_writes 53 = .ok (.iaload, 1) := by decide +kernel
theorem dX6_writes_54 : decode cX6_writes 54 = .ok (.iastore, 1) := by decide +kernel
theorem dX6_writes_55 : decode cX6_writes 55 = .ok (.iinc 3 1, 3) := by decide +kernel
theorem dX6_writes_58 : decode cX6_writes 58 = .ok (.goto (-22), 3) := by decide +kernel
theorem dX6_writes_61 : decode cX6_writes 61 = .ok (.iconst 0, 1) := by decide +kernel
theorem dX6_writes_62 : decode cX6_writes 62 = .ok (.istore_n 3, 1) := by decide +kernel
theorem dX6_writes_63 : decode cX6_writes 63 = .ok (.iload_n 3, 1) := by decide +kernel
theorem dX6_writes_64 : decode cX6_writes 64 = .ok (.bipush 70, 2) := by decide +kernel
theorem dX6_writes_66 : decode cX6_writes 66 = .ok (.if_icmp .ge 23, 3) := by decide +kernel
theorem dX6_writes_69 : decode cX6_writes 69 = .ok (.aload_n 1, 1) := by decide +kernel
theorem dX6_writes_70 : decode cX6_writes 70 = .ok (.iload_n 2, 1) := by decide +kernel
theorem dX6_writes_71 : decode cX6_writes 71 = .ok (.bipush 16, 2) := by decide +kernel
theorem dX6_writes_73 : decode cX6_writes 73 = .ok (.iadd, 1) := by decide +kernel
theorem dX6_writes_74 : decode cX6_writes 74 = .ok (.iload_n 3, 1) := by decide +kernel
theorem dX6_writes_75 : decode cX6_writes 75 = .ok (.iadd, 1) := by decide +kernel
theorem dX6_writes_76 : decode cX6_writes 76 = .ok (.aload_n 0, 1) := by decide +kernel
theorem dX6_writes_77 : decode cX6_writes 77 = .ok (.getfield 16, 3) := by decide +kernel
theorem dX6_writes_80 : decode cX6_writes 80 = .ok (.iload_n 3, 1) := by decide +kernel
theorem dX6_writes_81 : decode cX6_writes 81 = .ok (.iaload, 1) := by decide +kernel
theorem dX6_writes_82 : decode cX6_writes 82 = .ok (.iastore, 1) := by decide +kernel
theorem dX6_writes_83 : decode cX6_writes 83 = .ok (.iinc 3 1, 3) := by decide +kernel
theorem dX6_writes_86 : decode cX6_writes 86 = .ok (.goto (-23), 3) := by decide +kernel
theorem dX6_writes_89 : decode cX6_writes 89 = .ok (.return_, 1) := by decide +kernel
theorem dX6_readsBack_0 : decode cX6_readsBack 0 = .ok (.aload_n 0, 1) := by decide +kernel
theorem dX6_readsBack_1 : decode cX6_readsBack 1 = .ok (.aload_n 1, 1) := by decide +kernel
theorem dX6_readsBack_2 : decode cX6_readsBack 2 = .ok (.iload_n 2, 1) := by decide +kernel
theorem dX6_readsBack_3 : decode cX6_readsBack 3 = .ok (.iaload, 1) := by decide +kernel
theorem dX6_readsBack_4 : decode cX6_readsBack 4 = .ok (.putfield 13, 3) := by decide +kernel
theorem dX6_readsBack_7 : decode cX6_readsBack 7 = .ok (.aload_n 0, 1) := by decide +kernel
theorem dX6_readsBack_8 : decode cX6_readsBack 8 = .ok (.aload_n 1, 1) := by decide +kernel
theorem dX6_readsBack_9 : decode cX6_readsBack 9 = .ok (.iload_n 2, 1) := by decide +kernel
theorem dX6_readsBack_10 : decode cX6_readsBack 10 = .ok (.iconst 1, 1) := by decide +kernel
theorem dX6_readsBack_11 : decode cX6_readsBack 11 = .ok (.iadd, 1) := by decide +kernel
theorem dX6_readsBack_12 : decode cX6_readsBack 12 = .ok (.iaload, 1) := by decide +kernel
theorem dX6_readsBack_13 : decode cX6_readsBack 13 = .ok (.putfield 80, 3) := by decide +kernel
theorem dX6_readsBack_16 : decode cX6_readsBack 16 = .ok (.aload_n 0, 1) := by decide +kernel
theorem dX6_readsBack_17 : decode cX6_readsBack 17 = .ok (.aload_n 1, 1) := by decide +kernel
theorem dX6_readsBack_18 : decode cX6_readsBack 18 = .ok (.iload_n 2, 1) := by decide +kernel
theorem dX6_readsBack_19 : decode cX6_readsBack 19 = .ok (.iconst 2, 1) := by decide +kernel
theorem dX6_readsBack_20 : decode cX6_readsBack 20 = .ok (.iadd, 1) := by decide +kernel
theorem dX6_readsBack_21 : decode cX6_readsBack 21 = .ok (.iaload, 1) := by decide +kernel
theorem dX6_readsBack_22 : decode cX6_readsBack 22 = .ok (.putfield 26, 3) := by decide +kernel
theorem dX6_readsBack_25 : decode cX6_readsBack 25 = .ok (.aload_n 0, 1) := by decide +kernel
theorem dX6_readsBack_26 : decode cX6_readsBack 26 = .ok (.aload_n 1, 1) := by decide +kernel
theorem dX6_readsBack_27 : decode cX6_readsBack 27 = .ok (.iload_n 2, 1) := by decide +kernel
theorem dX6_readsBack_28 : decode cX6_readsBack 28 = .ok (.iconst 3, 1) := by decide +kernel
theorem dX6_readsBack_29 : decode cX6_readsBack 29 = .ok (.iadd, 1) := by decide +kernel
theorem dX6_readsBack_30 : decode cX6_readsBack 30 = .ok (.iaload, 1) := by decide +kernel
theorem dX6_readsBack_31 : decode cX6_readsBack 31 = .ok (.putfield 83, 3) := by decide +kernel
theorem dX6_readsBack_34 : decode cX6_readsBack 34 = .ok (.iconst 0, 1) := by decide +kernel
theorem dX6_readsBack_35 : decode cX6_readsBack 35 = .ok (.istore_n 3, 1) := by decide +kernel
theorem dX6_readsBack_36 : decode cX6_readsBack 36 = .ok (.iload_n 3, 1) := by decide +kernel
theorem dX6_readsBack_37 : decode cX6_readsBack 37 = .ok (.bipush 12, 2) := by decide +kernel
theorem dX6_readsBack_39 : decode cX6_readsBack 39 = .ok (.if_icmp .ge 22, 3) := by decide +kernel
theorem dX6_readsBack_42 : decode cX6_readsBack 42 = .ok (.aload_n 0, 1) := by decide +kernel
theorem dX6_readsBack_43 : decode cX6_readsBack 43 = .ok (.getfield 29, 3) := by decide +kernel
theorem dX6_readsBack_46 : decode cX6_readsBack 46 = .ok (.iload_n 3, 1) := by decide +kernel
theorem dX6_readsBack_47 : decode cX6_readsBack 47 = .ok (.aload_n 1, 1) := by decide +kernel
theorem dX6_readsBack_48 : decode cX6_readsBack 48 = .ok (.iload_n 2, 1) := by decide +kernel
theorem dX6_readsBack_49 : decode cX6_readsBack 49 = .ok (.iconst 4, 1) := by decide +kernel
theorem dX6_readsBack_50 : decode cX6_readsBack 50 = .ok (.iadd, 1) := by decide +kernel
theorem dX6_readsBack_51 : decode cX6_readsBack 51 = .ok (.iload_n 3, 1) := by decide +kernel
theorem dX6_readsBack_52 : decode cX6_readsBack 52 = .ok (.iadd, 1) := by decide +kernel
theorem dX6_readsBack_53 : decode cX6_readsBack 53 = .ok (.iaload, 1) := by decide +kernel
theorem dX6_readsBack_54 : decode cX6_readsBack 54 = .ok (.iastore, 1) := by decide +kernel
theorem dX6_readsBack_55 : decode cX6_readsBack 55 = .ok (.iinc 3 1, 3) := by decide +kernel
theorem dX6_readsBack_58 : decode cX6_readsBack 58 = .ok (.goto (-22), 3) := by decide +kernel
theorem dX6_readsBack_61 : decode cX6_readsBack 61 = .ok (.iconst 0, 1) := by decide +kernel
theorem dX6_readsBack_62 : decode cX6_readsBack 62 = .ok (.istore_n 3, 1) := by decide +kernel
theorem dX6_readsBack_63 : decode cX6_readsBack 63 = .ok (.iload_n 3, 1) := by decide +kernel
theorem dX6_readsBack_64 : decode cX6_readsBack 64 = .ok (.bipush 70, 2) := by decide +kernel
theorem dX6_readsBack_66 : decode cX6_readsBack 66 = .ok (.if_icmp .ge 23, 3) := by decide +kernel
theorem dX6_readsBack_69 : decode cX6_readsBack 69 = .ok (.aload_n 0, 1) := by decide +kernel
theorem dX6_readsBack_70 : decode cX6_readsBack 70 = .ok (.getfield 16, 3) := by decide +kernel
theorem dX6_readsBack_73 : decode cX6_readsBack 73 = .ok (.iload_n 3, 1) := by decide +kernel
theorem dX6_readsBack_74 : decode cX6_readsBack 74 = .ok (.aload_n 1, 1) := by decide +kernel
theorem dX6_readsBack_75 : decode cX6_readsBack 75 = .ok (.iload_n 2, 1) := by decide +kernel
theorem dX6_readsBack_76 : decode cX6_readsBack 76 = .ok (.bipush 16, 2) := by decide +kernel
theorem dX6_readsBack_78 : decode cX6_readsBack 78 = .ok (.iadd, 1) := by decide +kernel
theorem dX6_readsBack_79 : decode cX6_readsBack 79 = .ok (.iload_n 3, 1) := by decide +kernel
theorem dX6_readsBack_80 : decode cX6_readsBack 80 = .ok (.iadd, 1) := by decide +kernel
theorem dX6_readsBack_81 : decode cX6_readsBack 81 = .ok (.iaload, 1) := by decide +kernel
theorem dX6_readsBack_82 : decode cX6_readsBack 82 = .ok (.iastore, 1) := by decide +kernel
theorem dX6_readsBack_83 : decode cX6_readsBack 83 = .ok (.iinc 3 1, 3) := by decide +kernel
theorem dX6_readsBack_86 : decode cX6_readsBack 86 = .ok (.goto (-23), 3) := by decide +kernel
theorem dX6_readsBack_89 : decode cX6_readsBack 89 = .ok (.return_, 1) := by decide +kernel
theorem dX6_notes_0 : decode cX6_notes 0 = .ok (.aload_n 0, 1) := by decide +kernel
theorem dX6_notes_1 : decode cX6_notes 1 = .ok (.getfield 86, 3) := by decide +kernel
theorem dX6_notes_4 : decode cX6_notes 4 = .ok (.bipush 8, 2) := by decide +kernel
theorem dX6_notes_6 : decode cX6_notes 6 = .ok (.if_icmp .ne 43, 3) := by decide +kernel
theorem dX6_notes_9 : decode cX6_notes 9 = .ok (.iconst 0, 1) := by decide +kernel
theorem dX6_notes_10 : decode cX6_notes 10 = .ok (.istore_n 1, 1) := by decide +kernel
theorem dX6_notes_11 : decode cX6_notes 11 = .ok (.iload_n 1, 1) := by decide +kernel
theorem dX6_notes_12 : decode cX6_notes 12 = .ok (.sipush 630, 3) := by decide +kernel
theorem dX6_notes_15 : decode cX6_notes 15 = .ok (.if_icmp .ge 24, 3) := by decide +kernel
theorem dX6_notes_18 : decode cX6_notes 18 = .ok (.aload_n 0, 1) := by decide +kernel
theorem dX6_notes_19 : decode cX6_notes 19 = .ok (.getfield 32, 3) := by decide +kernel
theorem dX6_notes_22 : decode cX6_notes 22 = .ok (.iload_n 1, 1) := by decide +kernel
theorem dX6_notes_23 : decode cX6_notes 23 = .ok (.aload_n 0, 1) := by decide +kernel
theorem dX6_notes_24 : decode cX6_notes 24 = .ok (.getfield 32, 3) := by decide +kernel
theorem dX6_notes_27 : decode cX6_notes 27 = .ok (.iload_n 1, 1) := by decide +kernel
theorem dX6_notes_28 : decode cX6_notes 28 = .ok (.bipush 90, 2) := by decide +kernel
theorem dX6_notes_30 : decode cX6_notes 30 = .ok (.iadd, 1) := by decide +kernel
theorem dX6_notes_31 : decode cX6_notes 31 = .ok (.iaload, 1) := by decide +kernel
theorem dX6_notes_32 : decode cX6_notes 32 = .ok (.iastore, 1) := by decide +kernel
theorem dX6_notes_33 : decode cX6_notes 33 = .ok (.iinc 1 1, 3) := by decide +kernel
theorem dX6_notes_36 : decode cX6_notes 36 = .ok (.goto (-25), 3) := by decide +kernel
theorem dX6_notes_39 : decode cX6_notes 39 = .ok (.aload_n 0, 1) := by decide +kernel
theorem dX6_notes_40 : decode cX6_notes 40 = .ok (.dup, 1) := by decide +kernel
theorem dX6_notes_41 : decode cX6_notes 41 = .ok (.getfield 86, 3) := by decide +kernel
theorem dX6_notes_44 : decode cX6_notes 44 = .ok (.iconst 1, 1) := by decide +kernel
theorem dX6_notes_45 : decode cX6_notes 45 = .ok (.isub, 1) := by decide +kernel
theorem dX6_notes_46 : decode cX6_notes 46 = .ok (.putfield 86, 3) := by decide +kernel
theorem dX6_notes_49 : decode cX6_notes 49 = .ok (.aload_n 0, 1) := by decide +kernel
theorem dX6_notes_50 : decode cX6_notes 50 = .ok (.aload_n 0, 1) := by decide +kernel
theorem dX6_notes_51 : decode cX6_notes 51 = .ok (.getfield 32, 3) := by decide +kernel
theorem dX6_notes_54 : decode cX6_notes 54 = .ok (.bipush 90, 2) := by decide +kernel
theorem dX6_notes_56 : decode cX6_notes 56 = .ok (.aload_n 0, 1) := by decide +kernel
theorem dX6_notes_57 : decode cX6_notes 57 = .ok (.getfield 86, 3) := by decide +kernel
theorem dX6_notes_60 : decode cX6_notes 60 = .ok (.imul, 1) := by decide +kernel
theorem dX6_notes_61 : decode cX6_notes 61 = .ok (.invokevirtual 89, 3) := by decide +kernel
theorem dX6_notes_64 : decode cX6_notes 64 = .ok (.aload_n 0, 1) := by decide +kernel
theorem dX6_notes_65 : decode cX6_notes 65 = .ok (.dup, 1) := by decide +kernel
theorem dX6_notes_66 : decode cX6_notes 66 = .ok (.getfield 86, 3) := by decide +kernel
theorem dX6_notes_69 : decode cX6_notes 69 = .ok (.iconst 1, 1) := by decide +kernel
theorem dX6_notes_70 : decode cX6_notes 70 = .ok (.iadd, 1) := by decide +kernel
theorem dX6_notes_71 : decode cX6_notes 71 = .ok (.putfield 86, 3) := by decide +kernel
theorem dX6_notes_74 : decode cX6_notes 74 = .ok (.return_, 1) := by decide +kernel
theorem dX6_undo_0 : decode cX6_undo 0 = .ok (.aload_n 0, 1) := by decide +kernel
theorem dX6_undo_1 : decode cX6_undo 1 = .ok (.getfield 86, 3) := by decide +kernel
theorem dX6_undo_4 : decode cX6_undo 4 = .ok (.ifCond .ne 6, 3) := by decide +kernel
theorem dX6_undo_7 : decode cX6_undo 7 = .ok (.bipush (-2), 2) := by decide +kernel
theorem dX6_undo_9 : decode cX6_undo 9 = .ok (.ireturn, 1) := by decide +kernel
theorem dX6_undo_10 : decode cX6_undo 10 = .ok (.aload_n 0, 1) := by decide +kernel
theorem dX6_undo_11 : decode cX6_undo 11 = .ok (.dup, 1) := by decide +kernel
theorem dX6_undo_12 : decode cX6_undo 12 = .ok (.getfield 86, 3) := by decide +kernel
theorem dX6_undo_15 : decode cX6_undo 15 = .ok (.iconst 1, 1) := by decide +kernel
theorem dX6_undo_16 : decode cX6_undo 16 = .ok (.isub, 1) := by decide +kernel
theorem dX6_undo_17 : decode cX6_undo 17 = .ok (.putfield 86, 3) := by decide +kernel
theorem dX6_undo_20 : decode cX6_undo 20 = .ok (.aload_n 0, 1) := by decide +kernel
theorem dX6_undo_21 : decode cX6_undo 21 = .ok (.aload_n 0, 1) := by decide +kernel
theorem dX6_undo_22 : decode cX6_undo 22 = .ok (.getfield 32, 3) := by decide +kernel
theorem dX6_undo_25 : decode cX6_undo 25 = .ok (.bipush 90, 2) := by decide +kernel
theorem dX6_undo_27 : decode cX6_undo 27 = .ok (.aload_n 0, 1) := by decide +kernel
theorem dX6_undo_28 : decode cX6_undo 28 = .ok (.getfield 86, 3) := by decide +kernel
theorem dX6_undo_31 : decode cX6_undo 31 = .ok (.imul, 1) := by decide +kernel
theorem dX6_undo_32 : decode cX6_undo 32 = .ok (.invokevirtual 93, 3) := by decide +kernel
theorem dX6_undo_35 : decode cX6_undo 35 = .ok (.aload_n 0, 1) := by decide +kernel
theorem dX6_undo_36 : decode cX6_undo 36 = .ok (.getfield 86, 3) := by decide +kernel
theorem dX6_undo_39 : decode cX6_undo 39 = .ok (.ireturn, 1) := by decide +kernel
theorem dX6_keep_0 : decode cX6_keep 0 = .ok (.aload_n 0, 1) := by decide +kernel
theorem dX6_keep_1 : decode cX6_keep 1 = .ok (.getfield 96, 3) := by decide +kernel
theorem dX6_keep_4 : decode cX6_keep 4 = .ok (.iconst 2, 1) := by decide +kernel
theorem dX6_keep_5 : decode cX6_keep 5 = .ok (.if_icmp .ne 6, 3) := by decide +kernel
theorem dX6_keep_8 : decode cX6_keep 8 = .ok (.bipush (-3), 2) := by decide +kernel
theorem dX6_keep_10 : decode cX6_keep 10 = .ok (.ireturn, 1) := by decide +kernel
theorem dX6_keep_11 : decode cX6_keep 11 = .ok (.aload_n 0, 1) := by decide +kernel
theorem dX6_keep_12 : decode cX6_keep 12 = .ok (.aload_n 0, 1) := by decide +kernel
theorem dX6_keep_13 : decode cX6_keep 13 = .ok (.getfield 35, 3) := by decide +kernel
theorem dX6_keep_16 : decode cX6_keep 16 = .ok (.bipush 90, 2) := by decide +kernel
theorem dX6_keep_18 : decode cX6_keep 18 = .ok (.aload_n 0, 1) := by decide +kernel
theorem dX6_keep_19 : decode cX6_keep 19 = .ok (.getfield 96, 3) := by decide +kernel
theorem dX6_keep_22 : decode cX6_keep 22 = .ok (.imul, 1) := by decide +kernel
theorem dX6_keep_23 : decode cX6_keep 23 = .ok (.invokevirtual 89, 3) := by decide +kernel
theorem dX6_keep_26 : decode cX6_keep 26 = .ok (.aload_n 0, 1) := by decide +kernel
theorem dX6_keep_27 : decode cX6_keep 27 = .ok (.dup, 1) := by decide +kernel
theorem dX6_keep_28 : decode cX6_keep 28 = .ok (.getfield 96, 3) := by decide +kernel
theorem dX6_keep_31 : decode cX6_keep 31 = .ok (.iconst 1, 1) := by decide +kernel
theorem dX6_keep_32 : decode cX6_keep 32 = .ok (.iadd, 1) := by decide +kernel
theorem dX6_keep_33 : decode cX6_keep 33 = .ok (.putfield 96, 3) := by decide +kernel
theorem dX6_keep_36 : decode cX6_keep 36 = .ok (.aload_n 0, 1) := by decide +kernel
theorem dX6_keep_37 : decode cX6_keep 37 = .ok (.getfield 96, 3) := by decide +kernel
theorem dX6_keep_40 : decode cX6_keep 40 = .ok (.ireturn, 1) := by decide +kernel
theorem dX6_back_0 : decode cX6_back 0 = .ok (.aload_n 0, 1) := by decide +kernel
theorem dX6_back_1 : decode cX6_back 1 = .ok (.getfield 96, 3) := by decide +kernel
theorem dX6_back_4 : decode cX6_back 4 = .ok (.ifCond .ne 6, 3) := by decide +kernel
theorem dX6_back_7 : decode cX6_back 7 = .ok (.bipush (-2), 2) := by decide +kernel
theorem dX6_back_9 : decode cX6_back 9 = .ok (.ireturn, 1) := by decide +kernel
theorem dX6_back_10 : decode cX6_back 10 = .ok (.aload_n 0, 1) := by decide +kernel
theorem dX6_back_11 : decode cX6_back 11 = .ok (.dup, 1) := by decide +kernel
theorem dX6_back_12 : decode cX6_back 12 = .ok (.getfield 96, 3) := by decide +kernel
theorem dX6_back_15 : decode cX6_back 15 = .ok (.iconst 1, 1) := by decide +kernel
theorem dX6_back_16 : decode cX6_back 16 = .ok (.isub, 1) := by decide +kernel
theorem dX6_back_17 : decode cX6_back 17 = .ok (.putfield 96, 3) := by decide +kernel
theorem dX6_back_20 : decode cX6_back 20 = .ok (.aload_n 0, 1) := by decide +kernel
theorem dX6_back_21 : decode cX6_back 21 = .ok (.aload_n 0, 1) := by decide +kernel
theorem dX6_back_22 : decode cX6_back 22 = .ok (.getfield 35, 3) := by decide +kernel
theorem dX6_back_25 : decode cX6_back 25 = .ok (.bipush 90, 2) := by decide +kernel
theorem dX6_back_27 : decode cX6_back 27 = .ok (.aload_n 0, 1) := by decide +kernel
theorem dX6_back_28 : decode cX6_back 28 = .ok (.getfield 96, 3) := by decide +kernel
theorem dX6_back_31 : decode cX6_back 31 = .ok (.imul, 1) := by decide +kernel
theorem dX6_back_32 : decode cX6_back 32 = .ok (.invokevirtual 93, 3) := by decide +kernel
theorem dX6_back_35 : decode cX6_back 35 = .ok (.aload_n 0, 1) := by decide +kernel
theorem dX6_back_36 : decode cX6_back 36 = .ok (.iconst 0, 1) := by decide +kernel
theorem dX6_back_37 : decode cX6_back 37 = .ok (.putfield 86, 3) := by decide +kernel
theorem dX6_back_40 : decode cX6_back 40 = .ok (.aload_n 0, 1) := by decide +kernel
theorem dX6_back_41 : decode cX6_back 41 = .ok (.getfield 96, 3) := by decide +kernel
theorem dX6_back_44 : decode cX6_back 44 = .ok (.ireturn, 1) := by decide +kernel
theorem dX6_isRule_0 : decode cX6_isRule 0 = .ok (.iload_n 1, 1) := by decide +kernel
theorem dX6_isRule_1 : decode cX6_isRule 1 = .ok (.iconst 0, 1) := by decide +kernel
theorem dX6_isRule_2 : decode cX6_isRule 2 = .ok (.aload_n 0, 1) := by decide +kernel
theorem dX6_isRule_3 : decode cX6_isRule 3 = .ok (.getfield 13, 3) := by decide +kernel
theorem dX6_isRule_6 : decode cX6_isRule 6 = .ok (.iconst 1, 1) := by decide +kernel
theorem dX6_isRule_7 : decode cX6_isRule 7 = .ok (.isub, 1) := by decide +kernel
theorem dX6_isRule_8 : decode cX6_isRule 8 = .ok (.invokestatic 99, 3) := by decide +kernel
theorem dX6_isRule_11 : decode cX6_isRule 11 = .ok (.ireturn, 1) := by decide +kernel
theorem dX6_isState_0 : decode cX6_isState 0 = .ok (.iload_n 1, 1) := by decide +kernel
theorem dX6_isState_1 : decode cX6_isState 1 = .ok (.iconst 0, 1) := by decide +kernel
theorem dX6_isState_2 : decode cX6_isState 2 = .ok (.aload_n 0, 1) := by decide +kernel
theorem dX6_isState_3 : decode cX6_isState 3 = .ok (.getfield 7, 3) := by decide +kernel
theorem dX6_isState_6 : decode cX6_isState 6 = .ok (.iconst 1, 1) := by decide +kernel
theorem dX6_isState_7 : decode cX6_isState 7 = .ok (.isub, 1) := by decide +kernel
theorem dX6_isState_8 : decode cX6_isState 8 = .ok (.invokestatic 99, 3) := by decide +kernel
theorem dX6_isState_11 : decode cX6_isState 11 = .ok (.ireturn, 1) := by decide +kernel
theorem dX6_isLetter_0 : decode cX6_isLetter 0 = .ok (.iload_n 0, 1) := by decide +kernel
theorem dX6_isLetter_1 : decode cX6_isLetter 1 = .ok (.iconst 0, 1) := by decide +kernel
theorem dX6_isLetter_2 : decode cX6_isLetter 2 = .ok (.iconst 3, 1) := by decide +kernel
theorem dX6_isLetter_3 : decode cX6_isLetter 3 = .ok (.invokestatic 99, 3) := by decide +kernel
theorem dX6_isLetter_6 : decode cX6_isLetter 6 = .ok (.ireturn, 1) := by decide +kernel
theorem dX6_rule_0 : decode cX6_rule 0 = .ok (.aload_n 0, 1) := by decide +kernel
theorem dX6_rule_1 : decode cX6_rule 1 = .ok (.iload_n 1, 1) := by decide +kernel
theorem dX6_rule_2 : decode cX6_rule 2 = .ok (.invokevirtual 103, 3) := by decide +kernel
theorem dX6_rule_5 : decode cX6_rule 5 = .ok (.ifCond .eq 13, 3) := by decide +kernel
theorem dX6_rule_8 : decode cX6_rule 8 = .ok (.iload_n 2, 1) := by decide +kernel
theorem dX6_rule_9 : decode cX6_rule 9 = .ok (.iconst 0, 1) := by decide +kernel
theorem dX6_rule_10 : decode cX6_rule 10 = .ok (.bipush 6, 2) := by decide +kernel
theorem dX6_rule_12 : decode cX6_rule 12 = .ok (.invokestatic 99, 3) := by decide +kernel
theorem dX6_rule_15 : decode cX6_rule 15 = .ok (.ifCond .ne 5, 3) := by decide +kernel
theorem dX6_rule_18 : decode cX6_rule 18 = .ok (.iconst (-1), 1) := by decide +kernel
theorem dX6_rule_19 : decode cX6_rule 19 = .ok (.ireturn, 1) := by decide +kernel
theorem dX6_rule_20 : decode cX6_rule 20 = .ok (.aload_n 0, 1) := by decide +kernel
theorem dX6_rule_21 : decode cX6_rule 21 = .ok (.getfield 16, 3) := by decide +kernel
theorem dX6_rule_24 : decode cX6_rule 24 = .ok (.bipush 7, 2) := by decide +kernel
theorem dX6_rule_26 : decode cX6_rule 26 = .ok (.iload_n 1, 1) := by decide +kernel
theorem dX6_rule_27 : decode cX6_rule 27 = .ok (.imul, 1) := by decide +kernel
theorem dX6_rule_28 : decode cX6_rule 28 = .ok (.iload_n 2, 1) := by decide +kernel
theorem dX6_rule_29 : decode cX6_rule 29 = .ok (.iadd, 1) := by decide +kernel
theorem dX6_rule_30 : decode cX6_rule 30 = .ok (.iaload, 1) := by decide +kernel
theorem dX6_rule_31 : decode cX6_rule 31 = .ok (.ireturn, 1) := by decide +kernel
theorem dX6_target_0 : decode cX6_target 0 = .ok (.iload_n 1, 1) := by decide +kernel
theorem dX6_target_1 : decode cX6_target 1 = .ok (.iconst 0, 1) := by decide +kernel
theorem dX6_target_2 : decode cX6_target 2 = .ok (.aload_n 0, 1) := by decide +kernel
theorem dX6_target_3 : decode cX6_target 3 = .ok (.getfield 20, 3) := by decide +kernel
theorem dX6_target_6 : decode cX6_target 6 = .ok (.iconst 1, 1) := by decide +kernel
theorem dX6_target_7 : decode cX6_target 7 = .ok (.isub, 1) := by decide +kernel
theorem dX6_target_8 : decode cX6_target 8 = .ok (.invokestatic 99, 3) := by decide +kernel
theorem dX6_target_11 : decode cX6_target 11 = .ok (.ifCond .eq 26, 3) := by decide +kernel
theorem dX6_target_14 : decode cX6_target 14 = .ok (.iload_n 2, 1) := by decide +kernel
theorem dX6_target_15 : decode cX6_target 15 = .ok (.iconst 0, 1) := by decide +kernel
theorem dX6_target_16 : decode cX6_target 16 = .ok (.iconst 5, 1) := by decide +kernel
theorem dX6_target_17 : decode cX6_target 17 = .ok (.invokestatic 99, 3) := by decide +kernel
theorem dX6_target_20 : decode cX6_target 20 = .ok (.ifCond .eq 17, 3) := by decide +kernel
theorem dX6_target_23 : decode cX6_target 23 = .ok (.aload_n 0, 1) := by decide +kernel
theorem dX6_target_24 : decode cX6_target 24 = .ok (.getfield 23, 3) := by decide +kernel
theorem dX6_target_27 : decode cX6_target 27 = .ok (.bipush 6, 2) := by decide +kernel
theorem dX6_target_29 : decode cX6_target 29 = .ok (.iload_n 1, 1) := by decide +kernel
theorem dX6_target_30 : decode cX6_target 30 = .ok (.imul, 1) := by decide +kernel
theorem dX6_target_31 : decode cX6_target 31 = .ok (.iload_n 2, 1) := by decide +kernel
theorem dX6_target_32 : decode cX6_target 32 = .ok (.iadd, 1) := by decide +kernel
theorem dX6_target_33 : decode cX6_target 33 = .ok (.iaload, 1) := by decide +kernel
theorem dX6_target_34 : decode cX6_target 34 = .ok (.goto 4, 3) := by decide +kernel
theorem dX6_target_37 : decode cX6_target 37 = .ok (.iconst (-1), 1) := by decide +kernel
theorem dX6_target_38 : decode cX6_target 38 = .ok (.ireturn, 1) := by decide +kernel
theorem dX6_stack_0 : decode cX6_stack 0 = .ok (.iload_n 1, 1) := by decide +kernel
theorem dX6_stack_1 : decode cX6_stack 1 = .ok (.bipush (-2), 2) := by decide +kernel
theorem dX6_stack_3 : decode cX6_stack 3 = .ok (.if_icmp .ge 5, 3) := by decide +kernel
theorem dX6_stack_6 : decode cX6_stack 6 = .ok (.iconst (-1), 1) := by decide +kernel
theorem dX6_stack_7 : decode cX6_stack 7 = .ok (.ireturn, 1) := by decide +kernel
theorem dX6_stack_8 : decode cX6_stack 8 = .ok (.iload_n 1, 1) := by decide +kernel
theorem dX6_stack_9 : decode cX6_stack 9 = .ok (.ifCond .ge 21, 3) := by decide +kernel
theorem dX6_stack_12 : decode cX6_stack 12 = .ok (.iload_n 1, 1) := by decide +kernel
theorem dX6_stack_13 : decode cX6_stack 13 = .ok (.bipush (-2), 2) := by decide +kernel
theorem dX6_stack_15 : decode cX6_stack 15 = .ok (.if_icmp .ne 10, 3) := by decide +kernel
theorem dX6_stack_18 : decode cX6_stack 18 = .ok (.aload_n 0, 1) := by decide +kernel
theorem dX6_stack_19 : decode cX6_stack 19 = .ok (.getfield 80, 3) := by decide +kernel
theorem dX6_stack_22 : decode cX6_stack 22 = .ok (.goto 7, 3) := by decide +kernel
theorem dX6_stack_25 : decode cX6_stack 25 = .ok (.aload_n 0, 1) := by decide +kernel
theorem dX6_stack_26 : decode cX6_stack 26 = .ok (.getfield 26, 3) := by decide +kernel
theorem dX6_stack_29 : decode cX6_stack 29 = .ok (.ireturn, 1) := by decide +kernel
theorem dX6_stack_30 : decode cX6_stack 30 = .ok (.iload_n 1, 1) := by decide +kernel
theorem dX6_stack_31 : decode cX6_stack 31 = .ok (.aload_n 0, 1) := by decide +kernel
theorem dX6_stack_32 : decode cX6_stack 32 = .ok (.getfield 26, 3) := by decide +kernel
theorem dX6_stack_35 : decode cX6_stack 35 = .ok (.if_icmp .ge 19, 3) := by decide +kernel
theorem dX6_stack_38 : decode cX6_stack 38 = .ok (.aload_n 0, 1) := by decide +kernel
theorem dX6_stack_39 : decode cX6_stack 39 = .ok (.getfield 29, 3) := by decide +kernel
theorem dX6_stack_42 : decode cX6_stack 42 = .ok (.aload_n 0, 1) := by decide +kernel
theorem dX6_stack_43 : decode cX6_stack 43 = .ok (.getfield 26, 3) := by decide +kernel
theorem dX6_stack_46 : decode cX6_stack 46 = .ok (.iconst 1, 1) := by decide +kernel
theorem dX6_stack_47 : decode cX6_stack 47 = .ok (.isub, 1) := by decide +kernel
theorem dX6_stack_48 : decode cX6_stack 48 = .ok (.iload_n 1, 1) := by decide +kernel
theorem dX6_stack_49 : decode cX6_stack 49 = .ok (.isub, 1) := by decide +kernel
theorem dX6_stack_50 : decode cX6_stack 50 = .ok (.iaload, 1) := by decide +kernel
theorem dX6_stack_51 : decode cX6_stack 51 = .ok (.goto 5, 3) := by decide +kernel
theorem dX6_stack_54 : decode cX6_stack 54 = .ok (.bipush (-4), 2) := by decide +kernel
theorem dX6_stack_56 : decode cX6_stack 56 = .ok (.ireturn, 1) := by decide +kernel
theorem dX6_push_0 : decode cX6_push 0 = .ok (.iload_n 1, 1) := by decide +kernel
theorem dX6_push_1 : decode cX6_push 1 = .ok (.invokestatic 107, 3) := by decide +kernel
theorem dX6_push_4 : decode cX6_push 4 = .ok (.ifCond .ne 5, 3) := by decide +kernel
theorem dX6_push_7 : decode cX6_push 7 = .ok (.iconst (-1), 1) := by decide +kernel
theorem dX6_push_8 : decode cX6_push 8 = .ok (.ireturn, 1) := by decide +kernel
theorem dX6_push_9 : decode cX6_push 9 = .ok (.aload_n 0, 1) := by decide +kernel
theorem dX6_push_10 : decode cX6_push 10 = .ok (.getfield 26, 3) := by decide +kernel
theorem dX6_push_13 : decode cX6_push 13 = .ok (.bipush 12, 2) := by decide +kernel
theorem dX6_push_15 : decode cX6_push 15 = .ok (.if_icmp .ne 6, 3) := by decide +kernel
theorem dX6_push_18 : decode cX6_push 18 = .ok (.bipush (-3), 2) := by decide +kernel
theorem dX6_push_20 : decode cX6_push 20 = .ok (.ireturn, 1) := by decide +kernel
theorem dX6_push_21 : decode cX6_push 21 = .ok (.aload_n 0, 1) := by decide +kernel
theorem dX6_push_22 : decode cX6_push 22 = .ok (.invokevirtual 110, 3) := by decide +kernel
theorem dX6_push_25 : decode cX6_push 25 = .ok (.aload_n 0, 1) := by decide +kernel
theorem dX6_push_26 : decode cX6_push 26 = .ok (.getfield 29, 3) := by decide +kernel
theorem dX6_push_29 : decode cX6_push 29 = .ok (.aload_n 0, 1) := by decide +kernel
theorem dX6_push_30 : decode cX6_push 30 = .ok (.getfield 26, 3) := by decide +kernel
theorem dX6_push_33 : decode cX6_push 33 = .ok (.iload_n 1, 1) := by decide +kernel
theorem dX6_push_34 : decode cX6_push 34 = .ok (.iastore, 1) := by decide +kernel
theorem dX6_push_35 : decode cX6_push 35 = .ok (.aload_n 0, 1) := by decide +kernel
theorem dX6_push_36 : decode cX6_push 36 = .ok (.dup, 1) := by decide +kernel
theorem dX6_push_37 : decode cX6_push 37 = .ok (.getfield 26, 3) := by decide +kernel
theorem dX6_push_40 : decode cX6_push 40 = .ok (.iconst 1, 1) := by decide +kernel
theorem dX6_push_41 : decode cX6_push 41 = .ok (.iadd, 1) := by decide +kernel
theorem dX6_push_42 : decode cX6_push 42 = .ok (.putfield 26, 3) := by decide +kernel
theorem dX6_push_45 : decode cX6_push 45 = .ok (.aload_n 0, 1) := by decide +kernel
theorem dX6_push_46 : decode cX6_push 46 = .ok (.getfield 26, 3) := by decide +kernel
theorem dX6_push_49 : decode cX6_push 49 = .ok (.ireturn, 1) := by decide +kernel
theorem dX6_pop_0 : decode cX6_pop 0 = .ok (.aload_n 0, 1) := by decide +kernel
theorem dX6_pop_1 : decode cX6_pop 1 = .ok (.getfield 26, 3) := by decide +kernel
theorem dX6_pop_4 : decode cX6_pop 4 = .ok (.ifCond .ne 6, 3) := by decide +kernel
theorem dX6_pop_7 : decode cX6_pop 7 = .ok (.bipush (-2), 2) := by decide +kernel
theorem dX6_pop_9 : decode cX6_pop 9 = .ok (.ireturn, 1) := by decide +kernel
theorem dX6_pop_10 : decode cX6_pop 10 = .ok (.aload_n 0, 1) := by decide +kernel
theorem dX6_pop_11 : decode cX6_pop 11 = .ok (.invokevirtual 110, 3) := by decide +kernel
theorem dX6_pop_14 : decode cX6_pop 14 = .ok (.aload_n 0, 1) := by decide +kernel
theorem dX6_pop_15 : decode cX6_pop 15 = .ok (.dup, 1) := by decide +kernel
theorem dX6_pop_16 : decode cX6_pop 16 = .ok (.getfield 26, 3) := by decide +kernel
theorem dX6_pop_19 : decode cX6_pop 19 = .ok (.iconst 1, 1) := by decide +kernel
theorem dX6_pop_20 : decode cX6_pop 20 = .ok (.isub, 1) := by decide +kernel
theorem dX6_pop_21 : decode cX6_pop 21 = .ok (.putfield 26, 3) := by decide +kernel
theorem dX6_pop_24 : decode cX6_pop 24 = .ok (.aload_n 0, 1) := by decide +kernel
theorem dX6_pop_25 : decode cX6_pop 25 = .ok (.getfield 29, 3) := by decide +kernel
theorem dX6_pop_28 : decode cX6_pop 28 = .ok (.aload_n 0, 1) := by decide +kernel
theorem dX6_pop_29 : decode cX6_pop 29 = .ok (.getfield 26, 3) := by decide +kernel
theorem dX6_pop_32 : decode cX6_pop 32 = .ok (.iaload, 1) := by decide +kernel
theorem dX6_pop_33 : decode cX6_pop 33 = .ok (.ireturn, 1) := by decide +kernel
theorem dX6_fits_0 : decode cX6_fits 0 = .ok (.aload_n 0, 1) := by decide +kernel
theorem dX6_fits_1 : decode cX6_fits 1 = .ok (.getfield 16, 3) := by decide +kernel
theorem dX6_fits_4 : decode cX6_fits 4 = .ok (.bipush 7, 2) := by decide +kernel
theorem dX6_fits_6 : decode cX6_fits 6 = .ok (.iload_n 1, 1) := by decide +kernel
theorem dX6_fits_7 : decode cX6_fits 7 = .ok (.imul, 1) := by decide +kernel
theorem dX6_fits_8 : decode cX6_fits 8 = .ok (.iaload, 1) := by decide +kernel
theorem dX6_fits_9 : decode cX6_fits 9 = .ok (.iload_n 2, 1) := by decide +kernel
theorem dX6_fits_10 : decode cX6_fits 10 = .ok (.if_icmp .ne 22, 3) := by decide +kernel
theorem dX6_fits_13 : decode cX6_fits 13 = .ok (.aload_n 0, 1) := by decide +kernel
theorem dX6_fits_14 : decode cX6_fits 14 = .ok (.getfield 16, 3) := by decide +kernel
theorem dX6_fits_17 : decode cX6_fits 17 = .ok (.bipush 7, 2) := by decide +kernel
theorem dX6_fits_19 : decode cX6_fits 19 = .ok (.iload_n 1, 1) := by decide +kernel
theorem dX6_fits_20 : decode cX6_fits 20 = .ok (.imul, 1) := by decide +kernel
theorem dX6_fits_21 : decode cX6_fits 21 = .ok (.iconst 1, 1) := by decide +kernel
theorem dX6_fits_22 : decode cX6_fits 22 = .ok (.iadd, 1) := by decide +kernel
theorem dX6_fits_23 : decode cX6_fits 23 = .ok (.iaload, 1) := by decide +kernel
theorem dX6_fits_24 : decode cX6_fits 24 = .ok (.iload_n 3, 1) := by decide +kernel
theorem dX6_fits_25 : decode cX6_fits 25 = .ok (.if_icmp .ne 7, 3) := by decide +kernel
theorem dX6_fits_28 : decode cX6_fits 28 = .ok (.iconst 1, 1) := by decide +kernel
theorem dX6_fits_29 : decode cX6_fits 29 = .ok (.goto 4, 3) := by decide +kernel
theorem dX6_fits_32 : decode cX6_fits 32 = .ok (.iconst 0, 1) := by decide +kernel
theorem dX6_fits_33 : decode cX6_fits 33 = .ok (.ireturn, 1) := by decide +kernel
theorem dX6_steps_0 : decode cX6_steps 0 = .ok (.aload_n 0, 1) := by decide +kernel
theorem dX6_steps_1 : decode cX6_steps 1 = .ok (.dup, 1) := by decide +kernel
theorem dX6_steps_2 : decode cX6_steps 2 = .ok (.getfield 26, 3) := by decide +kernel
theorem dX6_steps_5 : decode cX6_steps 5 = .ok (.iconst 1, 1) := by decide +kernel
theorem dX6_steps_6 : decode cX6_steps 6 = .ok (.isub, 1) := by decide +kernel
theorem dX6_steps_7 : decode cX6_steps 7 = .ok (.putfield 26, 3) := by decide +kernel
theorem dX6_steps_10 : decode cX6_steps 10 = .ok (.aload_n 0, 1) := by decide +kernel
theorem dX6_steps_11 : decode cX6_steps 11 = .ok (.getfield 16, 3) := by decide +kernel
theorem dX6_steps_14 : decode cX6_steps 14 = .ok (.bipush 7, 2) := by decide +kernel
theorem dX6_steps_16 : decode cX6_steps 16 = .ok (.iload_n 1, 1) := by decide +kernel
theorem dX6_steps_17 : decode cX6_steps 17 = .ok (.imul, 1) := by decide +kernel
theorem dX6_steps_18 : decode cX6_steps 18 = .ok (.iconst 3, 1) := by decide +kernel
theorem dX6_steps_19 : decode cX6_steps 19 = .ok (.iadd, 1) := by decide +kernel
theorem dX6_steps_20 : decode cX6_steps 20 = .ok (.iaload, 1) := by decide +kernel
theorem dX6_steps_21 : decode cX6_steps 21 = .ok (.iconst 1, 1) := by decide +kernel
theorem dX6_steps_22 : decode cX6_steps 22 = .ok (.isub, 1) := by decide +kernel
theorem dX6_steps_23 : decode cX6_steps 23 = .ok (.istore_n 2, 1) := by decide +kernel
theorem dX6_steps_24 : decode cX6_steps 24 = .ok (.iload_n 2, 1) := by decide +kernel
theorem dX6_steps_25 : decode cX6_steps 25 = .ok (.ifCond .lt 41, 3) := by decide +kernel
theorem dX6_steps_28 : decode cX6_steps 28 = .ok (.aload_n 0, 1) := by decide +kernel
theorem dX6_steps_29 : decode cX6_steps 29 = .ok (.getfield 29, 3) := by decide +kernel
theorem dX6_steps_32 : decode cX6_steps 32 = .ok (.aload_n 0, 1) := by decide +kernel
theorem dX6_steps_33 : decode cX6_steps 33 = .ok (.getfield 26, 3) := by decide +kernel
theorem dX6_steps_36 : decode cX6_steps 36 = .ok (.aload_n 0, 1) := by decide +kernel
theorem dX6_steps_37 : decode cX6_steps 37 = .ok (.getfield 16, 3) := by decide +kernel
theorem dX6_steps_40 : decode cX6_steps 40 = .ok (.bipush 7, 2) := by decide +kernel
theorem dX6_steps_42 : decode cX6_steps 42 = .ok (.iload_n 1, 1) := by decide +kernel
theorem dX6_steps_43 : decode cX6_steps 43 = .ok (.imul, 1) := by decide +kernel
theorem dX6_steps_44 : decode cX6_steps 44 = .ok (.iconst 4, 1) := by decide +kernel
theorem dX6_steps_45 : decode cX6_steps 45 = .ok (.iadd, 1) := by decide +kernel
theorem dX6_steps_46 : decode cX6_steps 46 = .ok (.iload_n 2, 1) := by decide +kernel
theorem dX6_steps_47 : decode cX6_steps 47 = .ok (.iadd, 1) := by decide +kernel
theorem dX6_steps_48 : decode cX6_steps 48 = .ok (.iaload, 1) := by decide +kernel
theorem dX6_steps_49 : decode cX6_steps 49 = .ok (.iastore, 1) := by decide +kernel
theorem dX6_steps_50 : decode cX6_steps 50 = .ok (.aload_n 0, 1) := by decide +kernel
theorem dX6_steps_51 : decode cX6_steps 51 = .ok (.dup, 1) := by decide +kernel
theorem dX6_steps_52 : decode cX6_steps 52 = .ok (.getfield 26, 3) := by decide +kernel
theorem dX6_steps_55 : decode cX6_steps 55 = .ok (.iconst 1, 1) := by decide +kernel
theorem dX6_steps_56 : decode cX6_steps 56 = .ok (.iadd, 1) := by decide +kernel
theorem dX6_steps_57 : decode cX6_steps 57 = .ok (.putfield 26, 3) := by decide +kernel
theorem dX6_steps_60 : decode cX6_steps 60 = .ok (.iinc 2 (-1), 3) := by decide +kernel
theorem dX6_steps_63 : decode cX6_steps 63 = .ok (.goto (-39), 3) := by decide +kernel
theorem dX6_steps_66 : decode cX6_steps 66 = .ok (.aload_n 0, 1) := by decide +kernel
theorem dX6_steps_67 : decode cX6_steps 67 = .ok (.aload_n 0, 1) := by decide +kernel
theorem dX6_steps_68 : decode cX6_steps 68 = .ok (.getfield 16, 3) := by decide +kernel
theorem dX6_steps_71 : decode cX6_steps 71 = .ok (.bipush 7, 2) := by decide +kernel
theorem dX6_steps_73 : decode cX6_steps 73 = .ok (.iload_n 1, 1) := by decide +kernel
theorem dX6_steps_74 : decode cX6_steps 74 = .ok (.imul, 1) := by decide +kernel
theorem dX6_steps_75 : decode cX6_steps 75 = .ok (.iconst 2, 1) := by decide +kernel
theorem dX6_steps_76 : decode cX6_steps 76 = .ok (.iadd, 1) := by decide +kernel
theorem dX6_steps_77 : decode cX6_steps 77 = .ok (.iaload, 1) := by decide +kernel
theorem dX6_steps_78 : decode cX6_steps 78 = .ok (.putfield 80, 3) := by decide +kernel
theorem dX6_steps_81 : decode cX6_steps 81 = .ok (.return_, 1) := by decide +kernel
theorem dX6_step_0 : decode cX6_step 0 = .ok (.aload_n 0, 1) := by decide +kernel
theorem dX6_step_1 : decode cX6_step 1 = .ok (.iload_n 1, 1) := by decide +kernel
theorem dX6_step_2 : decode cX6_step 2 = .ok (.invokevirtual 103, 3) := by decide +kernel
theorem dX6_step_5 : decode cX6_step 5 = .ok (.ifCond .ne 5, 3) := by decide +kernel
theorem dX6_step_8 : decode cX6_step 8 = .ok (.iconst (-1), 1) := by decide +kernel
theorem dX6_step_9 : decode cX6_step 9 = .ok (.ireturn, 1) := by decide +kernel
theorem dX6_step_10 : decode cX6_step 10 = .ok (.aload_n 0, 1) := by decide +kernel
theorem dX6_step_11 : decode cX6_step 11 = .ok (.getfield 26, 3) := by decide +kernel
theorem dX6_step_14 : decode cX6_step 14 = .ok (.ifCond .eq 26, 3) := by decide +kernel
theorem dX6_step_17 : decode cX6_step 17 = .ok (.aload_n 0, 1) := by decide +kernel
theorem dX6_step_18 : decode cX6_step 18 = .ok (.iload_n 1, 1) := by decide +kernel
theorem dX6_step_19 : decode cX6_step 19 = .ok (.aload_n 0, 1) := by decide +kernel
theorem dX6_step_20 : decode cX6_step 20 = .ok (.getfield 80, 3) := by decide +kernel
theorem dX6_step_23 : decode cX6_step 23 = .ok (.aload_n 0, 1) := by decide +kernel
theorem dX6_step_24 : decode cX6_step 24 = .ok (.getfield 29, 3) := by decide +kernel
theorem dX6_step_27 : decode cX6_step 27 = .ok (.aload_n 0, 1) := by decide +kernel
theorem dX6_step_28 : decode cX6_step 28 = .ok (.getfield 26, 3) := by decide +kernel
theorem dX6_step_31 : decode cX6_step 31 = .ok (.iconst 1, 1) := by decide +kernel
theorem dX6_step_32 : decode cX6_step 32 = .ok (.isub, 1) := by decide +kernel
theorem dX6_step_33 : decode cX6_step 33 = .ok (.iaload, 1) := by decide +kernel
theorem dX6_step_34 : decode cX6_step 34 = .ok (.invokevirtual 113, 3) := by decide +kernel
theorem dX6_step_37 : decode cX6_step 37 = .ok (.ifCond .ne 6, 3) := by decide +kernel
theorem dX6_step_40 : decode cX6_step 40 = .ok (.bipush (-2), 2) := by decide +kernel
theorem dX6_step_42 : decode cX6_step 42 = .ok (.ireturn, 1) := by decide +kernel
theorem dX6_step_43 : decode cX6_step 43 = .ok (.aload_n 0, 1) := by decide +kernel
theorem dX6_step_44 : decode cX6_step 44 = .ok (.getfield 26, 3) := by decide +kernel
theorem dX6_step_47 : decode cX6_step 47 = .ok (.iconst 1, 1) := by decide +kernel
theorem dX6_step_48 : decode cX6_step 48 = .ok (.isub, 1) := by decide +kernel
theorem dX6_step_49 : decode cX6_step 49 = .ok (.aload_n 0, 1) := by decide +kernel
theorem dX6_step_50 : decode cX6_step 50 = .ok (.getfield 16, 3) := by decide +kernel
theorem dX6_step_53 : decode cX6_step 53 = .ok (.bipush 7, 2) := by decide +kernel
theorem dX6_step_55 : decode cX6_step 55 = .ok (.iload_n 1, 1) := by decide +kernel
theorem dX6_step_56 : decode cX6_step 56 = .ok (.imul, 1) := by decide +kernel
theorem dX6_step_57 : decode cX6_step 57 = .ok (.iconst 3, 1) := by decide +kernel
theorem dX6_step_58 : decode cX6_step 58 = .ok (.iadd, 1) := by decide +kernel
theorem dX6_step_59 : decode cX6_step 59 = .ok (.iaload, 1) := by decide +kernel
theorem dX6_step_60 : decode cX6_step 60 = .ok (.iadd, 1) := by decide +kernel
theorem dX6_step_61 : decode cX6_step 61 = .ok (.bipush 12, 2) := by decide +kernel
theorem dX6_step_63 : decode cX6_step 63 = .ok (.if_icmp .le 6, 3) := by decide +kernel
theorem dX6_step_66 : decode cX6_step 66 = .ok (.bipush (-3), 2) := by decide +kernel
theorem dX6_step_68 : decode cX6_step 68 = .ok (.ireturn, 1) := by decide +kernel
theorem dX6_step_69 : decode cX6_step 69 = .ok (.aload_n 0, 1) := by decide +kernel
theorem dX6_step_70 : decode cX6_step 70 = .ok (.invokevirtual 110, 3) := by decide +kernel
theorem dX6_step_73 : decode cX6_step 73 = .ok (.aload_n 0, 1) := by decide +kernel
theorem dX6_step_74 : decode cX6_step 74 = .ok (.iload_n 1, 1) := by decide +kernel
theorem dX6_step_75 : decode cX6_step 75 = .ok (.invokevirtual 116, 3) := by decide +kernel
theorem dX6_step_78 : decode cX6_step 78 = .ok (.aload_n 0, 1) := by decide +kernel
theorem dX6_step_79 : decode cX6_step 79 = .ok (.getfield 26, 3) := by decide +kernel
theorem dX6_step_82 : decode cX6_step 82 = .ok (.ireturn, 1) := by decide +kernel
theorem dX6_go_0 : decode cX6_go 0 = .ok (.aload_n 0, 1) := by decide +kernel
theorem dX6_go_1 : decode cX6_go 1 = .ok (.iload_n 1, 1) := by decide +kernel
theorem dX6_go_2 : decode cX6_go 2 = .ok (.invokevirtual 120, 3) := by decide +kernel
theorem dX6_go_5 : decode cX6_go 5 = .ok (.ifCond .ne 5, 3) := by decide +kernel
theorem dX6_go_8 : decode cX6_go 8 = .ok (.iconst (-1), 1) := by decide +kernel
theorem dX6_go_9 : decode cX6_go 9 = .ok (.ireturn, 1) := by decide +kernel
theorem dX6_go_10 : decode cX6_go 10 = .ok (.iload_n 1, 1) := by decide +kernel
theorem dX6_go_11 : decode cX6_go 11 = .ok (.aload_n 0, 1) := by decide +kernel
theorem dX6_go_12 : decode cX6_go 12 = .ok (.getfield 80, 3) := by decide +kernel
theorem dX6_go_15 : decode cX6_go 15 = .ok (.if_icmp .ne 6, 3) := by decide +kernel
theorem dX6_go_18 : decode cX6_go 18 = .ok (.bipush (-2), 2) := by decide +kernel
theorem dX6_go_20 : decode cX6_go 20 = .ok (.ireturn, 1) := by decide +kernel
theorem dX6_go_21 : decode cX6_go 21 = .ok (.aload_n 0, 1) := by decide +kernel
theorem dX6_go_22 : decode cX6_go 22 = .ok (.invokevirtual 110, 3) := by decide +kernel
theorem dX6_go_25 : decode cX6_go 25 = .ok (.aload_n 0, 1) := by decide +kernel
theorem dX6_go_26 : decode cX6_go 26 = .ok (.getfield 80, 3) := by decide +kernel
theorem dX6_go_29 : decode cX6_go 29 = .ok (.istore_n 2, 1) := by decide +kernel
theorem dX6_go_30 : decode cX6_go 30 = .ok (.aload_n 0, 1) := by decide +kernel
theorem dX6_go_31 : decode cX6_go 31 = .ok (.iload_n 1, 1) := by decide +kernel
theorem dX6_go_32 : decode cX6_go 32 = .ok (.putfield 80, 3) := by decide +kernel
theorem dX6_go_35 : decode cX6_go 35 = .ok (.iload_n 2, 1) := by decide +kernel
theorem dX6_go_36 : decode cX6_go 36 = .ok (.ireturn, 1) := by decide +kernel
theorem dX6_enters_0 : decode cX6_enters 0 = .ok (.bipush 7, 2) := by decide +kernel
theorem dX6_enters_2 : decode cX6_enters 2 = .ok (.aload_n 0, 1) := by decide +kernel
theorem dX6_enters_3 : decode cX6_enters 3 = .ok (.getfield 13, 3) := by decide +kernel
theorem dX6_enters_6 : decode cX6_enters 6 = .ok (.imul, 1) := by decide +kernel
theorem dX6_enters_7 : decode cX6_enters 7 = .ok (.istore 6, 2) := by decide +kernel
theorem dX6_enters_9 : decode cX6_enters 9 = .ok (.aload_n 0, 1) := by decide +kernel
theorem dX6_enters_10 : decode cX6_enters 10 = .ok (.getfield 16, 3) := by decide +kernel
theorem dX6_enters_13 : decode cX6_enters 13 = .ok (.iload 6, 2) := by decide +kernel
theorem dX6_enters_15 : decode cX6_enters 15 = .ok (.iload_n 1, 1) := by decide +kernel
theorem dX6_enters_16 : decode cX6_enters 16 = .ok (.iastore, 1) := by decide +kernel
theorem dX6_enters_17 : decode cX6_enters 17 = .ok (.aload_n 0, 1) := by decide +kernel
theorem dX6_enters_18 : decode cX6_enters 18 = .ok (.getfield 16, 3) := by decide +kernel
theorem dX6_enters_21 : decode cX6_enters 21 = .ok (.iload 6, 2) := by decide +kernel
theorem dX6_enters_23 : decode cX6_enters 23 = .ok (.iconst 1, 1) := by decide +kernel
theorem dX6_enters_24 : decode cX6_enters 24 = .ok (.iadd, 1) := by decide +kernel
theorem dX6_enters_25 : decode cX6_enters 25 = .ok (.iload_n 2, 1) := by decide +kernel
theorem dX6_enters_26 : decode cX6_enters 26 = .ok (.iastore, 1) := by decide +kernel
theorem dX6_enters_27 : decode cX6_enters 27 = .ok (.aload_n 0, 1) := by decide +kernel
theorem dX6_enters_28 : decode cX6_enters 28 = .ok (.getfield 16, 3) := by decide +kernel
theorem dX6_enters_31 : decode cX6_enters 31 = .ok (.iload 6, 2) := by decide +kernel
theorem dX6_enters_33 : decode cX6_enters 33 = .ok (.iconst 2, 1) := by decide +kernel
theorem dX6_enters_34 : decode cX6_enters 34 = .ok (.iadd, 1) := by decide +kernel
theorem dX6_enters_35 : decode cX6_enters 35 = .ok (.iload_n 3, 1) := by decide +kernel
theorem dX6_enters_36 : decode cX6_enters 36 = .ok (.iastore, 1) := by decide +kernel
theorem dX6_enters_37 : decode cX6_enters 37 = .ok (.aload_n 0, 1) := by decide +kernel
theorem dX6_enters_38 : decode cX6_enters 38 = .ok (.getfield 16, 3) := by decide +kernel
theorem dX6_enters_41 : decode cX6_enters 41 = .ok (.iload 6, 2) := by decide +kernel
theorem dX6_enters_43 : decode cX6_enters 43 = .ok (.iconst 3, 1) := by decide +kernel
theorem dX6_enters_44 : decode cX6_enters 44 = .ok (.iadd, 1) := by decide +kernel
theorem dX6_enters_45 : decode cX6_enters 45 = .ok (.iload 4, 2) := by decide +kernel
theorem dX6_enters_47 : decode cX6_enters 47 = .ok (.ifCond .ne 7, 3) := by decide +kernel
theorem dX6_enters_50 : decode cX6_enters 50 = .ok (.iconst 0, 1) := by decide +kernel
theorem dX6_enters_51 : decode cX6_enters 51 = .ok (.goto 14, 3) := by decide +kernel
theorem dX6_enters_54 : decode cX6_enters 54 = .ok (.iload 4, 2) := by decide +kernel
theorem dX6_enters_56 : decode cX6_enters 56 = .ok (.iconst 5, 1) := by decide +kernel
theorem dX6_enters_57 : decode cX6_enters 57 = .ok (.if_icmp .ge 7, 3) := by decide +kernel
theorem dX6_enters_60 : decode cX6_enters 60 = .ok (.iconst 1, 1) := by decide +kernel
theorem dX6_enters_61 : decode cX6_enters 61 = .ok (.goto 4, 3) := by decide +kernel
theorem dX6_enters_64 : decode cX6_enters 64 = .ok (.iconst 2, 1) := by decide +kernel
theorem dX6_enters_65 : decode cX6_enters 65 = .ok (.iastore, 1) := by decide +kernel
theorem dX6_enters_66 : decode cX6_enters 66 = .ok (.aload_n 0, 1) := by decide +kernel
theorem dX6_enters_67 : decode cX6_enters 67 = .ok (.getfield 16, 3) := by decide +kernel
theorem dX6_enters_70 : decode cX6_enters 70 = .ok (.iload 6, 2) := by decide +kernel
theorem dX6_enters_72 : decode cX6_enters 72 = .ok (.iconst 4, 1) := by decide +kernel
theorem dX6_enters_73 : decode cX6_enters 73 = .ok (.iadd, 1) := by decide +kernel
theorem dX6_enters_74 : decode cX6_enters 74 = .ok (.iload 4, 2) := by decide +kernel
theorem dX6_enters_76 : decode cX6_enters 76 = .ok (.ifCond .ne 8, 3) := by decide +kernel
theorem dX6_enters_79 : decode cX6_enters 79 = .ok (.bipush (-4), 2) := by decide +kernel
theorem dX6_enters_81 : decode cX6_enters 81 = .ok (.goto 22, 3) := by decide +kernel
theorem dX6_enters_84 : decode cX6_enters 84 = .ok (.iload 4, 2) := by decide +kernel
theorem dX6_enters_86 : decode cX6_enters 86 = .ok (.iconst 5, 1) := by decide +kernel
theorem dX6_enters_87 : decode cX6_enters 87 = .ok (.if_icmp .ge 10, 3) := by decide +kernel
theorem dX6_enters_90 : decode cX6_enters 90 = .ok (.iload 4, 2) := by decide +kernel
theorem dX6_enters_92 : decode cX6_enters 92 = .ok (.iconst 1, 1) := by decide +kernel
theorem dX6_enters_93 : decode cX6_enters 93 = .ok (.isub, 1) := by decide +kernel
theorem dX6_enters_94 : decode cX6_enters 94 = .ok (.goto 9, 3) := by decide +kernel
theorem dX6_enters_97 : decode cX6_enters 97 = .ok (.iload 4, 2) := by decide +kernel
theorem dX6_enters_99 : decode cX6_enters 99 = .ok (.iconst 5, 1) := by decide +kernel
theorem dX6_enters_100 : decode cX6_enters 100 = .ok (.isub, 1) := by decide +kernel
theorem dX6_enters_101 : decode cX6_enters 101 = .ok (.iconst 4, 1) := by decide +kernel
theorem dX6_enters_102 : decode cX6_enters 102 = .ok (.idiv, 1) := by decide +kernel
theorem dX6_enters_103 : decode cX6_enters 103 = .ok (.iastore, 1) := by decide +kernel
theorem dX6_enters_104 : decode cX6_enters 104 = .ok (.aload_n 0, 1) := by decide +kernel
theorem dX6_enters_105 : decode cX6_enters 105 = .ok (.getfield 16, 3) := by decide +kernel
theorem dX6_enters_108 : decode cX6_enters 108 = .ok (.iload 6, 2) := by decide +kernel
theorem dX6_enters_110 : decode cX6_enters 110 = .ok (.iconst 5, 1) := by decide +kernel
theorem dX6_enters_111 : decode cX6_enters 111 = .ok (.iadd, 1) := by decide +kernel
theorem dX6_enters_112 : decode cX6_enters 112 = .ok (.iload 4, 2) := by decide +kernel
theorem dX6_enters_114 : decode cX6_enters 114 = .ok (.iconst 5, 1) := by decide +kernel
theorem dX6_enters_115 : decode cX6_enters 115 = .ok (.if_icmp .ge 8, 3) := by decide +kernel
theorem dX6_enters_118 : decode cX6_enters 118 = .ok (.bipush (-4), 2) := by decide +kernel
theorem dX6_enters_120 : decode cX6_enters 120 = .ok (.goto 9, 3) := by decide +kernel
theorem dX6_enters_123 : decode cX6_enters 123 = .ok (.iload 4, 2) := by decide +kernel
theorem dX6_enters_125 : decode cX6_enters 125 = .ok (.iconst 5, 1) := by decide +kernel
theorem dX6_enters_126 : decode cX6_enters 126 = .ok (.isub, 1) := by decide +kernel
theorem dX6_enters_127 : decode cX6_enters 127 = .ok (.iconst 4, 1) := by decide +kernel
theorem dX6_enters_128 : decode cX6_enters 128 = .ok (.irem, 1) := by decide +kernel
theorem dX6_enters_129 : decode cX6_enters 129 = .ok (.iastore, 1) := by decide +kernel
theorem dX6_enters_130 : decode cX6_enters 130 = .ok (.aload_n 0, 1) := by decide +kernel
theorem dX6_enters_131 : decode cX6_enters 131 = .ok (.getfield 16, 3) := by decide +kernel
theorem dX6_enters_134 : decode cX6_enters 134 = .ok (.iload 6, 2) := by decide +kernel
theorem dX6_enters_136 : decode cX6_enters 136 = .ok (.bipush 6, 2) := by decide +kernel
theorem dX6_enters_138 : decode cX6_enters 138 = .ok (.iadd, 1) := by decide +kernel
theorem dX6_enters_139 : decode cX6_enters 139 = .ok (.iload 5, 2) := by decide +kernel
theorem dX6_enters_141 : decode cX6_enters 141 = .ok (.iastore, 1) := by decide +kernel
theorem dX6_enters_142 : decode cX6_enters 142 = .ok (.aload_n 0, 1) := by decide +kernel
theorem dX6_enters_143 : decode cX6_enters 143 = .ok (.dup, 1) := by decide +kernel
theorem dX6_enters_144 : decode cX6_enters 144 = .ok (.getfield 13, 3) := by decide +kernel
theorem dX6_enters_147 : decode cX6_enters 147 = .ok (.iconst 1, 1) := by decide +kernel
theorem dX6_enters_148 : decode cX6_enters 148 = .ok (.iadd, 1) := by decide +kernel
theorem dX6_enters_149 : decode cX6_enters 149 = .ok (.putfield 13, 3) := by decide +kernel
theorem dX6_enters_152 : decode cX6_enters 152 = .ok (.return_, 1) := by decide +kernel
theorem dX6_enter_0 : decode cX6_enter 0 = .ok (.aload_n 0, 1) := by decide +kernel
theorem dX6_enter_1 : decode cX6_enter 1 = .ok (.iload_n 1, 1) := by decide +kernel
theorem dX6_enter_2 : decode cX6_enter 2 = .ok (.invokevirtual 120, 3) := by decide +kernel
theorem dX6_enter_5 : decode cX6_enter 5 = .ok (.ifCond .eq 40, 3) := by decide +kernel
theorem dX6_enter_8 : decode cX6_enter 8 = .ok (.iload_n 2, 1) := by decide +kernel
theorem dX6_enter_9 : decode cX6_enter 9 = .ok (.invokestatic 107, 3) := by decide +kernel
theorem dX6_enter_12 : decode cX6_enter 12 = .ok (.ifCond .eq 33, 3) := by decide +kernel
theorem dX6_enter_15 : decode cX6_enter 15 = .ok (.aload_n 0, 1) := by decide +kernel
theorem dX6_enter_16 : decode cX6_enter 16 = .ok (.iload_n 3, 1) := by decide +kernel
theorem dX6_enter_17 : decode cX6_enter 17 = .ok (.invokevirtual 120, 3) := by decide +kernel
theorem dX6_enter_20 : decode cX6_enter 20 = .ok (.ifCond .eq 25, 3) := by decide +kernel
theorem dX6_enter_23 : decode cX6_enter 23 = .ok (.iload 4, 2) := by decide +kernel
theorem dX6_enter_25 : decode cX6_enter 25 = .ok (.iconst 0, 1) := by decide +kernel
theorem dX6_enter_26 : decode cX6_enter 26 = .ok (.bipush 20, 2) := by decide +kernel
theorem dX6_enter_28 : decode cX6_enter 28 = .ok (.invokestatic 99, 3) := by decide +kernel
theorem dX6_enter_31 : decode cX6_enter 31 = .ok (.ifCond .eq 14, 3) := by decide +kernel
theorem dX6_enter_34 : decode cX6_enter 34 = .ok (.iload 5, 2) := by decide +kernel
theorem dX6_enter_36 : decode cX6_enter 36 = .ok (.iconst 0, 1) := by decide +kernel
theorem dX6_enter_37 : decode cX6_enter 37 = .ok (.bipush 9, 2) := by decide +kernel
theorem dX6_enter_39 : decode cX6_enter 39 = .ok (.invokestatic 99, 3) := by decide +kernel
theorem dX6_enter_42 : decode cX6_enter 42 = .ok (.ifCond .ne 5, 3) := by decide +kernel
theorem dX6_enter_45 : decode cX6_enter 45 = .ok (.iconst (-1), 1) := by decide +kernel
theorem dX6_enter_46 : decode cX6_enter 46 = .ok (.ireturn, 1) := by decide +kernel
theorem dX6_enter_47 : decode cX6_enter 47 = .ok (.aload_n 0, 1) := by decide +kernel
theorem dX6_enter_48 : decode cX6_enter 48 = .ok (.getfield 13, 3) := by decide +kernel
theorem dX6_enter_51 : decode cX6_enter 51 = .ok (.bipush 10, 2) := by decide +kernel
theorem dX6_enter_53 : decode cX6_enter 53 = .ok (.if_icmp .ne 6, 3) := by decide +kernel
theorem dX6_enter_56 : decode cX6_enter 56 = .ok (.bipush (-3), 2) := by decide +kernel
theorem dX6_enter_58 : decode cX6_enter 58 = .ok (.ireturn, 1) := by decide +kernel
theorem dX6_enter_59 : decode cX6_enter 59 = .ok (.aload_n 0, 1) := by decide +kernel
theorem dX6_enter_60 : decode cX6_enter 60 = .ok (.invokevirtual 110, 3) := by decide +kernel
theorem dX6_enter_63 : decode cX6_enter 63 = .ok (.aload_n 0, 1) := by decide +kernel
theorem dX6_enter_64 : decode cX6_enter 64 = .ok (.iload_n 1, 1) := by decide +kernel
theorem dX6_enter_65 : decode cX6_enter 65 = .ok (.iload_n 2, 1) := by decide +kernel
theorem dX6_enter_66 : decode cX6_enter 66 = .ok (.iload_n 3, 1) := by decide +kernel
theorem dX6_enter_67 : decode cX6_enter 67 = .ok (.iload 4, 2) := by decide +kernel
theorem dX6_enter_69 : decode cX6_enter 69 = .ok (.iload 5, 2) := by decide +kernel
theorem dX6_enter_71 : decode cX6_enter 71 = .ok (.invokevirtual 123, 3) := by decide +kernel
theorem dX6_enter_74 : decode cX6_enter 74 = .ok (.aload_n 0, 1) := by decide +kernel
theorem dX6_enter_75 : decode cX6_enter 75 = .ok (.getfield 13, 3) := by decide +kernel
theorem dX6_enter_78 : decode cX6_enter 78 = .ok (.iconst 1, 1) := by decide +kernel
theorem dX6_enter_79 : decode cX6_enter 79 = .ok (.isub, 1) := by decide +kernel
theorem dX6_enter_80 : decode cX6_enter 80 = .ok (.ireturn, 1) := by decide +kernel
theorem dX6_drop_0 : decode cX6_drop 0 = .ok (.aload_n 0, 1) := by decide +kernel
theorem dX6_drop_1 : decode cX6_drop 1 = .ok (.iload_n 1, 1) := by decide +kernel
theorem dX6_drop_2 : decode cX6_drop 2 = .ok (.invokevirtual 103, 3) := by decide +kernel
theorem dX6_drop_5 : decode cX6_drop 5 = .ok (.ifCond .ne 5, 3) := by decide +kernel
theorem dX6_drop_8 : decode cX6_drop 8 = .ok (.iconst (-1), 1) := by decide +kernel
theorem dX6_drop_9 : decode cX6_drop 9 = .ok (.ireturn, 1) := by decide +kernel
theorem dX6_drop_10 : decode cX6_drop 10 = .ok (.aload_n 0, 1) := by decide +kernel
theorem dX6_drop_11 : decode cX6_drop 11 = .ok (.getfield 13, 3) := by decide +kernel
theorem dX6_drop_14 : decode cX6_drop 14 = .ok (.iconst 1, 1) := by decide +kernel
theorem dX6_drop_15 : decode cX6_drop 15 = .ok (.if_icmp .ne 6, 3) := by decide +kernel
theorem dX6_drop_18 : decode cX6_drop 18 = .ok (.bipush (-2), 2) := by decide +kernel
theorem dX6_drop_20 : decode cX6_drop 20 = .ok (.ireturn, 1) := by decide +kernel
theorem dX6_drop_21 : decode cX6_drop 21 = .ok (.aload_n 0, 1) := by decide +kernel
theorem dX6_drop_22 : decode cX6_drop 22 = .ok (.invokevirtual 110, 3) := by decide +kernel
theorem dX6_drop_25 : decode cX6_drop 25 = .ok (.aload_n 0, 1) := by decide +kernel
theorem dX6_drop_26 : decode cX6_drop 26 = .ok (.dup, 1) := by decide +kernel
theorem dX6_drop_27 : decode cX6_drop 27 = .ok (.getfield 13, 3) := by decide +kernel
theorem dX6_drop_30 : decode cX6_drop 30 = .ok (.iconst 1, 1) := by decide +kernel
theorem dX6_drop_31 : decode cX6_drop 31 = .ok (.isub, 1) := by decide +kernel
theorem dX6_drop_32 : decode cX6_drop 32 = .ok (.putfield 13, 3) := by decide +kernel
theorem dX6_drop_35 : decode cX6_drop 35 = .ok (.bipush 7, 2) := by decide +kernel
theorem dX6_drop_37 : decode cX6_drop 37 = .ok (.iload_n 1, 1) := by decide +kernel
theorem dX6_drop_38 : decode cX6_drop 38 = .ok (.imul, 1) := by decide +kernel
theorem dX6_drop_39 : decode cX6_drop 39 = .ok (.istore_n 2, 1) := by decide +kernel
theorem dX6_drop_40 : decode cX6_drop 40 = .ok (.iload_n 2, 1) := by decide +kernel
theorem dX6_drop_41 : decode cX6_drop 41 = .ok (.bipush 7, 2) := by decide +kernel
theorem dX6_drop_43 : decode cX6_drop 43 = .ok (.aload_n 0, 1) := by decide +kernel
theorem dX6_drop_44 : decode cX6_drop 44 = .ok (.getfield 13, 3) := by decide +kernel
theorem dX6_drop_47 : decode cX6_drop 47 = .ok (.imul, 1) := by decide +kernel
theorem dX6_drop_48 : decode cX6_drop 48 = .ok (.if_icmp .ge 24, 3) := by decide +kernel
theorem dX6_drop_51 : decode cX6_drop 51 = .ok (.aload_n 0, 1) := by decide +kernel
theorem dX6_drop_52 : decode cX6_drop 52 = .ok (.getfield 16, 3) := by decide +kernel
theorem dX6_drop_55 : decode cX6_drop 55 = .ok (.iload_n 2, 1) := by decide +kernel
theorem dX6_drop_56 : decode cX6_drop 56 = .ok (.aload_n 0, 1) := by decide +kernel
theorem dX6_drop_57 : decode cX6_drop 57 = .ok (.getfield 16, 3) := by decide +kernel
theorem dX6_drop_60 : decode cX6_drop 60 = .ok (.iload_n 2, 1) := by decide +kernel
theorem dX6_drop_61 : decode cX6_drop 61 = .ok (.bipush 7, 2) := by decide +kernel
theorem dX6_drop_63 : decode cX6_drop 63 = .ok (.iadd, 1) := by decide +kernel
theorem dX6_drop_64 : decode cX6_drop 64 = .ok (.iaload, 1) := by decide +kernel
theorem dX6_drop_65 : decode cX6_drop 65 = .ok (.iastore, 1) := by decide +kernel
theorem dX6_drop_66 : decode cX6_drop 66 = .ok (.iinc 2 1, 3) := by decide +kernel
theorem dX6_drop_69 : decode cX6_drop 69 = .ok (.goto (-29), 3) := by decide +kernel
theorem dX6_drop_72 : decode cX6_drop 72 = .ok (.aload_n 0, 1) := by decide +kernel
theorem dX6_drop_73 : decode cX6_drop 73 = .ok (.getfield 13, 3) := by decide +kernel
theorem dX6_drop_76 : decode cX6_drop 76 = .ok (.ireturn, 1) := by decide +kernel
theorem dX6_weigh_0 : decode cX6_weigh 0 = .ok (.aload_n 0, 1) := by decide +kernel
theorem dX6_weigh_1 : decode cX6_weigh 1 = .ok (.iload_n 1, 1) := by decide +kernel
theorem dX6_weigh_2 : decode cX6_weigh 2 = .ok (.invokevirtual 103, 3) := by decide +kernel
theorem dX6_weigh_5 : decode cX6_weigh 5 = .ok (.ifCond .eq 13, 3) := by decide +kernel
theorem dX6_weigh_8 : decode cX6_weigh 8 = .ok (.iload_n 2, 1) := by decide +kernel
theorem dX6_weigh_9 : decode cX6_weigh 9 = .ok (.iconst 0, 1) := by decide +kernel
theorem dX6_weigh_10 : decode cX6_weigh 10 = .ok (.bipush 9, 2) := by decide +kernel
theorem dX6_weigh_12 : decode cX6_weigh 12 = .ok (.invokestatic 99, 3) := by decide +kernel
theorem dX6_weigh_15 : decode cX6_weigh 15 = .ok (.ifCond .ne 5, 3) := by decide +kernel
theorem dX6_weigh_18 : decode cX6_weigh 18 = .ok (.iconst (-1), 1) := by decide +kernel
theorem dX6_weigh_19 : decode cX6_weigh 19 = .ok (.ireturn, 1) := by decide +kernel
theorem dX6_weigh_20 : decode cX6_weigh 20 = .ok (.aload_n 0, 1) := by decide +kernel
theorem dX6_weigh_21 : decode cX6_weigh 21 = .ok (.getfield 16, 3) := by decide +kernel
theorem dX6_weigh_24 : decode cX6_weigh 24 = .ok (.bipush 7, 2) := by decide +kernel
theorem dX6_weigh_26 : decode cX6_weigh 26 = .ok (.iload_n 1, 1) := by decide +kernel
theorem dX6_weigh_27 : decode cX6_weigh 27 = .ok (.imul, 1) := by decide +kernel
theorem dX6_weigh_28 : decode cX6_weigh 28 = .ok (.bipush 6, 2) := by decide +kernel
theorem dX6_weigh_30 : decode cX6_weigh 30 = .ok (.iadd, 1) := by decide +kernel
theorem dX6_weigh_31 : decode cX6_weigh 31 = .ok (.iaload, 1) := by decide +kernel
theorem dX6_weigh_32 : decode cX6_weigh 32 = .ok (.istore_n 3, 1) := by decide +kernel
theorem dX6_weigh_33 : decode cX6_weigh 33 = .ok (.iload_n 3, 1) := by decide +kernel
theorem dX6_weigh_34 : decode cX6_weigh 34 = .ok (.iload_n 2, 1) := by decide +kernel
theorem dX6_weigh_35 : decode cX6_weigh 35 = .ok (.if_icmp .ne 6, 3) := by decide +kernel
theorem dX6_weigh_38 : decode cX6_weigh 38 = .ok (.bipush (-2), 2) := by decide +kernel
theorem dX6_weigh_40 : decode cX6_weigh 40 = .ok (.ireturn, 1) := by decide +kernel
theorem dX6_weigh_41 : decode cX6_weigh 41 = .ok (.aload_n 0, 1) := by decide +kernel
theorem dX6_weigh_42 : decode cX6_weigh 42 = .ok (.invokevirtual 110, 3) := by decide +kernel
theorem dX6_weigh_45 : decode cX6_weigh 45 = .ok (.aload_n 0, 1) := by decide +kernel
theorem dX6_weigh_46 : decode cX6_weigh 46 = .ok (.getfield 16, 3) := by decide +kernel
theorem dX6_weigh_49 : decode cX6_weigh 49 = .ok (.bipush 7, 2) := by decide +kernel
theorem dX6_weigh_51 : decode cX6_weigh 51 = .ok (.iload_n 1, 1) := by decide +kernel
theorem dX6_weigh_52 : decode cX6_weigh 52 = .ok (.imul, 1) := by decide +kernel
theorem dX6_weigh_53 : decode cX6_weigh 53 = .ok (.bipush 6, 2) := by decide +kernel
theorem dX6_weigh_55 : decode cX6_weigh 55 = .ok (.iadd, 1) := by decide +kernel
theorem dX6_weigh_56 : decode cX6_weigh 56 = .ok (.iload_n 2, 1) := by decide +kernel
theorem dX6_weigh_57 : decode cX6_weigh 57 = .ok (.iastore, 1) := by decide +kernel
theorem dX6_weigh_58 : decode cX6_weigh 58 = .ok (.iload_n 3, 1) := by decide +kernel
theorem dX6_weigh_59 : decode cX6_weigh 59 = .ok (.ireturn, 1) := by decide +kernel
theorem dX6_mode_0 : decode cX6_mode 0 = .ok (.iload_n 1, 1) := by decide +kernel
theorem dX6_mode_1 : decode cX6_mode 1 = .ok (.iconst 0, 1) := by decide +kernel
theorem dX6_mode_2 : decode cX6_mode 2 = .ok (.iconst 2, 1) := by decide +kernel
theorem dX6_mode_3 : decode cX6_mode 3 = .ok (.invokestatic 99, 3) := by decide +kernel
theorem dX6_mode_6 : decode cX6_mode 6 = .ok (.ifCond .ne 5, 3) := by decide +kernel
theorem dX6_mode_9 : decode cX6_mode 9 = .ok (.iconst (-1), 1) := by decide +kernel
theorem dX6_mode_10 : decode cX6_mode 10 = .ok (.ireturn, 1) := by decide +kernel
theorem dX6_mode_11 : decode cX6_mode 11 = .ok (.iload_n 1, 1) := by decide +kernel
theorem dX6_mode_12 : decode cX6_mode 12 = .ok (.aload_n 0, 1) := by decide +kernel
theorem dX6_mode_13 : decode cX6_mode 13 = .ok (.getfield 83, 3) := by decide +kernel
theorem dX6_mode_16 : decode cX6_mode 16 = .ok (.if_icmp .ne 6, 3) := by decide +kernel
theorem dX6_mode_19 : decode cX6_mode 19 = .ok (.bipush (-2), 2) := by decide +kernel
theorem dX6_mode_21 : decode cX6_mode 21 = .ok (.ireturn, 1) := by decide +kernel
theorem dX6_mode_22 : decode cX6_mode 22 = .ok (.aload_n 0, 1) := by decide +kernel
theorem dX6_mode_23 : decode cX6_mode 23 = .ok (.invokevirtual 110, 3) := by decide +kernel
theorem dX6_mode_26 : decode cX6_mode 26 = .ok (.aload_n 0, 1) := by decide +kernel
theorem dX6_mode_27 : decode cX6_mode 27 = .ok (.getfield 83, 3) := by decide +kernel
theorem dX6_mode_30 : decode cX6_mode 30 = .ok (.istore_n 2, 1) := by decide +kernel
theorem dX6_mode_31 : decode cX6_mode 31 = .ok (.aload_n 0, 1) := by decide +kernel
theorem dX6_mode_32 : decode cX6_mode 32 = .ok (.iload_n 1, 1) := by decide +kernel
theorem dX6_mode_33 : decode cX6_mode 33 = .ok (.putfield 83, 3) := by decide +kernel
theorem dX6_mode_36 : decode cX6_mode 36 = .ok (.iload_n 2, 1) := by decide +kernel
theorem dX6_mode_37 : decode cX6_mode 37 = .ok (.ireturn, 1) := by decide +kernel
theorem dX6_place_0 : decode cX6_place 0 = .ok (.bipush 52, 2) := by decide +kernel
theorem dX6_place_2 : decode cX6_place 2 = .ok (.iload_n 0, 1) := by decide +kernel
theorem dX6_place_3 : decode cX6_place 3 = .ok (.imul, 1) := by decide +kernel
theorem dX6_place_4 : decode cX6_place 4 = .ok (.bipush 13, 2) := by decide +kernel
theorem dX6_place_6 : decode cX6_place 6 = .ok (.iload_n 1, 1) := by decide +kernel
theorem dX6_place_7 : decode cX6_place 7 = .ok (.imul, 1) := by decide +kernel
theorem dX6_place_8 : decode cX6_place 8 = .ok (.iadd, 1) := by decide +kernel
theorem dX6_place_9 : decode cX6_place 9 = .ok (.iload_n 2, 1) := by decide +kernel
theorem dX6_place_10 : decode cX6_place 10 = .ok (.iadd, 1) := by decide +kernel
theorem dX6_place_11 : decode cX6_place 11 = .ok (.ireturn, 1) := by decide +kernel
theorem dX6_targetEdges_0 : decode cX6_targetEdges 0 = .ok (.bipush 6, 2) := by decide +kernel
theorem dX6_targetEdges_2 : decode cX6_targetEdges 2 = .ok (.iload_n 1, 1) := by decide +kernel
theorem dX6_targetEdges_3 : decode cX6_targetEdges 3 = .ok (.imul, 1) := by decide +kernel
theorem dX6_targetEdges_4 : decode cX6_targetEdges 4 = .ok (.istore_n 2, 1) := by decide +kernel
theorem dX6_targetEdges_5 : decode cX6_targetEdges 5 = .ok (.aload_n 0, 1) := by decide +kernel
theorem dX6_targetEdges_6 : decode cX6_targetEdges 6 = .ok (.getfield 7, 3) := by decide +kernel
theorem dX6_targetEdges_9 : decode cX6_targetEdges 9 = .ok (.iconst 1, 1) := by decide +kernel
theorem dX6_targetEdges_10 : decode cX6_targetEdges 10 = .ok (.iadd, 1) := by decide +kernel
theorem dX6_targetEdges_11 : decode cX6_targetEdges 11 = .ok (.istore_n 3, 1) := by decide +kernel
theorem dX6_targetEdges_12 : decode cX6_targetEdges 12 = .ok (.aload_n 0, 1) := by decide +kernel
theorem dX6_targetEdges_13 : decode cX6_targetEdges 13 = .ok (.getfield 23, 3) := by decide +kernel
theorem dX6_targetEdges_16 : decode cX6_targetEdges 16 = .ok (.iload_n 2, 1) := by decide +kernel
theorem dX6_targetEdges_17 : decode cX6_targetEdges 17 = .ok (.iaload, 1) := by decide +kernel
theorem dX6_targetEdges_18 : decode cX6_targetEdges 18 = .ok (.istore 4, 2) := by decide +kernel
theorem dX6_targetEdges_20 : decode cX6_targetEdges 20 = .ok (.aload_n 0, 1) := by decide +kernel
theorem dX6_targetEdges_21 : decode cX6_targetEdges 21 = .ok (.getfield 23, 3) := by decide +kernel
theorem dX6_targetEdges_24 : decode cX6_targetEdges 24 = .ok (.iload_n 2, 1) := by decide +kernel
theorem dX6_targetEdges_25 : decode cX6_targetEdges 25 = .ok (.iconst 1, 1) := by decide +kernel
theorem dX6_targetEdges_26 : decode cX6_targetEdges 26 = .ok (.iadd, 1) := by decide +kernel
theorem dX6_targetEdges_27 : decode cX6_targetEdges 27 = .ok (.iaload, 1) := by decide +kernel
theorem dX6_targetEdges_28 : decode cX6_targetEdges 28 = .ok (.istore 5, 2) := by decide +kernel
theorem dX6_targetEdges_30 : decode cX6_targetEdges 30 = .ok (.aload_n 0, 1) := by decide +kernel
theorem dX6_targetEdges_31 : decode cX6_targetEdges 31 = .ok (.getfield 23, 3) := by decide +kernel
theorem dX6_targetEdges_34 : decode cX6_targetEdges 34 = .ok (.iload_n 2, 1) := by decide +kernel
theorem dX6_targetEdges_35 : decode cX6_targetEdges 35 = .ok (.iconst 2, 1) := by decide +kernel
theorem dX6_targetEdges_36 : decode cX6_targetEdges 36 = .ok (.iadd, 1) := by decide +kernel
theorem dX6_targetEdges_37 : decode cX6_targetEdges 37 = .ok (.iaload, 1) := by decide +kernel
theorem dX6_targetEdges_38 : decode cX6_targetEdges 38 = .ok (.iconst 1, 1) := by decide +kernel
theorem dX6_targetEdges_39 : decode cX6_targetEdges 39 = .ok (.if_icmp .ne 7, 3) := by decide +kernel
theorem dX6_targetEdges_42 : decode cX6_targetEdges 42 = .ok (.iconst 1, 1) := by decide +kernel
theorem dX6_targetEdges_43 : decode cX6_targetEdges 43 = .ok (.goto 4, 3) := by decide +kernel
theorem dX6_targetEdges_46 : decode cX6_targetEdges 46 = .ok (.iconst 0, 1) := by decide +kernel
theorem dX6_targetEdges_47 : decode cX6_targetEdges 47 = .ok (.istore 6, 2) := by decide +kernel
theorem dX6_targetEdges_49 : decode cX6_targetEdges 49 = .ok (.iconst 0, 1) := by decide +kernel
theorem dX6_targetEdges_50 : decode cX6_targetEdges 50 = .ok (.istore 7, 2) := by decide +kernel
theorem dX6_targetEdges_52 : decode cX6_targetEdges 52 = .ok (.iload 7, 2) := by decide +kernel
theorem dX6_targetEdges_54 : decode cX6_targetEdges 54 = .ok (.iload 5, 2) := by decide +kernel
theorem dX6_targetEdges_56 : decode cX6_targetEdges 56 = .ok (.if_icmp .ge 91, 3) := by decide +kernel
theorem dX6_targetEdges_59 : decode cX6_targetEdges 59 = .ok (.iload 7, 2) := by decide +kernel
theorem dX6_targetEdges_61 : decode cX6_targetEdges 61 = .ok (.iload 5, 2) := by decide +kernel
theorem dX6_targetEdges_63 : decode cX6_targetEdges 63 = .ok (.iconst 1, 1) := by decide +kernel
theorem dX6_targetEdges_64 : decode cX6_targetEdges 64 = .ok (.isub, 1) := by decide +kernel
theorem dX6_targetEdges_65 : decode cX6_targetEdges 65 = .ok (.if_icmp .ge 10, 3) := by decide +kernel
theorem dX6_targetEdges_68 : decode cX6_targetEdges 68 = .ok (.aload_n 0, 1) := by decide +kernel
theorem dX6_targetEdges_69 : decode cX6_targetEdges 69 = .ok (.getfield 127, 3) := by decide +kernel
theorem dX6_targetEdges_72 : decode cX6_targetEdges 72 = .ok (.goto 16, 3) := by decide +kernel
theorem dX6_targetEdges_75 : decode cX6_targetEdges 75 = .ok (.iload 6, 2) := by decide +kernel
theorem dX6_targetEdges_77 : decode cX6_targetEdges 77 = .ok (.ifCond .eq 7, 3) := by decide +kernel
theorem dX6_targetEdges_80 : decode cX6_targetEdges 80 = .ok (.iload_n 3, 1) := by decide +kernel
theorem dX6_targetEdges_81 : decode cX6_targetEdges 81 = .ok (.goto 7, 3) := by decide +kernel
theorem dX6_targetEdges_84 : decode cX6_targetEdges 84 = .ok (.aload_n 0, 1) := by decide +kernel
theorem dX6_targetEdges_85 : decode cX6_targetEdges 85 = .ok (.getfield 7, 3) := by decide +kernel
theorem dX6_targetEdges_88 : decode cX6_targetEdges 88 = .ok (.istore 8, 2) := by decide +kernel
theorem dX6_targetEdges_90 : decode cX6_targetEdges 90 = .ok (.aload_n 0, 1) := by decide +kernel
theorem dX6_targetEdges_91 : decode cX6_targetEdges 91 = .ok (.getfield 38, 3) := by decide +kernel
theorem dX6_targetEdges_94 : decode cX6_targetEdges 94 = .ok (.iload 4, 2) := by decide +kernel
theorem dX6_targetEdges_96 : decode cX6_targetEdges 96 = .ok (.aload_n 0, 1) := by decide +kernel
theorem dX6_targetEdges_97 : decode cX6_targetEdges 97 = .ok (.getfield 23, 3) := by decide +kernel
theorem dX6_targetEdges_100 : decode cX6_targetEdges 100 = .ok (.iload_n 2, 1) := by decide +kernel
theorem dX6_targetEdges_101 : decode cX6_targetEdges 101 = .ok (.iconst 3, 1) := by decide +kernel
theorem dX6_targetEdges_102 : decode cX6_targetEdges 102 = .ok (.iadd, 1) := by decide +kernel
theorem dX6_targetEdges_103 : decode cX6_targetEdges 103 = .ok (.iload 7, 2) := by decide +kernel
theorem dX6_targetEdges_105 : decode cX6_targetEdges 105 = .ok (.iadd, 1) := by decide +kernel
theorem dX6_targetEdges_106 : decode cX6_targetEdges 106 = .ok (.iaload, 1) := by decide +kernel
theorem dX6_targetEdges_107 : decode cX6_targetEdges 107 = .ok (.iload 8, 2) := by decide +kernel
theorem dX6_targetEdges_109 : decode cX6_targetEdges 109 = .ok (.invokestatic 130, 3) := by decide +kernel
theorem dX6_targetEdges_112 : decode cX6_targetEdges 112 = .ok (.iconst 0, 1) := by decide +kernel
theorem dX6_targetEdges_113 : decode cX6_targetEdges 113 = .ok (.iastore, 1) := by decide +kernel
theorem dX6_targetEdges_114 : decode cX6_targetEdges 114 = .ok (.aload_n 0, 1) := by decide +kernel
theorem dX6_targetEdges_115 : decode cX6_targetEdges 115 = .ok (.dup, 1) := by decide +kernel
theorem dX6_targetEdges_116 : decode cX6_targetEdges 116 = .ok (.getfield 127, 3) := by decide +kernel
theorem dX6_targetEdges_119 : decode cX6_targetEdges 119 = .ok (.iload 7, 2) := by decide +kernel
theorem dX6_targetEdges_121 : decode cX6_targetEdges 121 = .ok (.iload 5, 2) := by decide +kernel
theorem dX6_targetEdges_123 : decode cX6_targetEdges 123 = .ok (.iconst 1, 1) := by decide +kernel
theorem dX6_targetEdges_124 : decode cX6_targetEdges 124 = .ok (.isub, 1) := by decide +kernel
theorem dX6_targetEdges_125 : decode cX6_targetEdges 125 = .ok (.if_icmp .ge 7, 3) := by decide +kernel
theorem dX6_targetEdges_128 : decode cX6_targetEdges 128 = .ok (.iconst 1, 1) := by decide +kernel
theorem dX6_targetEdges_129 : decode cX6_targetEdges 129 = .ok (.goto 4, 3) := by decide +kernel
theorem dX6_targetEdges_132 : decode cX6_targetEdges 132 = .ok (.iconst 0, 1) := by decide +kernel
theorem dX6_targetEdges_133 : decode cX6_targetEdges 133 = .ok (.iadd, 1) := by decide +kernel
theorem dX6_targetEdges_134 : decode cX6_targetEdges 134 = .ok (.putfield 127, 3) := by decide +kernel
theorem dX6_targetEdges_137 : decode cX6_targetEdges 137 = .ok (.iload 8, 2) := by decide +kernel
theorem dX6_targetEdges_139 : decode cX6_targetEdges 139 = .ok (.istore 4, 2) := by decide +kernel
theorem dX6_targetEdges_141 : decode cX6_targetEdges 141 = .ok (.iinc 7 1, 3) := by decide +kernel
theorem dX6_targetEdges_144 : decode cX6_targetEdges 144 = .ok (.goto (-92), 3) := by decide +kernel
theorem dX6_targetEdges_147 : decode cX6_targetEdges 147 = .ok (.iconst 0, 1) := by decide +kernel
theorem dX6_targetEdges_148 : decode cX6_targetEdges 148 = .ok (.istore 7, 2) := by decide +kernel
theorem dX6_targetEdges_150 : decode cX6_targetEdges 150 = .ok (.iload 7, 2) := by decide +kernel
theorem dX6_targetEdges_152 : decode cX6_targetEdges 152 = .ok (.iconst 4, 1) := by decide +kernel
theorem dX6_targetEdges_153 : decode cX6_targetEdges 153 = .ok (.if_icmp .ge 33, 3) := by decide +kernel
theorem dX6_targetEdges_156 : decode cX6_targetEdges 156 = .ok (.iload 5, 2) := by decide +kernel
theorem dX6_targetEdges_158 : decode cX6_targetEdges 158 = .ok (.ifCond .ne 28, 3) := by decide +kernel
theorem dX6_targetEdges_161 : decode cX6_targetEdges 161 = .ok (.iload 6, 2) := by decide +kernel
theorem dX6_targetEdges_163 : decode cX6_targetEdges 163 = .ok (.ifCond .eq 23, 3) := by decide +kernel
theorem dX6_targetEdges_166 : decode cX6_targetEdges 166 = .ok (.aload_n 0, 1) := by decide +kernel
theorem dX6_targetEdges_167 : decode cX6_targetEdges 167 = .ok (.getfield 38, 3) := by decide +kernel
theorem dX6_targetEdges_170 : decode cX6_targetEdges 170 = .ok (.iload 4, 2) := by decide +kernel
theorem dX6_targetEdges_172 : decode cX6_targetEdges 172 = .ok (.iload 7, 2) := by decide +kernel
theorem dX6_targetEdges_174 : decode cX6_targetEdges 174 = .ok (.iload_n 3, 1) := by decide +kernel
theorem dX6_targetEdges_175 : decode cX6_targetEdges 175 = .ok (.invokestatic 130, 3) := by decide +kernel
theorem dX6_targetEdges_178 : decode cX6_targetEdges 178 = .ok (.iconst 0, 1) := by decide +kernel
theorem dX6_targetEdges_179 : decode cX6_targetEdges 179 = .ok (.iastore, 1) := by decide +kernel
theorem dX6_targetEdges_180 : decode cX6_targetEdges 180 = .ok (.iinc 7 1, 3) := by decide +kernel
theorem dX6_targetEdges_183 : decode cX6_targetEdges 183 = .ok (.goto (-33), 3) := by decide +kernel
theorem dX6_targetEdges_186 : decode cX6_targetEdges 186 = .ok (.return_, 1) := by decide +kernel
theorem dX6_edges_0 : decode cX6_edges 0 = .ok (.iconst 0, 1) := by decide +kernel
theorem dX6_edges_1 : decode cX6_edges 1 = .ok (.istore_n 1, 1) := by decide +kernel
theorem dX6_edges_2 : decode cX6_edges 2 = .ok (.iconst 0, 1) := by decide +kernel
theorem dX6_edges_3 : decode cX6_edges 3 = .ok (.istore_n 2, 1) := by decide +kernel
theorem dX6_edges_4 : decode cX6_edges 4 = .ok (.iload_n 2, 1) := by decide +kernel
theorem dX6_edges_5 : decode cX6_edges 5 = .ok (.sipush 676, 3) := by decide +kernel
theorem dX6_edges_8 : decode cX6_edges 8 = .ok (.if_icmp .ge 26, 3) := by decide +kernel
theorem dX6_edges_11 : decode cX6_edges 11 = .ok (.iload_n 1, 1) := by decide +kernel
theorem dX6_edges_12 : decode cX6_edges 12 = .ok (.aload_n 0, 1) := by decide +kernel
theorem dX6_edges_13 : decode cX6_edges 13 = .ok (.getfield 38, 3) := by decide +kernel
theorem dX6_edges_16 : decode cX6_edges 16 = .ok (.iload_n 2, 1) := by decide +kernel
theorem dX6_edges_17 : decode cX6_edges 17 = .ok (.iaload, 1) := by decide +kernel
theorem dX6_edges_18 : decode cX6_edges 18 = .ok (.ifCond .lt 7, 3) := by decide +kernel
theorem dX6_edges_21 : decode cX6_edges 21 = .ok (.iconst 1, 1) := by decide +kernel
theorem dX6_edges_22 : decode cX6_edges 22 = .ok (.goto 4, 3) := by decide +kernel
theorem dX6_edges_25 : decode cX6_edges 25 = .ok (.iconst 0, 1) := by decide +kernel
theorem dX6_edges_26 : decode cX6_edges 26 = .ok (.iadd, 1) := by decide +kernel
theorem dX6_edges_27 : decode cX6_edges 27 = .ok (.istore_n 1, 1) := by decide +kernel
theorem dX6_edges_28 : decode cX6_edges 28 = .ok (.iinc 2 1, 3) := by decide +kernel
theorem dX6_edges_31 : decode cX6_edges 31 = .ok (.goto (-27), 3) := by decide +kernel
theorem dX6_edges_34 : decode cX6_edges 34 = .ok (.iload_n 1, 1) := by decide +kernel
theorem dX6_edges_35 : decode cX6_edges 35 = .ok (.ireturn, 1) := by decide +kernel
theorem dX6_begins_0 : decode cX6_begins 0 = .ok (.iconst 0, 1) := by decide +kernel
theorem dX6_begins_1 : decode cX6_begins 1 = .ok (.istore_n 1, 1) := by decide +kernel
theorem dX6_begins_2 : decode cX6_begins 2 = .ok (.iload_n 1, 1) := by decide +kernel
theorem dX6_begins_3 : decode cX6_begins 3 = .ok (.sipush 676, 3) := by decide +kernel
theorem dX6_begins_6 : decode cX6_begins 6 = .ok (.if_icmp .ge 16, 3) := by decide +kernel
theorem dX6_begins_9 : decode cX6_begins 9 = .ok (.aload_n 0, 1) := by decide +kernel
theorem dX6_begins_10 : decode cX6_begins 10 = .ok (.getfield 38, 3) := by decide +kernel
theorem dX6_begins_13 : decode cX6_begins 13 = .ok (.iload_n 1, 1) := by decide +kernel
theorem dX6_begins_14 : decode cX6_begins 14 = .ok (.iconst (-1), 1) := by decide +kernel
theorem dX6_begins_15 : decode cX6_begins 15 = .ok (.iastore, 1) := by decide +kernel
theorem dX6_begins_16 : decode cX6_begins 16 = .ok (.iinc 1 1, 3) := by decide +kernel
theorem dX6_begins_19 : decode cX6_begins 19 = .ok (.goto (-17), 3) := by decide +kernel
theorem dX6_begins_22 : decode cX6_begins 22 = .ok (.aload_n 0, 1) := by decide +kernel
theorem dX6_begins_23 : decode cX6_begins 23 = .ok (.aload_n 0, 1) := by decide +kernel
theorem dX6_begins_24 : decode cX6_begins 24 = .ok (.getfield 7, 3) := by decide +kernel
theorem dX6_begins_27 : decode cX6_begins 27 = .ok (.iconst 2, 1) := by decide +kernel
theorem dX6_begins_28 : decode cX6_begins 28 = .ok (.iadd, 1) := by decide +kernel
theorem dX6_begins_29 : decode cX6_begins 29 = .ok (.putfield 127, 3) := by decide +kernel
theorem dX6_begins_32 : decode cX6_begins 32 = .ok (.iconst 0, 1) := by decide +kernel
theorem dX6_begins_33 : decode cX6_begins 33 = .ok (.istore_n 1, 1) := by decide +kernel
theorem dX6_begins_34 : decode cX6_begins 34 = .ok (.iload_n 1, 1) := by decide +kernel
theorem dX6_begins_35 : decode cX6_begins 35 = .ok (.iconst 4, 1) := by decide +kernel
theorem dX6_begins_36 : decode cX6_begins 36 = .ok (.if_icmp .ge 31, 3) := by decide +kernel
theorem dX6_begins_39 : decode cX6_begins 39 = .ok (.aload_n 0, 1) := by decide +kernel
theorem dX6_begins_40 : decode cX6_begins 40 = .ok (.getfield 38, 3) := by decide +kernel
theorem dX6_begins_43 : decode cX6_begins 43 = .ok (.aload_n 0, 1) := by decide +kernel
theorem dX6_begins_44 : decode cX6_begins 44 = .ok (.getfield 7, 3) := by decide +kernel
theorem dX6_begins_47 : decode cX6_begins 47 = .ok (.iconst 1, 1) := by decide +kernel
theorem dX6_begins_48 : decode cX6_begins 48 = .ok (.iadd, 1) := by decide +kernel
theorem dX6_begins_49 : decode cX6_begins 49 = .ok (.iload_n 1, 1) := by decide +kernel
theorem dX6_begins_50 : decode cX6_begins 50 = .ok (.aload_n 0, 1) := by decide +kernel
theorem dX6_begins_51 : decode cX6_begins 51 = .ok (.getfield 7, 3) := by decide +kernel
theorem dX6_begins_54 : decode cX6_begins 54 = .ok (.iconst 1, 1) := by decide +kernel
theorem dX6_begins_55 : decode cX6_begins 55 = .ok (.iadd, 1) := by decide +kernel
theorem dX6_begins_56 : decode cX6_begins 56 = .ok (.invokestatic 130, 3) := by decide +kernel
theorem dX6_begins_59 : decode cX6_begins 59 = .ok (.iconst 0, 1) := by decide +kernel
theorem dX6_begins_60 : decode cX6_begins 60 = .ok (.iastore, 1) := by decide +kernel
theorem dX6_begins_61 : decode cX6_begins 61 = .ok (.iinc 1 1, 3) := by decide +kernel
theorem dX6_begins_64 : decode cX6_begins 64 = .ok (.goto (-30), 3) := by decide +kernel
theorem dX6_begins_67 : decode cX6_begins 67 = .ok (.iconst 0, 1) := by decide +kernel
theorem dX6_begins_68 : decode cX6_begins 68 = .ok (.istore_n 1, 1) := by decide +kernel
theorem dX6_begins_69 : decode cX6_begins 69 = .ok (.iload_n 1, 1) := by decide +kernel
theorem dX6_begins_70 : decode cX6_begins 70 = .ok (.aload_n 0, 1) := by decide +kernel
theorem dX6_begins_71 : decode cX6_begins 71 = .ok (.getfield 20, 3) := by decide +kernel
theorem dX6_begins_74 : decode cX6_begins 74 = .ok (.if_icmp .ge 14, 3) := by decide +kernel
theorem dX6_begins_77 : decode cX6_begins 77 = .ok (.aload_n 0, 1) := by decide +kernel
theorem dX6_begins_78 : decode cX6_begins 78 = .ok (.iload_n 1, 1) := by decide +kernel
theorem dX6_begins_79 : decode cX6_begins 79 = .ok (.invokevirtual 134, 3) := by decide +kernel
theorem dX6_begins_82 : decode cX6_begins 82 = .ok (.iinc 1 1, 3) := by decide +kernel
theorem dX6_begins_85 : decode cX6_begins 85 = .ok (.goto (-16), 3) := by decide +kernel
theorem dX6_begins_88 : decode cX6_begins 88 = .ok (.aload_n 0, 1) := by decide +kernel
theorem dX6_begins_89 : decode cX6_begins 89 = .ok (.aload_n 0, 1) := by decide +kernel
theorem dX6_begins_90 : decode cX6_begins 90 = .ok (.invokevirtual 137, 3) := by decide +kernel
theorem dX6_begins_93 : decode cX6_begins 93 = .ok (.putfield 141, 3) := by decide +kernel
theorem dX6_begins_96 : decode cX6_begins 96 = .ok (.aload_n 0, 1) := by decide +kernel
theorem dX6_begins_97 : decode cX6_begins 97 = .ok (.iconst 0, 1) := by decide +kernel
theorem dX6_begins_98 : decode cX6_begins 98 = .ok (.putfield 144, 3) := by decide +kernel
theorem dX6_begins_101 : decode cX6_begins 101 = .ok (.return_, 1) := by decide +kernel
theorem dX6_made_0 : decode cX6_made 0 = .ok (.iload_n 0, 1) := by decide +kernel
theorem dX6_made_1 : decode cX6_made 1 = .ok (.iconst 2, 1) := by decide +kernel
theorem dX6_made_2 : decode cX6_made 2 = .ok (.if_icmp .ne 16, 3) := by decide +kernel
theorem dX6_made_5 : decode cX6_made 5 = .ok (.iload_n 1, 1) := by decide +kernel
theorem dX6_made_6 : decode cX6_made 6 = .ok (.iload_n 2, 1) := by decide +kernel
theorem dX6_made_7 : decode cX6_made 7 = .ok (.if_icmp .le 7, 3) := by decide +kernel
theorem dX6_made_10 : decode cX6_made 10 = .ok (.iload_n 1, 1) := by decide +kernel
theorem dX6_made_11 : decode cX6_made 11 = .ok (.goto 10, 3) := by decide +kernel
theorem dX6_made_14 : decode cX6_made 14 = .ok (.iload_n 2, 1) := by decide +kernel
theorem dX6_made_15 : decode cX6_made 15 = .ok (.goto 6, 3) := by decide +kernel
theorem dX6_made_18 : decode cX6_made 18 = .ok (.iload_n 1, 1) := by decide +kernel
theorem dX6_made_19 : decode cX6_made 19 = .ok (.iload_n 2, 1) := by decide +kernel
theorem dX6_made_20 : decode cX6_made 20 = .ok (.iadd, 1) := by decide +kernel
theorem dX6_made_21 : decode cX6_made 21 = .ok (.ireturn, 1) := by decide +kernel
theorem dX6_lesser_0 : decode cX6_lesser 0 = .ok (.iload_n 0, 1) := by decide +kernel
theorem dX6_lesser_1 : decode cX6_lesser 1 = .ok (.ifCond .lt 8, 3) := by decide +kernel
theorem dX6_lesser_4 : decode cX6_lesser 4 = .ok (.iload_n 1, 1) := by decide +kernel
theorem dX6_lesser_5 : decode cX6_lesser 5 = .ok (.iload_n 0, 1) := by decide +kernel
theorem dX6_lesser_6 : decode cX6_lesser 6 = .ok (.if_icmp .ge 7, 3) := by decide +kernel
theorem dX6_lesser_9 : decode cX6_lesser 9 = .ok (.iload_n 1, 1) := by decide +kernel
theorem dX6_lesser_10 : decode cX6_lesser 10 = .ok (.goto 4, 3) := by decide +kernel
theorem dX6_lesser_13 : decode cX6_lesser 13 = .ok (.iload_n 0, 1) := by decide +kernel
theorem dX6_lesser_14 : decode cX6_lesser 14 = .ok (.ireturn, 1) := by decide +kernel
theorem dX6_reads_0 : decode cX6_reads 0 = .ok (.iconst 0, 1) := by decide +kernel
theorem dX6_reads_1 : decode cX6_reads 1 = .ok (.istore_n 3, 1) := by decide +kernel
theorem dX6_reads_2 : decode cX6_reads 2 = .ok (.iload_n 3, 1) := by decide +kernel
theorem dX6_reads_3 : decode cX6_reads 3 = .ok (.bipush 13, 2) := by decide +kernel
theorem dX6_reads_5 : decode cX6_reads 5 = .ok (.if_icmp .ge 89, 3) := by decide +kernel
theorem dX6_reads_8 : decode cX6_reads 8 = .ok (.aload_n 0, 1) := by decide +kernel
theorem dX6_reads_9 : decode cX6_reads 9 = .ok (.getfield 47, 3) := by decide +kernel
theorem dX6_reads_12 : decode cX6_reads 12 = .ok (.iload_n 3, 1) := by decide +kernel
theorem dX6_reads_13 : decode cX6_reads 13 = .ok (.iconst (-1), 1) := by decide +kernel
theorem dX6_reads_14 : decode cX6_reads 14 = .ok (.iastore, 1) := by decide +kernel
theorem dX6_reads_15 : decode cX6_reads 15 = .ok (.iconst 0, 1) := by decide +kernel
theorem dX6_reads_16 : decode cX6_reads 16 = .ok (.istore 4, 2) := by decide +kernel
theorem dX6_reads_18 : decode cX6_reads 18 = .ok (.iload 4, 2) := by decide +kernel
theorem dX6_reads_20 : decode cX6_reads 20 = .ok (.bipush 13, 2) := by decide +kernel
theorem dX6_reads_22 : decode cX6_reads 22 = .ok (.if_icmp .ge 66, 3) := by decide +kernel
theorem dX6_reads_25 : decode cX6_reads 25 = .ok (.aload_n 0, 1) := by decide +kernel
theorem dX6_reads_26 : decode cX6_reads 26 = .ok (.getfield 41, 3) := by decide +kernel
theorem dX6_reads_29 : decode cX6_reads 29 = .ok (.iload 4, 2) := by decide +kernel
theorem dX6_reads_31 : decode cX6_reads 31 = .ok (.iload_n 2, 1) := by decide +kernel
theorem dX6_reads_32 : decode cX6_reads 32 = .ok (.iload_n 3, 1) := by decide +kernel
theorem dX6_reads_33 : decode cX6_reads 33 = .ok (.invokestatic 130, 3) := by decide +kernel
theorem dX6_reads_36 : decode cX6_reads 36 = .ok (.iaload, 1) := by decide +kernel
theorem dX6_reads_37 : decode cX6_reads 37 = .ok (.istore 5, 2) := by decide +kernel
theorem dX6_reads_39 : decode cX6_reads 39 = .ok (.aload_n 0, 1) := by decide +kernel
theorem dX6_reads_40 : decode cX6_reads 40 = .ok (.getfield 44, 3) := by decide +kernel
theorem dX6_reads_43 : decode cX6_reads 43 = .ok (.iload 4, 2) := by decide +kernel
theorem dX6_reads_45 : decode cX6_reads 45 = .ok (.iaload, 1) := by decide +kernel
theorem dX6_reads_46 : decode cX6_reads 46 = .ok (.ifCond .lt 36, 3) := by decide +kernel
theorem dX6_reads_49 : decode cX6_reads 49 = .ok (.iload 5, 2) := by decide +kernel
theorem dX6_reads_51 : decode cX6_reads 51 = .ok (.ifCond .lt 31, 3) := by decide +kernel
theorem dX6_reads_54 : decode cX6_reads 54 = .ok (.aload_n 0, 1) := by decide +kernel
theorem dX6_reads_55 : decode cX6_reads 55 = .ok (.getfield 47, 3) := by decide +kernel
theorem dX6_reads_58 : decode cX6_reads 58 = .ok (.iload_n 3, 1) := by decide +kernel
theorem dX6_reads_59 : decode cX6_reads 59 = .ok (.aload_n 0, 1) := by decide +kernel
theorem dX6_reads_60 : decode cX6_reads 60 = .ok (.getfield 47, 3) := by decide +kernel
theorem dX6_reads_63 : decode cX6_reads 63 = .ok (.iload_n 3, 1) := by decide +kernel
theorem dX6_reads_64 : decode cX6_reads 64 = .ok (.iaload, 1) := by decide +kernel
theorem dX6_reads_65 : decode cX6_reads 65 = .ok (.iload_n 1, 1) := by decide +kernel
theorem dX6_reads_66 : decode cX6_reads 66 = .ok (.aload_n 0, 1) := by decide +kernel
theorem dX6_reads_67 : decode cX6_reads 67 = .ok (.getfield 44, 3) := by decide +kernel
theorem dX6_reads_70 : decode cX6_reads 70 = .ok (.iload 4, 2) := by decide +kernel
theorem dX6_reads_72 : decode cX6_reads 72 = .ok (.iaload, 1) := by decide +kernel
theorem dX6_reads_73 : decode cX6_reads 73 = .ok (.iload 5, 2) := by decide +kernel
theorem dX6_reads_75 : decode cX6_reads 75 = .ok (.invokestatic 147, 3) := by decide +kernel
theorem dX6_reads_78 : decode cX6_reads 78 = .ok (.invokestatic 150, 3) := by decide +kernel
theorem dX6_reads_81 : decode cX6_reads 81 = .ok (.iastore, 1) := by decide +kernel
theorem dX6_reads_82 : decode cX6_reads 82 = .ok (.iinc 4 1, 3) := by decide +kernel
theorem dX6_reads_85 : decode cX6_reads 85 = .ok (.goto (-67), 3) := by decide +kernel
theorem dX6_reads_88 : decode cX6_reads 88 = .ok (.iinc 3 1, 3) := by decide +kernel
theorem dX6_reads_91 : decode cX6_reads 91 = .ok (.goto (-89), 3) := by decide +kernel
theorem dX6_reads_94 : decode cX6_reads 94 = .ok (.iconst 0, 1) := by decide +kernel
theorem dX6_reads_95 : decode cX6_reads 95 = .ok (.istore_n 3, 1) := by decide +kernel
theorem dX6_reads_96 : decode cX6_reads 96 = .ok (.iload_n 3, 1) := by decide +kernel
theorem dX6_reads_97 : decode cX6_reads 97 = .ok (.bipush 13, 2) := by decide +kernel
theorem dX6_reads_99 : decode cX6_reads 99 = .ok (.if_icmp .ge 21, 3) := by decide +kernel
theorem dX6_reads_102 : decode cX6_reads 102 = .ok (.aload_n 0, 1) := by decide +kernel
theorem dX6_reads_103 : decode cX6_reads 103 = .ok (.getfield 44, 3) := by decide +kernel
theorem dX6_reads_106 : decode cX6_reads 106 = .ok (.iload_n 3, 1) := by decide +kernel
theorem dX6_reads_107 : decode cX6_reads 107 = .ok (.aload_n 0, 1) := by decide +kernel
theorem dX6_reads_108 : decode cX6_reads 108 = .ok (.getfield 47, 3) := by decide +kernel
theorem dX6_reads_111 : decode cX6_reads 111 = .ok (.iload_n 3, 1) := by decide +kernel
theorem dX6_reads_112 : decode cX6_reads 112 = .ok (.iaload, 1) := by decide +kernel
theorem dX6_reads_113 : decode cX6_reads 113 = .ok (.iastore, 1) := by decide +kernel
theorem dX6_reads_114 : decode cX6_reads 114 = .ok (.iinc 3 1, 3) := by decide +kernel
theorem dX6_reads_117 : decode cX6_reads 117 = .ok (.goto (-21), 3) := by decide +kernel
theorem dX6_reads_120 : decode cX6_reads 120 = .ok (.return_, 1) := by decide +kernel
theorem dX6_standsAt_0 : decode cX6_standsAt 0 = .ok (.iconst 0, 1) := by decide +kernel
theorem dX6_standsAt_1 : decode cX6_standsAt 1 = .ok (.istore_n 2, 1) := by decide +kernel
theorem dX6_standsAt_2 : decode cX6_standsAt 2 = .ok (.iload_n 2, 1) := by decide +kernel
theorem dX6_standsAt_3 : decode cX6_standsAt 3 = .ok (.bipush 13, 2) := by decide +kernel
theorem dX6_standsAt_5 : decode cX6_standsAt 5 = .ok (.if_icmp .ge 25, 3) := by decide +kernel
theorem dX6_standsAt_8 : decode cX6_standsAt 8 = .ok (.aload_n 0, 1) := by decide +kernel
theorem dX6_standsAt_9 : decode cX6_standsAt 9 = .ok (.getfield 44, 3) := by decide +kernel
theorem dX6_standsAt_12 : decode cX6_standsAt 12 = .ok (.iload_n 2, 1) := by decide +kernel
theorem dX6_standsAt_13 : decode cX6_standsAt 13 = .ok (.iload_n 2, 1) := by decide +kernel
theorem dX6_standsAt_14 : decode cX6_standsAt 14 = .ok (.iload_n 1, 1) := by decide +kernel
theorem dX6_standsAt_15 : decode cX6_standsAt 15 = .ok (.if_icmp .ne 7, 3) := by decide +kernel
theorem dX6_standsAt_18 : decode cX6_standsAt 18 = .ok (.iconst 0, 1) := by decide +kernel
theorem dX6_standsAt_19 : decode cX6_standsAt 19 = .ok (.goto 4, 3) := by decide +kernel
theorem dX6_standsAt_22 : decode cX6_standsAt 22 = .ok (.iconst (-1), 1) := by decide +kernel
theorem dX6_standsAt_23 : decode cX6_standsAt 23 = .ok (.iastore, 1) := by decide +kernel
theorem dX6_standsAt_24 : decode cX6_standsAt 24 = .ok (.iinc 2 1, 3) := by decide +kernel
theorem dX6_standsAt_27 : decode cX6_standsAt 27 = .ok (.goto (-25), 3) := by decide +kernel
theorem dX6_standsAt_30 : decode cX6_standsAt 30 = .ok (.return_, 1) := by decide +kernel
theorem dX6_roundBy_0 : decode cX6_roundBy 0 = .ok (.bipush 7, 2) := by decide +kernel
theorem dX6_roundBy_2 : decode cX6_roundBy 2 = .ok (.iload_n 1, 1) := by decide +kernel
theorem dX6_roundBy_3 : decode cX6_roundBy 3 = .ok (.imul, 1) := by decide +kernel
theorem dX6_roundBy_4 : decode cX6_roundBy 4 = .ok (.istore 4, 2) := by decide +kernel
theorem dX6_roundBy_6 : decode cX6_roundBy 6 = .ok (.aload_n 0, 1) := by decide +kernel
theorem dX6_roundBy_7 : decode cX6_roundBy 7 = .ok (.aload_n 0, 1) := by decide +kernel
theorem dX6_roundBy_8 : decode cX6_roundBy 8 = .ok (.getfield 16, 3) := by decide +kernel
theorem dX6_roundBy_11 : decode cX6_roundBy 11 = .ok (.iload 4, 2) := by decide +kernel
theorem dX6_roundBy_13 : decode cX6_roundBy 13 = .ok (.iconst 2, 1) := by decide +kernel
theorem dX6_roundBy_14 : decode cX6_roundBy 14 = .ok (.iadd, 1) := by decide +kernel
theorem dX6_roundBy_15 : decode cX6_roundBy 15 = .ok (.iaload, 1) := by decide +kernel
theorem dX6_roundBy_16 : decode cX6_roundBy 16 = .ok (.invokevirtual 154, 3) := by decide +kernel
theorem dX6_roundBy_19 : decode cX6_roundBy 19 = .ok (.iconst 0, 1) := by decide +kernel
theorem dX6_roundBy_20 : decode cX6_roundBy 20 = .ok (.istore 5, 2) := by decide +kernel
theorem dX6_roundBy_22 : decode cX6_roundBy 22 = .ok (.iload 5, 2) := by decide +kernel
theorem dX6_roundBy_24 : decode cX6_roundBy 24 = .ok (.aload_n 0, 1) := by decide +kernel
theorem dX6_roundBy_25 : decode cX6_roundBy 25 = .ok (.getfield 16, 3) := by decide +kernel
theorem dX6_roundBy_28 : decode cX6_roundBy 28 = .ok (.iload 4, 2) := by decide +kernel
theorem dX6_roundBy_30 : decode cX6_roundBy 30 = .ok (.iconst 3, 1) := by decide +kernel
theorem dX6_roundBy_31 : decode cX6_roundBy 31 = .ok (.iadd, 1) := by decide +kernel
theorem dX6_roundBy_32 : decode cX6_roundBy 32 = .ok (.iaload, 1) := by decide +kernel
theorem dX6_roundBy_33 : decode cX6_roundBy 33 = .ok (.if_icmp .ge 26, 3) := by decide +kernel
theorem dX6_roundBy_36 : decode cX6_roundBy 36 = .ok (.aload_n 0, 1) := by decide +kernel
theorem dX6_roundBy_37 : decode cX6_roundBy 37 = .ok (.iload_n 2, 1) := by decide +kernel
theorem dX6_roundBy_38 : decode cX6_roundBy 38 = .ok (.aload_n 0, 1) := by decide +kernel
theorem dX6_roundBy_39 : decode cX6_roundBy 39 = .ok (.getfield 16, 3) := by decide +kernel
theorem dX6_roundBy_42 : decode cX6_roundBy 42 = .ok (.iload 4, 2) := by decide +kernel
theorem dX6_roundBy_44 : decode cX6_roundBy 44 = .ok (.iconst 4, 1) := by decide +kernel
theorem dX6_roundBy_45 : decode cX6_roundBy 45 = .ok (.iadd, 1) := by decide +kernel
theorem dX6_roundBy_46 : decode cX6_roundBy 46 = .ok (.iload 5, 2) := by decide +kernel
theorem dX6_roundBy_48 : decode cX6_roundBy 48 = .ok (.iadd, 1) := by decide +kernel
theorem dX6_roundBy_49 : decode cX6_roundBy 49 = .ok (.iaload, 1) := by decide +kernel
theorem dX6_roundBy_50 : decode cX6_roundBy 50 = .ok (.invokevirtual 157, 3) := by decide +kernel
theorem dX6_roundBy_53 : decode cX6_roundBy 53 = .ok (.iinc 5 1, 3) := by decide +kernel
theorem dX6_roundBy_56 : decode cX6_roundBy 56 = .ok (.goto (-34), 3) := by decide +kernel
theorem dX6_roundBy_59 : decode cX6_roundBy 59 = .ok (.iconst 0, 1) := by decide +kernel
theorem dX6_roundBy_60 : decode cX6_roundBy 60 = .ok (.istore 5, 2) := by decide +kernel
theorem dX6_roundBy_62 : decode cX6_roundBy 62 = .ok (.iconst 0, 1) := by decide +kernel
theorem dX6_roundBy_63 : decode cX6_roundBy 63 = .ok (.istore 6, 2) := by decide +kernel
theorem dX6_roundBy_65 : decode cX6_roundBy 65 = .ok (.iload 6, 2) := by decide +kernel
theorem dX6_roundBy_67 : decode cX6_roundBy 67 = .ok (.bipush 13, 2) := by decide +kernel
theorem dX6_roundBy_69 : decode cX6_roundBy 69 = .ok (.if_icmp .ge 109, 3) := by decide +kernel
theorem dX6_roundBy_72 : decode cX6_roundBy 72 = .ok (.aload_n 0, 1) := by decide +kernel
theorem dX6_roundBy_73 : decode cX6_roundBy 73 = .ok (.getfield 44, 3) := by decide +kernel
theorem dX6_roundBy_76 : decode cX6_roundBy 76 = .ok (.iload 6, 2) := by decide +kernel
theorem dX6_roundBy_78 : decode cX6_roundBy 78 = .ok (.iaload, 1) := by decide +kernel
theorem dX6_roundBy_79 : decode cX6_roundBy 79 = .ok (.ifCond .lt 93, 3) := by decide +kernel
theorem dX6_roundBy_82 : decode cX6_roundBy 82 = .ok (.aload_n 0, 1) := by decide +kernel
theorem dX6_roundBy_83 : decode cX6_roundBy 83 = .ok (.getfield 16, 3) := by decide +kernel
theorem dX6_roundBy_86 : decode cX6_roundBy 86 = .ok (.iload 4, 2) := by decide +kernel
theorem dX6_roundBy_88 : decode cX6_roundBy 88 = .ok (.iaload, 1) := by decide +kernel
theorem dX6_roundBy_89 : decode cX6_roundBy 89 = .ok (.aload_n 0, 1) := by decide +kernel
theorem dX6_roundBy_90 : decode cX6_roundBy 90 = .ok (.getfield 16, 3) := by decide +kernel
theorem dX6_roundBy_93 : decode cX6_roundBy 93 = .ok (.iload 4, 2) := by decide +kernel
theorem dX6_roundBy_95 : decode cX6_roundBy 95 = .ok (.iconst 1, 1) := by decide +kernel
theorem dX6_roundBy_96 : decode cX6_roundBy 96 = .ok (.iadd, 1) := by decide +kernel
theorem dX6_roundBy_97 : decode cX6_roundBy 97 = .ok (.iaload, 1) := by decide +kernel
theorem dX6_roundBy_98 : decode cX6_roundBy 98 = .ok (.iload 6, 2) := by decide +kernel
theorem dX6_roundBy_100 : decode cX6_roundBy 100 = .ok (.invokestatic 130, 3) := by decide +kernel
theorem dX6_roundBy_103 : decode cX6_roundBy 103 = .ok (.istore 7, 2) := by decide +kernel
theorem dX6_roundBy_105 : decode cX6_roundBy 105 = .ok (.iload_n 2, 1) := by decide +kernel
theorem dX6_roundBy_106 : decode cX6_roundBy 106 = .ok (.iload_n 3, 1) := by decide +kernel
theorem dX6_roundBy_107 : decode cX6_roundBy 107 = .ok (.aload_n 0, 1) := by decide +kernel
theorem dX6_roundBy_108 : decode cX6_roundBy 108 = .ok (.getfield 44, 3) := by decide +kernel
theorem dX6_roundBy_111 : decode cX6_roundBy 111 = .ok (.iload 6, 2) := by decide +kernel
theorem dX6_roundBy_113 : decode cX6_roundBy 113 = .ok (.iaload, 1) := by decide +kernel
theorem dX6_roundBy_114 : decode cX6_roundBy 114 = .ok (.invokestatic 147, 3) := by decide +kernel
theorem dX6_roundBy_117 : decode cX6_roundBy 117 = .ok (.istore 8, 2) := by decide +kernel
theorem dX6_roundBy_119 : decode cX6_roundBy 119 = .ok (.iload 5, 2) := by decide +kernel
theorem dX6_roundBy_121 : decode cX6_roundBy 121 = .ok (.ifCond .ne 25, 3) := by decide +kernel
theorem dX6_roundBy_124 : decode cX6_roundBy 124 = .ok (.aload_n 0, 1) := by decide +kernel
theorem dX6_roundBy_125 : decode cX6_roundBy 125 = .ok (.getfield 38, 3) := by decide +kernel
theorem dX6_roundBy_128 : decode cX6_roundBy 128 = .ok (.iload 7, 2) := by decide +kernel
theorem dX6_roundBy_130 : decode cX6_roundBy 130 = .ok (.iaload, 1) := by decide +kernel
theorem dX6_roundBy_131 : decode cX6_roundBy 131 = .ok (.ifCond .lt 15, 3) := by decide +kernel
theorem dX6_roundBy_134 : decode cX6_roundBy 134 = .ok (.iload 8, 2) := by decide +kernel
theorem dX6_roundBy_136 : decode cX6_roundBy 136 = .ok (.aload_n 0, 1) := by decide +kernel
theorem dX6_roundBy_137 : decode cX6_roundBy 137 = .ok (.getfield 38, 3) := by decide +kernel
theorem dX6_roundBy_140 : decode cX6_roundBy 140 = .ok (.iload 7, 2) := by decide +kernel
theorem dX6_roundBy_142 : decode cX6_roundBy 142 = .ok (.iaload, 1) := by decide +kernel
theorem dX6_roundBy_143 : decode cX6_roundBy 143 = .ok (.if_icmp .ge 7, 3) := by decide +kernel
theorem dX6_roundBy_146 : decode cX6_roundBy 146 = .ok (.iconst 1, 1) := by decide +kernel
theorem dX6_roundBy_147 : decode cX6_roundBy 147 = .ok (.goto 4, 3) := by decide +kernel
theorem dX6_roundBy_150 : decode cX6_roundBy 150 = .ok (.iconst 0, 1) := by decide +kernel
theorem dX6_roundBy_151 : decode cX6_roundBy 151 = .ok (.istore 5, 2) := by decide +kernel
theorem dX6_roundBy_153 : decode cX6_roundBy 153 = .ok (.aload_n 0, 1) := by decide +kernel
theorem dX6_roundBy_154 : decode cX6_roundBy 154 = .ok (.getfield 38, 3) := by decide +kernel
theorem dX6_roundBy_157 : decode cX6_roundBy 157 = .ok (.iload 7, 2) := by decide +kernel
theorem dX6_roundBy_159 : decode cX6_roundBy 159 = .ok (.aload_n 0, 1) := by decide +kernel
theorem dX6_roundBy_160 : decode cX6_roundBy 160 = .ok (.getfield 38, 3) := by decide +kernel
theorem dX6_roundBy_163 : decode cX6_roundBy 163 = .ok (.iload 7, 2) := by decide +kernel
theorem dX6_roundBy_165 : decode cX6_roundBy 165 = .ok (.iaload, 1) := by decide +kernel
theorem dX6_roundBy_166 : decode cX6_roundBy 166 = .ok (.iload 8, 2) := by decide +kernel
theorem dX6_roundBy_168 : decode cX6_roundBy 168 = .ok (.invokestatic 150, 3) := by decide +kernel
theorem dX6_roundBy_171 : decode cX6_roundBy 171 = .ok (.iastore, 1) := by decide +kernel
theorem dX6_roundBy_172 : decode cX6_roundBy 172 = .ok (.iinc 6 1, 3) := by decide +kernel
theorem dX6_roundBy_175 : decode cX6_roundBy 175 = .ok (.goto (-110), 3) := by decide +kernel
theorem dX6_roundBy_178 : decode cX6_roundBy 178 = .ok (.iload 5, 2) := by decide +kernel
theorem dX6_roundBy_180 : decode cX6_roundBy 180 = .ok (.ireturn, 1) := by decide +kernel
theorem dX6_grows_0 : decode cX6_grows 0 = .ok (.aload_n 0, 1) := by decide +kernel
theorem dX6_grows_1 : decode cX6_grows 1 = .ok (.invokevirtual 161, 3) := by decide +kernel
theorem dX6_grows_4 : decode cX6_grows 4 = .ok (.iconst 1, 1) := by decide +kernel
theorem dX6_grows_5 : decode cX6_grows 5 = .ok (.istore_n 3, 1) := by decide +kernel
theorem dX6_grows_6 : decode cX6_grows 6 = .ok (.iload_n 3, 1) := by decide +kernel
theorem dX6_grows_7 : decode cX6_grows 7 = .ok (.ifCond .eq 127, 3) := by decide +kernel
theorem dX6_grows_10 : decode cX6_grows 10 = .ok (.iconst 0, 1) := by decide +kernel
theorem dX6_grows_11 : decode cX6_grows 11 = .ok (.istore 4, 2) := by decide +kernel
theorem dX6_grows_13 : decode cX6_grows 13 = .ok (.iload 4, 2) := by decide +kernel
theorem dX6_grows_15 : decode cX6_grows 15 = .ok (.sipush 676, 3) := by decide +kernel
theorem dX6_grows_18 : decode cX6_grows 18 = .ok (.if_icmp .ge 23, 3) := by decide +kernel
theorem dX6_grows_21 : decode cX6_grows 21 = .ok (.aload_n 0, 1) := by decide +kernel
theorem dX6_grows_22 : decode cX6_grows 22 = .ok (.getfield 41, 3) := by decide +kernel
theorem dX6_grows_25 : decode cX6_grows 25 = .ok (.iload 4, 2) := by decide +kernel
theorem dX6_grows_27 : decode cX6_grows 27 = .ok (.aload_n 0, 1) := by decide +kernel
theorem dX6_grows_28 : decode cX6_grows 28 = .ok (.getfield 38, 3) := by decide +kernel
theorem dX6_grows_31 : decode cX6_grows 31 = .ok (.iload 4, 2) := by decide +kernel
theorem dX6_grows_33 : decode cX6_grows 33 = .ok (.iaload, 1) := by decide +kernel
theorem dX6_grows_34 : decode cX6_grows 34 = .ok (.iastore, 1) := by decide +kernel
theorem dX6_grows_35 : decode cX6_grows 35 = .ok (.iinc 4 1, 3) := by decide +kernel
theorem dX6_grows_38 : decode cX6_grows 38 = .ok (.goto (-25), 3) := by decide +kernel
theorem dX6_grows_41 : decode cX6_grows 41 = .ok (.iconst 0, 1) := by decide +kernel
theorem dX6_grows_42 : decode cX6_grows 42 = .ok (.istore_n 3, 1) := by decide +kernel
theorem dX6_grows_43 : decode cX6_grows 43 = .ok (.iconst 0, 1) := by decide +kernel
theorem dX6_grows_44 : decode cX6_grows 44 = .ok (.istore 4, 2) := by decide +kernel
theorem dX6_grows_46 : decode cX6_grows 46 = .ok (.iload 4, 2) := by decide +kernel
theorem dX6_grows_48 : decode cX6_grows 48 = .ok (.aload_n 0, 1) := by decide +kernel
theorem dX6_grows_49 : decode cX6_grows 49 = .ok (.getfield 13, 3) := by decide +kernel
theorem dX6_grows_52 : decode cX6_grows 52 = .ok (.if_icmp .ge 61, 3) := by decide +kernel
theorem dX6_grows_55 : decode cX6_grows 55 = .ok (.iload 4, 2) := by decide +kernel
theorem dX6_grows_57 : decode cX6_grows 57 = .ok (.iload_n 2, 1) := by decide +kernel
theorem dX6_grows_58 : decode cX6_grows 58 = .ok (.if_icmp .eq 49, 3) := by decide +kernel
theorem dX6_grows_61 : decode cX6_grows 61 = .ok (.aload_n 0, 1) := by decide +kernel
theorem dX6_grows_62 : decode cX6_grows 62 = .ok (.iload 4, 2) := by decide +kernel
theorem dX6_grows_64 : decode cX6_grows 64 = .ok (.iload_n 1, 1) := by decide +kernel
theorem dX6_grows_65 : decode cX6_grows 65 = .ok (.iload_n 1, 1) := by decide +kernel
theorem dX6_grows_66 : decode cX6_grows 66 = .ok (.iconst 1, 1) := by decide +kernel
theorem dX6_grows_67 : decode cX6_grows 67 = .ok (.if_icmp .ne 7, 3) := by decide +kernel
theorem dX6_grows_70 : decode cX6_grows 70 = .ok (.iconst 1, 1) := by decide +kernel
theorem dX6_grows_71 : decode cX6_grows 71 = .ok (.goto 16, 3) := by decide +kernel
theorem dX6_grows_74 : decode cX6_grows 74 = .ok (.aload_n 0, 1) := by decide +kernel
theorem dX6_grows_75 : decode cX6_grows 75 = .ok (.getfield 16, 3) := by decide +kernel
theorem dX6_grows_78 : decode cX6_grows 78 = .ok (.bipush 7, 2) := by decide +kernel
theorem dX6_grows_80 : decode cX6_grows 80 = .ok (.iload 4, 2) := by decide +kernel
theorem dX6_grows_82 : decode cX6_grows 82 = .ok (.imul, 1) := by decide +kernel
theorem dX6_grows_83 : decode cX6_grows 83 = .ok (.bipush 6, 2) := by decide +kernel
theorem dX6_grows_85 : decode cX6_grows 85 = .ok (.iadd, 1) := by decide +kernel
theorem dX6_grows_86 : decode cX6_grows 86 = .ok (.iaload, 1) := by decide +kernel
theorem dX6_grows_87 : decode cX6_grows 87 = .ok (.invokevirtual 164, 3) := by decide +kernel
theorem dX6_grows_90 : decode cX6_grows 90 = .ok (.istore 5, 2) := by decide +kernel
theorem dX6_grows_92 : decode cX6_grows 92 = .ok (.iload_n 3, 1) := by decide +kernel
theorem dX6_grows_93 : decode cX6_grows 93 = .ok (.ifCond .ne 8, 3) := by decide +kernel
theorem dX6_grows_96 : decode cX6_grows 96 = .ok (.iload 5, 2) := by decide +kernel
theorem dX6_grows_98 : decode cX6_grows 98 = .ok (.ifCond .eq 7, 3) := by decide +kernel
theorem dX6_grows_101 : decode cX6_grows 101 = .ok (.iconst 1, 1) := by decide +kernel
theorem dX6_grows_102 : decode cX6_grows 102 = .ok (.goto 4, 3) := by decide +kernel
theorem dX6_grows_105 : decode cX6_grows 105 = .ok (.iconst 0, 1) := by decide +kernel
theorem dX6_grows_106 : decode cX6_grows 106 = .ok (.istore_n 3, 1) := by decide +kernel
theorem dX6_grows_107 : decode cX6_grows 107 = .ok (.iinc 4 1, 3) := by decide +kernel
theorem dX6_grows_110 : decode cX6_grows 110 = .ok (.goto (-64), 3) := by decide +kernel
theorem dX6_grows_113 : decode cX6_grows 113 = .ok (.aload_n 0, 1) := by decide +kernel
theorem dX6_grows_114 : decode cX6_grows 114 = .ok (.dup, 1) := by decide +kernel
theorem dX6_grows_115 : decode cX6_grows 115 = .ok (.getfield 144, 3) := by decide +kernel
theorem dX6_grows_118 : decode cX6_grows 118 = .ok (.iload_n 3, 1) := by decide +kernel
theorem dX6_grows_119 : decode cX6_grows 119 = .ok (.ifCond .eq 7, 3) := by decide +kernel
theorem dX6_grows_122 : decode cX6_grows 122 = .ok (.iconst 1, 1) := by decide +kernel
theorem dX6_grows_123 : decode cX6_grows 123 = .ok (.goto 4, 3) := by decide +kernel
theorem dX6_grows_126 : decode cX6_grows 126 = .ok (.iconst 0, 1) := by decide +kernel
theorem dX6_grows_127 : decode cX6_grows 127 = .ok (.iadd, 1) := by decide +kernel
theorem dX6_grows_128 : decode cX6_grows 128 = .ok (.putfield 144, 3) := by decide +kernel
theorem dX6_grows_131 : decode cX6_grows 131 = .ok (.goto (-125), 3) := by decide +kernel
theorem dX6_grows_134 : decode cX6_grows 134 = .ok (.return_, 1) := by decide +kernel
theorem dX6_isEnd_0 : decode cX6_isEnd 0 = .ok (.iload_n 1, 1) := by decide +kernel
theorem dX6_isEnd_1 : decode cX6_isEnd 1 = .ok (.aload_n 0, 1) := by decide +kernel
theorem dX6_isEnd_2 : decode cX6_isEnd 2 = .ok (.getfield 7, 3) := by decide +kernel
theorem dX6_isEnd_5 : decode cX6_isEnd 5 = .ok (.if_icmp .eq 13, 3) := by decide +kernel
theorem dX6_isEnd_8 : decode cX6_isEnd 8 = .ok (.iload_n 1, 1) := by decide +kernel
theorem dX6_isEnd_9 : decode cX6_isEnd 9 = .ok (.aload_n 0, 1) := by decide +kernel
theorem dX6_isEnd_10 : decode cX6_isEnd 10 = .ok (.getfield 7, 3) := by decide +kernel
theorem dX6_isEnd_13 : decode cX6_isEnd 13 = .ok (.iconst 1, 1) := by decide +kernel
theorem dX6_isEnd_14 : decode cX6_isEnd 14 = .ok (.iadd, 1) := by decide +kernel
theorem dX6_isEnd_15 : decode cX6_isEnd 15 = .ok (.if_icmp .ne 7, 3) := by decide +kernel
theorem dX6_isEnd_18 : decode cX6_isEnd 18 = .ok (.iconst 1, 1) := by decide +kernel
theorem dX6_isEnd_19 : decode cX6_isEnd 19 = .ok (.goto 4, 3) := by decide +kernel
theorem dX6_isEnd_22 : decode cX6_isEnd 22 = .ok (.iconst 0, 1) := by decide +kernel
theorem dX6_isEnd_23 : decode cX6_isEnd 23 = .ok (.istore_n 2, 1) := by decide +kernel
theorem dX6_isEnd_24 : decode cX6_isEnd 24 = .ok (.iconst 0, 1) := by decide +kernel
theorem dX6_isEnd_25 : decode cX6_isEnd 25 = .ok (.istore_n 3, 1) := by decide +kernel
theorem dX6_isEnd_26 : decode cX6_isEnd 26 = .ok (.iload_n 3, 1) := by decide +kernel
theorem dX6_isEnd_27 : decode cX6_isEnd 27 = .ok (.aload_n 0, 1) := by decide +kernel
theorem dX6_isEnd_28 : decode cX6_isEnd 28 = .ok (.getfield 20, 3) := by decide +kernel
theorem dX6_isEnd_31 : decode cX6_isEnd 31 = .ok (.if_icmp .ge 46, 3) := by decide +kernel
theorem dX6_isEnd_34 : decode cX6_isEnd 34 = .ok (.iload_n 2, 1) := by decide +kernel
theorem dX6_isEnd_35 : decode cX6_isEnd 35 = .ok (.ifCond .ne 30, 3) := by decide +kernel
theorem dX6_isEnd_38 : decode cX6_isEnd 38 = .ok (.aload_n 0, 1) := by decide +kernel
theorem dX6_isEnd_39 : decode cX6_isEnd 39 = .ok (.getfield 23, 3) := by decide +kernel
theorem dX6_isEnd_42 : decode cX6_isEnd 42 = .ok (.bipush 6, 2) := by decide +kernel
theorem dX6_isEnd_44 : decode cX6_isEnd 44 = .ok (.iload_n 3, 1) := by decide +kernel
theorem dX6_isEnd_45 : decode cX6_isEnd 45 = .ok (.imul, 1) := by decide +kernel
theorem dX6_isEnd_46 : decode cX6_isEnd 46 = .ok (.iconst 1, 1) := by decide +kernel
theorem dX6_isEnd_47 : decode cX6_isEnd 47 = .ok (.iadd, 1) := by decide +kernel
theorem dX6_isEnd_48 : decode cX6_isEnd 48 = .ok (.iaload, 1) := by decide +kernel
theorem dX6_isEnd_49 : decode cX6_isEnd 49 = .ok (.ifCond .ne 20, 3) := by decide +kernel
theorem dX6_isEnd_52 : decode cX6_isEnd 52 = .ok (.aload_n 0, 1) := by decide +kernel
theorem dX6_isEnd_53 : decode cX6_isEnd 53 = .ok (.getfield 23, 3) := by decide +kernel
theorem dX6_isEnd_56 : decode cX6_isEnd 56 = .ok (.bipush 6, 2) := by decide +kernel
theorem dX6_isEnd_58 : decode cX6_isEnd 58 = .ok (.iload_n 3, 1) := by decide +kernel
theorem dX6_isEnd_59 : decode cX6_isEnd 59 = .ok (.imul, 1) := by decide +kernel
theorem dX6_isEnd_60 : decode cX6_isEnd 60 = .ok (.iaload, 1) := by decide +kernel
theorem dX6_isEnd_61 : decode cX6_isEnd 61 = .ok (.iload_n 1, 1) := by decide +kernel
theorem dX6_isEnd_62 : decode cX6_isEnd 62 = .ok (.if_icmp .ne 7, 3) := by decide +kernel
theorem dX6_isEnd_65 : decode cX6_isEnd 65 = .ok (.iconst 1, 1) := by decide +kernel
theorem dX6_isEnd_66 : decode cX6_isEnd 66 = .ok (.goto 4, 3) := by decide +kernel
theorem dX6_isEnd_69 : decode cX6_isEnd 69 = .ok (.iconst 0, 1) := by decide +kernel
theorem dX6_isEnd_70 : decode cX6_isEnd 70 = .ok (.istore_n 2, 1) := by decide +kernel
theorem dX6_isEnd_71 : decode cX6_isEnd 71 = .ok (.iinc 3 1, 3) := by decide +kernel
theorem dX6_isEnd_74 : decode cX6_isEnd 74 = .ok (.goto (-48), 3) := by decide +kernel
theorem dX6_isEnd_77 : decode cX6_isEnd 77 = .ok (.iload_n 2, 1) := by decide +kernel
theorem dX6_isEnd_78 : decode cX6_isEnd 78 = .ok (.ireturn, 1) := by decide +kernel
theorem dX6_least_0 : decode cX6_least 0 = .ok (.aload_n 0, 1) := by decide +kernel
theorem dX6_least_1 : decode cX6_least 1 = .ok (.aload_n 0, 1) := by decide +kernel
theorem dX6_least_2 : decode cX6_least 2 = .ok (.getfield 80, 3) := by decide +kernel
theorem dX6_least_5 : decode cX6_least 5 = .ok (.invokevirtual 154, 3) := by decide +kernel
theorem dX6_least_8 : decode cX6_least 8 = .ok (.aload_n 0, 1) := by decide +kernel
theorem dX6_least_9 : decode cX6_least 9 = .ok (.getfield 26, 3) := by decide +kernel
theorem dX6_least_12 : decode cX6_least 12 = .ok (.iconst 1, 1) := by decide +kernel
theorem dX6_least_13 : decode cX6_least 13 = .ok (.isub, 1) := by decide +kernel
theorem dX6_least_14 : decode cX6_least 14 = .ok (.istore_n 2, 1) := by decide +kernel
theorem dX6_least_15 : decode cX6_least 15 = .ok (.iload_n 2, 1) := by decide +kernel
theorem dX6_least_16 : decode cX6_least 16 = .ok (.ifCond .lt 20, 3) := by decide +kernel
theorem dX6_least_19 : decode cX6_least 19 = .ok (.aload_n 0, 1) := by decide +kernel
theorem dX6_least_20 : decode cX6_least 20 = .ok (.iload_n 1, 1) := by decide +kernel
theorem dX6_least_21 : decode cX6_least 21 = .ok (.aload_n 0, 1) := by decide +kernel
theorem dX6_least_22 : decode cX6_least 22 = .ok (.getfield 29, 3) := by decide +kernel
theorem dX6_least_25 : decode cX6_least 25 = .ok (.iload_n 2, 1) := by decide +kernel
theorem dX6_least_26 : decode cX6_least 26 = .ok (.iaload, 1) := by decide +kernel
theorem dX6_least_27 : decode cX6_least 27 = .ok (.invokevirtual 157, 3) := by decide +kernel
theorem dX6_least_30 : decode cX6_least 30 = .ok (.iinc 2 (-1), 3) := by decide +kernel
theorem dX6_least_33 : decode cX6_least 33 = .ok (.goto (-18), 3) := by decide +kernel
theorem dX6_least_36 : decode cX6_least 36 = .ok (.iconst (-1), 1) := by decide +kernel
theorem dX6_least_37 : decode cX6_least 37 = .ok (.istore_n 2, 1) := by decide +kernel
theorem dX6_least_38 : decode cX6_least 38 = .ok (.iconst 0, 1) := by decide +kernel
theorem dX6_least_39 : decode cX6_least 39 = .ok (.istore_n 3, 1) := by decide +kernel
theorem dX6_least_40 : decode cX6_least 40 = .ok (.iload_n 3, 1) := by decide +kernel
theorem dX6_least_41 : decode cX6_least 41 = .ok (.bipush 13, 2) := by decide +kernel
theorem dX6_least_43 : decode cX6_least 43 = .ok (.if_icmp .ge 41, 3) := by decide +kernel
theorem dX6_least_46 : decode cX6_least 46 = .ok (.aload_n 0, 1) := by decide +kernel
theorem dX6_least_47 : decode cX6_least 47 = .ok (.iload_n 3, 1) := by decide +kernel
theorem dX6_least_48 : decode cX6_least 48 = .ok (.invokevirtual 167, 3) := by decide +kernel
theorem dX6_least_51 : decode cX6_least 51 = .ok (.ifCond .eq 25, 3) := by decide +kernel
theorem dX6_least_54 : decode cX6_least 54 = .ok (.aload_n 0, 1) := by decide +kernel
theorem dX6_least_55 : decode cX6_least 55 = .ok (.getfield 44, 3) := by decide +kernel
theorem dX6_least_58 : decode cX6_least 58 = .ok (.iload_n 3, 1) := by decide +kernel
theorem dX6_least_59 : decode cX6_least 59 = .ok (.iaload, 1) := by decide +kernel
theorem dX6_least_60 : decode cX6_least 60 = .ok (.ifCond .lt 16, 3) := by decide +kernel
theorem dX6_least_63 : decode cX6_least 63 = .ok (.iload_n 2, 1) := by decide +kernel
theorem dX6_least_64 : decode cX6_least 64 = .ok (.aload_n 0, 1) := by decide +kernel
theorem dX6_least_65 : decode cX6_least 65 = .ok (.getfield 44, 3) := by decide +kernel
theorem dX6_least_68 : decode cX6_least 68 = .ok (.iload_n 3, 1) := by decide +kernel
theorem dX6_least_69 : decode cX6_least 69 = .ok (.iaload, 1) := by decide +kernel
theorem dX6_least_70 : decode cX6_least 70 = .ok (.invokestatic 150, 3) := by decide +kernel
theorem dX6_least_73 : decode cX6_least 73 = .ok (.goto 4, 3) := by decide +kernel
theorem dX6_least_76 : decode cX6_least 76 = .ok (.iload_n 2, 1) := by decide +kernel
theorem dX6_least_77 : decode cX6_least 77 = .ok (.istore_n 2, 1) := by decide +kernel
theorem dX6_least_78 : decode cX6_least 78 = .ok (.iinc 3 1, 3) := by decide +kernel
theorem dX6_least_81 : decode cX6_least 81 = .ok (.goto (-41), 3) := by decide +kernel
theorem dX6_least_84 : decode cX6_least 84 = .ok (.iload_n 2, 1) := by decide +kernel
theorem dX6_least_85 : decode cX6_least 85 = .ok (.ifCond .ge 8, 3) := by decide +kernel
theorem dX6_least_88 : decode cX6_least 88 = .ok (.bipush (-4), 2) := by decide +kernel
theorem dX6_least_90 : decode cX6_least 90 = .ok (.goto 4, 3) := by decide +kernel
theorem dX6_least_93 : decode cX6_least 93 = .ok (.iload_n 2, 1) := by decide +kernel
theorem dX6_least_94 : decode cX6_least 94 = .ok (.ireturn, 1) := by decide +kernel
theorem dX6_priceWithout_0 : decode cX6_priceWithout 0 = .ok (.aload_n 0, 1) := by decide +kernel
theorem dX6_priceWithout_1 : decode cX6_priceWithout 1 = .ok (.aload_n 0, 1) := by decide +kernel
theorem dX6_priceWithout_2 : decode cX6_priceWithout 2 = .ok (.getfield 83, 3) := by decide +kernel
theorem dX6_priceWithout_5 : decode cX6_priceWithout 5 = .ok (.iload_n 1, 1) := by decide +kernel
theorem dX6_priceWithout_6 : decode cX6_priceWithout 6 = .ok (.invokevirtual 170, 3) := by decide +kernel
theorem dX6_priceWithout_9 : decode cX6_priceWithout 9 = .ok (.aload_n 0, 1) := by decide +kernel
theorem dX6_priceWithout_10 : decode cX6_priceWithout 10 = .ok (.aload_n 0, 1) := by decide +kernel
theorem dX6_priceWithout_11 : decode cX6_priceWithout 11 = .ok (.getfield 83, 3) := by decide +kernel
theorem dX6_priceWithout_14 : decode cX6_priceWithout 14 = .ok (.invokevirtual 173, 3) := by decide +kernel
theorem dX6_priceWithout_17 : decode cX6_priceWithout 17 = .ok (.ireturn, 1) := by decide +kernel
theorem dX6_price_0 : decode cX6_price 0 = .ok (.aload_n 0, 1) := by decide +kernel
theorem dX6_price_1 : decode cX6_price 1 = .ok (.bipush (-4), 2) := by decide +kernel
theorem dX6_price_3 : decode cX6_price 3 = .ok (.invokevirtual 177, 3) := by decide +kernel
theorem dX6_price_6 : decode cX6_price 6 = .ok (.ireturn, 1) := by decide +kernel
theorem dX6_edge_0 : decode cX6_edge 0 = .ok (.aload_n 0, 1) := by decide +kernel
theorem dX6_edge_1 : decode cX6_edge 1 = .ok (.invokevirtual 161, 3) := by decide +kernel
theorem dX6_edge_4 : decode cX6_edge 4 = .ok (.iload_n 1, 1) := by decide +kernel
theorem dX6_edge_5 : decode cX6_edge 5 = .ok (.iconst 0, 1) := by decide +kernel
theorem dX6_edge_6 : decode cX6_edge 6 = .ok (.aload_n 0, 1) := by decide +kernel
theorem dX6_edge_7 : decode cX6_edge 7 = .ok (.getfield 127, 3) := by decide +kernel
theorem dX6_edge_10 : decode cX6_edge 10 = .ok (.iconst 1, 1) := by decide +kernel
theorem dX6_edge_11 : decode cX6_edge 11 = .ok (.isub, 1) := by decide +kernel
theorem dX6_edge_12 : decode cX6_edge 12 = .ok (.invokestatic 99, 3) := by decide +kernel
theorem dX6_edge_15 : decode cX6_edge 15 = .ok (.ifCond .eq 24, 3) := by decide +kernel
theorem dX6_edge_18 : decode cX6_edge 18 = .ok (.iload_n 2, 1) := by decide +kernel
theorem dX6_edge_19 : decode cX6_edge 19 = .ok (.invokestatic 107, 3) := by decide +kernel
theorem dX6_edge_22 : decode cX6_edge 22 = .ok (.ifCond .eq 17, 3) := by decide +kernel
theorem dX6_edge_25 : decode cX6_edge 25 = .ok (.iload_n 3, 1) := by decide +kernel
theorem dX6_edge_26 : decode cX6_edge 26 = .ok (.iconst 0, 1) := by decide +kernel
theorem dX6_edge_27 : decode cX6_edge 27 = .ok (.aload_n 0, 1) := by decide +kernel
theorem dX6_edge_28 : decode cX6_edge 28 = .ok (.getfield 127, 3) := by decide +kernel
theorem dX6_edge_31 : decode cX6_edge 31 = .ok (.iconst 1, 1) := by decide +kernel
theorem dX6_edge_32 : decode cX6_edge 32 = .ok (.isub, 1) := by decide +kernel
theorem dX6_edge_33 : decode cX6_edge 33 = .ok (.invokestatic 99, 3) := by decide +kernel
theorem dX6_edge_36 : decode cX6_edge 36 = .ok (.ifCond .ne 5, 3) := by decide +kernel
theorem dX6_edge_39 : decode cX6_edge 39 = .ok (.iconst (-1), 1) := by decide +kernel
theorem dX6_edge_40 : decode cX6_edge 40 = .ok (.ireturn, 1) := by decide +kernel
theorem dX6_edge_41 : decode cX6_edge 41 = .ok (.aload_n 0, 1) := by decide +kernel
theorem dX6_edge_42 : decode cX6_edge 42 = .ok (.aload_n 0, 1) := by decide +kernel
theorem dX6_edge_43 : decode cX6_edge 43 = .ok (.getfield 83, 3) := by decide +kernel
theorem dX6_edge_46 : decode cX6_edge 46 = .ok (.bipush (-4), 2) := by decide +kernel
theorem dX6_edge_48 : decode cX6_edge 48 = .ok (.invokevirtual 170, 3) := by decide +kernel
theorem dX6_edge_51 : decode cX6_edge 51 = .ok (.aload_n 0, 1) := by decide +kernel
theorem dX6_edge_52 : decode cX6_edge 52 = .ok (.getfield 38, 3) := by decide +kernel
theorem dX6_edge_55 : decode cX6_edge 55 = .ok (.iload_n 1, 1) := by decide +kernel
theorem dX6_edge_56 : decode cX6_edge 56 = .ok (.iload_n 2, 1) := by decide +kernel
theorem dX6_edge_57 : decode cX6_edge 57 = .ok (.iload_n 3, 1) := by decide +kernel
theorem dX6_edge_58 : decode cX6_edge 58 = .ok (.invokestatic 130, 3) := by decide +kernel
theorem dX6_edge_61 : decode cX6_edge 61 = .ok (.iaload, 1) := by decide +kernel
theorem dX6_edge_62 : decode cX6_edge 62 = .ok (.istore 4, 2) := by decide +kernel
theorem dX6_edge_64 : decode cX6_edge 64 = .ok (.iload 4, 2) := by decide +kernel
theorem dX6_edge_66 : decode cX6_edge 66 = .ok (.ifCond .ge 8, 3) := by decide +kernel
theorem dX6_edge_69 : decode cX6_edge 69 = .ok (.bipush (-4), 2) := by decide +kernel
theorem dX6_edge_71 : decode cX6_edge 71 = .ok (.goto 5, 3) := by decide +kernel
theorem dX6_edge_74 : decode cX6_edge 74 = .ok (.iload 4, 2) := by decide +kernel
theorem dX6_edge_76 : decode cX6_edge 76 = .ok (.ireturn, 1) := by decide +kernel
theorem dX6_automaton_0 : decode cX6_automaton 0 = .ok (.iload_n 1, 1) := by decide +kernel
theorem dX6_automaton_1 : decode cX6_automaton 1 = .ok (.iconst 0, 1) := by decide +kernel
theorem dX6_automaton_2 : decode cX6_automaton 2 = .ok (.iconst 3, 1) := by decide +kernel
theorem dX6_automaton_3 : decode cX6_automaton 3 = .ok (.invokestatic 99, 3) := by decide +kernel
theorem dX6_automaton_6 : decode cX6_automaton 6 = .ok (.ifCond .ne 5, 3) := by decide +kernel
theorem dX6_automaton_9 : decode cX6_automaton 9 = .ok (.iconst (-1), 1) := by decide +kernel
theorem dX6_automaton_10 : decode cX6_automaton 10 = .ok (.ireturn, 1) := by decide +kernel
theorem dX6_automaton_11 : decode cX6_automaton 11 = .ok (.aload_n 0, 1) := by decide +kernel
theorem dX6_automaton_12 : decode cX6_automaton 12 = .ok (.aload_n 0, 1) := by decide +kernel
theorem dX6_automaton_13 : decode cX6_automaton 13 = .ok (.getfield 83, 3) := by decide +kernel
theorem dX6_automaton_16 : decode cX6_automaton 16 = .ok (.bipush (-4), 2) := by decide +kernel
theorem dX6_automaton_18 : decode cX6_automaton 18 = .ok (.invokevirtual 170, 3) := by decide +kernel
theorem dX6_automaton_21 : decode cX6_automaton 21 = .ok (.iload_n 1, 1) := by decide +kernel
theorem dX6_automaton_22 : decode cX6_automaton 22 = .ok (.ifCond .ne 10, 3) := by decide +kernel
theorem dX6_automaton_25 : decode cX6_automaton 25 = .ok (.aload_n 0, 1) := by decide +kernel
theorem dX6_automaton_26 : decode cX6_automaton 26 = .ok (.getfield 127, 3) := by decide +kernel
theorem dX6_automaton_29 : decode cX6_automaton 29 = .ok (.goto 31, 3) := by decide +kernel
theorem dX6_automaton_32 : decode cX6_automaton 32 = .ok (.iload_n 1, 1) := by decide +kernel
theorem dX6_automaton_33 : decode cX6_automaton 33 = .ok (.iconst 1, 1) := by decide +kernel
theorem dX6_automaton_34 : decode cX6_automaton 34 = .ok (.if_icmp .ne 10, 3) := by decide +kernel
theorem dX6_automaton_37 : decode cX6_automaton 37 = .ok (.aload_n 0, 1) := by decide +kernel
theorem dX6_automaton_38 : decode cX6_automaton 38 = .ok (.getfield 141, 3) := by decide +kernel
theorem dX6_automaton_41 : decode cX6_automaton 41 = .ok (.goto 19, 3) := by decide +kernel
theorem dX6_automaton_44 : decode cX6_automaton 44 = .ok (.iload_n 1, 1) := by decide +kernel
theorem dX6_automaton_45 : decode cX6_automaton 45 = .ok (.iconst 2, 1) := by decide +kernel
theorem dX6_automaton_46 : decode cX6_automaton 46 = .ok (.if_icmp .ne 10, 3) := by decide +kernel
theorem dX6_automaton_49 : decode cX6_automaton 49 = .ok (.aload_n 0, 1) := by decide +kernel
theorem dX6_automaton_50 : decode cX6_automaton 50 = .ok (.invokevirtual 137, 3) := by decide +kernel
theorem dX6_automaton_53 : decode cX6_automaton 53 = .ok (.goto 7, 3) := by decide +kernel
theorem dX6_automaton_56 : decode cX6_automaton 56 = .ok (.aload_n 0, 1) := by decide +kernel
theorem dX6_automaton_57 : decode cX6_automaton 57 = .ok (.getfield 144, 3) := by decide +kernel
theorem dX6_automaton_60 : decode cX6_automaton 60 = .ok (.ireturn, 1) := by decide +kernel
theorem dX6_needed_0 : decode cX6_needed 0 = .ok (.iconst 0, 1) := by decide +kernel
theorem dX6_needed_1 : decode cX6_needed 1 = .ok (.istore_n 1, 1) := by decide +kernel
theorem dX6_needed_2 : decode cX6_needed 2 = .ok (.aload_n 0, 1) := by decide +kernel
theorem dX6_needed_3 : decode cX6_needed 3 = .ok (.invokevirtual 180, 3) := by decide +kernel
theorem dX6_needed_6 : decode cX6_needed 6 = .ok (.bipush (-4), 2) := by decide +kernel
theorem dX6_needed_8 : decode cX6_needed 8 = .ok (.if_icmp .eq 39, 3) := by decide +kernel
theorem dX6_needed_11 : decode cX6_needed 11 = .ok (.iconst 0, 1) := by decide +kernel
theorem dX6_needed_12 : decode cX6_needed 12 = .ok (.istore_n 2, 1) := by decide +kernel
theorem dX6_needed_13 : decode cX6_needed 13 = .ok (.iload_n 2, 1) := by decide +kernel
theorem dX6_needed_14 : decode cX6_needed 14 = .ok (.aload_n 0, 1) := by decide +kernel
theorem dX6_needed_15 : decode cX6_needed 15 = .ok (.getfield 13, 3) := by decide +kernel
theorem dX6_needed_18 : decode cX6_needed 18 = .ok (.if_icmp .ge 29, 3) := by decide +kernel
theorem dX6_needed_21 : decode cX6_needed 21 = .ok (.iload_n 1, 1) := by decide +kernel
theorem dX6_needed_22 : decode cX6_needed 22 = .ok (.aload_n 0, 1) := by decide +kernel
theorem dX6_needed_23 : decode cX6_needed 23 = .ok (.iload_n 2, 1) := by decide +kernel
theorem dX6_needed_24 : decode cX6_needed 24 = .ok (.invokevirtual 177, 3) := by decide +kernel
theorem dX6_needed_27 : decode cX6_needed 27 = .ok (.bipush (-4), 2) := by decide +kernel
theorem dX6_needed_29 : decode cX6_needed 29 = .ok (.if_icmp .ne 9, 3) := by decide +kernel
theorem dX6_needed_32 : decode cX6_needed 32 = .ok (.iconst 1, 1) := by decide +kernel
theorem dX6_needed_33 : decode cX6_needed 33 = .ok (.iload_n 2, 1) := by decide +kernel
theorem dX6_needed_34 : decode cX6_needed 34 = .ok (.ishl, 1) := by decide +kernel
theorem dX6_needed_35 : decode cX6_needed 35 = .ok (.goto 4, 3) := by decide +kernel
theorem dX6_needed_38 : decode cX6_needed 38 = .ok (.iconst 0, 1) := by decide +kernel
theorem dX6_needed_39 : decode cX6_needed 39 = .ok (.ior, 1) := by decide +kernel
theorem dX6_needed_40 : decode cX6_needed 40 = .ok (.istore_n 1, 1) := by decide +kernel
theorem dX6_needed_41 : decode cX6_needed 41 = .ok (.iinc 2 1, 3) := by decide +kernel
theorem dX6_needed_44 : decode cX6_needed 44 = .ok (.goto (-31), 3) := by decide +kernel
theorem dX6_needed_47 : decode cX6_needed 47 = .ok (.iload_n 1, 1) := by decide +kernel
theorem dX6_needed_48 : decode cX6_needed 48 = .ok (.ireturn, 1) := by decide +kernel
theorem dX6_dear_0 : decode cX6_dear 0 = .ok (.aload_n 0, 1) := by decide +kernel
theorem dX6_dear_1 : decode cX6_dear 1 = .ok (.iload_n 1, 1) := by decide +kernel
theorem dX6_dear_2 : decode cX6_dear 2 = .ok (.invokevirtual 103, 3) := by decide +kernel
theorem dX6_dear_5 : decode cX6_dear 5 = .ok (.ifCond .ne 5, 3) := by decide +kernel
theorem dX6_dear_8 : decode cX6_dear 8 = .ok (.iconst (-1), 1) := by decide +kernel
theorem dX6_dear_9 : decode cX6_dear 9 = .ok (.ireturn, 1) := by decide +kernel
theorem dX6_dear_10 : decode cX6_dear 10 = .ok (.aload_n 0, 1) := by decide +kernel
theorem dX6_dear_11 : decode cX6_dear 11 = .ok (.invokevirtual 180, 3) := by decide +kernel
theorem dX6_dear_14 : decode cX6_dear 14 = .ok (.istore_n 2, 1) := by decide +kernel
theorem dX6_dear_15 : decode cX6_dear 15 = .ok (.iload_n 2, 1) := by decide +kernel
theorem dX6_dear_16 : decode cX6_dear 16 = .ok (.bipush (-4), 2) := by decide +kernel
theorem dX6_dear_18 : decode cX6_dear 18 = .ok (.if_icmp .ne 6, 3) := by decide +kernel
theorem dX6_dear_21 : decode cX6_dear 21 = .ok (.bipush (-4), 2) := by decide +kernel
theorem dX6_dear_23 : decode cX6_dear 23 = .ok (.ireturn, 1) := by decide +kernel
theorem dX6_dear_24 : decode cX6_dear 24 = .ok (.aload_n 0, 1) := by decide +kernel
theorem dX6_dear_25 : decode cX6_dear 25 = .ok (.getfield 16, 3) := by decide +kernel
theorem dX6_dear_28 : decode cX6_dear 28 = .ok (.bipush 7, 2) := by decide +kernel
theorem dX6_dear_30 : decode cX6_dear 30 = .ok (.iload_n 1, 1) := by decide +kernel
theorem dX6_dear_31 : decode cX6_dear 31 = .ok (.imul, 1) := by decide +kernel
theorem dX6_dear_32 : decode cX6_dear 32 = .ok (.bipush 6, 2) := by decide +kernel
theorem dX6_dear_34 : decode cX6_dear 34 = .ok (.iadd, 1) := by decide +kernel
theorem dX6_dear_35 : decode cX6_dear 35 = .ok (.iaload, 1) := by decide +kernel
theorem dX6_dear_36 : decode cX6_dear 36 = .ok (.istore_n 3, 1) := by decide +kernel
theorem dX6_dear_37 : decode cX6_dear 37 = .ok (.bipush 9, 2) := by decide +kernel
theorem dX6_dear_39 : decode cX6_dear 39 = .ok (.istore 4, 2) := by decide +kernel
theorem dX6_dear_41 : decode cX6_dear 41 = .ok (.aload_n 0, 1) := by decide +kernel
theorem dX6_dear_42 : decode cX6_dear 42 = .ok (.getfield 16, 3) := by decide +kernel
theorem dX6_dear_45 : decode cX6_dear 45 = .ok (.bipush 7, 2) := by decide +kernel
theorem dX6_dear_47 : decode cX6_dear 47 = .ok (.iload_n 1, 1) := by decide +kernel
theorem dX6_dear_48 : decode cX6_dear 48 = .ok (.imul, 1) := by decide +kernel
theorem dX6_dear_49 : decode cX6_dear 49 = .ok (.bipush 6, 2) := by decide +kernel
theorem dX6_dear_51 : decode cX6_dear 51 = .ok (.iadd, 1) := by decide +kernel
theorem dX6_dear_52 : decode cX6_dear 52 = .ok (.bipush 9, 2) := by decide +kernel
theorem dX6_dear_54 : decode cX6_dear 54 = .ok (.iastore, 1) := by decide +kernel
theorem dX6_dear_55 : decode cX6_dear 55 = .ok (.iload 4, 2) := by decide +kernel
theorem dX6_dear_57 : decode cX6_dear 57 = .ok (.iload_n 3, 1) := by decide +kernel
theorem dX6_dear_58 : decode cX6_dear 58 = .ok (.if_icmp .le 31, 3) := by decide +kernel
theorem dX6_dear_61 : decode cX6_dear 61 = .ok (.aload_n 0, 1) := by decide +kernel
theorem dX6_dear_62 : decode cX6_dear 62 = .ok (.invokevirtual 180, 3) := by decide +kernel
theorem dX6_dear_65 : decode cX6_dear 65 = .ok (.iload_n 2, 1) := by decide +kernel
theorem dX6_dear_66 : decode cX6_dear 66 = .ok (.if_icmp .eq 23, 3) := by decide +kernel
theorem dX6_dear_69 : decode cX6_dear 69 = .ok (.iinc 4 (-1), 3) := by decide +kernel
theorem dX6_dear_72 : decode cX6_dear 72 = .ok (.aload_n 0, 1) := by decide +kernel
theorem dX6_dear_73 : decode cX6_dear 73 = .ok (.getfield 16, 3) := by decide +kernel
theorem dX6_dear_76 : decode cX6_dear 76 = .ok (.bipush 7, 2) := by decide +kernel
theorem dX6_dear_78 : decode cX6_dear 78 = .ok (.iload_n 1, 1) := by decide +kernel
theorem dX6_dear_79 : decode cX6_dear 79 = .ok (.imul, 1) := by decide +kernel
theorem dX6_dear_80 : decode cX6_dear 80 = .ok (.bipush 6, 2) := by decide +kernel
theorem dX6_dear_82 : decode cX6_dear 82 = .ok (.iadd, 1) := by decide +kernel
theorem dX6_dear_83 : decode cX6_dear 83 = .ok (.iload 4, 2) := by decide +kernel
theorem dX6_dear_85 : decode cX6_dear 85 = .ok (.iastore, 1) := by decide +kernel
theorem dX6_dear_86 : decode cX6_dear 86 = .ok (.goto (-31), 3) := by decide +kernel
theorem dX6_dear_89 : decode cX6_dear 89 = .ok (.aload_n 0, 1) := by decide +kernel
theorem dX6_dear_90 : decode cX6_dear 90 = .ok (.getfield 16, 3) := by decide +kernel
theorem dX6_dear_93 : decode cX6_dear 93 = .ok (.bipush 7, 2) := by decide +kernel
theorem dX6_dear_95 : decode cX6_dear 95 = .ok (.iload_n 1, 1) := by decide +kernel
theorem dX6_dear_96 : decode cX6_dear 96 = .ok (.imul, 1) := by decide +kernel
theorem dX6_dear_97 : decode cX6_dear 97 = .ok (.bipush 6, 2) := by decide +kernel
theorem dX6_dear_99 : decode cX6_dear 99 = .ok (.iadd, 1) := by decide +kernel
theorem dX6_dear_100 : decode cX6_dear 100 = .ok (.iload_n 3, 1) := by decide +kernel
theorem dX6_dear_101 : decode cX6_dear 101 = .ok (.iastore, 1) := by decide +kernel
theorem dX6_dear_102 : decode cX6_dear 102 = .ok (.iload 4, 2) := by decide +kernel
theorem dX6_dear_104 : decode cX6_dear 104 = .ok (.ireturn, 1) := by decide +kernel
theorem dX6_goesBy_0 : decode cX6_goesBy 0 = .ok (.iconst 0, 1) := by decide +kernel
theorem dX6_goesBy_1 : decode cX6_goesBy 1 = .ok (.istore_n 2, 1) := by decide +kernel
theorem dX6_goesBy_2 : decode cX6_goesBy 2 = .ok (.iload_n 2, 1) := by decide +kernel
theorem dX6_goesBy_3 : decode cX6_goesBy 3 = .ok (.bipush 13, 2) := by decide +kernel
theorem dX6_goesBy_5 : decode cX6_goesBy 5 = .ok (.if_icmp .ge 81, 3) := by decide +kernel
theorem dX6_goesBy_8 : decode cX6_goesBy 8 = .ok (.aload_n 0, 1) := by decide +kernel
theorem dX6_goesBy_9 : decode cX6_goesBy 9 = .ok (.getfield 59, 3) := by decide +kernel
theorem dX6_goesBy_12 : decode cX6_goesBy 12 = .ok (.iload_n 2, 1) := by decide +kernel
theorem dX6_goesBy_13 : decode cX6_goesBy 13 = .ok (.iconst (-1), 1) := by decide +kernel
theorem dX6_goesBy_14 : decode cX6_goesBy 14 = .ok (.iastore, 1) := by decide +kernel
theorem dX6_goesBy_15 : decode cX6_goesBy 15 = .ok (.iconst 0, 1) := by decide +kernel
theorem dX6_goesBy_16 : decode cX6_goesBy 16 = .ok (.istore_n 3, 1) := by decide +kernel
theorem dX6_goesBy_17 : decode cX6_goesBy 17 = .ok (.iload_n 3, 1) := by decide +kernel
theorem dX6_goesBy_18 : decode cX6_goesBy 18 = .ok (.bipush 13, 2) := by decide +kernel
theorem dX6_goesBy_20 : decode cX6_goesBy 20 = .ok (.if_icmp .ge 60, 3) := by decide +kernel
theorem dX6_goesBy_23 : decode cX6_goesBy 23 = .ok (.aload_n 0, 1) := by decide +kernel
theorem dX6_goesBy_24 : decode cX6_goesBy 24 = .ok (.getfield 38, 3) := by decide +kernel
theorem dX6_goesBy_27 : decode cX6_goesBy 27 = .ok (.iload_n 2, 1) := by decide +kernel
theorem dX6_goesBy_28 : decode cX6_goesBy 28 = .ok (.iload_n 1, 1) := by decide +kernel
theorem dX6_goesBy_29 : decode cX6_goesBy 29 = .ok (.iload_n 3, 1) := by decide +kernel
theorem dX6_goesBy_30 : decode cX6_goesBy 30 = .ok (.invokestatic 130, 3) := by decide +kernel
theorem dX6_goesBy_33 : decode cX6_goesBy 33 = .ok (.iaload, 1) := by decide +kernel
theorem dX6_goesBy_34 : decode cX6_goesBy 34 = .ok (.istore 4, 2) := by decide +kernel
theorem dX6_goesBy_36 : decode cX6_goesBy 36 = .ok (.iload 4, 2) := by decide +kernel
theorem dX6_goesBy_38 : decode cX6_goesBy 38 = .ok (.ifCond .lt 36, 3) := by decide +kernel
theorem dX6_goesBy_41 : decode cX6_goesBy 41 = .ok (.aload_n 0, 1) := by decide +kernel
theorem dX6_goesBy_42 : decode cX6_goesBy 42 = .ok (.getfield 56, 3) := by decide +kernel
theorem dX6_goesBy_45 : decode cX6_goesBy 45 = .ok (.iload_n 3, 1) := by decide +kernel
theorem dX6_goesBy_46 : decode cX6_goesBy 46 = .ok (.iaload, 1) := by decide +kernel
theorem dX6_goesBy_47 : decode cX6_goesBy 47 = .ok (.ifCond .lt 27, 3) := by decide +kernel
theorem dX6_goesBy_50 : decode cX6_goesBy 50 = .ok (.aload_n 0, 1) := by decide +kernel
theorem dX6_goesBy_51 : decode cX6_goesBy 51 = .ok (.getfield 59, 3) := by decide +kernel
theorem dX6_goesBy_54 : decode cX6_goesBy 54 = .ok (.iload_n 2, 1) := by decide +kernel
theorem dX6_goesBy_55 : decode cX6_goesBy 55 = .ok (.aload_n 0, 1) := by decide +kernel
theorem dX6_goesBy_56 : decode cX6_goesBy 56 = .ok (.getfield 59, 3) := by decide +kernel
theorem dX6_goesBy_59 : decode cX6_goesBy 59 = .ok (.iload_n 2, 1) := by decide +kernel
theorem dX6_goesBy_60 : decode cX6_goesBy 60 = .ok (.iaload, 1) := by decide +kernel
theorem dX6_goesBy_61 : decode cX6_goesBy 61 = .ok (.iload 4, 2) := by decide +kernel
theorem dX6_goesBy_63 : decode cX6_goesBy 63 = .ok (.aload_n 0, 1) := by decide +kernel
theorem dX6_goesBy_64 : decode cX6_goesBy 64 = .ok (.getfield 56, 3) := by decide +kernel
theorem dX6_goesBy_67 : decode cX6_goesBy 67 = .ok (.iload_n 3, 1) := by decide +kernel
theorem dX6_goesBy_68 : decode cX6_goesBy 68 = .ok (.iaload, 1) := by decide +kernel
theorem dX6_goesBy_69 : decode cX6_goesBy 69 = .ok (.iadd, 1) := by decide +kernel
theorem dX6_goesBy_70 : decode cX6_goesBy 70 = .ok (.invokestatic 150, 3) := by decide +kernel
theorem dX6_goesBy_73 : decode cX6_goesBy 73 = .ok (.iastore, 1) := by decide +kernel
theorem dX6_goesBy_74 : decode cX6_goesBy 74 = .ok (.iinc 3 1, 3) := by decide +kernel
theorem dX6_goesBy_77 : decode cX6_goesBy 77 = .ok (.goto (-60), 3) := by decide +kernel
theorem dX6_goesBy_80 : decode cX6_goesBy 80 = .ok (.iinc 2 1, 3) := by decide +kernel
theorem dX6_goesBy_83 : decode cX6_goesBy 83 = .ok (.goto (-81), 3) := by decide +kernel
theorem dX6_goesBy_86 : decode cX6_goesBy 86 = .ok (.iconst 0, 1) := by decide +kernel
theorem dX6_goesBy_87 : decode cX6_goesBy 87 = .ok (.istore_n 2, 1) := by decide +kernel
theorem dX6_goesBy_88 : decode cX6_goesBy 88 = .ok (.iload_n 2, 1) := by decide +kernel
theorem dX6_goesBy_89 : decode cX6_goesBy 89 = .ok (.bipush 13, 2) := by decide +kernel
theorem dX6_goesBy_91 : decode cX6_goesBy 91 = .ok (.if_icmp .ge 21, 3) := by decide +kernel
theorem dX6_goesBy_94 : decode cX6_goesBy 94 = .ok (.aload_n 0, 1) := by decide +kernel
theorem dX6_goesBy_95 : decode cX6_goesBy 95 = .ok (.getfield 56, 3) := by decide +kernel
theorem dX6_goesBy_98 : decode cX6_goesBy 98 = .ok (.iload_n 2, 1) := by decide +kernel
theorem dX6_goesBy_99 : decode cX6_goesBy 99 = .ok (.aload_n 0, 1) := by decide +kernel
theorem dX6_goesBy_100 : decode cX6_goesBy 100 = .ok (.getfield 59, 3) := by decide +kernel
theorem dX6_goesBy_103 : decode cX6_goesBy 103 = .ok (.iload_n 2, 1) := by decide +kernel
theorem dX6_goesBy_104 : decode cX6_goesBy 104 = .ok (.iaload, 1) := by decide +kernel
theorem dX6_goesBy_105 : decode cX6_goesBy 105 = .ok (.iastore, 1) := by decide +kernel
theorem dX6_goesBy_106 : decode cX6_goesBy 106 = .ok (.iinc 2 1, 3) := by decide +kernel
theorem dX6_goesBy_109 : decode cX6_goesBy 109 = .ok (.goto (-21), 3) := by decide +kernel
theorem dX6_goesBy_112 : decode cX6_goesBy 112 = .ok (.return_, 1) := by decide +kernel
theorem dX6_standsOn_0 : decode cX6_standsOn 0 = .ok (.iconst 0, 1) := by decide +kernel
theorem dX6_standsOn_1 : decode cX6_standsOn 1 = .ok (.istore_n 2, 1) := by decide +kernel
theorem dX6_standsOn_2 : decode cX6_standsOn 2 = .ok (.iload_n 2, 1) := by decide +kernel
theorem dX6_standsOn_3 : decode cX6_standsOn 3 = .ok (.bipush 13, 2) := by decide +kernel
theorem dX6_standsOn_5 : decode cX6_standsOn 5 = .ok (.if_icmp .ge 26, 3) := by decide +kernel
theorem dX6_standsOn_8 : decode cX6_standsOn 8 = .ok (.aload_n 0, 1) := by decide +kernel
theorem dX6_standsOn_9 : decode cX6_standsOn 9 = .ok (.getfield 56, 3) := by decide +kernel
theorem dX6_standsOn_12 : decode cX6_standsOn 12 = .ok (.iload_n 2, 1) := by decide +kernel
theorem dX6_standsOn_13 : decode cX6_standsOn 13 = .ok (.aload_n 0, 1) := by decide +kernel
theorem dX6_standsOn_14 : decode cX6_standsOn 14 = .ok (.getfield 53, 3) := by decide +kernel
theorem dX6_standsOn_17 : decode cX6_standsOn 17 = .ok (.bipush 13, 2) := by decide +kernel
theorem dX6_standsOn_19 : decode cX6_standsOn 19 = .ok (.iload_n 1, 1) := by decide +kernel
theorem dX6_standsOn_20 : decode cX6_standsOn 20 = .ok (.imul, 1) := by decide +kernel
theorem dX6_standsOn_21 : decode cX6_standsOn 21 = .ok (.iload_n 2, 1) := by decide +kernel
theorem dX6_standsOn_22 : decode cX6_standsOn 22 = .ok (.iadd, 1) := by decide +kernel
theorem dX6_standsOn_23 : decode cX6_standsOn 23 = .ok (.iaload, 1) := by decide +kernel
theorem dX6_standsOn_24 : decode cX6_standsOn 24 = .ok (.iastore, 1) := by decide +kernel
theorem dX6_standsOn_25 : decode cX6_standsOn 25 = .ok (.iinc 2 1, 3) := by decide +kernel
theorem dX6_standsOn_28 : decode cX6_standsOn 28 = .ok (.goto (-26), 3) := by decide +kernel
theorem dX6_standsOn_31 : decode cX6_standsOn 31 = .ok (.return_, 1) := by decide +kernel
theorem dX6_puts_0 : decode cX6_puts 0 = .ok (.aload_n 0, 1) := by decide +kernel
theorem dX6_puts_1 : decode cX6_puts 1 = .ok (.aload_n 0, 1) := by decide +kernel
theorem dX6_puts_2 : decode cX6_puts 2 = .ok (.getfield 183, 3) := by decide +kernel
theorem dX6_puts_5 : decode cX6_puts 5 = .ok (.invokevirtual 186, 3) := by decide +kernel
theorem dX6_puts_8 : decode cX6_puts 8 = .ok (.aload_n 0, 1) := by decide +kernel
theorem dX6_puts_9 : decode cX6_puts 9 = .ok (.iload_n 1, 1) := by decide +kernel
theorem dX6_puts_10 : decode cX6_puts 10 = .ok (.invokevirtual 189, 3) := by decide +kernel
theorem dX6_puts_13 : decode cX6_puts 13 = .ok (.aload_n 0, 1) := by decide +kernel
theorem dX6_puts_14 : decode cX6_puts 14 = .ok (.getfield 50, 3) := by decide +kernel
theorem dX6_puts_17 : decode cX6_puts 17 = .ok (.aload_n 0, 1) := by decide +kernel
theorem dX6_puts_18 : decode cX6_puts 18 = .ok (.getfield 183, 3) := by decide +kernel
theorem dX6_puts_21 : decode cX6_puts 21 = .ok (.iload_n 1, 1) := by decide +kernel
theorem dX6_puts_22 : decode cX6_puts 22 = .ok (.iastore, 1) := by decide +kernel
theorem dX6_puts_23 : decode cX6_puts 23 = .ok (.aload_n 0, 1) := by decide +kernel
theorem dX6_puts_24 : decode cX6_puts 24 = .ok (.dup, 1) := by decide +kernel
theorem dX6_puts_25 : decode cX6_puts 25 = .ok (.getfield 183, 3) := by decide +kernel
theorem dX6_puts_28 : decode cX6_puts 28 = .ok (.iconst 1, 1) := by decide +kernel
theorem dX6_puts_29 : decode cX6_puts 29 = .ok (.iadd, 1) := by decide +kernel
theorem dX6_puts_30 : decode cX6_puts 30 = .ok (.putfield 183, 3) := by decide +kernel
theorem dX6_puts_33 : decode cX6_puts 33 = .ok (.iconst 0, 1) := by decide +kernel
theorem dX6_puts_34 : decode cX6_puts 34 = .ok (.istore_n 2, 1) := by decide +kernel
theorem dX6_puts_35 : decode cX6_puts 35 = .ok (.iload_n 2, 1) := by decide +kernel
theorem dX6_puts_36 : decode cX6_puts 36 = .ok (.bipush 13, 2) := by decide +kernel
theorem dX6_puts_38 : decode cX6_puts 38 = .ok (.if_icmp .ge 29, 3) := by decide +kernel
theorem dX6_puts_41 : decode cX6_puts 41 = .ok (.aload_n 0, 1) := by decide +kernel
theorem dX6_puts_42 : decode cX6_puts 42 = .ok (.getfield 53, 3) := by decide +kernel
theorem dX6_puts_45 : decode cX6_puts 45 = .ok (.bipush 13, 2) := by decide +kernel
theorem dX6_puts_47 : decode cX6_puts 47 = .ok (.aload_n 0, 1) := by decide +kernel
theorem dX6_puts_48 : decode cX6_puts 48 = .ok (.getfield 183, 3) := by decide +kernel
theorem dX6_puts_51 : decode cX6_puts 51 = .ok (.imul, 1) := by decide +kernel
theorem dX6_puts_52 : decode cX6_puts 52 = .ok (.iload_n 2, 1) := by decide +kernel
theorem dX6_puts_53 : decode cX6_puts 53 = .ok (.iadd, 1) := by decide +kernel
theorem dX6_puts_54 : decode cX6_puts 54 = .ok (.aload_n 0, 1) := by decide +kernel
theorem dX6_puts_55 : decode cX6_puts 55 = .ok (.getfield 56, 3) := by decide +kernel
theorem dX6_puts_58 : decode cX6_puts 58 = .ok (.iload_n 2, 1) := by decide +kernel
theorem dX6_puts_59 : decode cX6_puts 59 = .ok (.iaload, 1) := by decide +kernel
theorem dX6_puts_60 : decode cX6_puts 60 = .ok (.iastore, 1) := by decide +kernel
theorem dX6_puts_61 : decode cX6_puts 61 = .ok (.iinc 2 1, 3) := by decide +kernel
theorem dX6_puts_64 : decode cX6_puts 64 = .ok (.goto (-29), 3) := by decide +kernel
theorem dX6_puts_67 : decode cX6_puts 67 = .ok (.return_, 1) := by decide +kernel
theorem dX6_behind_0 : decode cX6_behind 0 = .ok (.aload_n 0, 1) := by decide +kernel
theorem dX6_behind_1 : decode cX6_behind 1 = .ok (.aload_n 0, 1) := by decide +kernel
theorem dX6_behind_2 : decode cX6_behind 2 = .ok (.getfield 183, 3) := by decide +kernel
theorem dX6_behind_5 : decode cX6_behind 5 = .ok (.iconst 1, 1) := by decide +kernel
theorem dX6_behind_6 : decode cX6_behind 6 = .ok (.isub, 1) := by decide +kernel
theorem dX6_behind_7 : decode cX6_behind 7 = .ok (.invokevirtual 186, 3) := by decide +kernel
theorem dX6_behind_10 : decode cX6_behind 10 = .ok (.aload_n 0, 1) := by decide +kernel
theorem dX6_behind_11 : decode cX6_behind 11 = .ok (.getfield 16, 3) := by decide +kernel
theorem dX6_behind_14 : decode cX6_behind 14 = .ok (.bipush 7, 2) := by decide +kernel
theorem dX6_behind_16 : decode cX6_behind 16 = .ok (.iload_n 1, 1) := by decide +kernel
theorem dX6_behind_17 : decode cX6_behind 17 = .ok (.imul, 1) := by decide +kernel
theorem dX6_behind_18 : decode cX6_behind 18 = .ok (.iconst 3, 1) := by decide +kernel
theorem dX6_behind_19 : decode cX6_behind 19 = .ok (.iadd, 1) := by decide +kernel
theorem dX6_behind_20 : decode cX6_behind 20 = .ok (.iaload, 1) := by decide +kernel
theorem dX6_behind_21 : decode cX6_behind 21 = .ok (.iconst 1, 1) := by decide +kernel
theorem dX6_behind_22 : decode cX6_behind 22 = .ok (.isub, 1) := by decide +kernel
theorem dX6_behind_23 : decode cX6_behind 23 = .ok (.istore_n 2, 1) := by decide +kernel
theorem dX6_behind_24 : decode cX6_behind 24 = .ok (.iload_n 2, 1) := by decide +kernel
theorem dX6_behind_25 : decode cX6_behind 25 = .ok (.ifCond .lt 26, 3) := by decide +kernel
theorem dX6_behind_28 : decode cX6_behind 28 = .ok (.aload_n 0, 1) := by decide +kernel
theorem dX6_behind_29 : decode cX6_behind 29 = .ok (.aload_n 0, 1) := by decide +kernel
theorem dX6_behind_30 : decode cX6_behind 30 = .ok (.getfield 16, 3) := by decide +kernel
theorem dX6_behind_33 : decode cX6_behind 33 = .ok (.bipush 7, 2) := by decide +kernel
theorem dX6_behind_35 : decode cX6_behind 35 = .ok (.iload_n 1, 1) := by decide +kernel
theorem dX6_behind_36 : decode cX6_behind 36 = .ok (.imul, 1) := by decide +kernel
theorem dX6_behind_37 : decode cX6_behind 37 = .ok (.iconst 4, 1) := by decide +kernel
theorem dX6_behind_38 : decode cX6_behind 38 = .ok (.iadd, 1) := by decide +kernel
theorem dX6_behind_39 : decode cX6_behind 39 = .ok (.iload_n 2, 1) := by decide +kernel
theorem dX6_behind_40 : decode cX6_behind 40 = .ok (.iadd, 1) := by decide +kernel
theorem dX6_behind_41 : decode cX6_behind 41 = .ok (.iaload, 1) := by decide +kernel
theorem dX6_behind_42 : decode cX6_behind 42 = .ok (.invokevirtual 189, 3) := by decide +kernel
theorem dX6_behind_45 : decode cX6_behind 45 = .ok (.iinc 2 (-1), 3) := by decide +kernel
theorem dX6_behind_48 : decode cX6_behind 48 = .ok (.goto (-24), 3) := by decide +kernel
theorem dX6_behind_51 : decode cX6_behind 51 = .ok (.aload_n 0, 1) := by decide +kernel
theorem dX6_behind_52 : decode cX6_behind 52 = .ok (.getfield 56, 3) := by decide +kernel
theorem dX6_behind_55 : decode cX6_behind 55 = .ok (.aload_n 0, 1) := by decide +kernel
theorem dX6_behind_56 : decode cX6_behind 56 = .ok (.getfield 16, 3) := by decide +kernel
theorem dX6_behind_59 : decode cX6_behind 59 = .ok (.bipush 7, 2) := by decide +kernel
theorem dX6_behind_61 : decode cX6_behind 61 = .ok (.iload_n 1, 1) := by decide +kernel
theorem dX6_behind_62 : decode cX6_behind 62 = .ok (.imul, 1) := by decide +kernel
theorem dX6_behind_63 : decode cX6_behind 63 = .ok (.iconst 2, 1) := by decide +kernel
theorem dX6_behind_64 : decode cX6_behind 64 = .ok (.iadd, 1) := by decide +kernel
theorem dX6_behind_65 : decode cX6_behind 65 = .ok (.iaload, 1) := by decide +kernel
theorem dX6_behind_66 : decode cX6_behind 66 = .ok (.iaload, 1) := by decide +kernel
theorem dX6_behind_67 : decode cX6_behind 67 = .ok (.ireturn, 1) := by decide +kernel
theorem dX6_towerBegins_0 : decode cX6_towerBegins 0 = .ok (.aload_n 0, 1) := by decide +kernel
theorem dX6_towerBegins_1 : decode cX6_towerBegins 1 = .ok (.iconst 1, 1) := by decide +kernel
theorem dX6_towerBegins_2 : decode cX6_towerBegins 2 = .ok (.bipush (-4), 2) := by decide +kernel
theorem dX6_towerBegins_4 : decode cX6_towerBegins 4 = .ok (.invokevirtual 170, 3) := by decide +kernel
theorem dX6_towerBegins_7 : decode cX6_towerBegins 7 = .ok (.aload_n 0, 1) := by decide +kernel
theorem dX6_towerBegins_8 : decode cX6_towerBegins 8 = .ok (.iconst 0, 1) := by decide +kernel
theorem dX6_towerBegins_9 : decode cX6_towerBegins 9 = .ok (.putfield 183, 3) := by decide +kernel
theorem dX6_towerBegins_12 : decode cX6_towerBegins 12 = .ok (.iconst 0, 1) := by decide +kernel
theorem dX6_towerBegins_13 : decode cX6_towerBegins 13 = .ok (.istore_n 1, 1) := by decide +kernel
theorem dX6_towerBegins_14 : decode cX6_towerBegins 14 = .ok (.iload_n 1, 1) := by decide +kernel
theorem dX6_towerBegins_15 : decode cX6_towerBegins 15 = .ok (.bipush 13, 2) := by decide +kernel
theorem dX6_towerBegins_17 : decode cX6_towerBegins 17 = .ok (.if_icmp .ge 28, 3) := by decide +kernel
theorem dX6_towerBegins_20 : decode cX6_towerBegins 20 = .ok (.aload_n 0, 1) := by decide +kernel
theorem dX6_towerBegins_21 : decode cX6_towerBegins 21 = .ok (.getfield 53, 3) := by decide +kernel
theorem dX6_towerBegins_24 : decode cX6_towerBegins 24 = .ok (.iload_n 1, 1) := by decide +kernel
theorem dX6_towerBegins_25 : decode cX6_towerBegins 25 = .ok (.aload_n 0, 1) := by decide +kernel
theorem dX6_towerBegins_26 : decode cX6_towerBegins 26 = .ok (.iload_n 1, 1) := by decide +kernel
theorem dX6_towerBegins_27 : decode cX6_towerBegins 27 = .ok (.invokevirtual 167, 3) := by decide +kernel
theorem dX6_towerBegins_30 : decode cX6_towerBegins 30 = .ok (.ifCond .eq 7, 3) := by decide +kernel
theorem dX6_towerBegins_33 : decode cX6_towerBegins 33 = .ok (.iconst 0, 1) := by decide +kernel
theorem dX6_towerBegins_34 : decode cX6_towerBegins 34 = .ok (.goto 4, 3) := by decide +kernel
theorem dX6_towerBegins_37 : decode cX6_towerBegins 37 = .ok (.iconst (-1), 1) := by decide +kernel
theorem dX6_towerBegins_38 : decode cX6_towerBegins 38 = .ok (.iastore, 1) := by decide +kernel
theorem dX6_towerBegins_39 : decode cX6_towerBegins 39 = .ok (.iinc 1 1, 3) := by decide +kernel
theorem dX6_towerBegins_42 : decode cX6_towerBegins 42 = .ok (.goto (-28), 3) := by decide +kernel
theorem dX6_towerBegins_45 : decode cX6_towerBegins 45 = .ok (.iconst 0, 1) := by decide +kernel
theorem dX6_towerBegins_46 : decode cX6_towerBegins 46 = .ok (.istore_n 1, 1) := by decide +kernel
theorem dX6_towerBegins_47 : decode cX6_towerBegins 47 = .ok (.iload_n 1, 1) := by decide +kernel
theorem dX6_towerBegins_48 : decode cX6_towerBegins 48 = .ok (.aload_n 0, 1) := by decide +kernel
theorem dX6_towerBegins_49 : decode cX6_towerBegins 49 = .ok (.getfield 26, 3) := by decide +kernel
theorem dX6_towerBegins_52 : decode cX6_towerBegins 52 = .ok (.if_icmp .ge 19, 3) := by decide +kernel
theorem dX6_towerBegins_55 : decode cX6_towerBegins 55 = .ok (.aload_n 0, 1) := by decide +kernel
theorem dX6_towerBegins_56 : decode cX6_towerBegins 56 = .ok (.aload_n 0, 1) := by decide +kernel
theorem dX6_towerBegins_57 : decode cX6_towerBegins 57 = .ok (.getfield 29, 3) := by decide +kernel
theorem dX6_towerBegins_60 : decode cX6_towerBegins 60 = .ok (.iload_n 1, 1) := by decide +kernel
theorem dX6_towerBegins_61 : decode cX6_towerBegins 61 = .ok (.iaload, 1) := by decide +kernel
theorem dX6_towerBegins_62 : decode cX6_towerBegins 62 = .ok (.invokevirtual 192, 3) := by decide +kernel
theorem dX6_towerBegins_65 : decode cX6_towerBegins 65 = .ok (.iinc 1 1, 3) := by decide +kernel
theorem dX6_towerBegins_68 : decode cX6_towerBegins 68 = .ok (.goto (-21), 3) := by decide +kernel
theorem dX6_towerBegins_71 : decode cX6_towerBegins 71 = .ok (.return_, 1) := by decide +kernel
theorem dX6_ruleOn_0 : decode cX6_ruleOn 0 = .ok (.iconst 0, 1) := by decide +kernel
theorem dX6_ruleOn_1 : decode cX6_ruleOn 1 = .ok (.istore_n 3, 1) := by decide +kernel
theorem dX6_ruleOn_2 : decode cX6_ruleOn 2 = .ok (.iload_n 3, 1) := by decide +kernel
theorem dX6_ruleOn_3 : decode cX6_ruleOn 3 = .ok (.aload_n 0, 1) := by decide +kernel
theorem dX6_ruleOn_4 : decode cX6_ruleOn 4 = .ok (.getfield 13, 3) := by decide +kernel
theorem dX6_ruleOn_7 : decode cX6_ruleOn 7 = .ok (.if_icmp .ge 42, 3) := by decide +kernel
theorem dX6_ruleOn_10 : decode cX6_ruleOn 10 = .ok (.aload_n 0, 1) := by decide +kernel
theorem dX6_ruleOn_11 : decode cX6_ruleOn 11 = .ok (.iload_n 3, 1) := by decide +kernel
theorem dX6_ruleOn_12 : decode cX6_ruleOn 12 = .ok (.iload_n 1, 1) := by decide +kernel
theorem dX6_ruleOn_13 : decode cX6_ruleOn 13 = .ok (.aload_n 0, 1) := by decide +kernel
theorem dX6_ruleOn_14 : decode cX6_ruleOn 14 = .ok (.getfield 50, 3) := by decide +kernel
theorem dX6_ruleOn_17 : decode cX6_ruleOn 17 = .ok (.aload_n 0, 1) := by decide +kernel
theorem dX6_ruleOn_18 : decode cX6_ruleOn 18 = .ok (.getfield 183, 3) := by decide +kernel
theorem dX6_ruleOn_21 : decode cX6_ruleOn 21 = .ok (.iconst 1, 1) := by decide +kernel
theorem dX6_ruleOn_22 : decode cX6_ruleOn 22 = .ok (.isub, 1) := by decide +kernel
theorem dX6_ruleOn_23 : decode cX6_ruleOn 23 = .ok (.iaload, 1) := by decide +kernel
theorem dX6_ruleOn_24 : decode cX6_ruleOn 24 = .ok (.invokevirtual 113, 3) := by decide +kernel
theorem dX6_ruleOn_27 : decode cX6_ruleOn 27 = .ok (.ifCond .eq 16, 3) := by decide +kernel
theorem dX6_ruleOn_30 : decode cX6_ruleOn 30 = .ok (.aload_n 0, 1) := by decide +kernel
theorem dX6_ruleOn_31 : decode cX6_ruleOn 31 = .ok (.iload_n 3, 1) := by decide +kernel
theorem dX6_ruleOn_32 : decode cX6_ruleOn 32 = .ok (.invokevirtual 195, 3) := by decide +kernel
theorem dX6_ruleOn_35 : decode cX6_ruleOn 35 = .ok (.iload_n 2, 1) := by decide +kernel
theorem dX6_ruleOn_36 : decode cX6_ruleOn 36 = .ok (.iconst 1, 1) := by decide +kernel
theorem dX6_ruleOn_37 : decode cX6_ruleOn 37 = .ok (.isub, 1) := by decide +kernel
theorem dX6_ruleOn_38 : decode cX6_ruleOn 38 = .ok (.if_icmp .ne 5, 3) := by decide +kernel
theorem dX6_ruleOn_41 : decode cX6_ruleOn 41 = .ok (.iload_n 3, 1) := by decide +kernel
theorem dX6_ruleOn_42 : decode cX6_ruleOn 42 = .ok (.ireturn, 1) := by decide +kernel
theorem dX6_ruleOn_43 : decode cX6_ruleOn 43 = .ok (.iinc 3 1, 3) := by decide +kernel
theorem dX6_ruleOn_46 : decode cX6_ruleOn 46 = .ok (.goto (-44), 3) := by decide +kernel
theorem dX6_ruleOn_49 : decode cX6_ruleOn 49 = .ok (.bipush (-4), 2) := by decide +kernel
theorem dX6_ruleOn_51 : decode cX6_ruleOn 51 = .ok (.ireturn, 1) := by decide +kernel
theorem dX6_towerSteps_0 : decode cX6_towerSteps 0 = .ok (.aload_n 0, 1) := by decide +kernel
theorem dX6_towerSteps_1 : decode cX6_towerSteps 1 = .ok (.dup, 1) := by decide +kernel
theorem dX6_towerSteps_2 : decode cX6_towerSteps 2 = .ok (.getfield 183, 3) := by decide +kernel
theorem dX6_towerSteps_5 : decode cX6_towerSteps 5 = .ok (.iconst 1, 1) := by decide +kernel
theorem dX6_towerSteps_6 : decode cX6_towerSteps 6 = .ok (.isub, 1) := by decide +kernel
theorem dX6_towerSteps_7 : decode cX6_towerSteps 7 = .ok (.putfield 183, 3) := by decide +kernel
theorem dX6_towerSteps_10 : decode cX6_towerSteps 10 = .ok (.aload_n 0, 1) := by decide +kernel
theorem dX6_towerSteps_11 : decode cX6_towerSteps 11 = .ok (.getfield 16, 3) := by decide +kernel
theorem dX6_towerSteps_14 : decode cX6_towerSteps 14 = .ok (.bipush 7, 2) := by decide +kernel
theorem dX6_towerSteps_16 : decode cX6_towerSteps 16 = .ok (.iload_n 1, 1) := by decide +kernel
theorem dX6_towerSteps_17 : decode cX6_towerSteps 17 = .ok (.imul, 1) := by decide +kernel
theorem dX6_towerSteps_18 : decode cX6_towerSteps 18 = .ok (.iconst 3, 1) := by decide +kernel
theorem dX6_towerSteps_19 : decode cX6_towerSteps 19 = .ok (.iadd, 1) := by decide +kernel
theorem dX6_towerSteps_20 : decode cX6_towerSteps 20 = .ok (.iaload, 1) := by decide +kernel
theorem dX6_towerSteps_21 : decode cX6_towerSteps 21 = .ok (.iconst 1, 1) := by decide +kernel
theorem dX6_towerSteps_22 : decode cX6_towerSteps 22 = .ok (.isub, 1) := by decide +kernel
theorem dX6_towerSteps_23 : decode cX6_towerSteps 23 = .ok (.istore_n 2, 1) := by decide +kernel
theorem dX6_towerSteps_24 : decode cX6_towerSteps 24 = .ok (.iload_n 2, 1) := by decide +kernel
theorem dX6_towerSteps_25 : decode cX6_towerSteps 25 = .ok (.ifCond .lt 26, 3) := by decide +kernel
theorem dX6_towerSteps_28 : decode cX6_towerSteps 28 = .ok (.aload_n 0, 1) := by decide +kernel
theorem dX6_towerSteps_29 : decode cX6_towerSteps 29 = .ok (.aload_n 0, 1) := by decide +kernel
theorem dX6_towerSteps_30 : decode cX6_towerSteps 30 = .ok (.getfield 16, 3) := by decide +kernel
theorem dX6_towerSteps_33 : decode cX6_towerSteps 33 = .ok (.bipush 7, 2) := by decide +kernel
theorem dX6_towerSteps_35 : decode cX6_towerSteps 35 = .ok (.iload_n 1, 1) := by decide +kernel
theorem dX6_towerSteps_36 : decode cX6_towerSteps 36 = .ok (.imul, 1) := by decide +kernel
theorem dX6_towerSteps_37 : decode cX6_towerSteps 37 = .ok (.iconst 4, 1) := by decide +kernel
theorem dX6_towerSteps_38 : decode cX6_towerSteps 38 = .ok (.iadd, 1) := by decide +kernel
theorem dX6_towerSteps_39 : decode cX6_towerSteps 39 = .ok (.iload_n 2, 1) := by decide +kernel
theorem dX6_towerSteps_40 : decode cX6_towerSteps 40 = .ok (.iadd, 1) := by decide +kernel
theorem dX6_towerSteps_41 : decode cX6_towerSteps 41 = .ok (.iaload, 1) := by decide +kernel
theorem dX6_towerSteps_42 : decode cX6_towerSteps 42 = .ok (.invokevirtual 192, 3) := by decide +kernel
theorem dX6_towerSteps_45 : decode cX6_towerSteps 45 = .ok (.iinc 2 (-1), 3) := by decide +kernel
theorem dX6_towerSteps_48 : decode cX6_towerSteps 48 = .ok (.goto (-24), 3) := by decide +kernel
theorem dX6_towerSteps_51 : decode cX6_towerSteps 51 = .ok (.return_, 1) := by decide +kernel
theorem dX6_run_0 : decode cX6_run 0 = .ok (.iload_n 1, 1) := by decide +kernel
theorem dX6_run_1 : decode cX6_run 1 = .ok (.iconst (-1), 1) := by decide +kernel
theorem dX6_run_2 : decode cX6_run 2 = .ok (.if_icmp .ge 5, 3) := by decide +kernel
theorem dX6_run_5 : decode cX6_run 5 = .ok (.iconst (-1), 1) := by decide +kernel
theorem dX6_run_6 : decode cX6_run 6 = .ok (.ireturn, 1) := by decide +kernel
theorem dX6_run_7 : decode cX6_run 7 = .ok (.aload_n 0, 1) := by decide +kernel
theorem dX6_run_8 : decode cX6_run 8 = .ok (.invokevirtual 198, 3) := by decide +kernel
theorem dX6_run_11 : decode cX6_run 11 = .ok (.aload_n 0, 1) := by decide +kernel
theorem dX6_run_12 : decode cX6_run 12 = .ok (.getfield 53, 3) := by decide +kernel
theorem dX6_run_15 : decode cX6_run 15 = .ok (.bipush 13, 2) := by decide +kernel
theorem dX6_run_17 : decode cX6_run 17 = .ok (.aload_n 0, 1) := by decide +kernel
theorem dX6_run_18 : decode cX6_run 18 = .ok (.getfield 183, 3) := by decide +kernel
theorem dX6_run_21 : decode cX6_run 21 = .ok (.imul, 1) := by decide +kernel
theorem dX6_run_22 : decode cX6_run 22 = .ok (.aload_n 0, 1) := by decide +kernel
theorem dX6_run_23 : decode cX6_run 23 = .ok (.getfield 80, 3) := by decide +kernel
theorem dX6_run_26 : decode cX6_run 26 = .ok (.iadd, 1) := by decide +kernel
theorem dX6_run_27 : decode cX6_run 27 = .ok (.iaload, 1) := by decide +kernel
theorem dX6_run_28 : decode cX6_run 28 = .ok (.istore_n 2, 1) := by decide +kernel
theorem dX6_run_29 : decode cX6_run 29 = .ok (.iload_n 2, 1) := by decide +kernel
theorem dX6_run_30 : decode cX6_run 30 = .ok (.ifCond .ge 6, 3) := by decide +kernel
theorem dX6_run_33 : decode cX6_run 33 = .ok (.bipush (-4), 2) := by decide +kernel
theorem dX6_run_35 : decode cX6_run 35 = .ok (.ireturn, 1) := by decide +kernel
theorem dX6_run_36 : decode cX6_run 36 = .ok (.iload_n 1, 1) := by decide +kernel
theorem dX6_run_37 : decode cX6_run 37 = .ok (.iconst (-1), 1) := by decide +kernel
theorem dX6_run_38 : decode cX6_run 38 = .ok (.if_icmp .ne 5, 3) := by decide +kernel
theorem dX6_run_41 : decode cX6_run 41 = .ok (.iload_n 2, 1) := by decide +kernel
theorem dX6_run_42 : decode cX6_run 42 = .ok (.ireturn, 1) := by decide +kernel
theorem dX6_run_43 : decode cX6_run 43 = .ok (.iload_n 1, 1) := by decide +kernel
theorem dX6_run_44 : decode cX6_run 44 = .ok (.iload_n 2, 1) := by decide +kernel
theorem dX6_run_45 : decode cX6_run 45 = .ok (.if_icmp .lt 6, 3) := by decide +kernel
theorem dX6_run_48 : decode cX6_run 48 = .ok (.bipush (-4), 2) := by decide +kernel
theorem dX6_run_50 : decode cX6_run 50 = .ok (.ireturn, 1) := by decide +kernel
theorem dX6_run_51 : decode cX6_run 51 = .ok (.aload_n 0, 1) := by decide +kernel
theorem dX6_run_52 : decode cX6_run 52 = .ok (.getfield 80, 3) := by decide +kernel
theorem dX6_run_55 : decode cX6_run 55 = .ok (.istore_n 3, 1) := by decide +kernel
theorem dX6_run_56 : decode cX6_run 56 = .ok (.aload_n 0, 1) := by decide +kernel
theorem dX6_run_57 : decode cX6_run 57 = .ok (.iload_n 3, 1) := by decide +kernel
theorem dX6_run_58 : decode cX6_run 58 = .ok (.iload_n 2, 1) := by decide +kernel
theorem dX6_run_59 : decode cX6_run 59 = .ok (.invokevirtual 201, 3) := by decide +kernel
theorem dX6_run_62 : decode cX6_run 62 = .ok (.istore 4, 2) := by decide +kernel
theorem dX6_run_64 : decode cX6_run 64 = .ok (.iconst 0, 1) := by decide +kernel
theorem dX6_run_65 : decode cX6_run 65 = .ok (.istore 5, 2) := by decide +kernel
theorem dX6_run_67 : decode cX6_run 67 = .ok (.iload 5, 2) := by decide +kernel
theorem dX6_run_69 : decode cX6_run 69 = .ok (.iload_n 1, 1) := by decide +kernel
theorem dX6_run_70 : decode cX6_run 70 = .ok (.if_icmp .ge 39, 3) := by decide +kernel
theorem dX6_run_73 : decode cX6_run 73 = .ok (.aload_n 0, 1) := by decide +kernel
theorem dX6_run_74 : decode cX6_run 74 = .ok (.iload 4, 2) := by decide +kernel
theorem dX6_run_76 : decode cX6_run 76 = .ok (.invokevirtual 204, 3) := by decide +kernel
theorem dX6_run_79 : decode cX6_run 79 = .ok (.aload_n 0, 1) := by decide +kernel
theorem dX6_run_80 : decode cX6_run 80 = .ok (.getfield 16, 3) := by decide +kernel
theorem dX6_run_83 : decode cX6_run 83 = .ok (.bipush 7, 2) := by decide +kernel
theorem dX6_run_85 : decode cX6_run 85 = .ok (.iload 4, 2) := by decide +kernel
theorem dX6_run_87 : decode cX6_run 87 = .ok (.imul, 1) := by decide +kernel
theorem dX6_run_88 : decode cX6_run 88 = .ok (.iconst 2, 1) := by decide +kernel
theorem dX6_run_89 : decode cX6_run 89 = .ok (.iadd, 1) := by decide +kernel
theorem dX6_run_90 : decode cX6_run 90 = .ok (.iaload, 1) := by decide +kernel
theorem dX6_run_91 : decode cX6_run 91 = .ok (.istore_n 3, 1) := by decide +kernel
theorem dX6_run_92 : decode cX6_run 92 = .ok (.iinc 2 (-1), 3) := by decide +kernel
theorem dX6_run_95 : decode cX6_run 95 = .ok (.aload_n 0, 1) := by decide +kernel
theorem dX6_run_96 : decode cX6_run 96 = .ok (.iload_n 3, 1) := by decide +kernel
theorem dX6_run_97 : decode cX6_run 97 = .ok (.iload_n 2, 1) := by decide +kernel
theorem dX6_run_98 : decode cX6_run 98 = .ok (.invokevirtual 201, 3) := by decide +kernel
theorem dX6_run_101 : decode cX6_run 101 = .ok (.istore 4, 2) := by decide +kernel
theorem dX6_run_103 : decode cX6_run 103 = .ok (.iinc 5 1, 3) := by decide +kernel
theorem dX6_run_106 : decode cX6_run 106 = .ok (.goto (-39), 3) := by decide +kernel
theorem dX6_run_109 : decode cX6_run 109 = .ok (.iload 4, 2) := by decide +kernel
theorem dX6_run_111 : decode cX6_run 111 = .ok (.ireturn, 1) := by decide +kernel
theorem dX6_popsBy_0 : decode cX6_popsBy 0 = .ok (.aload_n 0, 1) := by decide +kernel
theorem dX6_popsBy_1 : decode cX6_popsBy 1 = .ok (.getfield 62, 3) := by decide +kernel
theorem dX6_popsBy_4 : decode cX6_popsBy 4 = .ok (.bipush 12, 2) := by decide +kernel
theorem dX6_popsBy_6 : decode cX6_popsBy 6 = .ok (.iload_n 1, 1) := by decide +kernel
theorem dX6_popsBy_7 : decode cX6_popsBy 7 = .ok (.imul, 1) := by decide +kernel
theorem dX6_popsBy_8 : decode cX6_popsBy 8 = .ok (.iconst 3, 1) := by decide +kernel
theorem dX6_popsBy_9 : decode cX6_popsBy 9 = .ok (.iload_n 2, 1) := by decide +kernel
theorem dX6_popsBy_10 : decode cX6_popsBy 10 = .ok (.imul, 1) := by decide +kernel
theorem dX6_popsBy_11 : decode cX6_popsBy 11 = .ok (.iadd, 1) := by decide +kernel
theorem dX6_popsBy_12 : decode cX6_popsBy 12 = .ok (.iload_n 3, 1) := by decide +kernel
theorem dX6_popsBy_13 : decode cX6_popsBy 13 = .ok (.iadd, 1) := by decide +kernel
theorem dX6_popsBy_14 : decode cX6_popsBy 14 = .ok (.iaload, 1) := by decide +kernel
theorem dX6_popsBy_15 : decode cX6_popsBy 15 = .ok (.ireturn, 1) := by decide +kernel
theorem dX6_isGone_0 : decode cX6_isGone 0 = .ok (.aload_n 0, 1) := by decide +kernel
theorem dX6_isGone_1 : decode cX6_isGone 1 = .ok (.getfield 16, 3) := by decide +kernel
theorem dX6_isGone_4 : decode cX6_isGone 4 = .ok (.bipush 7, 2) := by decide +kernel
theorem dX6_isGone_6 : decode cX6_isGone 6 = .ok (.iload_n 1, 1) := by decide +kernel
theorem dX6_isGone_7 : decode cX6_isGone 7 = .ok (.imul, 1) := by decide +kernel
theorem dX6_isGone_8 : decode cX6_isGone 8 = .ok (.iconst 2, 1) := by decide +kernel
theorem dX6_isGone_9 : decode cX6_isGone 9 = .ok (.iadd, 1) := by decide +kernel
theorem dX6_isGone_10 : decode cX6_isGone 10 = .ok (.iaload, 1) := by decide +kernel
theorem dX6_isGone_11 : decode cX6_isGone 11 = .ok (.istore_n 3, 1) := by decide +kernel
theorem dX6_isGone_12 : decode cX6_isGone 12 = .ok (.aload_n 0, 1) := by decide +kernel
theorem dX6_isGone_13 : decode cX6_isGone 13 = .ok (.getfield 16, 3) := by decide +kernel
theorem dX6_isGone_16 : decode cX6_isGone 16 = .ok (.bipush 7, 2) := by decide +kernel
theorem dX6_isGone_18 : decode cX6_isGone 18 = .ok (.iload_n 1, 1) := by decide +kernel
theorem dX6_isGone_19 : decode cX6_isGone 19 = .ok (.imul, 1) := by decide +kernel
theorem dX6_isGone_20 : decode cX6_isGone 20 = .ok (.iconst 3, 1) := by decide +kernel
theorem dX6_isGone_21 : decode cX6_isGone 21 = .ok (.iadd, 1) := by decide +kernel
theorem dX6_isGone_22 : decode cX6_isGone 22 = .ok (.iaload, 1) := by decide +kernel
theorem dX6_isGone_23 : decode cX6_isGone 23 = .ok (.istore 4, 2) := by decide +kernel
theorem dX6_isGone_25 : decode cX6_isGone 25 = .ok (.aload_n 0, 1) := by decide +kernel
theorem dX6_isGone_26 : decode cX6_isGone 26 = .ok (.getfield 16, 3) := by decide +kernel
theorem dX6_isGone_29 : decode cX6_isGone 29 = .ok (.bipush 7, 2) := by decide +kernel
theorem dX6_isGone_31 : decode cX6_isGone 31 = .ok (.iload_n 1, 1) := by decide +kernel
theorem dX6_isGone_32 : decode cX6_isGone 32 = .ok (.imul, 1) := by decide +kernel
theorem dX6_isGone_33 : decode cX6_isGone 33 = .ok (.iconst 4, 1) := by decide +kernel
theorem dX6_isGone_34 : decode cX6_isGone 34 = .ok (.iadd, 1) := by decide +kernel
theorem dX6_isGone_35 : decode cX6_isGone 35 = .ok (.iaload, 1) := by decide +kernel
theorem dX6_isGone_36 : decode cX6_isGone 36 = .ok (.istore 5, 2) := by decide +kernel
theorem dX6_isGone_38 : decode cX6_isGone 38 = .ok (.iload 4, 2) := by decide +kernel
theorem dX6_isGone_40 : decode cX6_isGone 40 = .ok (.ifCond .ne 14, 3) := by decide +kernel
theorem dX6_isGone_43 : decode cX6_isGone 43 = .ok (.iload_n 3, 1) := by decide +kernel
theorem dX6_isGone_44 : decode cX6_isGone 44 = .ok (.iload_n 2, 1) := by decide +kernel
theorem dX6_isGone_45 : decode cX6_isGone 45 = .ok (.if_icmp .ne 7, 3) := by decide +kernel
theorem dX6_isGone_48 : decode cX6_isGone 48 = .ok (.iconst 1, 1) := by decide +kernel
theorem dX6_isGone_49 : decode cX6_isGone 49 = .ok (.goto 4, 3) := by decide +kernel
theorem dX6_isGone_52 : decode cX6_isGone 52 = .ok (.iconst 0, 1) := by decide +kernel
theorem dX6_isGone_53 : decode cX6_isGone 53 = .ok (.ireturn, 1) := by decide +kernel
theorem dX6_isGone_54 : decode cX6_isGone 54 = .ok (.iload 4, 2) := by decide +kernel
theorem dX6_isGone_56 : decode cX6_isGone 56 = .ok (.iconst 1, 1) := by decide +kernel
theorem dX6_isGone_57 : decode cX6_isGone 57 = .ok (.if_icmp .ne 21, 3) := by decide +kernel
theorem dX6_isGone_60 : decode cX6_isGone 60 = .ok (.aload_n 0, 1) := by decide +kernel
theorem dX6_isGone_61 : decode cX6_isGone 61 = .ok (.iload_n 3, 1) := by decide +kernel
theorem dX6_isGone_62 : decode cX6_isGone 62 = .ok (.iload 5, 2) := by decide +kernel
theorem dX6_isGone_64 : decode cX6_isGone 64 = .ok (.iload_n 2, 1) := by decide +kernel
theorem dX6_isGone_65 : decode cX6_isGone 65 = .ok (.invokevirtual 207, 3) := by decide +kernel
theorem dX6_isGone_68 : decode cX6_isGone 68 = .ok (.iconst 1, 1) := by decide +kernel
theorem dX6_isGone_69 : decode cX6_isGone 69 = .ok (.if_icmp .ne 7, 3) := by decide +kernel
theorem dX6_isGone_72 : decode cX6_isGone 72 = .ok (.iconst 1, 1) := by decide +kernel
theorem dX6_isGone_73 : decode cX6_isGone 73 = .ok (.goto 4, 3) := by decide +kernel
theorem dX6_isGone_76 : decode cX6_isGone 76 = .ok (.iconst 0, 1) := by decide +kernel
theorem dX6_isGone_77 : decode cX6_isGone 77 = .ok (.ireturn, 1) := by decide +kernel
theorem dX6_isGone_78 : decode cX6_isGone 78 = .ok (.iconst 0, 1) := by decide +kernel
theorem dX6_isGone_79 : decode cX6_isGone 79 = .ok (.istore 6, 2) := by decide +kernel
theorem dX6_isGone_81 : decode cX6_isGone 81 = .ok (.iconst 0, 1) := by decide +kernel
theorem dX6_isGone_82 : decode cX6_isGone 82 = .ok (.istore 7, 2) := by decide +kernel
theorem dX6_isGone_84 : decode cX6_isGone 84 = .ok (.iload 7, 2) := by decide +kernel
theorem dX6_isGone_86 : decode cX6_isGone 86 = .ok (.aload_n 0, 1) := by decide +kernel
theorem dX6_isGone_87 : decode cX6_isGone 87 = .ok (.getfield 7, 3) := by decide +kernel
theorem dX6_isGone_90 : decode cX6_isGone 90 = .ok (.if_icmp .ge 56, 3) := by decide +kernel
theorem dX6_isGone_93 : decode cX6_isGone 93 = .ok (.iload 6, 2) := by decide +kernel
theorem dX6_isGone_95 : decode cX6_isGone 95 = .ok (.ifCond .ne 38, 3) := by decide +kernel
theorem dX6_isGone_98 : decode cX6_isGone 98 = .ok (.aload_n 0, 1) := by decide +kernel
theorem dX6_isGone_99 : decode cX6_isGone 99 = .ok (.iload_n 3, 1) := by decide +kernel
theorem dX6_isGone_100 : decode cX6_isGone 100 = .ok (.iload 5, 2) := by decide +kernel
theorem dX6_isGone_102 : decode cX6_isGone 102 = .ok (.iload 7, 2) := by decide +kernel
theorem dX6_isGone_104 : decode cX6_isGone 104 = .ok (.invokevirtual 207, 3) := by decide +kernel
theorem dX6_isGone_107 : decode cX6_isGone 107 = .ok (.iconst 1, 1) := by decide +kernel
theorem dX6_isGone_108 : decode cX6_isGone 108 = .ok (.if_icmp .ne 29, 3) := by decide +kernel
theorem dX6_isGone_111 : decode cX6_isGone 111 = .ok (.aload_n 0, 1) := by decide +kernel
theorem dX6_isGone_112 : decode cX6_isGone 112 = .ok (.iload 7, 2) := by decide +kernel
theorem dX6_isGone_114 : decode cX6_isGone 114 = .ok (.aload_n 0, 1) := by decide +kernel
theorem dX6_isGone_115 : decode cX6_isGone 115 = .ok (.getfield 16, 3) := by decide +kernel
theorem dX6_isGone_118 : decode cX6_isGone 118 = .ok (.bipush 7, 2) := by decide +kernel
theorem dX6_isGone_120 : decode cX6_isGone 120 = .ok (.iload_n 1, 1) := by decide +kernel
theorem dX6_isGone_121 : decode cX6_isGone 121 = .ok (.imul, 1) := by decide +kernel
theorem dX6_isGone_122 : decode cX6_isGone 122 = .ok (.iconst 5, 1) := by decide +kernel
theorem dX6_isGone_123 : decode cX6_isGone 123 = .ok (.iadd, 1) := by decide +kernel
theorem dX6_isGone_124 : decode cX6_isGone 124 = .ok (.iaload, 1) := by decide +kernel
theorem dX6_isGone_125 : decode cX6_isGone 125 = .ok (.iload_n 2, 1) := by decide +kernel
theorem dX6_isGone_126 : decode cX6_isGone 126 = .ok (.invokevirtual 207, 3) := by decide +kernel
theorem dX6_isGone_129 : decode cX6_isGone 129 = .ok (.iconst 1, 1) := by decide +kernel
theorem dX6_isGone_130 : decode cX6_isGone 130 = .ok (.if_icmp .ne 7, 3) := by decide +kernel
theorem dX6_isGone_133 : decode cX6_isGone 133 = .ok (.iconst 1, 1) := by decide +kernel
theorem dX6_isGone_134 : decode cX6_isGone 134 = .ok (.goto 4, 3) := by decide +kernel
theorem dX6_isGone_137 : decode cX6_isGone 137 = .ok (.iconst 0, 1) := by decide +kernel
theorem dX6_isGone_138 : decode cX6_isGone 138 = .ok (.istore 6, 2) := by decide +kernel
theorem dX6_isGone_140 : decode cX6_isGone 140 = .ok (.iinc 7 1, 3) := by decide +kernel
theorem dX6_isGone_143 : decode cX6_isGone 143 = .ok (.goto (-59), 3) := by decide +kernel
theorem dX6_isGone_146 : decode cX6_isGone 146 = .ok (.iload 6, 2) := by decide +kernel
theorem dX6_isGone_148 : decode cX6_isGone 148 = .ok (.ireturn, 1) := by decide +kernel
theorem dX6_setPops_0 : decode cX6_setPops 0 = .ok (.iconst 0, 1) := by decide +kernel
theorem dX6_setPops_1 : decode cX6_setPops 1 = .ok (.istore_n 1, 1) := by decide +kernel
theorem dX6_setPops_2 : decode cX6_setPops 2 = .ok (.iload_n 1, 1) := by decide +kernel
theorem dX6_setPops_3 : decode cX6_setPops 3 = .ok (.bipush 36, 2) := by decide +kernel
theorem dX6_setPops_5 : decode cX6_setPops 5 = .ok (.if_icmp .ge 16, 3) := by decide +kernel
theorem dX6_setPops_8 : decode cX6_setPops 8 = .ok (.aload_n 0, 1) := by decide +kernel
theorem dX6_setPops_9 : decode cX6_setPops 9 = .ok (.getfield 62, 3) := by decide +kernel
theorem dX6_setPops_12 : decode cX6_setPops 12 = .ok (.iload_n 1, 1) := by decide +kernel
theorem dX6_setPops_13 : decode cX6_setPops 13 = .ok (.iconst 0, 1) := by decide +kernel
theorem dX6_setPops_14 : decode cX6_setPops 14 = .ok (.iastore, 1) := by decide +kernel
theorem dX6_setPops_15 : decode cX6_setPops 15 = .ok (.iinc 1 1, 3) := by decide +kernel
theorem dX6_setPops_18 : decode cX6_setPops 18 = .ok (.goto (-16), 3) := by decide +kernel
theorem dX6_setPops_21 : decode cX6_setPops 21 = .ok (.iconst 1, 1) := by decide +kernel
theorem dX6_setPops_22 : decode cX6_setPops 22 = .ok (.istore_n 1, 1) := by decide +kernel
theorem dX6_setPops_23 : decode cX6_setPops 23 = .ok (.iload_n 1, 1) := by decide +kernel
theorem dX6_setPops_24 : decode cX6_setPops 24 = .ok (.ifCond .eq 99, 3) := by decide +kernel
theorem dX6_setPops_27 : decode cX6_setPops 27 = .ok (.iconst 0, 1) := by decide +kernel
theorem dX6_setPops_28 : decode cX6_setPops 28 = .ok (.istore_n 1, 1) := by decide +kernel
theorem dX6_setPops_29 : decode cX6_setPops 29 = .ok (.iconst 0, 1) := by decide +kernel
theorem dX6_setPops_30 : decode cX6_setPops 30 = .ok (.istore_n 2, 1) := by decide +kernel
theorem dX6_setPops_31 : decode cX6_setPops 31 = .ok (.iload_n 2, 1) := by decide +kernel
theorem dX6_setPops_32 : decode cX6_setPops 32 = .ok (.aload_n 0, 1) := by decide +kernel
theorem dX6_setPops_33 : decode cX6_setPops 33 = .ok (.getfield 13, 3) := by decide +kernel
theorem dX6_setPops_36 : decode cX6_setPops 36 = .ok (.if_icmp .ge 84, 3) := by decide +kernel
theorem dX6_setPops_39 : decode cX6_setPops 39 = .ok (.iconst 0, 1) := by decide +kernel
theorem dX6_setPops_40 : decode cX6_setPops 40 = .ok (.istore_n 3, 1) := by decide +kernel
theorem dX6_setPops_41 : decode cX6_setPops 41 = .ok (.iload_n 3, 1) := by decide +kernel
theorem dX6_setPops_42 : decode cX6_setPops 42 = .ok (.aload_n 0, 1) := by decide +kernel
theorem dX6_setPops_43 : decode cX6_setPops 43 = .ok (.getfield 7, 3) := by decide +kernel
theorem dX6_setPops_46 : decode cX6_setPops 46 = .ok (.if_icmp .ge 68, 3) := by decide +kernel
theorem dX6_setPops_49 : decode cX6_setPops 49 = .ok (.bipush 12, 2) := by decide +kernel
theorem dX6_setPops_51 : decode cX6_setPops 51 = .ok (.aload_n 0, 1) := by decide +kernel
theorem dX6_setPops_52 : decode cX6_setPops 52 = .ok (.getfield 16, 3) := by decide +kernel
theorem dX6_setPops_55 : decode cX6_setPops 55 = .ok (.bipush 7, 2) := by decide +kernel
theorem dX6_setPops_57 : decode cX6_setPops 57 = .ok (.iload_n 2, 1) := by decide +kernel
theorem dX6_setPops_58 : decode cX6_setPops 58 = .ok (.imul, 1) := by decide +kernel
theorem dX6_setPops_59 : decode cX6_setPops 59 = .ok (.iaload, 1) := by decide +kernel
theorem dX6_setPops_60 : decode cX6_setPops 60 = .ok (.imul, 1) := by decide +kernel
theorem dX6_setPops_61 : decode cX6_setPops 61 = .ok (.iconst 3, 1) := by decide +kernel
theorem dX6_setPops_62 : decode cX6_setPops 62 = .ok (.aload_n 0, 1) := by decide +kernel
theorem dX6_setPops_63 : decode cX6_setPops 63 = .ok (.getfield 16, 3) := by decide +kernel
theorem dX6_setPops_66 : decode cX6_setPops 66 = .ok (.bipush 7, 2) := by decide +kernel
theorem dX6_setPops_68 : decode cX6_setPops 68 = .ok (.iload_n 2, 1) := by decide +kernel
theorem dX6_setPops_69 : decode cX6_setPops 69 = .ok (.imul, 1) := by decide +kernel
theorem dX6_setPops_70 : decode cX6_setPops 70 = .ok (.iconst 1, 1) := by decide +kernel
theorem dX6_setPops_71 : decode cX6_setPops 71 = .ok (.iadd, 1) := by decide +kernel
theorem dX6_setPops_72 : decode cX6_setPops 72 = .ok (.iaload, 1) := by decide +kernel
theorem dX6_setPops_73 : decode cX6_setPops 73 = .ok (.imul, 1) := by decide +kernel
theorem dX6_setPops_74 : decode cX6_setPops 74 = .ok (.iadd, 1) := by decide +kernel
theorem dX6_setPops_75 : decode cX6_setPops 75 = .ok (.iload_n 3, 1) := by decide +kernel
theorem dX6_setPops_76 : decode cX6_setPops 76 = .ok (.iadd, 1) := by decide +kernel
theorem dX6_setPops_77 : decode cX6_setPops 77 = .ok (.istore 4, 2) := by decide +kernel
theorem dX6_setPops_79 : decode cX6_setPops 79 = .ok (.aload_n 0, 1) := by decide +kernel
theorem dX6_setPops_80 : decode cX6_setPops 80 = .ok (.getfield 62, 3) := by decide +kernel
theorem dX6_setPops_83 : decode cX6_setPops 83 = .ok (.iload 4, 2) := by decide +kernel
theorem dX6_setPops_85 : decode cX6_setPops 85 = .ok (.iaload, 1) := by decide +kernel
theorem dX6_setPops_86 : decode cX6_setPops 86 = .ok (.ifCond .ne 22, 3) := by decide +kernel
theorem dX6_setPops_89 : decode cX6_setPops 89 = .ok (.aload_n 0, 1) := by decide +kernel
theorem dX6_setPops_90 : decode cX6_setPops 90 = .ok (.iload_n 2, 1) := by decide +kernel
theorem dX6_setPops_91 : decode cX6_setPops 91 = .ok (.iload_n 3, 1) := by decide +kernel
theorem dX6_setPops_92 : decode cX6_setPops 92 = .ok (.invokevirtual 210, 3) := by decide +kernel
theorem dX6_setPops_95 : decode cX6_setPops 95 = .ok (.ifCond .eq 13, 3) := by decide +kernel
theorem dX6_setPops_98 : decode cX6_setPops 98 = .ok (.aload_n 0, 1) := by decide +kernel
theorem dX6_setPops_99 : decode cX6_setPops 99 = .ok (.getfield 62, 3) := by decide +kernel
theorem dX6_setPops_102 : decode cX6_setPops 102 = .ok (.iload 4, 2) := by decide +kernel
theorem dX6_setPops_104 : decode cX6_setPops 104 = .ok (.iconst 1, 1) := by decide +kernel
theorem dX6_setPops_105 : decode cX6_setPops 105 = .ok (.iastore, 1) := by decide +kernel
theorem dX6_setPops_106 : decode cX6_setPops 106 = .ok (.iconst 1, 1) := by decide +kernel
theorem dX6_setPops_107 : decode cX6_setPops 107 = .ok (.istore_n 1, 1) := by decide +kernel
theorem dX6_setPops_108 : decode cX6_setPops 108 = .ok (.iinc 3 1, 3) := by decide +kernel
theorem dX6_setPops_111 : decode cX6_setPops 111 = .ok (.goto (-70), 3) := by decide +kernel
theorem dX6_setPops_114 : decode cX6_setPops 114 = .ok (.iinc 2 1, 3) := by decide +kernel
theorem dX6_setPops_117 : decode cX6_setPops 117 = .ok (.goto (-86), 3) := by decide +kernel
theorem dX6_setPops_120 : decode cX6_setPops 120 = .ok (.goto (-97), 3) := by decide +kernel
theorem dX6_setPops_123 : decode cX6_setPops 123 = .ok (.return_, 1) := by decide +kernel
theorem dX6_headsOfPile_0 : decode cX6_headsOfPile 0 = .ok (.iconst 0, 1) := by decide +kernel
theorem dX6_headsOfPile_1 : decode cX6_headsOfPile 1 = .ok (.istore_n 1, 1) := by decide +kernel
theorem dX6_headsOfPile_2 : decode cX6_headsOfPile 2 = .ok (.iload_n 1, 1) := by decide +kernel
theorem dX6_headsOfPile_3 : decode cX6_headsOfPile 3 = .ok (.iconst 3, 1) := by decide +kernel
theorem dX6_headsOfPile_4 : decode cX6_headsOfPile 4 = .ok (.if_icmp .ge 28, 3) := by decide +kernel
theorem dX6_headsOfPile_7 : decode cX6_headsOfPile 7 = .ok (.aload_n 0, 1) := by decide +kernel
theorem dX6_headsOfPile_8 : decode cX6_headsOfPile 8 = .ok (.getfield 68, 3) := by decide +kernel
theorem dX6_headsOfPile_11 : decode cX6_headsOfPile 11 = .ok (.iload_n 1, 1) := by decide +kernel
theorem dX6_headsOfPile_12 : decode cX6_headsOfPile 12 = .ok (.iload_n 1, 1) := by decide +kernel
theorem dX6_headsOfPile_13 : decode cX6_headsOfPile 13 = .ok (.aload_n 0, 1) := by decide +kernel
theorem dX6_headsOfPile_14 : decode cX6_headsOfPile 14 = .ok (.getfield 80, 3) := by decide +kernel
theorem dX6_headsOfPile_17 : decode cX6_headsOfPile 17 = .ok (.if_icmp .ne 7, 3) := by decide +kernel
theorem dX6_headsOfPile_20 : decode cX6_headsOfPile 20 = .ok (.iconst 1, 1) := by decide +kernel
theorem dX6_headsOfPile_21 : decode cX6_headsOfPile 21 = .ok (.goto 4, 3) := by decide +kernel
theorem dX6_headsOfPile_24 : decode cX6_headsOfPile 24 = .ok (.iconst 0, 1) := by decide +kernel
theorem dX6_headsOfPile_25 : decode cX6_headsOfPile 25 = .ok (.iastore, 1) := by decide +kernel
theorem dX6_headsOfPile_26 : decode cX6_headsOfPile 26 = .ok (.iinc 1 1, 3) := by decide +kernel
theorem dX6_headsOfPile_29 : decode cX6_headsOfPile 29 = .ok (.goto (-27), 3) := by decide +kernel
theorem dX6_headsOfPile_32 : decode cX6_headsOfPile 32 = .ok (.aload_n 0, 1) := by decide +kernel
theorem dX6_headsOfPile_33 : decode cX6_headsOfPile 33 = .ok (.getfield 26, 3) := by decide +kernel
theorem dX6_headsOfPile_36 : decode cX6_headsOfPile 36 = .ok (.iconst 1, 1) := by decide +kernel
theorem dX6_headsOfPile_37 : decode cX6_headsOfPile 37 = .ok (.isub, 1) := by decide +kernel
theorem dX6_headsOfPile_38 : decode cX6_headsOfPile 38 = .ok (.istore_n 1, 1) := by decide +kernel
theorem dX6_headsOfPile_39 : decode cX6_headsOfPile 39 = .ok (.iload_n 1, 1) := by decide +kernel
theorem dX6_headsOfPile_40 : decode cX6_headsOfPile 40 = .ok (.ifCond .lt 120, 3) := by decide +kernel
theorem dX6_headsOfPile_43 : decode cX6_headsOfPile 43 = .ok (.aload_n 0, 1) := by decide +kernel
theorem dX6_headsOfPile_44 : decode cX6_headsOfPile 44 = .ok (.getfield 29, 3) := by decide +kernel
theorem dX6_headsOfPile_47 : decode cX6_headsOfPile 47 = .ok (.iload_n 1, 1) := by decide +kernel
theorem dX6_headsOfPile_48 : decode cX6_headsOfPile 48 = .ok (.iaload, 1) := by decide +kernel
theorem dX6_headsOfPile_49 : decode cX6_headsOfPile 49 = .ok (.istore_n 2, 1) := by decide +kernel
theorem dX6_headsOfPile_50 : decode cX6_headsOfPile 50 = .ok (.iconst 0, 1) := by decide +kernel
theorem dX6_headsOfPile_51 : decode cX6_headsOfPile 51 = .ok (.istore_n 3, 1) := by decide +kernel
theorem dX6_headsOfPile_52 : decode cX6_headsOfPile 52 = .ok (.iconst 0, 1) := by decide +kernel
theorem dX6_headsOfPile_53 : decode cX6_headsOfPile 53 = .ok (.istore 4, 2) := by decide +kernel
theorem dX6_headsOfPile_55 : decode cX6_headsOfPile 55 = .ok (.iload 4, 2) := by decide +kernel
theorem dX6_headsOfPile_57 : decode cX6_headsOfPile 57 = .ok (.aload_n 0, 1) := by decide +kernel
theorem dX6_headsOfPile_58 : decode cX6_headsOfPile 58 = .ok (.getfield 7, 3) := by decide +kernel
theorem dX6_headsOfPile_61 : decode cX6_headsOfPile 61 = .ok (.if_icmp .ge 65, 3) := by decide +kernel
theorem dX6_headsOfPile_64 : decode cX6_headsOfPile 64 = .ok (.aload_n 0, 1) := by decide +kernel
theorem dX6_headsOfPile_65 : decode cX6_headsOfPile 65 = .ok (.getfield 68, 3) := by decide +kernel
theorem dX6_headsOfPile_68 : decode cX6_headsOfPile 68 = .ok (.iload 4, 2) := by decide +kernel
theorem dX6_headsOfPile_70 : decode cX6_headsOfPile 70 = .ok (.iaload, 1) := by decide +kernel
theorem dX6_headsOfPile_71 : decode cX6_headsOfPile 71 = .ok (.iconst 1, 1) := by decide +kernel
theorem dX6_headsOfPile_72 : decode cX6_headsOfPile 72 = .ok (.if_icmp .ne 48, 3) := by decide +kernel
theorem dX6_headsOfPile_75 : decode cX6_headsOfPile 75 = .ok (.aload_n 0, 1) := by decide +kernel
theorem dX6_headsOfPile_76 : decode cX6_headsOfPile 76 = .ok (.getfield 65, 3) := by decide +kernel
theorem dX6_headsOfPile_79 : decode cX6_headsOfPile 79 = .ok (.iconst 4, 1) := by decide +kernel
theorem dX6_headsOfPile_80 : decode cX6_headsOfPile 80 = .ok (.iload 4, 2) := by decide +kernel
theorem dX6_headsOfPile_82 : decode cX6_headsOfPile 82 = .ok (.imul, 1) := by decide +kernel
theorem dX6_headsOfPile_83 : decode cX6_headsOfPile 83 = .ok (.iload_n 2, 1) := by decide +kernel
theorem dX6_headsOfPile_84 : decode cX6_headsOfPile 84 = .ok (.iadd, 1) := by decide +kernel
theorem dX6_headsOfPile_85 : decode cX6_headsOfPile 85 = .ok (.iconst 1, 1) := by decide +kernel
theorem dX6_headsOfPile_86 : decode cX6_headsOfPile 86 = .ok (.iastore, 1) := by decide +kernel
theorem dX6_headsOfPile_87 : decode cX6_headsOfPile 87 = .ok (.iconst 0, 1) := by decide +kernel
theorem dX6_headsOfPile_88 : decode cX6_headsOfPile 88 = .ok (.istore 5, 2) := by decide +kernel
theorem dX6_headsOfPile_90 : decode cX6_headsOfPile 90 = .ok (.iload 5, 2) := by decide +kernel
theorem dX6_headsOfPile_92 : decode cX6_headsOfPile 92 = .ok (.aload_n 0, 1) := by decide +kernel
theorem dX6_headsOfPile_93 : decode cX6_headsOfPile 93 = .ok (.getfield 7, 3) := by decide +kernel
theorem dX6_headsOfPile_96 : decode cX6_headsOfPile 96 = .ok (.if_icmp .ge 24, 3) := by decide +kernel
theorem dX6_headsOfPile_99 : decode cX6_headsOfPile 99 = .ok (.iload_n 3, 1) := by decide +kernel
theorem dX6_headsOfPile_100 : decode cX6_headsOfPile 100 = .ok (.aload_n 0, 1) := by decide +kernel
theorem dX6_headsOfPile_101 : decode cX6_headsOfPile 101 = .ok (.iload 4, 2) := by decide +kernel
theorem dX6_headsOfPile_103 : decode cX6_headsOfPile 103 = .ok (.iload_n 2, 1) := by decide +kernel
theorem dX6_headsOfPile_104 : decode cX6_headsOfPile 104 = .ok (.iload 5, 2) := by decide +kernel
theorem dX6_headsOfPile_106 : decode cX6_headsOfPile 106 = .ok (.invokevirtual 207, 3) := by decide +kernel
theorem dX6_headsOfPile_109 : decode cX6_headsOfPile 109 = .ok (.iload 5, 2) := by decide +kernel
theorem dX6_headsOfPile_111 : decode cX6_headsOfPile 111 = .ok (.ishl, 1) := by decide +kernel
theorem dX6_headsOfPile_112 : decode cX6_headsOfPile 112 = .ok (.ior, 1) := by decide +kernel
theorem dX6_headsOfPile_113 : decode cX6_headsOfPile 113 = .ok (.istore_n 3, 1) := by decide +kernel
theorem dX6_headsOfPile_114 : decode cX6_headsOfPile 114 = .ok (.iinc 5 1, 3) := by decide +kernel
theorem dX6_headsOfPile_117 : decode cX6_headsOfPile 117 = .ok (.goto (-27), 3) := by decide +kernel
theorem dX6_headsOfPile_120 : decode cX6_headsOfPile 120 = .ok (.iinc 4 1, 3) := by decide +kernel
theorem dX6_headsOfPile_123 : decode cX6_headsOfPile 123 = .ok (.goto (-68), 3) := by decide +kernel
theorem dX6_headsOfPile_126 : decode cX6_headsOfPile 126 = .ok (.iconst 0, 1) := by decide +kernel
theorem dX6_headsOfPile_127 : decode cX6_headsOfPile 127 = .ok (.istore 4, 2) := by decide +kernel
theorem dX6_headsOfPile_129 : decode cX6_headsOfPile 129 = .ok (.iload 4, 2) := by decide +kernel
theorem dX6_headsOfPile_131 : decode cX6_headsOfPile 131 = .ok (.iconst 3, 1) := by decide +kernel
theorem dX6_headsOfPile_132 : decode cX6_headsOfPile 132 = .ok (.if_icmp .ge 22, 3) := by decide +kernel
theorem dX6_headsOfPile_135 : decode cX6_headsOfPile 135 = .ok (.aload_n 0, 1) := by decide +kernel
theorem dX6_headsOfPile_136 : decode cX6_headsOfPile 136 = .ok (.getfield 68, 3) := by decide +kernel
theorem dX6_headsOfPile_139 : decode cX6_headsOfPile 139 = .ok (.iload 4, 2) := by decide +kernel
theorem dX6_headsOfPile_141 : decode cX6_headsOfPile 141 = .ok (.iload_n 3, 1) := by decide +kernel
theorem dX6_headsOfPile_142 : decode cX6_headsOfPile 142 = .ok (.iload 4, 2) := by decide +kernel
theorem dX6_headsOfPile_144 : decode cX6_headsOfPile 144 = .ok (.ishr, 1) := by decide +kernel
theorem dX6_headsOfPile_145 : decode cX6_headsOfPile 145 = .ok (.iconst 1, 1) := by decide +kernel
theorem dX6_headsOfPile_146 : decode cX6_headsOfPile 146 = .ok (.iand, 1) := by decide +kernel
theorem dX6_headsOfPile_147 : decode cX6_headsOfPile 147 = .ok (.iastore, 1) := by decide +kernel
theorem dX6_headsOfPile_148 : decode cX6_headsOfPile 148 = .ok (.iinc 4 1, 3) := by decide +kernel
theorem dX6_headsOfPile_151 : decode cX6_headsOfPile 151 = .ok (.goto (-22), 3) := by decide +kernel
theorem dX6_headsOfPile_154 : decode cX6_headsOfPile 154 = .ok (.iinc 1 (-1), 3) := by decide +kernel
theorem dX6_headsOfPile_157 : decode cX6_headsOfPile 157 = .ok (.goto (-118), 3) := by decide +kernel
theorem dX6_headsOfPile_160 : decode cX6_headsOfPile 160 = .ok (.return_, 1) := by decide +kernel
theorem dX6_headMany_0 : decode cX6_headMany 0 = .ok (.iconst 0, 1) := by decide +kernel
theorem dX6_headMany_1 : decode cX6_headMany 1 = .ok (.istore_n 1, 1) := by decide +kernel
theorem dX6_headMany_2 : decode cX6_headMany 2 = .ok (.iconst 0, 1) := by decide +kernel
theorem dX6_headMany_3 : decode cX6_headMany 3 = .ok (.istore_n 2, 1) := by decide +kernel
theorem dX6_headMany_4 : decode cX6_headMany 4 = .ok (.iload_n 2, 1) := by decide +kernel
theorem dX6_headMany_5 : decode cX6_headMany 5 = .ok (.bipush 12, 2) := by decide +kernel
theorem dX6_headMany_7 : decode cX6_headMany 7 = .ok (.if_icmp .ge 18, 3) := by decide +kernel
theorem dX6_headMany_10 : decode cX6_headMany 10 = .ok (.iload_n 1, 1) := by decide +kernel
theorem dX6_headMany_11 : decode cX6_headMany 11 = .ok (.aload_n 0, 1) := by decide +kernel
theorem dX6_headMany_12 : decode cX6_headMany 12 = .ok (.getfield 65, 3) := by decide +kernel
theorem dX6_headMany_15 : decode cX6_headMany 15 = .ok (.iload_n 2, 1) := by decide +kernel
theorem dX6_headMany_16 : decode cX6_headMany 16 = .ok (.iaload, 1) := by decide +kernel
theorem dX6_headMany_17 : decode cX6_headMany 17 = .ok (.iadd, 1) := by decide +kernel
theorem dX6_headMany_18 : decode cX6_headMany 18 = .ok (.istore_n 1, 1) := by decide +kernel
theorem dX6_headMany_19 : decode cX6_headMany 19 = .ok (.iinc 2 1, 3) := by decide +kernel
theorem dX6_headMany_22 : decode cX6_headMany 22 = .ok (.goto (-18), 3) := by decide +kernel
theorem dX6_headMany_25 : decode cX6_headMany 25 = .ok (.iload_n 1, 1) := by decide +kernel
theorem dX6_headMany_26 : decode cX6_headMany 26 = .ok (.ireturn, 1) := by decide +kernel
theorem dX6_headsOf_0 : decode cX6_headsOf 0 = .ok (.aload_n 0, 1) := by decide +kernel
theorem dX6_headsOf_1 : decode cX6_headsOf 1 = .ok (.getfield 16, 3) := by decide +kernel
theorem dX6_headsOf_4 : decode cX6_headsOf 4 = .ok (.bipush 7, 2) := by decide +kernel
theorem dX6_headsOf_6 : decode cX6_headsOf 6 = .ok (.iload_n 1, 1) := by decide +kernel
theorem dX6_headsOf_7 : decode cX6_headsOf 7 = .ok (.imul, 1) := by decide +kernel
theorem dX6_headsOf_8 : decode cX6_headsOf 8 = .ok (.iconst 2, 1) := by decide +kernel
theorem dX6_headsOf_9 : decode cX6_headsOf 9 = .ok (.iadd, 1) := by decide +kernel
theorem dX6_headsOf_10 : decode cX6_headsOf 10 = .ok (.iaload, 1) := by decide +kernel
theorem dX6_headsOf_11 : decode cX6_headsOf 11 = .ok (.istore_n 2, 1) := by decide +kernel
theorem dX6_headsOf_12 : decode cX6_headsOf 12 = .ok (.aload_n 0, 1) := by decide +kernel
theorem dX6_headsOf_13 : decode cX6_headsOf 13 = .ok (.getfield 16, 3) := by decide +kernel
theorem dX6_headsOf_16 : decode cX6_headsOf 16 = .ok (.bipush 7, 2) := by decide +kernel
theorem dX6_headsOf_18 : decode cX6_headsOf 18 = .ok (.iload_n 1, 1) := by decide +kernel
theorem dX6_headsOf_19 : decode cX6_headsOf 19 = .ok (.imul, 1) := by decide +kernel
theorem dX6_headsOf_20 : decode cX6_headsOf 20 = .ok (.iconst 3, 1) := by decide +kernel
theorem dX6_headsOf_21 : decode cX6_headsOf 21 = .ok (.iadd, 1) := by decide +kernel
theorem dX6_headsOf_22 : decode cX6_headsOf 22 = .ok (.iaload, 1) := by decide +kernel
theorem dX6_headsOf_23 : decode cX6_headsOf 23 = .ok (.istore_n 3, 1) := by decide +kernel
theorem dX6_headsOf_24 : decode cX6_headsOf 24 = .ok (.iload_n 3, 1) := by decide +kernel
theorem dX6_headsOf_25 : decode cX6_headsOf 25 = .ok (.ifCond .le 24, 3) := by decide +kernel
theorem dX6_headsOf_28 : decode cX6_headsOf 28 = .ok (.aload_n 0, 1) := by decide +kernel
theorem dX6_headsOf_29 : decode cX6_headsOf 29 = .ok (.getfield 65, 3) := by decide +kernel
theorem dX6_headsOf_32 : decode cX6_headsOf 32 = .ok (.iconst 4, 1) := by decide +kernel
theorem dX6_headsOf_33 : decode cX6_headsOf 33 = .ok (.iload_n 2, 1) := by decide +kernel
theorem dX6_headsOf_34 : decode cX6_headsOf 34 = .ok (.imul, 1) := by decide +kernel
theorem dX6_headsOf_35 : decode cX6_headsOf 35 = .ok (.aload_n 0, 1) := by decide +kernel
theorem dX6_headsOf_36 : decode cX6_headsOf 36 = .ok (.getfield 16, 3) := by decide +kernel
theorem dX6_headsOf_39 : decode cX6_headsOf 39 = .ok (.bipush 7, 2) := by decide +kernel
theorem dX6_headsOf_41 : decode cX6_headsOf 41 = .ok (.iload_n 1, 1) := by decide +kernel
theorem dX6_headsOf_42 : decode cX6_headsOf 42 = .ok (.imul, 1) := by decide +kernel
theorem dX6_headsOf_43 : decode cX6_headsOf 43 = .ok (.iconst 4, 1) := by decide +kernel
theorem dX6_headsOf_44 : decode cX6_headsOf 44 = .ok (.iadd, 1) := by decide +kernel
theorem dX6_headsOf_45 : decode cX6_headsOf 45 = .ok (.iaload, 1) := by decide +kernel
theorem dX6_headsOf_46 : decode cX6_headsOf 46 = .ok (.iadd, 1) := by decide +kernel
theorem dX6_headsOf_47 : decode cX6_headsOf 47 = .ok (.iconst 1, 1) := by decide +kernel
theorem dX6_headsOf_48 : decode cX6_headsOf 48 = .ok (.iastore, 1) := by decide +kernel
theorem dX6_headsOf_49 : decode cX6_headsOf 49 = .ok (.iconst 0, 1) := by decide +kernel
theorem dX6_headsOf_50 : decode cX6_headsOf 50 = .ok (.istore 4, 2) := by decide +kernel
theorem dX6_headsOf_52 : decode cX6_headsOf 52 = .ok (.iload 4, 2) := by decide +kernel
theorem dX6_headsOf_54 : decode cX6_headsOf 54 = .ok (.aload_n 0, 1) := by decide +kernel
theorem dX6_headsOf_55 : decode cX6_headsOf 55 = .ok (.getfield 7, 3) := by decide +kernel
theorem dX6_headsOf_58 : decode cX6_headsOf 58 = .ok (.if_icmp .ge 58, 3) := by decide +kernel
theorem dX6_headsOf_61 : decode cX6_headsOf 61 = .ok (.iload_n 3, 1) := by decide +kernel
theorem dX6_headsOf_62 : decode cX6_headsOf 62 = .ok (.iconst 2, 1) := by decide +kernel
theorem dX6_headsOf_63 : decode cX6_headsOf 63 = .ok (.if_icmp .ne 53, 3) := by decide +kernel
theorem dX6_headsOf_66 : decode cX6_headsOf 66 = .ok (.aload_n 0, 1) := by decide +kernel
theorem dX6_headsOf_67 : decode cX6_headsOf 67 = .ok (.iload_n 2, 1) := by decide +kernel
theorem dX6_headsOf_68 : decode cX6_headsOf 68 = .ok (.aload_n 0, 1) := by decide +kernel
theorem dX6_headsOf_69 : decode cX6_headsOf 69 = .ok (.getfield 16, 3) := by decide +kernel
theorem dX6_headsOf_72 : decode cX6_headsOf 72 = .ok (.bipush 7, 2) := by decide +kernel
theorem dX6_headsOf_74 : decode cX6_headsOf 74 = .ok (.iload_n 1, 1) := by decide +kernel
theorem dX6_headsOf_75 : decode cX6_headsOf 75 = .ok (.imul, 1) := by decide +kernel
theorem dX6_headsOf_76 : decode cX6_headsOf 76 = .ok (.iconst 4, 1) := by decide +kernel
theorem dX6_headsOf_77 : decode cX6_headsOf 77 = .ok (.iadd, 1) := by decide +kernel
theorem dX6_headsOf_78 : decode cX6_headsOf 78 = .ok (.iaload, 1) := by decide +kernel
theorem dX6_headsOf_79 : decode cX6_headsOf 79 = .ok (.iload 4, 2) := by decide +kernel
theorem dX6_headsOf_81 : decode cX6_headsOf 81 = .ok (.invokevirtual 207, 3) := by decide +kernel
theorem dX6_headsOf_84 : decode cX6_headsOf 84 = .ok (.iconst 1, 1) := by decide +kernel
theorem dX6_headsOf_85 : decode cX6_headsOf 85 = .ok (.if_icmp .ne 25, 3) := by decide +kernel
theorem dX6_headsOf_88 : decode cX6_headsOf 88 = .ok (.aload_n 0, 1) := by decide +kernel
theorem dX6_headsOf_89 : decode cX6_headsOf 89 = .ok (.getfield 65, 3) := by decide +kernel
theorem dX6_headsOf_92 : decode cX6_headsOf 92 = .ok (.iconst 4, 1) := by decide +kernel
theorem dX6_headsOf_93 : decode cX6_headsOf 93 = .ok (.iload 4, 2) := by decide +kernel
theorem dX6_headsOf_95 : decode cX6_headsOf 95 = .ok (.imul, 1) := by decide +kernel
theorem dX6_headsOf_96 : decode cX6_headsOf 96 = .ok (.aload_n 0, 1) := by decide +kernel
theorem dX6_headsOf_97 : decode cX6_headsOf 97 = .ok (.getfield 16, 3) := by decide +kernel
theorem dX6_headsOf_100 : decode cX6_headsOf 100 = .ok (.bipush 7, 2) := by decide +kernel
theorem dX6_headsOf_102 : decode cX6_headsOf 102 = .ok (.iload_n 1, 1) := by decide +kernel
theorem dX6_headsOf_103 : decode cX6_headsOf 103 = .ok (.imul, 1) := by decide +kernel
theorem dX6_headsOf_104 : decode cX6_headsOf 104 = .ok (.iconst 5, 1) := by decide +kernel
theorem dX6_headsOf_105 : decode cX6_headsOf 105 = .ok (.iadd, 1) := by decide +kernel
theorem dX6_headsOf_106 : decode cX6_headsOf 106 = .ok (.iaload, 1) := by decide +kernel
theorem dX6_headsOf_107 : decode cX6_headsOf 107 = .ok (.iadd, 1) := by decide +kernel
theorem dX6_headsOf_108 : decode cX6_headsOf 108 = .ok (.iconst 1, 1) := by decide +kernel
theorem dX6_headsOf_109 : decode cX6_headsOf 109 = .ok (.iastore, 1) := by decide +kernel
theorem dX6_headsOf_110 : decode cX6_headsOf 110 = .ok (.iinc 4 1, 3) := by decide +kernel
theorem dX6_headsOf_113 : decode cX6_headsOf 113 = .ok (.goto (-61), 3) := by decide +kernel
theorem dX6_headsOf_116 : decode cX6_headsOf 116 = .ok (.return_, 1) := by decide +kernel
theorem dX6_setHeads_0 : decode cX6_setHeads 0 = .ok (.aload_n 0, 1) := by decide +kernel
theorem dX6_setHeads_1 : decode cX6_setHeads 1 = .ok (.invokevirtual 214, 3) := by decide +kernel
theorem dX6_setHeads_4 : decode cX6_setHeads 4 = .ok (.iconst 0, 1) := by decide +kernel
theorem dX6_setHeads_5 : decode cX6_setHeads 5 = .ok (.istore_n 1, 1) := by decide +kernel
theorem dX6_setHeads_6 : decode cX6_setHeads 6 = .ok (.iload_n 1, 1) := by decide +kernel
theorem dX6_setHeads_7 : decode cX6_setHeads 7 = .ok (.bipush 12, 2) := by decide +kernel
theorem dX6_setHeads_9 : decode cX6_setHeads 9 = .ok (.if_icmp .ge 16, 3) := by decide +kernel
theorem dX6_setHeads_12 : decode cX6_setHeads 12 = .ok (.aload_n 0, 1) := by decide +kernel
theorem dX6_setHeads_13 : decode cX6_setHeads 13 = .ok (.getfield 65, 3) := by decide +kernel
theorem dX6_setHeads_16 : decode cX6_setHeads 16 = .ok (.iload_n 1, 1) := by decide +kernel
theorem dX6_setHeads_17 : decode cX6_setHeads 17 = .ok (.iconst 0, 1) := by decide +kernel
theorem dX6_setHeads_18 : decode cX6_setHeads 18 = .ok (.iastore, 1) := by decide +kernel
theorem dX6_setHeads_19 : decode cX6_setHeads 19 = .ok (.iinc 1 1, 3) := by decide +kernel
theorem dX6_setHeads_22 : decode cX6_setHeads 22 = .ok (.goto (-16), 3) := by decide +kernel
theorem dX6_setHeads_25 : decode cX6_setHeads 25 = .ok (.aload_n 0, 1) := by decide +kernel
theorem dX6_setHeads_26 : decode cX6_setHeads 26 = .ok (.invokevirtual 217, 3) := by decide +kernel
theorem dX6_setHeads_29 : decode cX6_setHeads 29 = .ok (.iconst (-1), 1) := by decide +kernel
theorem dX6_setHeads_30 : decode cX6_setHeads 30 = .ok (.istore_n 1, 1) := by decide +kernel
theorem dX6_setHeads_31 : decode cX6_setHeads 31 = .ok (.iload_n 1, 1) := by decide +kernel
theorem dX6_setHeads_32 : decode cX6_setHeads 32 = .ok (.aload_n 0, 1) := by decide +kernel
theorem dX6_setHeads_33 : decode cX6_setHeads 33 = .ok (.invokevirtual 220, 3) := by decide +kernel
theorem dX6_setHeads_36 : decode cX6_setHeads 36 = .ok (.if_icmp .eq 64, 3) := by decide +kernel
theorem dX6_setHeads_39 : decode cX6_setHeads 39 = .ok (.aload_n 0, 1) := by decide +kernel
theorem dX6_setHeads_40 : decode cX6_setHeads 40 = .ok (.invokevirtual 220, 3) := by decide +kernel
theorem dX6_setHeads_43 : decode cX6_setHeads 43 = .ok (.istore_n 1, 1) := by decide +kernel
theorem dX6_setHeads_44 : decode cX6_setHeads 44 = .ok (.iconst 0, 1) := by decide +kernel
theorem dX6_setHeads_45 : decode cX6_setHeads 45 = .ok (.istore_n 2, 1) := by decide +kernel
theorem dX6_setHeads_46 : decode cX6_setHeads 46 = .ok (.iload_n 2, 1) := by decide +kernel
theorem dX6_setHeads_47 : decode cX6_setHeads 47 = .ok (.aload_n 0, 1) := by decide +kernel
theorem dX6_setHeads_48 : decode cX6_setHeads 48 = .ok (.getfield 13, 3) := by decide +kernel
theorem dX6_setHeads_51 : decode cX6_setHeads 51 = .ok (.if_icmp .ge 46, 3) := by decide +kernel
theorem dX6_setHeads_54 : decode cX6_setHeads 54 = .ok (.aload_n 0, 1) := by decide +kernel
theorem dX6_setHeads_55 : decode cX6_setHeads 55 = .ok (.getfield 65, 3) := by decide +kernel
theorem dX6_setHeads_58 : decode cX6_setHeads 58 = .ok (.iconst 4, 1) := by decide +kernel
theorem dX6_setHeads_59 : decode cX6_setHeads 59 = .ok (.aload_n 0, 1) := by decide +kernel
theorem dX6_setHeads_60 : decode cX6_setHeads 60 = .ok (.getfield 16, 3) := by decide +kernel
theorem dX6_setHeads_63 : decode cX6_setHeads 63 = .ok (.bipush 7, 2) := by decide +kernel
theorem dX6_setHeads_65 : decode cX6_setHeads 65 = .ok (.iload_n 2, 1) := by decide +kernel
theorem dX6_setHeads_66 : decode cX6_setHeads 66 = .ok (.imul, 1) := by decide +kernel
theorem dX6_setHeads_67 : decode cX6_setHeads 67 = .ok (.iaload, 1) := by decide +kernel
theorem dX6_setHeads_68 : decode cX6_setHeads 68 = .ok (.imul, 1) := by decide +kernel
theorem dX6_setHeads_69 : decode cX6_setHeads 69 = .ok (.aload_n 0, 1) := by decide +kernel
theorem dX6_setHeads_70 : decode cX6_setHeads 70 = .ok (.getfield 16, 3) := by decide +kernel
theorem dX6_setHeads_73 : decode cX6_setHeads 73 = .ok (.bipush 7, 2) := by decide +kernel
theorem dX6_setHeads_75 : decode cX6_setHeads 75 = .ok (.iload_n 2, 1) := by decide +kernel
theorem dX6_setHeads_76 : decode cX6_setHeads 76 = .ok (.imul, 1) := by decide +kernel
theorem dX6_setHeads_77 : decode cX6_setHeads 77 = .ok (.iconst 1, 1) := by decide +kernel
theorem dX6_setHeads_78 : decode cX6_setHeads 78 = .ok (.iadd, 1) := by decide +kernel
theorem dX6_setHeads_79 : decode cX6_setHeads 79 = .ok (.iaload, 1) := by decide +kernel
theorem dX6_setHeads_80 : decode cX6_setHeads 80 = .ok (.iadd, 1) := by decide +kernel
theorem dX6_setHeads_81 : decode cX6_setHeads 81 = .ok (.iaload, 1) := by decide +kernel
theorem dX6_setHeads_82 : decode cX6_setHeads 82 = .ok (.iconst 1, 1) := by decide +kernel
theorem dX6_setHeads_83 : decode cX6_setHeads 83 = .ok (.if_icmp .ne 8, 3) := by decide +kernel
theorem dX6_setHeads_86 : decode cX6_setHeads 86 = .ok (.aload_n 0, 1) := by decide +kernel
theorem dX6_setHeads_87 : decode cX6_setHeads 87 = .ok (.iload_n 2, 1) := by decide +kernel
theorem dX6_setHeads_88 : decode cX6_setHeads 88 = .ok (.invokevirtual 223, 3) := by decide +kernel
theorem dX6_setHeads_91 : decode cX6_setHeads 91 = .ok (.iinc 2 1, 3) := by decide +kernel
theorem dX6_setHeads_94 : decode cX6_setHeads 94 = .ok (.goto (-48), 3) := by decide +kernel
theorem dX6_setHeads_97 : decode cX6_setHeads 97 = .ok (.goto (-66), 3) := by decide +kernel
theorem dX6_setHeads_100 : decode cX6_setHeads 100 = .ok (.return_, 1) := by decide +kernel
theorem dX6_heads_0 : decode cX6_heads 0 = .ok (.aload_n 0, 1) := by decide +kernel
theorem dX6_heads_1 : decode cX6_heads 1 = .ok (.iload_n 1, 1) := by decide +kernel
theorem dX6_heads_2 : decode cX6_heads 2 = .ok (.invokevirtual 120, 3) := by decide +kernel
theorem dX6_heads_5 : decode cX6_heads 5 = .ok (.ifCond .eq 10, 3) := by decide +kernel
theorem dX6_heads_8 : decode cX6_heads 8 = .ok (.iload_n 2, 1) := by decide +kernel
theorem dX6_heads_9 : decode cX6_heads 9 = .ok (.invokestatic 107, 3) := by decide +kernel
theorem dX6_heads_12 : decode cX6_heads 12 = .ok (.ifCond .ne 5, 3) := by decide +kernel
theorem dX6_heads_15 : decode cX6_heads 15 = .ok (.iconst (-1), 1) := by decide +kernel
theorem dX6_heads_16 : decode cX6_heads 16 = .ok (.ireturn, 1) := by decide +kernel
theorem dX6_heads_17 : decode cX6_heads 17 = .ok (.aload_n 0, 1) := by decide +kernel
theorem dX6_heads_18 : decode cX6_heads 18 = .ok (.invokevirtual 226, 3) := by decide +kernel
theorem dX6_heads_21 : decode cX6_heads 21 = .ok (.aload_n 0, 1) := by decide +kernel
theorem dX6_heads_22 : decode cX6_heads 22 = .ok (.getfield 65, 3) := by decide +kernel
theorem dX6_heads_25 : decode cX6_heads 25 = .ok (.iconst 4, 1) := by decide +kernel
theorem dX6_heads_26 : decode cX6_heads 26 = .ok (.iload_n 1, 1) := by decide +kernel
theorem dX6_heads_27 : decode cX6_heads 27 = .ok (.imul, 1) := by decide +kernel
theorem dX6_heads_28 : decode cX6_heads 28 = .ok (.iload_n 2, 1) := by decide +kernel
theorem dX6_heads_29 : decode cX6_heads 29 = .ok (.iadd, 1) := by decide +kernel
theorem dX6_heads_30 : decode cX6_heads 30 = .ok (.iaload, 1) := by decide +kernel
theorem dX6_heads_31 : decode cX6_heads 31 = .ok (.ireturn, 1) := by decide +kernel
theorem dX6_empty_0 : decode cX6_empty 0 = .ok (.aload_n 0, 1) := by decide +kernel
theorem dX6_empty_1 : decode cX6_empty 1 = .ok (.iload_n 1, 1) := by decide +kernel
theorem dX6_empty_2 : decode cX6_empty 2 = .ok (.invokevirtual 120, 3) := by decide +kernel
theorem dX6_empty_5 : decode cX6_empty 5 = .ok (.ifCond .ne 5, 3) := by decide +kernel
theorem dX6_empty_8 : decode cX6_empty 8 = .ok (.iconst (-1), 1) := by decide +kernel
theorem dX6_empty_9 : decode cX6_empty 9 = .ok (.ireturn, 1) := by decide +kernel
theorem dX6_empty_10 : decode cX6_empty 10 = .ok (.aload_n 0, 1) := by decide +kernel
theorem dX6_empty_11 : decode cX6_empty 11 = .ok (.invokevirtual 226, 3) := by decide +kernel
theorem dX6_empty_14 : decode cX6_empty 14 = .ok (.aload_n 0, 1) := by decide +kernel
theorem dX6_empty_15 : decode cX6_empty 15 = .ok (.getfield 68, 3) := by decide +kernel
theorem dX6_empty_18 : decode cX6_empty 18 = .ok (.iload_n 1, 1) := by decide +kernel
theorem dX6_empty_19 : decode cX6_empty 19 = .ok (.iaload, 1) := by decide +kernel
theorem dX6_empty_20 : decode cX6_empty 20 = .ok (.ireturn, 1) := by decide +kernel
theorem dX6_stuck_0 : decode cX6_stuck 0 = .ok (.aload_n 0, 1) := by decide +kernel
theorem dX6_stuck_1 : decode cX6_stuck 1 = .ok (.invokevirtual 226, 3) := by decide +kernel
theorem dX6_stuck_4 : decode cX6_stuck 4 = .ok (.aload_n 0, 1) := by decide +kernel
theorem dX6_stuck_5 : decode cX6_stuck 5 = .ok (.getfield 68, 3) := by decide +kernel
theorem dX6_stuck_8 : decode cX6_stuck 8 = .ok (.iconst 0, 1) := by decide +kernel
theorem dX6_stuck_9 : decode cX6_stuck 9 = .ok (.iaload, 1) := by decide +kernel
theorem dX6_stuck_10 : decode cX6_stuck 10 = .ok (.aload_n 0, 1) := by decide +kernel
theorem dX6_stuck_11 : decode cX6_stuck 11 = .ok (.getfield 68, 3) := by decide +kernel
theorem dX6_stuck_14 : decode cX6_stuck 14 = .ok (.iconst 1, 1) := by decide +kernel
theorem dX6_stuck_15 : decode cX6_stuck 15 = .ok (.iaload, 1) := by decide +kernel
theorem dX6_stuck_16 : decode cX6_stuck 16 = .ok (.iadd, 1) := by decide +kernel
theorem dX6_stuck_17 : decode cX6_stuck 17 = .ok (.aload_n 0, 1) := by decide +kernel
theorem dX6_stuck_18 : decode cX6_stuck 18 = .ok (.getfield 68, 3) := by decide +kernel
theorem dX6_stuck_21 : decode cX6_stuck 21 = .ok (.iconst 2, 1) := by decide +kernel
theorem dX6_stuck_22 : decode cX6_stuck 22 = .ok (.iaload, 1) := by decide +kernel
theorem dX6_stuck_23 : decode cX6_stuck 23 = .ok (.iadd, 1) := by decide +kernel
theorem dX6_stuck_24 : decode cX6_stuck 24 = .ok (.istore_n 1, 1) := by decide +kernel
theorem dX6_stuck_25 : decode cX6_stuck 25 = .ok (.iconst 0, 1) := by decide +kernel
theorem dX6_stuck_26 : decode cX6_stuck 26 = .ok (.istore_n 2, 1) := by decide +kernel
theorem dX6_stuck_27 : decode cX6_stuck 27 = .ok (.iload_n 2, 1) := by decide +kernel
theorem dX6_stuck_28 : decode cX6_stuck 28 = .ok (.iconst 4, 1) := by decide +kernel
theorem dX6_stuck_29 : decode cX6_stuck 29 = .ok (.aload_n 0, 1) := by decide +kernel
theorem dX6_stuck_30 : decode cX6_stuck 30 = .ok (.getfield 7, 3) := by decide +kernel
theorem dX6_stuck_33 : decode cX6_stuck 33 = .ok (.imul, 1) := by decide +kernel
theorem dX6_stuck_34 : decode cX6_stuck 34 = .ok (.if_icmp .ge 76, 3) := by decide +kernel
theorem dX6_stuck_37 : decode cX6_stuck 37 = .ok (.iconst 0, 1) := by decide +kernel
theorem dX6_stuck_38 : decode cX6_stuck 38 = .ok (.istore_n 3, 1) := by decide +kernel
theorem dX6_stuck_39 : decode cX6_stuck 39 = .ok (.iconst 0, 1) := by decide +kernel
theorem dX6_stuck_40 : decode cX6_stuck 40 = .ok (.istore 4, 2) := by decide +kernel
theorem dX6_stuck_42 : decode cX6_stuck 42 = .ok (.iload 4, 2) := by decide +kernel
theorem dX6_stuck_44 : decode cX6_stuck 44 = .ok (.aload_n 0, 1) := by decide +kernel
theorem dX6_stuck_45 : decode cX6_stuck 45 = .ok (.getfield 13, 3) := by decide +kernel
theorem dX6_stuck_48 : decode cX6_stuck 48 = .ok (.if_icmp .ge 34, 3) := by decide +kernel
theorem dX6_stuck_51 : decode cX6_stuck 51 = .ok (.iload_n 3, 1) := by decide +kernel
theorem dX6_stuck_52 : decode cX6_stuck 52 = .ok (.ifCond .ne 18, 3) := by decide +kernel
theorem dX6_stuck_55 : decode cX6_stuck 55 = .ok (.aload_n 0, 1) := by decide +kernel
theorem dX6_stuck_56 : decode cX6_stuck 56 = .ok (.iload 4, 2) := by decide +kernel
theorem dX6_stuck_58 : decode cX6_stuck 58 = .ok (.iload_n 2, 1) := by decide +kernel
theorem dX6_stuck_59 : decode cX6_stuck 59 = .ok (.iconst 4, 1) := by decide +kernel
theorem dX6_stuck_60 : decode cX6_stuck 60 = .ok (.idiv, 1) := by decide +kernel
theorem dX6_stuck_61 : decode cX6_stuck 61 = .ok (.iload_n 2, 1) := by decide +kernel
theorem dX6_stuck_62 : decode cX6_stuck 62 = .ok (.iconst 4, 1) := by decide +kernel
theorem dX6_stuck_63 : decode cX6_stuck 63 = .ok (.irem, 1) := by decide +kernel
theorem dX6_stuck_64 : decode cX6_stuck 64 = .ok (.invokevirtual 113, 3) := by decide +kernel
theorem dX6_stuck_67 : decode cX6_stuck 67 = .ok (.ifCond .eq 7, 3) := by decide +kernel
theorem dX6_stuck_70 : decode cX6_stuck 70 = .ok (.iconst 1, 1) := by decide +kernel
theorem dX6_stuck_71 : decode cX6_stuck 71 = .ok (.goto 4, 3) := by decide +kernel
theorem dX6_stuck_74 : decode cX6_stuck 74 = .ok (.iconst 0, 1) := by decide +kernel
theorem dX6_stuck_75 : decode cX6_stuck 75 = .ok (.istore_n 3, 1) := by decide +kernel
theorem dX6_stuck_76 : decode cX6_stuck 76 = .ok (.iinc 4 1, 3) := by decide +kernel
theorem dX6_stuck_79 : decode cX6_stuck 79 = .ok (.goto (-37), 3) := by decide +kernel
theorem dX6_stuck_82 : decode cX6_stuck 82 = .ok (.iload_n 1, 1) := by decide +kernel
theorem dX6_stuck_83 : decode cX6_stuck 83 = .ok (.aload_n 0, 1) := by decide +kernel
theorem dX6_stuck_84 : decode cX6_stuck 84 = .ok (.getfield 65, 3) := by decide +kernel
theorem dX6_stuck_87 : decode cX6_stuck 87 = .ok (.iload_n 2, 1) := by decide +kernel
theorem dX6_stuck_88 : decode cX6_stuck 88 = .ok (.iaload, 1) := by decide +kernel
theorem dX6_stuck_89 : decode cX6_stuck 89 = .ok (.iconst 1, 1) := by decide +kernel
theorem dX6_stuck_90 : decode cX6_stuck 90 = .ok (.if_icmp .ne 11, 3) := by decide +kernel
theorem dX6_stuck_93 : decode cX6_stuck 93 = .ok (.iload_n 3, 1) := by decide +kernel
theorem dX6_stuck_94 : decode cX6_stuck 94 = .ok (.ifCond .ne 7, 3) := by decide +kernel
theorem dX6_stuck_97 : decode cX6_stuck 97 = .ok (.iconst 1, 1) := by decide +kernel
theorem dX6_stuck_98 : decode cX6_stuck 98 = .ok (.goto 4, 3) := by decide +kernel
theorem dX6_stuck_101 : decode cX6_stuck 101 = .ok (.iconst 0, 1) := by decide +kernel
theorem dX6_stuck_102 : decode cX6_stuck 102 = .ok (.iadd, 1) := by decide +kernel
theorem dX6_stuck_103 : decode cX6_stuck 103 = .ok (.istore_n 1, 1) := by decide +kernel
theorem dX6_stuck_104 : decode cX6_stuck 104 = .ok (.iinc 2 1, 3) := by decide +kernel
theorem dX6_stuck_107 : decode cX6_stuck 107 = .ok (.goto (-80), 3) := by decide +kernel
theorem dX6_stuck_110 : decode cX6_stuck 110 = .ok (.iload_n 1, 1) := by decide +kernel
theorem dX6_stuck_111 : decode cX6_stuck 111 = .ok (.ireturn, 1) := by decide +kernel
theorem dX6_fitting_0 : decode cX6_fitting 0 = .ok (.iconst 0, 1) := by decide +kernel
theorem dX6_fitting_1 : decode cX6_fitting 1 = .ok (.istore_n 1, 1) := by decide +kernel
theorem dX6_fitting_2 : decode cX6_fitting 2 = .ok (.iconst 0, 1) := by decide +kernel
theorem dX6_fitting_3 : decode cX6_fitting 3 = .ok (.istore_n 2, 1) := by decide +kernel
theorem dX6_fitting_4 : decode cX6_fitting 4 = .ok (.iload_n 2, 1) := by decide +kernel
theorem dX6_fitting_5 : decode cX6_fitting 5 = .ok (.aload_n 0, 1) := by decide +kernel
theorem dX6_fitting_6 : decode cX6_fitting 6 = .ok (.getfield 13, 3) := by decide +kernel
theorem dX6_fitting_9 : decode cX6_fitting 9 = .ok (.if_icmp .ge 47, 3) := by decide +kernel
theorem dX6_fitting_12 : decode cX6_fitting 12 = .ok (.aload_n 0, 1) := by decide +kernel
theorem dX6_fitting_13 : decode cX6_fitting 13 = .ok (.getfield 26, 3) := by decide +kernel
theorem dX6_fitting_16 : decode cX6_fitting 16 = .ok (.ifCond .le 40, 3) := by decide +kernel
theorem dX6_fitting_19 : decode cX6_fitting 19 = .ok (.iload_n 1, 1) := by decide +kernel
theorem dX6_fitting_20 : decode cX6_fitting 20 = .ok (.aload_n 0, 1) := by decide +kernel
theorem dX6_fitting_21 : decode cX6_fitting 21 = .ok (.iload_n 2, 1) := by decide +kernel
theorem dX6_fitting_22 : decode cX6_fitting 22 = .ok (.aload_n 0, 1) := by decide +kernel
theorem dX6_fitting_23 : decode cX6_fitting 23 = .ok (.getfield 80, 3) := by decide +kernel
theorem dX6_fitting_26 : decode cX6_fitting 26 = .ok (.aload_n 0, 1) := by decide +kernel
theorem dX6_fitting_27 : decode cX6_fitting 27 = .ok (.getfield 29, 3) := by decide +kernel
theorem dX6_fitting_30 : decode cX6_fitting 30 = .ok (.aload_n 0, 1) := by decide +kernel
theorem dX6_fitting_31 : decode cX6_fitting 31 = .ok (.getfield 26, 3) := by decide +kernel
theorem dX6_fitting_34 : decode cX6_fitting 34 = .ok (.iconst 1, 1) := by decide +kernel
theorem dX6_fitting_35 : decode cX6_fitting 35 = .ok (.isub, 1) := by decide +kernel
theorem dX6_fitting_36 : decode cX6_fitting 36 = .ok (.iaload, 1) := by decide +kernel
theorem dX6_fitting_37 : decode cX6_fitting 37 = .ok (.invokevirtual 113, 3) := by decide +kernel
theorem dX6_fitting_40 : decode cX6_fitting 40 = .ok (.ifCond .eq 7, 3) := by decide +kernel
theorem dX6_fitting_43 : decode cX6_fitting 43 = .ok (.iconst 1, 1) := by decide +kernel
theorem dX6_fitting_44 : decode cX6_fitting 44 = .ok (.goto 4, 3) := by decide +kernel
theorem dX6_fitting_47 : decode cX6_fitting 47 = .ok (.iconst 0, 1) := by decide +kernel
theorem dX6_fitting_48 : decode cX6_fitting 48 = .ok (.iadd, 1) := by decide +kernel
theorem dX6_fitting_49 : decode cX6_fitting 49 = .ok (.istore_n 1, 1) := by decide +kernel
theorem dX6_fitting_50 : decode cX6_fitting 50 = .ok (.iinc 2 1, 3) := by decide +kernel
theorem dX6_fitting_53 : decode cX6_fitting 53 = .ok (.goto (-49), 3) := by decide +kernel
theorem dX6_fitting_56 : decode cX6_fitting 56 = .ok (.iload_n 1, 1) := by decide +kernel
theorem dX6_fitting_57 : decode cX6_fitting 57 = .ok (.ireturn, 1) := by decide +kernel
theorem dX6_fittingAt_0 : decode cX6_fittingAt 0 = .ok (.iload_n 1, 1) := by decide +kernel
theorem dX6_fittingAt_1 : decode cX6_fittingAt 1 = .ok (.istore_n 2, 1) := by decide +kernel
theorem dX6_fittingAt_2 : decode cX6_fittingAt 2 = .ok (.iconst 0, 1) := by decide +kernel
theorem dX6_fittingAt_3 : decode cX6_fittingAt 3 = .ok (.istore_n 3, 1) := by decide +kernel
theorem dX6_fittingAt_4 : decode cX6_fittingAt 4 = .ok (.iload_n 3, 1) := by decide +kernel
theorem dX6_fittingAt_5 : decode cX6_fittingAt 5 = .ok (.aload_n 0, 1) := by decide +kernel
theorem dX6_fittingAt_6 : decode cX6_fittingAt 6 = .ok (.getfield 13, 3) := by decide +kernel
theorem dX6_fittingAt_9 : decode cX6_fittingAt 9 = .ok (.if_icmp .ge 41, 3) := by decide +kernel
theorem dX6_fittingAt_12 : decode cX6_fittingAt 12 = .ok (.aload_n 0, 1) := by decide +kernel
theorem dX6_fittingAt_13 : decode cX6_fittingAt 13 = .ok (.iload_n 3, 1) := by decide +kernel
theorem dX6_fittingAt_14 : decode cX6_fittingAt 14 = .ok (.aload_n 0, 1) := by decide +kernel
theorem dX6_fittingAt_15 : decode cX6_fittingAt 15 = .ok (.getfield 80, 3) := by decide +kernel
theorem dX6_fittingAt_18 : decode cX6_fittingAt 18 = .ok (.aload_n 0, 1) := by decide +kernel
theorem dX6_fittingAt_19 : decode cX6_fittingAt 19 = .ok (.getfield 29, 3) := by decide +kernel
theorem dX6_fittingAt_22 : decode cX6_fittingAt 22 = .ok (.aload_n 0, 1) := by decide +kernel
theorem dX6_fittingAt_23 : decode cX6_fittingAt 23 = .ok (.getfield 26, 3) := by decide +kernel
theorem dX6_fittingAt_26 : decode cX6_fittingAt 26 = .ok (.iconst 1, 1) := by decide +kernel
theorem dX6_fittingAt_27 : decode cX6_fittingAt 27 = .ok (.isub, 1) := by decide +kernel
theorem dX6_fittingAt_28 : decode cX6_fittingAt 28 = .ok (.iaload, 1) := by decide +kernel
theorem dX6_fittingAt_29 : decode cX6_fittingAt 29 = .ok (.invokevirtual 113, 3) := by decide +kernel
theorem dX6_fittingAt_32 : decode cX6_fittingAt 32 = .ok (.ifCond .eq 12, 3) := by decide +kernel
theorem dX6_fittingAt_35 : decode cX6_fittingAt 35 = .ok (.iload_n 2, 1) := by decide +kernel
theorem dX6_fittingAt_36 : decode cX6_fittingAt 36 = .ok (.ifCond .ne 5, 3) := by decide +kernel
theorem dX6_fittingAt_39 : decode cX6_fittingAt 39 = .ok (.iload_n 3, 1) := by decide +kernel
theorem dX6_fittingAt_40 : decode cX6_fittingAt 40 = .ok (.ireturn, 1) := by decide +kernel
theorem dX6_fittingAt_41 : decode cX6_fittingAt 41 = .ok (.iinc 2 (-1), 3) := by decide +kernel
theorem dX6_fittingAt_44 : decode cX6_fittingAt 44 = .ok (.iinc 3 1, 3) := by decide +kernel
theorem dX6_fittingAt_47 : decode cX6_fittingAt 47 = .ok (.goto (-43), 3) := by decide +kernel
theorem dX6_fittingAt_50 : decode cX6_fittingAt 50 = .ok (.bipush (-4), 2) := by decide +kernel
theorem dX6_fittingAt_52 : decode cX6_fittingAt 52 = .ok (.ireturn, 1) := by decide +kernel
theorem dX6_walks_0 : decode cX6_walks 0 = .ok (.aload_n 0, 1) := by decide +kernel
theorem dX6_walks_1 : decode cX6_walks 1 = .ok (.invokevirtual 229, 3) := by decide +kernel
theorem dX6_walks_4 : decode cX6_walks 4 = .ok (.istore_n 3, 1) := by decide +kernel
theorem dX6_walks_5 : decode cX6_walks 5 = .ok (.iload_n 3, 1) := by decide +kernel
theorem dX6_walks_6 : decode cX6_walks 6 = .ok (.ifCond .ne 5, 3) := by decide +kernel
theorem dX6_walks_9 : decode cX6_walks 9 = .ok (.iconst 0, 1) := by decide +kernel
theorem dX6_walks_10 : decode cX6_walks 10 = .ok (.ireturn, 1) := by decide +kernel
theorem dX6_walks_11 : decode cX6_walks 11 = .ok (.ldc2_w 232, 3) := by decide +kernel
theorem dX6_walks_14 : decode cX6_walks 14 = .ok (.iload_n 1, 1) := by decide +kernel
theorem dX6_walks_15 : decode cX6_walks 15 = .ok (.i2l, 1) := by decide +kernel
theorem dX6_walks_16 : decode cX6_walks 16 = .ok (.lmul, 1) := by decide +kernel
theorem dX6_walks_17 : decode cX6_walks 17 = .ok (.ldc2_w 234, 3) := by decide +kernel
theorem dX6_walks_20 : decode cX6_walks 20 = .ok (.iload_n 2, 1) := by decide +kernel
theorem dX6_walks_21 : decode cX6_walks 21 = .ok (.i2l, 1) := by decide +kernel
theorem dX6_walks_22 : decode cX6_walks 22 = .ok (.lmul, 1) := by decide +kernel
theorem dX6_walks_23 : decode cX6_walks 23 = .ok (.ladd, 1) := by decide +kernel
theorem dX6_walks_24 : decode cX6_walks 24 = .ok (.lconst 1, 1) := by decide +kernel
theorem dX6_walks_25 : decode cX6_walks 25 = .ok (.ladd, 1) := by decide +kernel
theorem dX6_walks_26 : decode cX6_walks 26 = .ok (.lstore 4, 2) := by decide +kernel
theorem dX6_walks_28 : decode cX6_walks 28 = .ok (.aload_n 0, 1) := by decide +kernel
theorem dX6_walks_29 : decode cX6_walks 29 = .ok (.lload 4, 2) := by decide +kernel
theorem dX6_walks_31 : decode cX6_walks 31 = .ok (.lload 4, 2) := by decide +kernel
theorem dX6_walks_33 : decode cX6_walks 33 = .ok (.lmul, 1) := by decide +kernel
theorem dX6_walks_34 : decode cX6_walks 34 = .ok (.ldc2_w 236, 3) := by decide +kernel
theorem dX6_walks_37 : decode cX6_walks 37 = .ok (.lrem, 1) := by decide +kernel
theorem dX6_walks_38 : decode cX6_walks 38 = .ok (.ldc2_w 238, 3) := by decide +kernel
theorem dX6_walks_41 : decode cX6_walks 41 = .ok (.ldiv, 1) := by decide +kernel
theorem dX6_walks_42 : decode cX6_walks 42 = .ok (.iload_n 3, 1) := by decide +kernel
theorem dX6_walks_43 : decode cX6_walks 43 = .ok (.i2l, 1) := by decide +kernel
theorem dX6_walks_44 : decode cX6_walks 44 = .ok (.lrem, 1) := by decide +kernel
theorem dX6_walks_45 : decode cX6_walks 45 = .ok (.l2i, 1) := by decide +kernel
theorem dX6_walks_46 : decode cX6_walks 46 = .ok (.invokevirtual 240, 3) := by decide +kernel
theorem dX6_walks_49 : decode cX6_walks 49 = .ok (.istore 6, 2) := by decide +kernel
theorem dX6_walks_51 : decode cX6_walks 51 = .ok (.aload_n 0, 1) := by decide +kernel
theorem dX6_walks_52 : decode cX6_walks 52 = .ok (.getfield 26, 3) := by decide +kernel
theorem dX6_walks_55 : decode cX6_walks 55 = .ok (.iconst 1, 1) := by decide +kernel
theorem dX6_walks_56 : decode cX6_walks 56 = .ok (.isub, 1) := by decide +kernel
theorem dX6_walks_57 : decode cX6_walks 57 = .ok (.aload_n 0, 1) := by decide +kernel
theorem dX6_walks_58 : decode cX6_walks 58 = .ok (.getfield 16, 3) := by decide +kernel
theorem dX6_walks_61 : decode cX6_walks 61 = .ok (.bipush 7, 2) := by decide +kernel
theorem dX6_walks_63 : decode cX6_walks 63 = .ok (.iload 6, 2) := by decide +kernel
theorem dX6_walks_65 : decode cX6_walks 65 = .ok (.imul, 1) := by decide +kernel
theorem dX6_walks_66 : decode cX6_walks 66 = .ok (.iconst 3, 1) := by decide +kernel
theorem dX6_walks_67 : decode cX6_walks 67 = .ok (.iadd, 1) := by decide +kernel
theorem dX6_walks_68 : decode cX6_walks 68 = .ok (.iaload, 1) := by decide +kernel
theorem dX6_walks_69 : decode cX6_walks 69 = .ok (.iadd, 1) := by decide +kernel
theorem dX6_walks_70 : decode cX6_walks 70 = .ok (.bipush 12, 2) := by decide +kernel
theorem dX6_walks_72 : decode cX6_walks 72 = .ok (.if_icmp .le 5, 3) := by decide +kernel
theorem dX6_walks_75 : decode cX6_walks 75 = .ok (.iconst 0, 1) := by decide +kernel
theorem dX6_walks_76 : decode cX6_walks 76 = .ok (.ireturn, 1) := by decide +kernel
theorem dX6_walks_77 : decode cX6_walks 77 = .ok (.aload_n 0, 1) := by decide +kernel
theorem dX6_walks_78 : decode cX6_walks 78 = .ok (.iload 6, 2) := by decide +kernel
theorem dX6_walks_80 : decode cX6_walks 80 = .ok (.invokevirtual 116, 3) := by decide +kernel
theorem dX6_walks_83 : decode cX6_walks 83 = .ok (.iconst 1, 1) := by decide +kernel
theorem dX6_walks_84 : decode cX6_walks 84 = .ok (.ireturn, 1) := by decide +kernel
theorem dX6_walk_0 : decode cX6_walk 0 = .ok (.iload_n 1, 1) := by decide +kernel
theorem dX6_walk_1 : decode cX6_walk 1 = .ok (.iconst 0, 1) := by decide +kernel
theorem dX6_walk_2 : decode cX6_walk 2 = .ok (.sipush 9999, 3) := by decide +kernel
theorem dX6_walk_5 : decode cX6_walk 5 = .ok (.invokestatic 99, 3) := by decide +kernel
theorem dX6_walk_8 : decode cX6_walk 8 = .ok (.ifCond .eq 22, 3) := by decide +kernel
theorem dX6_walk_11 : decode cX6_walk 11 = .ok (.iload_n 2, 1) := by decide +kernel
theorem dX6_walk_12 : decode cX6_walk 12 = .ok (.iconst 1, 1) := by decide +kernel
theorem dX6_walk_13 : decode cX6_walk 13 = .ok (.bipush 60, 2) := by decide +kernel
theorem dX6_walk_15 : decode cX6_walk 15 = .ok (.invokestatic 99, 3) := by decide +kernel
theorem dX6_walk_18 : decode cX6_walk 18 = .ok (.ifCond .eq 12, 3) := by decide +kernel
theorem dX6_walk_21 : decode cX6_walk 21 = .ok (.iload_n 3, 1) := by decide +kernel
theorem dX6_walk_22 : decode cX6_walk 22 = .ok (.iconst 0, 1) := by decide +kernel
theorem dX6_walk_23 : decode cX6_walk 23 = .ok (.iconst 2, 1) := by decide +kernel
theorem dX6_walk_24 : decode cX6_walk 24 = .ok (.invokestatic 99, 3) := by decide +kernel
theorem dX6_walk_27 : decode cX6_walk 27 = .ok (.ifCond .ne 5, 3) := by decide +kernel
theorem dX6_walk_30 : decode cX6_walk 30 = .ok (.iconst (-1), 1) := by decide +kernel
theorem dX6_walk_31 : decode cX6_walk 31 = .ok (.ireturn, 1) := by decide +kernel
theorem dX6_walk_32 : decode cX6_walk 32 = .ok (.aload_n 0, 1) := by decide +kernel
theorem dX6_walk_33 : decode cX6_walk 33 = .ok (.aload_n 0, 1) := by decide +kernel
theorem dX6_walk_34 : decode cX6_walk 34 = .ok (.getfield 71, 3) := by decide +kernel
theorem dX6_walk_37 : decode cX6_walk 37 = .ok (.iconst 0, 1) := by decide +kernel
theorem dX6_walk_38 : decode cX6_walk 38 = .ok (.invokevirtual 89, 3) := by decide +kernel
theorem dX6_walk_41 : decode cX6_walk 41 = .ok (.iconst 0, 1) := by decide +kernel
theorem dX6_walk_42 : decode cX6_walk 42 = .ok (.istore 4, 2) := by decide +kernel
theorem dX6_walk_44 : decode cX6_walk 44 = .ok (.iload 4, 2) := by decide +kernel
theorem dX6_walk_46 : decode cX6_walk 46 = .ok (.iload_n 2, 1) := by decide +kernel
theorem dX6_walk_47 : decode cX6_walk 47 = .ok (.if_icmp .ge 19, 3) := by decide +kernel
theorem dX6_walk_50 : decode cX6_walk 50 = .ok (.aload_n 0, 1) := by decide +kernel
theorem dX6_walk_51 : decode cX6_walk 51 = .ok (.iload_n 1, 1) := by decide +kernel
theorem dX6_walk_52 : decode cX6_walk 52 = .ok (.iload 4, 2) := by decide +kernel
theorem dX6_walk_54 : decode cX6_walk 54 = .ok (.invokevirtual 243, 3) := by decide +kernel
theorem dX6_walk_57 : decode cX6_walk 57 = .ok (.ifCond .eq 9, 3) := by decide +kernel
theorem dX6_walk_60 : decode cX6_walk 60 = .ok (.iinc 4 1, 3) := by decide +kernel
theorem dX6_walk_63 : decode cX6_walk 63 = .ok (.goto (-19), 3) := by decide +kernel
theorem dX6_walk_66 : decode cX6_walk 66 = .ok (.iload_n 3, 1) := by decide +kernel
theorem dX6_walk_67 : decode cX6_walk 67 = .ok (.ifCond .ne 8, 3) := by decide +kernel
theorem dX6_walk_70 : decode cX6_walk 70 = .ok (.iload 4, 2) := by decide +kernel
theorem dX6_walk_72 : decode cX6_walk 72 = .ok (.goto 19, 3) := by decide +kernel
theorem dX6_walk_75 : decode cX6_walk 75 = .ok (.iload_n 3, 1) := by decide +kernel
theorem dX6_walk_76 : decode cX6_walk 76 = .ok (.iconst 1, 1) := by decide +kernel
theorem dX6_walk_77 : decode cX6_walk 77 = .ok (.if_icmp .ne 10, 3) := by decide +kernel
theorem dX6_walk_80 : decode cX6_walk 80 = .ok (.aload_n 0, 1) := by decide +kernel
theorem dX6_walk_81 : decode cX6_walk 81 = .ok (.getfield 26, 3) := by decide +kernel
theorem dX6_walk_84 : decode cX6_walk 84 = .ok (.goto 7, 3) := by decide +kernel
theorem dX6_walk_87 : decode cX6_walk 87 = .ok (.aload_n 0, 1) := by decide +kernel
theorem dX6_walk_88 : decode cX6_walk 88 = .ok (.getfield 80, 3) := by decide +kernel
theorem dX6_walk_91 : decode cX6_walk 91 = .ok (.istore 5, 2) := by decide +kernel
theorem dX6_walk_93 : decode cX6_walk 93 = .ok (.aload_n 0, 1) := by decide +kernel
theorem dX6_walk_94 : decode cX6_walk 94 = .ok (.aload_n 0, 1) := by decide +kernel
theorem dX6_walk_95 : decode cX6_walk 95 = .ok (.getfield 71, 3) := by decide +kernel
theorem dX6_walk_98 : decode cX6_walk 98 = .ok (.iconst 0, 1) := by decide +kernel
theorem dX6_walk_99 : decode cX6_walk 99 = .ok (.invokevirtual 93, 3) := by decide +kernel
theorem dX6_walk_102 : decode cX6_walk 102 = .ok (.iload 5, 2) := by decide +kernel
theorem dX6_walk_104 : decode cX6_walk 104 = .ok (.ireturn, 1) := by decide +kernel
theorem dX6_write_0 : decode cX6_write 0 = .ok (.iload_n 1, 1) := by decide +kernel
theorem dX6_write_1 : decode cX6_write 1 = .ok (.bipush 32, 2) := by decide +kernel
theorem dX6_write_3 : decode cX6_write 3 = .ok (.bipush 126, 2) := by decide +kernel
theorem dX6_write_5 : decode cX6_write 5 = .ok (.invokestatic 99, 3) := by decide +kernel
theorem dX6_write_8 : decode cX6_write 8 = .ok (.ifCond .ne 5, 3) := by decide +kernel
theorem dX6_write_11 : decode cX6_write 11 = .ok (.iconst (-1), 1) := by decide +kernel
theorem dX6_write_12 : decode cX6_write 12 = .ok (.ireturn, 1) := by decide +kernel
theorem dX6_write_13 : decode cX6_write 13 = .ok (.aload_n 0, 1) := by decide +kernel
theorem dX6_write_14 : decode cX6_write 14 = .ok (.getfield 246, 3) := by decide +kernel
theorem dX6_write_17 : decode cX6_write 17 = .ok (.sipush 200, 3) := by decide +kernel
theorem dX6_write_20 : decode cX6_write 20 = .ok (.if_icmp .ne 6, 3) := by decide +kernel
theorem dX6_write_23 : decode cX6_write 23 = .ok (.bipush (-3), 2) := by decide +kernel
theorem dX6_write_25 : decode cX6_write 25 = .ok (.ireturn, 1) := by decide +kernel
theorem dX6_write_26 : decode cX6_write 26 = .ok (.aload_n 0, 1) := by decide +kernel
theorem dX6_write_27 : decode cX6_write 27 = .ok (.getfield 74, 3) := by decide +kernel
theorem dX6_write_30 : decode cX6_write 30 = .ok (.aload_n 0, 1) := by decide +kernel
theorem dX6_write_31 : decode cX6_write 31 = .ok (.getfield 246, 3) := by decide +kernel
theorem dX6_write_34 : decode cX6_write 34 = .ok (.iload_n 1, 1) := by decide +kernel
theorem dX6_write_35 : decode cX6_write 35 = .ok (.iastore, 1) := by decide +kernel
theorem dX6_write_36 : decode cX6_write 36 = .ok (.aload_n 0, 1) := by decide +kernel
theorem dX6_write_37 : decode cX6_write 37 = .ok (.dup, 1) := by decide +kernel
theorem dX6_write_38 : decode cX6_write 38 = .ok (.getfield 246, 3) := by decide +kernel
theorem dX6_write_41 : decode cX6_write 41 = .ok (.iconst 1, 1) := by decide +kernel
theorem dX6_write_42 : decode cX6_write 42 = .ok (.iadd, 1) := by decide +kernel
theorem dX6_write_43 : decode cX6_write 43 = .ok (.putfield 246, 3) := by decide +kernel
theorem dX6_write_46 : decode cX6_write 46 = .ok (.aload_n 0, 1) := by decide +kernel
theorem dX6_write_47 : decode cX6_write 47 = .ok (.getfield 246, 3) := by decide +kernel
theorem dX6_write_50 : decode cX6_write 50 = .ok (.ireturn, 1) := by decide +kernel
theorem dX6_wipe_0 : decode cX6_wipe 0 = .ok (.aload_n 0, 1) := by decide +kernel
theorem dX6_wipe_1 : decode cX6_wipe 1 = .ok (.getfield 246, 3) := by decide +kernel
theorem dX6_wipe_4 : decode cX6_wipe 4 = .ok (.istore_n 1, 1) := by decide +kernel
theorem dX6_wipe_5 : decode cX6_wipe 5 = .ok (.aload_n 0, 1) := by decide +kernel
theorem dX6_wipe_6 : decode cX6_wipe 6 = .ok (.iconst 0, 1) := by decide +kernel
theorem dX6_wipe_7 : decode cX6_wipe 7 = .ok (.putfield 246, 3) := by decide +kernel
theorem dX6_wipe_10 : decode cX6_wipe 10 = .ok (.iload_n 1, 1) := by decide +kernel
theorem dX6_wipe_11 : decode cX6_wipe 11 = .ok (.ireturn, 1) := by decide +kernel
theorem dX6_sign_0 : decode cX6_sign 0 = .ok (.aload_n 0, 1) := by decide +kernel
theorem dX6_sign_1 : decode cX6_sign 1 = .ok (.getfield 249, 3) := by decide +kernel
theorem dX6_sign_4 : decode cX6_sign 4 = .ok (.aload_n 0, 1) := by decide +kernel
theorem dX6_sign_5 : decode cX6_sign 5 = .ok (.getfield 246, 3) := by decide +kernel
theorem dX6_sign_8 : decode cX6_sign 8 = .ok (.if_icmp .ge 28, 3) := by decide +kernel
theorem dX6_sign_11 : decode cX6_sign 11 = .ok (.aload_n 0, 1) := by decide +kernel
theorem dX6_sign_12 : decode cX6_sign 12 = .ok (.getfield 74, 3) := by decide +kernel
theorem dX6_sign_15 : decode cX6_sign 15 = .ok (.aload_n 0, 1) := by decide +kernel
theorem dX6_sign_16 : decode cX6_sign 16 = .ok (.getfield 249, 3) := by decide +kernel
theorem dX6_sign_19 : decode cX6_sign 19 = .ok (.iaload, 1) := by decide +kernel
theorem dX6_sign_20 : decode cX6_sign 20 = .ok (.iload_n 1, 1) := by decide +kernel
theorem dX6_sign_21 : decode cX6_sign 21 = .ok (.if_icmp .ne 15, 3) := by decide +kernel
theorem dX6_sign_24 : decode cX6_sign 24 = .ok (.aload_n 0, 1) := by decide +kernel
theorem dX6_sign_25 : decode cX6_sign 25 = .ok (.dup, 1) := by decide +kernel
theorem dX6_sign_26 : decode cX6_sign 26 = .ok (.getfield 249, 3) := by decide +kernel
theorem dX6_sign_29 : decode cX6_sign 29 = .ok (.iconst 1, 1) := by decide +kernel
theorem dX6_sign_30 : decode cX6_sign 30 = .ok (.iadd, 1) := by decide +kernel
theorem dX6_sign_31 : decode cX6_sign 31 = .ok (.putfield 249, 3) := by decide +kernel
theorem dX6_sign_34 : decode cX6_sign 34 = .ok (.iconst 1, 1) := by decide +kernel
theorem dX6_sign_35 : decode cX6_sign 35 = .ok (.ireturn, 1) := by decide +kernel
theorem dX6_sign_36 : decode cX6_sign 36 = .ok (.iconst 0, 1) := by decide +kernel
theorem dX6_sign_37 : decode cX6_sign 37 = .ok (.ireturn, 1) := by decide +kernel
theorem dX6_figure_0 : decode cX6_figure 0 = .ok (.aload_n 0, 1) := by decide +kernel
theorem dX6_figure_1 : decode cX6_figure 1 = .ok (.getfield 249, 3) := by decide +kernel
theorem dX6_figure_4 : decode cX6_figure 4 = .ok (.aload_n 0, 1) := by decide +kernel
theorem dX6_figure_5 : decode cX6_figure 5 = .ok (.getfield 246, 3) := by decide +kernel
theorem dX6_figure_8 : decode cX6_figure 8 = .ok (.if_icmp .ge 53, 3) := by decide +kernel
theorem dX6_figure_11 : decode cX6_figure 11 = .ok (.aload_n 0, 1) := by decide +kernel
theorem dX6_figure_12 : decode cX6_figure 12 = .ok (.getfield 74, 3) := by decide +kernel
theorem dX6_figure_15 : decode cX6_figure 15 = .ok (.aload_n 0, 1) := by decide +kernel
theorem dX6_figure_16 : decode cX6_figure 16 = .ok (.getfield 249, 3) := by decide +kernel
theorem dX6_figure_19 : decode cX6_figure 19 = .ok (.iaload, 1) := by decide +kernel
theorem dX6_figure_20 : decode cX6_figure 20 = .ok (.bipush 48, 2) := by decide +kernel
theorem dX6_figure_22 : decode cX6_figure 22 = .ok (.isub, 1) := by decide +kernel
theorem dX6_figure_23 : decode cX6_figure 23 = .ok (.iload_n 1, 1) := by decide +kernel
theorem dX6_figure_24 : decode cX6_figure 24 = .ok (.iload_n 2, 1) := by decide +kernel
theorem dX6_figure_25 : decode cX6_figure 25 = .ok (.iconst 1, 1) := by decide +kernel
theorem dX6_figure_26 : decode cX6_figure 26 = .ok (.isub, 1) := by decide +kernel
theorem dX6_figure_27 : decode cX6_figure 27 = .ok (.invokestatic 99, 3) := by decide +kernel
theorem dX6_figure_30 : decode cX6_figure 30 = .ok (.ifCond .eq 31, 3) := by decide +kernel
theorem dX6_figure_33 : decode cX6_figure 33 = .ok (.aload_n 0, 1) := by decide +kernel
theorem dX6_figure_34 : decode cX6_figure 34 = .ok (.aload_n 0, 1) := by decide +kernel
theorem dX6_figure_35 : decode cX6_figure 35 = .ok (.getfield 74, 3) := by decide +kernel
theorem dX6_figure_38 : decode cX6_figure 38 = .ok (.aload_n 0, 1) := by decide +kernel
theorem dX6_figure_39 : decode cX6_figure 39 = .ok (.getfield 249, 3) := by decide +kernel
theorem dX6_figure_42 : decode cX6_figure 42 = .ok (.iaload, 1) := by decide +kernel
theorem dX6_figure_43 : decode cX6_figure 43 = .ok (.bipush 48, 2) := by decide +kernel
theorem dX6_figure_45 : decode cX6_figure 45 = .ok (.isub, 1) := by decide +kernel
theorem dX6_figure_46 : decode cX6_figure 46 = .ok (.putfield 252, 3) := by decide +kernel
theorem dX6_figure_49 : decode cX6_figure 49 = .ok (.aload_n 0, 1) := by decide +kernel
theorem dX6_figure_50 : decode cX6_figure 50 = .ok (.dup, 1) := by decide +kernel
theorem dX6_figure_51 : decode cX6_figure 51 = .ok (.getfield 249, 3) := by decide +kernel
theorem dX6_figure_54 : decode cX6_figure 54 = .ok (.iconst 1, 1) := by decide +kernel
theorem dX6_figure_55 : decode cX6_figure 55 = .ok (.iadd, 1) := by decide +kernel
theorem dX6_figure_56 : decode cX6_figure 56 = .ok (.putfield 249, 3) := by decide +kernel
theorem dX6_figure_59 : decode cX6_figure 59 = .ok (.iconst 1, 1) := by decide +kernel
theorem dX6_figure_60 : decode cX6_figure 60 = .ok (.ireturn, 1) := by decide +kernel
theorem dX6_figure_61 : decode cX6_figure 61 = .ok (.iconst 0, 1) := by decide +kernel
theorem dX6_figure_62 : decode cX6_figure 62 = .ok (.ireturn, 1) := by decide +kernel
theorem dX6_isWordAt_0 : decode cX6_isWordAt 0 = .ok (.aload_n 0, 1) := by decide +kernel
theorem dX6_isWordAt_1 : decode cX6_isWordAt 1 = .ok (.getfield 249, 3) := by decide +kernel
theorem dX6_isWordAt_4 : decode cX6_isWordAt 4 = .ok (.aload_n 0, 1) := by decide +kernel
theorem dX6_isWordAt_5 : decode cX6_isWordAt 5 = .ok (.getfield 246, 3) := by decide +kernel
theorem dX6_isWordAt_8 : decode cX6_isWordAt 8 = .ok (.if_icmp .ge 25, 3) := by decide +kernel
theorem dX6_isWordAt_11 : decode cX6_isWordAt 11 = .ok (.aload_n 0, 1) := by decide +kernel
theorem dX6_isWordAt_12 : decode cX6_isWordAt 12 = .ok (.getfield 74, 3) := by decide +kernel
theorem dX6_isWordAt_15 : decode cX6_isWordAt 15 = .ok (.aload_n 0, 1) := by decide +kernel
theorem dX6_isWordAt_16 : decode cX6_isWordAt 16 = .ok (.getfield 249, 3) := by decide +kernel
theorem dX6_isWordAt_19 : decode cX6_isWordAt 19 = .ok (.iaload, 1) := by decide +kernel
theorem dX6_isWordAt_20 : decode cX6_isWordAt 20 = .ok (.bipush 97, 2) := by decide +kernel
theorem dX6_isWordAt_22 : decode cX6_isWordAt 22 = .ok (.isub, 1) := by decide +kernel
theorem dX6_isWordAt_23 : decode cX6_isWordAt 23 = .ok (.invokestatic 107, 3) := by decide +kernel
theorem dX6_isWordAt_26 : decode cX6_isWordAt 26 = .ok (.ifCond .eq 7, 3) := by decide +kernel
theorem dX6_isWordAt_29 : decode cX6_isWordAt 29 = .ok (.iconst 1, 1) := by decide +kernel
theorem dX6_isWordAt_30 : decode cX6_isWordAt 30 = .ok (.goto 4, 3) := by decide +kernel
theorem dX6_isWordAt_33 : decode cX6_isWordAt 33 = .ok (.iconst 0, 1) := by decide +kernel
theorem dX6_isWordAt_34 : decode cX6_isWordAt 34 = .ok (.ireturn, 1) := by decide +kernel
theorem dX6_word_0 : decode cX6_word 0 = .ok (.aload_n 0, 1) := by decide +kernel
theorem dX6_word_1 : decode cX6_word 1 = .ok (.iconst 0, 1) := by decide +kernel
theorem dX6_word_2 : decode cX6_word 2 = .ok (.putfield 255, 3) := by decide +kernel
theorem dX6_word_5 : decode cX6_word 5 = .ok (.aload_n 0, 1) := by decide +kernel
theorem dX6_word_6 : decode cX6_word 6 = .ok (.invokevirtual 258, 3) := by decide +kernel
theorem dX6_word_9 : decode cX6_word 9 = .ok (.ifCond .eq 56, 3) := by decide +kernel
theorem dX6_word_12 : decode cX6_word 12 = .ok (.aload_n 0, 1) := by decide +kernel
theorem dX6_word_13 : decode cX6_word 13 = .ok (.getfield 255, 3) := by decide +kernel
theorem dX6_word_16 : decode cX6_word 16 = .ok (.bipush 6, 2) := by decide +kernel
theorem dX6_word_18 : decode cX6_word 18 = .ok (.if_icmp .ge 24, 3) := by decide +kernel
theorem dX6_word_21 : decode cX6_word 21 = .ok (.aload_n 0, 1) := by decide +kernel
theorem dX6_word_22 : decode cX6_word 22 = .ok (.getfield 77, 3) := by decide +kernel
theorem dX6_word_25 : decode cX6_word 25 = .ok (.aload_n 0, 1) := by decide +kernel
theorem dX6_word_26 : decode cX6_word 26 = .ok (.getfield 255, 3) := by decide +kernel
theorem dX6_word_29 : decode cX6_word 29 = .ok (.aload_n 0, 1) := by decide +kernel
theorem dX6_word_30 : decode cX6_word 30 = .ok (.getfield 74, 3) := by decide +kernel
theorem dX6_word_33 : decode cX6_word 33 = .ok (.aload_n 0, 1) := by decide +kernel
theorem dX6_word_34 : decode cX6_word 34 = .ok (.getfield 249, 3) := by decide +kernel
theorem dX6_word_37 : decode cX6_word 37 = .ok (.iaload, 1) := by decide +kernel
theorem dX6_word_38 : decode cX6_word 38 = .ok (.bipush 97, 2) := by decide +kernel
theorem dX6_word_40 : decode cX6_word 40 = .ok (.isub, 1) := by decide +kernel
theorem dX6_word_41 : decode cX6_word 41 = .ok (.iastore, 1) := by decide +kernel
theorem dX6_word_42 : decode cX6_word 42 = .ok (.aload_n 0, 1) := by decide +kernel
theorem dX6_word_43 : decode cX6_word 43 = .ok (.dup, 1) := by decide +kernel
theorem dX6_word_44 : decode cX6_word 44 = .ok (.getfield 255, 3) := by decide +kernel
theorem dX6_word_47 : decode cX6_word 47 = .ok (.iconst 1, 1) := by decide +kernel
theorem dX6_word_48 : decode cX6_word 48 = .ok (.iadd, 1) := by decide +kernel
theorem dX6_word_49 : decode cX6_word 49 = .ok (.putfield 255, 3) := by decide +kernel
theorem dX6_word_52 : decode cX6_word 52 = .ok (.aload_n 0, 1) := by decide +kernel
theorem dX6_word_53 : decode cX6_word 53 = .ok (.dup, 1) := by decide +kernel
theorem dX6_word_54 : decode cX6_word 54 = .ok (.getfield 249, 3) := by decide +kernel
theorem dX6_word_57 : decode cX6_word 57 = .ok (.iconst 1, 1) := by decide +kernel
theorem dX6_word_58 : decode cX6_word 58 = .ok (.iadd, 1) := by decide +kernel
theorem dX6_word_59 : decode cX6_word 59 = .ok (.putfield 249, 3) := by decide +kernel
theorem dX6_word_62 : decode cX6_word 62 = .ok (.goto (-57), 3) := by decide +kernel
theorem dX6_word_65 : decode cX6_word 65 = .ok (.aload_n 0, 1) := by decide +kernel
theorem dX6_word_66 : decode cX6_word 66 = .ok (.getfield 255, 3) := by decide +kernel
theorem dX6_word_69 : decode cX6_word 69 = .ok (.iload_n 1, 1) := by decide +kernel
theorem dX6_word_70 : decode cX6_word 70 = .ok (.if_icmp .gt 7, 3) := by decide +kernel
theorem dX6_word_73 : decode cX6_word 73 = .ok (.iconst 1, 1) := by decide +kernel
theorem dX6_word_74 : decode cX6_word 74 = .ok (.goto 4, 3) := by decide +kernel
theorem dX6_word_77 : decode cX6_word 77 = .ok (.iconst 0, 1) := by decide +kernel
theorem dX6_word_78 : decode cX6_word 78 = .ok (.ireturn, 1) := by decide +kernel
theorem dX6_readsStates_0 : decode cX6_readsStates 0 = .ok (.iload_n 1, 1) := by decide +kernel
theorem dX6_readsStates_1 : decode cX6_readsStates 1 = .ok (.ifCond .eq 12, 3) := by decide +kernel
theorem dX6_readsStates_4 : decode cX6_readsStates 4 = .ok (.aload_n 0, 1) := by decide +kernel
theorem dX6_readsStates_5 : decode cX6_readsStates 5 = .ok (.iconst 1, 1) := by decide +kernel
theorem dX6_readsStates_6 : decode cX6_readsStates 6 = .ok (.iconst 4, 1) := by decide +kernel
theorem dX6_readsStates_7 : decode cX6_readsStates 7 = .ok (.invokevirtual 262, 3) := by decide +kernel
theorem dX6_readsStates_10 : decode cX6_readsStates 10 = .ok (.ifCond .ne 5, 3) := by decide +kernel
theorem dX6_readsStates_13 : decode cX6_readsStates 13 = .ok (.iconst 0, 1) := by decide +kernel
theorem dX6_readsStates_14 : decode cX6_readsStates 14 = .ok (.ireturn, 1) := by decide +kernel
theorem dX6_readsStates_15 : decode cX6_readsStates 15 = .ok (.aload_n 0, 1) := by decide +kernel
theorem dX6_readsStates_16 : decode cX6_readsStates 16 = .ok (.aload_n 0, 1) := by decide +kernel
theorem dX6_readsStates_17 : decode cX6_readsStates 17 = .ok (.getfield 252, 3) := by decide +kernel
theorem dX6_readsStates_20 : decode cX6_readsStates 20 = .ok (.putfield 265, 3) := by decide +kernel
theorem dX6_readsStates_23 : decode cX6_readsStates 23 = .ok (.aload_n 0, 1) := by decide +kernel
theorem dX6_readsStates_24 : decode cX6_readsStates 24 = .ok (.iload_n 2, 1) := by decide +kernel
theorem dX6_readsStates_25 : decode cX6_readsStates 25 = .ok (.ifCond .eq 10, 3) := by decide +kernel
theorem dX6_readsStates_28 : decode cX6_readsStates 28 = .ok (.aload_n 0, 1) := by decide +kernel
theorem dX6_readsStates_29 : decode cX6_readsStates 29 = .ok (.getfield 252, 3) := by decide +kernel
theorem dX6_readsStates_32 : decode cX6_readsStates 32 = .ok (.goto 7, 3) := by decide +kernel
theorem dX6_readsStates_35 : decode cX6_readsStates 35 = .ok (.aload_n 0, 1) := by decide +kernel
theorem dX6_readsStates_36 : decode cX6_readsStates 36 = .ok (.getfield 7, 3) := by decide +kernel
theorem dX6_readsStates_39 : decode cX6_readsStates 39 = .ok (.putfield 7, 3) := by decide +kernel
theorem dX6_readsStates_42 : decode cX6_readsStates 42 = .ok (.iconst 1, 1) := by decide +kernel
theorem dX6_readsStates_43 : decode cX6_readsStates 43 = .ok (.ireturn, 1) := by decide +kernel
theorem dX6_readsRule_0 : decode cX6_readsRule 0 = .ok (.aload_n 0, 1) := by decide +kernel
theorem dX6_readsRule_1 : decode cX6_readsRule 1 = .ok (.getfield 268, 3) := by decide +kernel
theorem dX6_readsRule_4 : decode cX6_readsRule 4 = .ok (.bipush 10, 2) := by decide +kernel
theorem dX6_readsRule_6 : decode cX6_readsRule 6 = .ok (.if_icmp .eq 24, 3) := by decide +kernel
theorem dX6_readsRule_9 : decode cX6_readsRule 9 = .ok (.aload_n 0, 1) := by decide +kernel
theorem dX6_readsRule_10 : decode cX6_readsRule 10 = .ok (.iconst 0, 1) := by decide +kernel
theorem dX6_readsRule_11 : decode cX6_readsRule 11 = .ok (.aload_n 0, 1) := by decide +kernel
theorem dX6_readsRule_12 : decode cX6_readsRule 12 = .ok (.getfield 265, 3) := by decide +kernel
theorem dX6_readsRule_15 : decode cX6_readsRule 15 = .ok (.invokevirtual 262, 3) := by decide +kernel
theorem dX6_readsRule_18 : decode cX6_readsRule 18 = .ok (.ifCond .eq 12, 3) := by decide +kernel
theorem dX6_readsRule_21 : decode cX6_readsRule 21 = .ok (.aload_n 0, 1) := by decide +kernel
theorem dX6_readsRule_22 : decode cX6_readsRule 22 = .ok (.bipush 44, 2) := by decide +kernel
theorem dX6_readsRule_24 : decode cX6_readsRule 24 = .ok (.invokevirtual 271, 3) := by decide +kernel
theorem dX6_readsRule_27 : decode cX6_readsRule 27 = .ok (.ifCond .ne 5, 3) := by decide +kernel
theorem dX6_readsRule_30 : decode cX6_readsRule 30 = .ok (.iconst 0, 1) := by decide +kernel
theorem dX6_readsRule_31 : decode cX6_readsRule 31 = .ok (.ireturn, 1) := by decide +kernel
theorem dX6_readsRule_32 : decode cX6_readsRule 32 = .ok (.aload_n 0, 1) := by decide +kernel
theorem dX6_readsRule_33 : decode cX6_readsRule 33 = .ok (.getfield 252, 3) := by decide +kernel
theorem dX6_readsRule_36 : decode cX6_readsRule 36 = .ok (.istore_n 2, 1) := by decide +kernel
theorem dX6_readsRule_37 : decode cX6_readsRule 37 = .ok (.aload_n 0, 1) := by decide +kernel
theorem dX6_readsRule_38 : decode cX6_readsRule 38 = .ok (.iconst 1, 1) := by decide +kernel
theorem dX6_readsRule_39 : decode cX6_readsRule 39 = .ok (.invokevirtual 274, 3) := by decide +kernel
theorem dX6_readsRule_42 : decode cX6_readsRule 42 = .ok (.ifCond .eq 19, 3) := by decide +kernel
theorem dX6_readsRule_45 : decode cX6_readsRule 45 = .ok (.aload_n 0, 1) := by decide +kernel
theorem dX6_readsRule_46 : decode cX6_readsRule 46 = .ok (.getfield 255, 3) := by decide +kernel
theorem dX6_readsRule_49 : decode cX6_readsRule 49 = .ok (.ifCond .eq 12, 3) := by decide +kernel
theorem dX6_readsRule_52 : decode cX6_readsRule 52 = .ok (.aload_n 0, 1) := by decide +kernel
theorem dX6_readsRule_53 : decode cX6_readsRule 53 = .ok (.bipush 44, 2) := by decide +kernel
theorem dX6_readsRule_55 : decode cX6_readsRule 55 = .ok (.invokevirtual 271, 3) := by decide +kernel
theorem dX6_readsRule_58 : decode cX6_readsRule 58 = .ok (.ifCond .ne 5, 3) := by decide +kernel
theorem dX6_readsRule_61 : decode cX6_readsRule 61 = .ok (.iconst 0, 1) := by decide +kernel
theorem dX6_readsRule_62 : decode cX6_readsRule 62 = .ok (.ireturn, 1) := by decide +kernel
theorem dX6_readsRule_63 : decode cX6_readsRule 63 = .ok (.aload_n 0, 1) := by decide +kernel
theorem dX6_readsRule_64 : decode cX6_readsRule 64 = .ok (.getfield 77, 3) := by decide +kernel
theorem dX6_readsRule_67 : decode cX6_readsRule 67 = .ok (.iconst 0, 1) := by decide +kernel
theorem dX6_readsRule_68 : decode cX6_readsRule 68 = .ok (.iaload, 1) := by decide +kernel
theorem dX6_readsRule_69 : decode cX6_readsRule 69 = .ok (.istore_n 3, 1) := by decide +kernel
theorem dX6_readsRule_70 : decode cX6_readsRule 70 = .ok (.aload_n 0, 1) := by decide +kernel
theorem dX6_readsRule_71 : decode cX6_readsRule 71 = .ok (.iconst 0, 1) := by decide +kernel
theorem dX6_readsRule_72 : decode cX6_readsRule 72 = .ok (.aload_n 0, 1) := by decide +kernel
theorem dX6_readsRule_73 : decode cX6_readsRule 73 = .ok (.getfield 265, 3) := by decide +kernel
theorem dX6_readsRule_76 : decode cX6_readsRule 76 = .ok (.invokevirtual 262, 3) := by decide +kernel
theorem dX6_readsRule_79 : decode cX6_readsRule 79 = .ok (.ifCond .eq 12, 3) := by decide +kernel
theorem dX6_readsRule_82 : decode cX6_readsRule 82 = .ok (.aload_n 0, 1) := by decide +kernel
theorem dX6_readsRule_83 : decode cX6_readsRule 83 = .ok (.bipush 44, 2) := by decide +kernel
theorem dX6_readsRule_85 : decode cX6_readsRule 85 = .ok (.invokevirtual 271, 3) := by decide +kernel
theorem dX6_readsRule_88 : decode cX6_readsRule 88 = .ok (.ifCond .ne 5, 3) := by decide +kernel
theorem dX6_readsRule_91 : decode cX6_readsRule 91 = .ok (.iconst 0, 1) := by decide +kernel
theorem dX6_readsRule_92 : decode cX6_readsRule 92 = .ok (.ireturn, 1) := by decide +kernel
theorem dX6_readsRule_93 : decode cX6_readsRule 93 = .ok (.aload_n 0, 1) := by decide +kernel
theorem dX6_readsRule_94 : decode cX6_readsRule 94 = .ok (.getfield 252, 3) := by decide +kernel
theorem dX6_readsRule_97 : decode cX6_readsRule 97 = .ok (.istore 4, 2) := by decide +kernel
theorem dX6_readsRule_99 : decode cX6_readsRule 99 = .ok (.aload_n 0, 1) := by decide +kernel
theorem dX6_readsRule_100 : decode cX6_readsRule 100 = .ok (.iconst 2, 1) := by decide +kernel
theorem dX6_readsRule_101 : decode cX6_readsRule 101 = .ok (.invokevirtual 274, 3) := by decide +kernel
theorem dX6_readsRule_104 : decode cX6_readsRule 104 = .ok (.ifCond .eq 12, 3) := by decide +kernel
theorem dX6_readsRule_107 : decode cX6_readsRule 107 = .ok (.aload_n 0, 1) := by decide +kernel
theorem dX6_readsRule_108 : decode cX6_readsRule 108 = .ok (.bipush 44, 2) := by decide +kernel
theorem dX6_readsRule_110 : decode cX6_readsRule 110 = .ok (.invokevirtual 271, 3) := by decide +kernel
theorem dX6_readsRule_113 : decode cX6_readsRule 113 = .ok (.ifCond .ne 5, 3) := by decide +kernel
theorem dX6_readsRule_116 : decode cX6_readsRule 116 = .ok (.iconst 0, 1) := by decide +kernel
theorem dX6_readsRule_117 : decode cX6_readsRule 117 = .ok (.ireturn, 1) := by decide +kernel
theorem dX6_readsRule_118 : decode cX6_readsRule 118 = .ok (.aload_n 0, 1) := by decide +kernel
theorem dX6_readsRule_119 : decode cX6_readsRule 119 = .ok (.getfield 255, 3) := by decide +kernel
theorem dX6_readsRule_122 : decode cX6_readsRule 122 = .ok (.ifCond .ne 7, 3) := by decide +kernel
theorem dX6_readsRule_125 : decode cX6_readsRule 125 = .ok (.iconst 0, 1) := by decide +kernel
theorem dX6_readsRule_126 : decode cX6_readsRule 126 = .ok (.goto 39, 3) := by decide +kernel
theorem dX6_readsRule_129 : decode cX6_readsRule 129 = .ok (.aload_n 0, 1) := by decide +kernel
theorem dX6_readsRule_130 : decode cX6_readsRule 130 = .ok (.getfield 255, 3) := by decide +kernel
theorem dX6_readsRule_133 : decode cX6_readsRule 133 = .ok (.iconst 1, 1) := by decide +kernel
theorem dX6_readsRule_134 : decode cX6_readsRule 134 = .ok (.if_icmp .ne 14, 3) := by decide +kernel
theorem dX6_readsRule_137 : decode cX6_readsRule 137 = .ok (.iconst 1, 1) := by decide +kernel
theorem dX6_readsRule_138 : decode cX6_readsRule 138 = .ok (.aload_n 0, 1) := by decide +kernel
theorem dX6_readsRule_139 : decode cX6_readsRule 139 = .ok (.getfield 77, 3) := by decide +kernel
theorem dX6_readsRule_142 : decode cX6_readsRule 142 = .ok (.iconst 0, 1) := by decide +kernel
theorem dX6_readsRule_143 : decode cX6_readsRule 143 = .ok (.iaload, 1) := by decide +kernel
theorem dX6_readsRule_144 : decode cX6_readsRule 144 = .ok (.iadd, 1) := by decide +kernel
theorem dX6_readsRule_145 : decode cX6_readsRule 145 = .ok (.goto 20, 3) := by decide +kernel
theorem dX6_readsRule_148 : decode cX6_readsRule 148 = .ok (.iconst 5, 1) := by decide +kernel
theorem dX6_readsRule_149 : decode cX6_readsRule 149 = .ok (.iconst 4, 1) := by decide +kernel
theorem dX6_readsRule_150 : decode cX6_readsRule 150 = .ok (.aload_n 0, 1) := by decide +kernel
theorem dX6_readsRule_151 : decode cX6_readsRule 151 = .ok (.getfield 77, 3) := by decide +kernel
theorem dX6_readsRule_154 : decode cX6_readsRule 154 = .ok (.iconst 0, 1) := by decide +kernel
theorem dX6_readsRule_155 : decode cX6_readsRule 155 = .ok (.iaload, 1) := by decide +kernel
theorem dX6_readsRule_156 : decode cX6_readsRule 156 = .ok (.imul, 1) := by decide +kernel
theorem dX6_readsRule_157 : decode cX6_readsRule 157 = .ok (.iadd, 1) := by decide +kernel
theorem dX6_readsRule_158 : decode cX6_readsRule 158 = .ok (.aload_n 0, 1) := by decide +kernel
theorem dX6_readsRule_159 : decode cX6_readsRule 159 = .ok (.getfield 77, 3) := by decide +kernel
theorem dX6_readsRule_162 : decode cX6_readsRule 162 = .ok (.iconst 1, 1) := by decide +kernel
theorem dX6_readsRule_163 : decode cX6_readsRule 163 = .ok (.iaload, 1) := by decide +kernel
theorem dX6_readsRule_164 : decode cX6_readsRule 164 = .ok (.iadd, 1) := by decide +kernel
theorem dX6_readsRule_165 : decode cX6_readsRule 165 = .ok (.istore 5, 2) := by decide +kernel
theorem dX6_readsRule_167 : decode cX6_readsRule 167 = .ok (.aload_n 0, 1) := by decide +kernel
theorem dX6_readsRule_168 : decode cX6_readsRule 168 = .ok (.iconst 0, 1) := by decide +kernel
theorem dX6_readsRule_169 : decode cX6_readsRule 169 = .ok (.bipush 10, 2) := by decide +kernel
theorem dX6_readsRule_171 : decode cX6_readsRule 171 = .ok (.invokevirtual 262, 3) := by decide +kernel
theorem dX6_readsRule_174 : decode cX6_readsRule 174 = .ok (.ifCond .ne 5, 3) := by decide +kernel
theorem dX6_readsRule_177 : decode cX6_readsRule 177 = .ok (.iconst 0, 1) := by decide +kernel
theorem dX6_readsRule_178 : decode cX6_readsRule 178 = .ok (.ireturn, 1) := by decide +kernel
theorem dX6_readsRule_179 : decode cX6_readsRule 179 = .ok (.aload_n 0, 1) := by decide +kernel
theorem dX6_readsRule_180 : decode cX6_readsRule 180 = .ok (.dup, 1) := by decide +kernel
theorem dX6_readsRule_181 : decode cX6_readsRule 181 = .ok (.getfield 268, 3) := by decide +kernel
theorem dX6_readsRule_184 : decode cX6_readsRule 184 = .ok (.iconst 1, 1) := by decide +kernel
theorem dX6_readsRule_185 : decode cX6_readsRule 185 = .ok (.iadd, 1) := by decide +kernel
theorem dX6_readsRule_186 : decode cX6_readsRule 186 = .ok (.putfield 268, 3) := by decide +kernel
theorem dX6_readsRule_189 : decode cX6_readsRule 189 = .ok (.iload_n 1, 1) := by decide +kernel
theorem dX6_readsRule_190 : decode cX6_readsRule 190 = .ok (.ifCond .eq 17, 3) := by decide +kernel
theorem dX6_readsRule_193 : decode cX6_readsRule 193 = .ok (.aload_n 0, 1) := by decide +kernel
theorem dX6_readsRule_194 : decode cX6_readsRule 194 = .ok (.iload_n 2, 1) := by decide +kernel
theorem dX6_readsRule_195 : decode cX6_readsRule 195 = .ok (.iload_n 3, 1) := by decide +kernel
theorem dX6_readsRule_196 : decode cX6_readsRule 196 = .ok (.iload 4, 2) := by decide +kernel
theorem dX6_readsRule_198 : decode cX6_readsRule 198 = .ok (.iload 5, 2) := by decide +kernel
theorem dX6_readsRule_200 : decode cX6_readsRule 200 = .ok (.aload_n 0, 1) := by decide +kernel
theorem dX6_readsRule_201 : decode cX6_readsRule 201 = .ok (.getfield 252, 3) := by decide +kernel
theorem dX6_readsRule_204 : decode cX6_readsRule 204 = .ok (.invokevirtual 123, 3) := by decide +kernel
theorem dX6_readsRule_207 : decode cX6_readsRule 207 = .ok (.iconst 1, 1) := by decide +kernel
theorem dX6_readsRule_208 : decode cX6_readsRule 208 = .ok (.ireturn, 1) := by decide +kernel
theorem dX6_readsTarget_0 : decode cX6_readsTarget 0 = .ok (.aload_n 0, 1) := by decide +kernel
theorem dX6_readsTarget_1 : decode cX6_readsTarget 1 = .ok (.getfield 277, 3) := by decide +kernel
theorem dX6_readsTarget_4 : decode cX6_readsTarget 4 = .ok (.iconst 4, 1) := by decide +kernel
theorem dX6_readsTarget_5 : decode cX6_readsTarget 5 = .ok (.if_icmp .eq 32, 3) := by decide +kernel
theorem dX6_readsTarget_8 : decode cX6_readsTarget 8 = .ok (.aload_n 0, 1) := by decide +kernel
theorem dX6_readsTarget_9 : decode cX6_readsTarget 9 = .ok (.iconst 0, 1) := by decide +kernel
theorem dX6_readsTarget_10 : decode cX6_readsTarget 10 = .ok (.aload_n 0, 1) := by decide +kernel
theorem dX6_readsTarget_11 : decode cX6_readsTarget 11 = .ok (.getfield 265, 3) := by decide +kernel
theorem dX6_readsTarget_14 : decode cX6_readsTarget 14 = .ok (.invokevirtual 262, 3) := by decide +kernel
theorem dX6_readsTarget_17 : decode cX6_readsTarget 17 = .ok (.ifCond .eq 20, 3) := by decide +kernel
theorem dX6_readsTarget_20 : decode cX6_readsTarget 20 = .ok (.aload_n 0, 1) := by decide +kernel
theorem dX6_readsTarget_21 : decode cX6_readsTarget 21 = .ok (.bipush 44, 2) := by decide +kernel
theorem dX6_readsTarget_23 : decode cX6_readsTarget 23 = .ok (.invokevirtual 271, 3) := by decide +kernel
theorem dX6_readsTarget_26 : decode cX6_readsTarget 26 = .ok (.ifCond .eq 11, 3) := by decide +kernel
theorem dX6_readsTarget_29 : decode cX6_readsTarget 29 = .ok (.aload_n 0, 1) := by decide +kernel
theorem dX6_readsTarget_30 : decode cX6_readsTarget 30 = .ok (.iconst 3, 1) := by decide +kernel
theorem dX6_readsTarget_31 : decode cX6_readsTarget 31 = .ok (.invokevirtual 274, 3) := by decide +kernel
theorem dX6_readsTarget_34 : decode cX6_readsTarget 34 = .ok (.ifCond .ne 5, 3) := by decide +kernel
theorem dX6_readsTarget_37 : decode cX6_readsTarget 37 = .ok (.iconst 0, 1) := by decide +kernel
theorem dX6_readsTarget_38 : decode cX6_readsTarget 38 = .ok (.ireturn, 1) := by decide +kernel
theorem dX6_readsTarget_39 : decode cX6_readsTarget 39 = .ok (.aload_n 0, 1) := by decide +kernel
theorem dX6_readsTarget_40 : decode cX6_readsTarget 40 = .ok (.getfield 252, 3) := by decide +kernel
theorem dX6_readsTarget_43 : decode cX6_readsTarget 43 = .ok (.istore_n 2, 1) := by decide +kernel
theorem dX6_readsTarget_44 : decode cX6_readsTarget 44 = .ok (.aload_n 0, 1) := by decide +kernel
theorem dX6_readsTarget_45 : decode cX6_readsTarget 45 = .ok (.bipush 46, 2) := by decide +kernel
theorem dX6_readsTarget_47 : decode cX6_readsTarget 47 = .ok (.invokevirtual 271, 3) := by decide +kernel
theorem dX6_readsTarget_50 : decode cX6_readsTarget 50 = .ok (.istore_n 3, 1) := by decide +kernel
theorem dX6_readsTarget_51 : decode cX6_readsTarget 51 = .ok (.aload_n 0, 1) := by decide +kernel
theorem dX6_readsTarget_52 : decode cX6_readsTarget 52 = .ok (.dup, 1) := by decide +kernel
theorem dX6_readsTarget_53 : decode cX6_readsTarget 53 = .ok (.getfield 277, 3) := by decide +kernel
theorem dX6_readsTarget_56 : decode cX6_readsTarget 56 = .ok (.iconst 1, 1) := by decide +kernel
theorem dX6_readsTarget_57 : decode cX6_readsTarget 57 = .ok (.iadd, 1) := by decide +kernel
theorem dX6_readsTarget_58 : decode cX6_readsTarget 58 = .ok (.putfield 277, 3) := by decide +kernel
theorem dX6_readsTarget_61 : decode cX6_readsTarget 61 = .ok (.iload_n 1, 1) := by decide +kernel
theorem dX6_readsTarget_62 : decode cX6_readsTarget 62 = .ok (.ifCond .eq 109, 3) := by decide +kernel
theorem dX6_readsTarget_65 : decode cX6_readsTarget 65 = .ok (.bipush 6, 2) := by decide +kernel
theorem dX6_readsTarget_67 : decode cX6_readsTarget 67 = .ok (.aload_n 0, 1) := by decide +kernel
theorem dX6_readsTarget_68 : decode cX6_readsTarget 68 = .ok (.getfield 20, 3) := by decide +kernel
theorem dX6_readsTarget_71 : decode cX6_readsTarget 71 = .ok (.imul, 1) := by decide +kernel
theorem dX6_readsTarget_72 : decode cX6_readsTarget 72 = .ok (.istore 4, 2) := by decide +kernel
theorem dX6_readsTarget_74 : decode cX6_readsTarget 74 = .ok (.aload_n 0, 1) := by decide +kernel
theorem dX6_readsTarget_75 : decode cX6_readsTarget 75 = .ok (.getfield 23, 3) := by decide +kernel
theorem dX6_readsTarget_78 : decode cX6_readsTarget 78 = .ok (.iload 4, 2) := by decide +kernel
theorem dX6_readsTarget_80 : decode cX6_readsTarget 80 = .ok (.iload_n 2, 1) := by decide +kernel
theorem dX6_readsTarget_81 : decode cX6_readsTarget 81 = .ok (.iastore, 1) := by decide +kernel
theorem dX6_readsTarget_82 : decode cX6_readsTarget 82 = .ok (.aload_n 0, 1) := by decide +kernel
theorem dX6_readsTarget_83 : decode cX6_readsTarget 83 = .ok (.getfield 23, 3) := by decide +kernel
theorem dX6_readsTarget_86 : decode cX6_readsTarget 86 = .ok (.iload 4, 2) := by decide +kernel
theorem dX6_readsTarget_88 : decode cX6_readsTarget 88 = .ok (.iconst 1, 1) := by decide +kernel
theorem dX6_readsTarget_89 : decode cX6_readsTarget 89 = .ok (.iadd, 1) := by decide +kernel
theorem dX6_readsTarget_90 : decode cX6_readsTarget 90 = .ok (.aload_n 0, 1) := by decide +kernel
theorem dX6_readsTarget_91 : decode cX6_readsTarget 91 = .ok (.getfield 255, 3) := by decide +kernel
theorem dX6_readsTarget_94 : decode cX6_readsTarget 94 = .ok (.iastore, 1) := by decide +kernel
theorem dX6_readsTarget_95 : decode cX6_readsTarget 95 = .ok (.aload_n 0, 1) := by decide +kernel
theorem dX6_readsTarget_96 : decode cX6_readsTarget 96 = .ok (.getfield 23, 3) := by decide +kernel
theorem dX6_readsTarget_99 : decode cX6_readsTarget 99 = .ok (.iload 4, 2) := by decide +kernel
theorem dX6_readsTarget_101 : decode cX6_readsTarget 101 = .ok (.iconst 2, 1) := by decide +kernel
theorem dX6_readsTarget_102 : decode cX6_readsTarget 102 = .ok (.iadd, 1) := by decide +kernel
theorem dX6_readsTarget_103 : decode cX6_readsTarget 103 = .ok (.iload_n 3, 1) := by decide +kernel
theorem dX6_readsTarget_104 : decode cX6_readsTarget 104 = .ok (.ifCond .eq 7, 3) := by decide +kernel
theorem dX6_readsTarget_107 : decode cX6_readsTarget 107 = .ok (.iconst 1, 1) := by decide +kernel
theorem dX6_readsTarget_108 : decode cX6_readsTarget 108 = .ok (.goto 4, 3) := by decide +kernel
theorem dX6_readsTarget_111 : decode cX6_readsTarget 111 = .ok (.iconst 0, 1) := by decide +kernel
theorem dX6_readsTarget_112 : decode cX6_readsTarget 112 = .ok (.iastore, 1) := by decide +kernel
theorem dX6_readsTarget_113 : decode cX6_readsTarget 113 = .ok (.iconst 0, 1) := by decide +kernel
theorem dX6_readsTarget_114 : decode cX6_readsTarget 114 = .ok (.istore 5, 2) := by decide +kernel
theorem dX6_readsTarget_116 : decode cX6_readsTarget 116 = .ok (.iload 5, 2) := by decide +kernel
theorem dX6_readsTarget_118 : decode cX6_readsTarget 118 = .ok (.iconst 3, 1) := by decide +kernel
theorem dX6_readsTarget_119 : decode cX6_readsTarget 119 = .ok (.if_icmp .ge 42, 3) := by decide +kernel
theorem dX6_readsTarget_122 : decode cX6_readsTarget 122 = .ok (.aload_n 0, 1) := by decide +kernel
theorem dX6_readsTarget_123 : decode cX6_readsTarget 123 = .ok (.getfield 23, 3) := by decide +kernel
theorem dX6_readsTarget_126 : decode cX6_readsTarget 126 = .ok (.iload 4, 2) := by decide +kernel
theorem dX6_readsTarget_128 : decode cX6_readsTarget 128 = .ok (.iconst 3, 1) := by decide +kernel
theorem dX6_readsTarget_129 : decode cX6_readsTarget 129 = .ok (.iadd, 1) := by decide +kernel
theorem dX6_readsTarget_130 : decode cX6_readsTarget 130 = .ok (.iload 5, 2) := by decide +kernel
theorem dX6_readsTarget_132 : decode cX6_readsTarget 132 = .ok (.iadd, 1) := by decide +kernel
theorem dX6_readsTarget_133 : decode cX6_readsTarget 133 = .ok (.iload 5, 2) := by decide +kernel
theorem dX6_readsTarget_135 : decode cX6_readsTarget 135 = .ok (.aload_n 0, 1) := by decide +kernel
theorem dX6_readsTarget_136 : decode cX6_readsTarget 136 = .ok (.getfield 255, 3) := by decide +kernel
theorem dX6_readsTarget_139 : decode cX6_readsTarget 139 = .ok (.if_icmp .ge 13, 3) := by decide +kernel
theorem dX6_readsTarget_142 : decode cX6_readsTarget 142 = .ok (.aload_n 0, 1) := by decide +kernel
theorem dX6_readsTarget_143 : decode cX6_readsTarget 143 = .ok (.getfield 77, 3) := by decide +kernel
theorem dX6_readsTarget_146 : decode cX6_readsTarget 146 = .ok (.iload 5, 2) := by decide +kernel
theorem dX6_readsTarget_148 : decode cX6_readsTarget 148 = .ok (.iaload, 1) := by decide +kernel
theorem dX6_readsTarget_149 : decode cX6_readsTarget 149 = .ok (.goto 5, 3) := by decide +kernel
theorem dX6_readsTarget_152 : decode cX6_readsTarget 152 = .ok (.bipush (-4), 2) := by decide +kernel
theorem dX6_readsTarget_154 : decode cX6_readsTarget 154 = .ok (.iastore, 1) := by decide +kernel
theorem dX6_readsTarget_155 : decode cX6_readsTarget 155 = .ok (.iinc 5 1, 3) := by decide +kernel
theorem dX6_readsTarget_158 : decode cX6_readsTarget 158 = .ok (.goto (-42), 3) := by decide +kernel
theorem dX6_readsTarget_161 : decode cX6_readsTarget 161 = .ok (.aload_n 0, 1) := by decide +kernel
theorem dX6_readsTarget_162 : decode cX6_readsTarget 162 = .ok (.dup, 1) := by decide +kernel
theorem dX6_readsTarget_163 : decode cX6_readsTarget 163 = .ok (.getfield 20, 3) := by decide +kernel
theorem dX6_readsTarget_166 : decode cX6_readsTarget 166 = .ok (.iconst 1, 1) := by decide +kernel
theorem dX6_readsTarget_167 : decode cX6_readsTarget 167 = .ok (.iadd, 1) := by decide +kernel
theorem dX6_readsTarget_168 : decode cX6_readsTarget 168 = .ok (.putfield 20, 3) := by decide +kernel
theorem dX6_readsTarget_171 : decode cX6_readsTarget 171 = .ok (.iconst 1, 1) := by decide +kernel
theorem dX6_readsTarget_172 : decode cX6_readsTarget 172 = .ok (.ireturn, 1) := by decide +kernel
theorem dX6_readsConfiguration_0 : decode cX6_readsConfiguration 0 = .ok (.aload_n 0, 1) := by decide +kernel
theorem dX6_readsConfiguration_1 : decode cX6_readsConfiguration 1 = .ok (.iconst 0, 1) := by decide +kernel
theorem dX6_readsConfiguration_2 : decode cX6_readsConfiguration 2 = .ok (.aload_n 0, 1) := by decide +kernel
theorem dX6_readsConfiguration_3 : decode cX6_readsConfiguration 3 = .ok (.getfield 265, 3) := by decide +kernel
theorem dX6_readsConfiguration_6 : decode cX6_readsConfiguration 6 = .ok (.invokevirtual 262, 3) := by decide +kernel
theorem dX6_readsConfiguration_9 : decode cX6_readsConfiguration 9 = .ok (.ifCond .eq 21, 3) := by decide +kernel
theorem dX6_readsConfiguration_12 : decode cX6_readsConfiguration 12 = .ok (.aload_n 0, 1) := by decide +kernel
theorem dX6_readsConfiguration_13 : decode cX6_readsConfiguration 13 = .ok (.bipush 44, 2) := by decide +kernel
theorem dX6_readsConfiguration_15 : decode cX6_readsConfiguration 15 = .ok (.invokevirtual 271, 3) := by decide +kernel
theorem dX6_readsConfiguration_18 : decode cX6_readsConfiguration 18 = .ok (.ifCond .eq 12, 3) := by decide +kernel
theorem dX6_readsConfiguration_21 : decode cX6_readsConfiguration 21 = .ok (.aload_n 0, 1) := by decide +kernel
theorem dX6_readsConfiguration_22 : decode cX6_readsConfiguration 22 = .ok (.bipush 6, 2) := by decide +kernel
theorem dX6_readsConfiguration_24 : decode cX6_readsConfiguration 24 = .ok (.invokevirtual 274, 3) := by decide +kernel
theorem dX6_readsConfiguration_27 : decode cX6_readsConfiguration 27 = .ok (.ifCond .ne 5, 3) := by decide +kernel
theorem dX6_readsConfiguration_30 : decode cX6_readsConfiguration 30 = .ok (.iconst 0, 1) := by decide +kernel
theorem dX6_readsConfiguration_31 : decode cX6_readsConfiguration 31 = .ok (.ireturn, 1) := by decide +kernel
theorem dX6_readsConfiguration_32 : decode cX6_readsConfiguration 32 = .ok (.iload_n 1, 1) := by decide +kernel
theorem dX6_readsConfiguration_33 : decode cX6_readsConfiguration 33 = .ok (.ifCond .eq 54, 3) := by decide +kernel
theorem dX6_readsConfiguration_36 : decode cX6_readsConfiguration 36 = .ok (.aload_n 0, 1) := by decide +kernel
theorem dX6_readsConfiguration_37 : decode cX6_readsConfiguration 37 = .ok (.aload_n 0, 1) := by decide +kernel
theorem dX6_readsConfiguration_38 : decode cX6_readsConfiguration 38 = .ok (.getfield 252, 3) := by decide +kernel
theorem dX6_readsConfiguration_41 : decode cX6_readsConfiguration 41 = .ok (.putfield 80, 3) := by decide +kernel
theorem dX6_readsConfiguration_44 : decode cX6_readsConfiguration 44 = .ok (.aload_n 0, 1) := by decide +kernel
theorem dX6_readsConfiguration_45 : decode cX6_readsConfiguration 45 = .ok (.aload_n 0, 1) := by decide +kernel
theorem dX6_readsConfiguration_46 : decode cX6_readsConfiguration 46 = .ok (.getfield 255, 3) := by decide +kernel
theorem dX6_readsConfiguration_49 : decode cX6_readsConfiguration 49 = .ok (.putfield 26, 3) := by decide +kernel
theorem dX6_readsConfiguration_52 : decode cX6_readsConfiguration 52 = .ok (.iconst 0, 1) := by decide +kernel
theorem dX6_readsConfiguration_53 : decode cX6_readsConfiguration 53 = .ok (.istore_n 2, 1) := by decide +kernel
theorem dX6_readsConfiguration_54 : decode cX6_readsConfiguration 54 = .ok (.iload_n 2, 1) := by decide +kernel
theorem dX6_readsConfiguration_55 : decode cX6_readsConfiguration 55 = .ok (.aload_n 0, 1) := by decide +kernel
theorem dX6_readsConfiguration_56 : decode cX6_readsConfiguration 56 = .ok (.getfield 255, 3) := by decide +kernel
theorem dX6_readsConfiguration_59 : decode cX6_readsConfiguration 59 = .ok (.if_icmp .ge 28, 3) := by decide +kernel
theorem dX6_readsConfiguration_62 : decode cX6_readsConfiguration 62 = .ok (.aload_n 0, 1) := by decide +kernel
theorem dX6_readsConfiguration_63 : decode cX6_readsConfiguration 63 = .ok (.getfield 29, 3) := by decide +kernel
theorem dX6_readsConfiguration_66 : decode cX6_readsConfiguration 66 = .ok (.iload_n 2, 1) := by decide +kernel
theorem dX6_readsConfiguration_67 : decode cX6_readsConfiguration 67 = .ok (.aload_n 0, 1) := by decide +kernel
theorem dX6_readsConfiguration_68 : decode cX6_readsConfiguration 68 = .ok (.getfield 77, 3) := by decide +kernel
theorem dX6_readsConfiguration_71 : decode cX6_readsConfiguration 71 = .ok (.aload_n 0, 1) := by decide +kernel
theorem dX6_readsConfiguration_72 : decode cX6_readsConfiguration 72 = .ok (.getfield 255, 3) := by decide +kernel
theorem dX6_readsConfiguration_75 : decode cX6_readsConfiguration 75 = .ok (.iconst 1, 1) := by decide +kernel
theorem dX6_readsConfiguration_76 : decode cX6_readsConfiguration 76 = .ok (.isub, 1) := by decide +kernel
theorem dX6_readsConfiguration_77 : decode cX6_readsConfiguration 77 = .ok (.iload_n 2, 1) := by decide +kernel
theorem dX6_readsConfiguration_78 : decode cX6_readsConfiguration 78 = .ok (.isub, 1) := by decide +kernel
theorem dX6_readsConfiguration_79 : decode cX6_readsConfiguration 79 = .ok (.iaload, 1) := by decide +kernel
theorem dX6_readsConfiguration_80 : decode cX6_readsConfiguration 80 = .ok (.iastore, 1) := by decide +kernel
theorem dX6_readsConfiguration_81 : decode cX6_readsConfiguration 81 = .ok (.iinc 2 1, 3) := by decide +kernel
theorem dX6_readsConfiguration_84 : decode cX6_readsConfiguration 84 = .ok (.goto (-30), 3) := by decide +kernel
theorem dX6_readsConfiguration_87 : decode cX6_readsConfiguration 87 = .ok (.iconst 1, 1) := by decide +kernel
theorem dX6_readsConfiguration_88 : decode cX6_readsConfiguration 88 = .ok (.ireturn, 1) := by decide +kernel
theorem dX6_readsItem_0 : decode cX6_readsItem 0 = .ok (.aload_n 0, 1) := by decide +kernel
theorem dX6_readsItem_1 : decode cX6_readsItem 1 = .ok (.getfield 74, 3) := by decide +kernel
theorem dX6_readsItem_4 : decode cX6_readsItem 4 = .ok (.aload_n 0, 1) := by decide +kernel
theorem dX6_readsItem_5 : decode cX6_readsItem 5 = .ok (.getfield 249, 3) := by decide +kernel
theorem dX6_readsItem_8 : decode cX6_readsItem 8 = .ok (.iaload, 1) := by decide +kernel
theorem dX6_readsItem_9 : decode cX6_readsItem 9 = .ok (.istore_n 3, 1) := by decide +kernel
theorem dX6_readsItem_10 : decode cX6_readsItem 10 = .ok (.aload_n 0, 1) := by decide +kernel
theorem dX6_readsItem_11 : decode cX6_readsItem 11 = .ok (.dup, 1) := by decide +kernel
theorem dX6_readsItem_12 : decode cX6_readsItem 12 = .ok (.getfield 249, 3) := by decide +kernel
theorem dX6_readsItem_15 : decode cX6_readsItem 15 = .ok (.iconst 1, 1) := by decide +kernel
theorem dX6_readsItem_16 : decode cX6_readsItem 16 = .ok (.iadd, 1) := by decide +kernel
theorem dX6_readsItem_17 : decode cX6_readsItem 17 = .ok (.putfield 249, 3) := by decide +kernel
theorem dX6_readsItem_20 : decode cX6_readsItem 20 = .ok (.iconst 0, 1) := by decide +kernel
theorem dX6_readsItem_21 : decode cX6_readsItem 21 = .ok (.istore 4, 2) := by decide +kernel
theorem dX6_readsItem_23 : decode cX6_readsItem 23 = .ok (.iload_n 3, 1) := by decide +kernel
theorem dX6_readsItem_24 : decode cX6_readsItem 24 = .ok (.bipush 110, 2) := by decide +kernel
theorem dX6_readsItem_26 : decode cX6_readsItem 26 = .ok (.if_icmp .ne 14, 3) := by decide +kernel
theorem dX6_readsItem_29 : decode cX6_readsItem 29 = .ok (.aload_n 0, 1) := by decide +kernel
theorem dX6_readsItem_30 : decode cX6_readsItem 30 = .ok (.iload_n 1, 1) := by decide +kernel
theorem dX6_readsItem_31 : decode cX6_readsItem 31 = .ok (.iload_n 2, 1) := by decide +kernel
theorem dX6_readsItem_32 : decode cX6_readsItem 32 = .ok (.invokevirtual 280, 3) := by decide +kernel
theorem dX6_readsItem_35 : decode cX6_readsItem 35 = .ok (.istore 4, 2) := by decide +kernel
theorem dX6_readsItem_37 : decode cX6_readsItem 37 = .ok (.goto 88, 3) := by decide +kernel
theorem dX6_readsItem_40 : decode cX6_readsItem 40 = .ok (.iload_n 3, 1) := by decide +kernel
theorem dX6_readsItem_41 : decode cX6_readsItem 41 = .ok (.bipush 114, 2) := by decide +kernel
theorem dX6_readsItem_43 : decode cX6_readsItem 43 = .ok (.if_icmp .ne 13, 3) := by decide +kernel
theorem dX6_readsItem_46 : decode cX6_readsItem 46 = .ok (.aload_n 0, 1) := by decide +kernel
theorem dX6_readsItem_47 : decode cX6_readsItem 47 = .ok (.iload_n 2, 1) := by decide +kernel
theorem dX6_readsItem_48 : decode cX6_readsItem 48 = .ok (.invokevirtual 284, 3) := by decide +kernel
theorem dX6_readsItem_51 : decode cX6_readsItem 51 = .ok (.istore 4, 2) := by decide +kernel
theorem dX6_readsItem_53 : decode cX6_readsItem 53 = .ok (.goto 72, 3) := by decide +kernel
theorem dX6_readsItem_56 : decode cX6_readsItem 56 = .ok (.iload_n 3, 1) := by decide +kernel
theorem dX6_readsItem_57 : decode cX6_readsItem 57 = .ok (.bipush 116, 2) := by decide +kernel
theorem dX6_readsItem_59 : decode cX6_readsItem 59 = .ok (.if_icmp .ne 13, 3) := by decide +kernel
theorem dX6_readsItem_62 : decode cX6_readsItem 62 = .ok (.aload_n 0, 1) := by decide +kernel
theorem dX6_readsItem_63 : decode cX6_readsItem 63 = .ok (.iload_n 2, 1) := by decide +kernel
theorem dX6_readsItem_64 : decode cX6_readsItem 64 = .ok (.invokevirtual 288, 3) := by decide +kernel
theorem dX6_readsItem_67 : decode cX6_readsItem 67 = .ok (.istore 4, 2) := by decide +kernel
theorem dX6_readsItem_69 : decode cX6_readsItem 69 = .ok (.goto 56, 3) := by decide +kernel
theorem dX6_readsItem_72 : decode cX6_readsItem 72 = .ok (.iload_n 3, 1) := by decide +kernel
theorem dX6_readsItem_73 : decode cX6_readsItem 73 = .ok (.bipush 99, 2) := by decide +kernel
theorem dX6_readsItem_75 : decode cX6_readsItem 75 = .ok (.if_icmp .ne 13, 3) := by decide +kernel
theorem dX6_readsItem_78 : decode cX6_readsItem 78 = .ok (.aload_n 0, 1) := by decide +kernel
theorem dX6_readsItem_79 : decode cX6_readsItem 79 = .ok (.iload_n 2, 1) := by decide +kernel
theorem dX6_readsItem_80 : decode cX6_readsItem 80 = .ok (.invokevirtual 291, 3) := by decide +kernel
theorem dX6_readsItem_83 : decode cX6_readsItem 83 = .ok (.istore 4, 2) := by decide +kernel
theorem dX6_readsItem_85 : decode cX6_readsItem 85 = .ok (.goto 40, 3) := by decide +kernel
theorem dX6_readsItem_88 : decode cX6_readsItem 88 = .ok (.iload_n 3, 1) := by decide +kernel
theorem dX6_readsItem_89 : decode cX6_readsItem 89 = .ok (.bipush 109, 2) := by decide +kernel
theorem dX6_readsItem_91 : decode cX6_readsItem 91 = .ok (.if_icmp .ne 34, 3) := by decide +kernel
theorem dX6_readsItem_94 : decode cX6_readsItem 94 = .ok (.aload_n 0, 1) := by decide +kernel
theorem dX6_readsItem_95 : decode cX6_readsItem 95 = .ok (.iconst 0, 1) := by decide +kernel
theorem dX6_readsItem_96 : decode cX6_readsItem 96 = .ok (.iconst 3, 1) := by decide +kernel
theorem dX6_readsItem_97 : decode cX6_readsItem 97 = .ok (.invokevirtual 262, 3) := by decide +kernel
theorem dX6_readsItem_100 : decode cX6_readsItem 100 = .ok (.ifCond .eq 25, 3) := by decide +kernel
theorem dX6_readsItem_103 : decode cX6_readsItem 103 = .ok (.iconst 1, 1) := by decide +kernel
theorem dX6_readsItem_104 : decode cX6_readsItem 104 = .ok (.istore 4, 2) := by decide +kernel
theorem dX6_readsItem_106 : decode cX6_readsItem 106 = .ok (.aload_n 0, 1) := by decide +kernel
theorem dX6_readsItem_107 : decode cX6_readsItem 107 = .ok (.iload_n 2, 1) := by decide +kernel
theorem dX6_readsItem_108 : decode cX6_readsItem 108 = .ok (.ifCond .eq 10, 3) := by decide +kernel
theorem dX6_readsItem_111 : decode cX6_readsItem 111 = .ok (.aload_n 0, 1) := by decide +kernel
theorem dX6_readsItem_112 : decode cX6_readsItem 112 = .ok (.getfield 252, 3) := by decide +kernel
theorem dX6_readsItem_115 : decode cX6_readsItem 115 = .ok (.goto 7, 3) := by decide +kernel
theorem dX6_readsItem_118 : decode cX6_readsItem 118 = .ok (.aload_n 0, 1) := by decide +kernel
theorem dX6_readsItem_119 : decode cX6_readsItem 119 = .ok (.getfield 83, 3) := by decide +kernel
theorem dX6_readsItem_122 : decode cX6_readsItem 122 = .ok (.putfield 83, 3) := by decide +kernel
theorem dX6_readsItem_125 : decode cX6_readsItem 125 = .ok (.iload 4, 2) := by decide +kernel
theorem dX6_readsItem_127 : decode cX6_readsItem 127 = .ok (.ifCond .eq 16, 3) := by decide +kernel
theorem dX6_readsItem_130 : decode cX6_readsItem 130 = .ok (.aload_n 0, 1) := by decide +kernel
theorem dX6_readsItem_131 : decode cX6_readsItem 131 = .ok (.bipush 59, 2) := by decide +kernel
theorem dX6_readsItem_133 : decode cX6_readsItem 133 = .ok (.invokevirtual 271, 3) := by decide +kernel
theorem dX6_readsItem_136 : decode cX6_readsItem 136 = .ok (.ifCond .eq 7, 3) := by decide +kernel
theorem dX6_readsItem_139 : decode cX6_readsItem 139 = .ok (.iconst 1, 1) := by decide +kernel
theorem dX6_readsItem_140 : decode cX6_readsItem 140 = .ok (.goto 4, 3) := by decide +kernel
theorem dX6_readsItem_143 : decode cX6_readsItem 143 = .ok (.iconst 0, 1) := by decide +kernel
theorem dX6_readsItem_144 : decode cX6_readsItem 144 = .ok (.ireturn, 1) := by decide +kernel
theorem dX6_goesThrough_0 : decode cX6_goesThrough 0 = .ok (.aload_n 0, 1) := by decide +kernel
theorem dX6_goesThrough_1 : decode cX6_goesThrough 1 = .ok (.iconst 0, 1) := by decide +kernel
theorem dX6_goesThrough_2 : decode cX6_goesThrough 2 = .ok (.putfield 249, 3) := by decide +kernel
theorem dX6_goesThrough_5 : decode cX6_goesThrough 5 = .ok (.aload_n 0, 1) := by decide +kernel
theorem dX6_goesThrough_6 : decode cX6_goesThrough 6 = .ok (.iconst 2, 1) := by decide +kernel
theorem dX6_goesThrough_7 : decode cX6_goesThrough 7 = .ok (.putfield 265, 3) := by decide +kernel
theorem dX6_goesThrough_10 : decode cX6_goesThrough 10 = .ok (.aload_n 0, 1) := by decide +kernel
theorem dX6_goesThrough_11 : decode cX6_goesThrough 11 = .ok (.iconst 0, 1) := by decide +kernel
theorem dX6_goesThrough_12 : decode cX6_goesThrough 12 = .ok (.putfield 268, 3) := by decide +kernel
theorem dX6_goesThrough_15 : decode cX6_goesThrough 15 = .ok (.aload_n 0, 1) := by decide +kernel
theorem dX6_goesThrough_16 : decode cX6_goesThrough 16 = .ok (.iconst 0, 1) := by decide +kernel
theorem dX6_goesThrough_17 : decode cX6_goesThrough 17 = .ok (.putfield 277, 3) := by decide +kernel
theorem dX6_goesThrough_20 : decode cX6_goesThrough 20 = .ok (.aload_n 0, 1) := by decide +kernel
theorem dX6_goesThrough_21 : decode cX6_goesThrough 21 = .ok (.getfield 249, 3) := by decide +kernel
theorem dX6_goesThrough_24 : decode cX6_goesThrough 24 = .ok (.aload_n 0, 1) := by decide +kernel
theorem dX6_goesThrough_25 : decode cX6_goesThrough 25 = .ok (.getfield 246, 3) := by decide +kernel
theorem dX6_goesThrough_28 : decode cX6_goesThrough 28 = .ok (.if_icmp .ge 30, 3) := by decide +kernel
theorem dX6_goesThrough_31 : decode cX6_goesThrough 31 = .ok (.aload_n 0, 1) := by decide +kernel
theorem dX6_goesThrough_32 : decode cX6_goesThrough 32 = .ok (.getfield 249, 3) := by decide +kernel
theorem dX6_goesThrough_35 : decode cX6_goesThrough 35 = .ok (.istore_n 2, 1) := by decide +kernel
theorem dX6_goesThrough_36 : decode cX6_goesThrough 36 = .ok (.aload_n 0, 1) := by decide +kernel
theorem dX6_goesThrough_37 : decode cX6_goesThrough 37 = .ok (.iload_n 2, 1) := by decide +kernel
theorem dX6_goesThrough_38 : decode cX6_goesThrough 38 = .ok (.ifCond .ne 7, 3) := by decide +kernel
theorem dX6_goesThrough_41 : decode cX6_goesThrough 41 = .ok (.iconst 1, 1) := by decide +kernel
theorem dX6_goesThrough_42 : decode cX6_goesThrough 42 = .ok (.goto 4, 3) := by decide +kernel
theorem dX6_goesThrough_45 : decode cX6_goesThrough 45 = .ok (.iconst 0, 1) := by decide +kernel
theorem dX6_goesThrough_46 : decode cX6_goesThrough 46 = .ok (.iload_n 1, 1) := by decide +kernel
theorem dX6_goesThrough_47 : decode cX6_goesThrough 47 = .ok (.invokevirtual 294, 3) := by decide +kernel
theorem dX6_goesThrough_50 : decode cX6_goesThrough 50 = .ok (.ifCond .ne 5, 3) := by decide +kernel
theorem dX6_goesThrough_53 : decode cX6_goesThrough 53 = .ok (.iload_n 2, 1) := by decide +kernel
theorem dX6_goesThrough_54 : decode cX6_goesThrough 54 = .ok (.ireturn, 1) := by decide +kernel
theorem dX6_goesThrough_55 : decode cX6_goesThrough 55 = .ok (.goto (-35), 3) := by decide +kernel
theorem dX6_goesThrough_58 : decode cX6_goesThrough 58 = .ok (.bipush (-4), 2) := by decide +kernel
theorem dX6_goesThrough_60 : decode cX6_goesThrough 60 = .ok (.ireturn, 1) := by decide +kernel
theorem dX6_fault_0 : decode cX6_fault 0 = .ok (.aload_n 0, 1) := by decide +kernel
theorem dX6_fault_1 : decode cX6_fault 1 = .ok (.iconst 0, 1) := by decide +kernel
theorem dX6_fault_2 : decode cX6_fault 2 = .ok (.invokevirtual 297, 3) := by decide +kernel
theorem dX6_fault_5 : decode cX6_fault 5 = .ok (.ireturn, 1) := by decide +kernel
theorem dX6_lay_0 : decode cX6_lay 0 = .ok (.aload_n 0, 1) := by decide +kernel
theorem dX6_lay_1 : decode cX6_lay 1 = .ok (.iconst 0, 1) := by decide +kernel
theorem dX6_lay_2 : decode cX6_lay 2 = .ok (.invokevirtual 297, 3) := by decide +kernel
theorem dX6_lay_5 : decode cX6_lay 5 = .ok (.bipush (-4), 2) := by decide +kernel
theorem dX6_lay_7 : decode cX6_lay 7 = .ok (.if_icmp .ne 10, 3) := by decide +kernel
theorem dX6_lay_10 : decode cX6_lay 10 = .ok (.aload_n 0, 1) := by decide +kernel
theorem dX6_lay_11 : decode cX6_lay 11 = .ok (.getfield 268, 3) := by decide +kernel
theorem dX6_lay_14 : decode cX6_lay 14 = .ok (.ifCond .ne 6, 3) := by decide +kernel
theorem dX6_lay_17 : decode cX6_lay 17 = .ok (.bipush (-2), 2) := by decide +kernel
theorem dX6_lay_19 : decode cX6_lay 19 = .ok (.ireturn, 1) := by decide +kernel
theorem dX6_lay_20 : decode cX6_lay 20 = .ok (.aload_n 0, 1) := by decide +kernel
theorem dX6_lay_21 : decode cX6_lay 21 = .ok (.iconst 2, 1) := by decide +kernel
theorem dX6_lay_22 : decode cX6_lay 22 = .ok (.putfield 7, 3) := by decide +kernel
theorem dX6_lay_25 : decode cX6_lay 25 = .ok (.aload_n 0, 1) := by decide +kernel
theorem dX6_lay_26 : decode cX6_lay 26 = .ok (.iconst 0, 1) := by decide +kernel
theorem dX6_lay_27 : decode cX6_lay 27 = .ok (.putfield 13, 3) := by decide +kernel
theorem dX6_lay_30 : decode cX6_lay 30 = .ok (.aload_n 0, 1) := by decide +kernel
theorem dX6_lay_31 : decode cX6_lay 31 = .ok (.iconst 0, 1) := by decide +kernel
theorem dX6_lay_32 : decode cX6_lay 32 = .ok (.putfield 20, 3) := by decide +kernel
theorem dX6_lay_35 : decode cX6_lay 35 = .ok (.aload_n 0, 1) := by decide +kernel
theorem dX6_lay_36 : decode cX6_lay 36 = .ok (.iconst 0, 1) := by decide +kernel
theorem dX6_lay_37 : decode cX6_lay 37 = .ok (.putfield 80, 3) := by decide +kernel
theorem dX6_lay_40 : decode cX6_lay 40 = .ok (.aload_n 0, 1) := by decide +kernel
theorem dX6_lay_41 : decode cX6_lay 41 = .ok (.iconst 0, 1) := by decide +kernel
theorem dX6_lay_42 : decode cX6_lay 42 = .ok (.putfield 26, 3) := by decide +kernel
theorem dX6_lay_45 : decode cX6_lay 45 = .ok (.aload_n 0, 1) := by decide +kernel
theorem dX6_lay_46 : decode cX6_lay 46 = .ok (.iconst 0, 1) := by decide +kernel
theorem dX6_lay_47 : decode cX6_lay 47 = .ok (.putfield 83, 3) := by decide +kernel
theorem dX6_lay_50 : decode cX6_lay 50 = .ok (.aload_n 0, 1) := by decide +kernel
theorem dX6_lay_51 : decode cX6_lay 51 = .ok (.iconst 0, 1) := by decide +kernel
theorem dX6_lay_52 : decode cX6_lay 52 = .ok (.putfield 86, 3) := by decide +kernel
theorem dX6_lay_55 : decode cX6_lay 55 = .ok (.aload_n 0, 1) := by decide +kernel
theorem dX6_lay_56 : decode cX6_lay 56 = .ok (.iconst 0, 1) := by decide +kernel
theorem dX6_lay_57 : decode cX6_lay 57 = .ok (.putfield 96, 3) := by decide +kernel
theorem dX6_lay_60 : decode cX6_lay 60 = .ok (.aload_n 0, 1) := by decide +kernel
theorem dX6_lay_61 : decode cX6_lay 61 = .ok (.iconst 1, 1) := by decide +kernel
theorem dX6_lay_62 : decode cX6_lay 62 = .ok (.invokevirtual 297, 3) := by decide +kernel
theorem dX6_lay_65 : decode cX6_lay 65 = .ok (.pop, 1) := by decide +kernel
theorem dX6_lay_66 : decode cX6_lay 66 = .ok (.aload_n 0, 1) := by decide +kernel
theorem dX6_lay_67 : decode cX6_lay 67 = .ok (.getfield 13, 3) := by decide +kernel
theorem dX6_lay_70 : decode cX6_lay 70 = .ok (.ireturn, 1) := by decide +kernel
theorem dX6_count_0 : decode cX6_count 0 = .ok (.iload_n 1, 1) := by decide +kernel
theorem dX6_count_1 : decode cX6_count 1 = .ok (.tableswitch 78 0 6 #[43, 48, 53, 58, 63, 68, 73], 43) := by decide +kernel
theorem dX6_count_44 : decode cX6_count 44 = .ok (.aload_n 0, 1) := by decide +kernel
theorem dX6_count_45 : decode cX6_count 45 = .ok (.getfield 7, 3) := by decide +kernel
theorem dX6_count_48 : decode cX6_count 48 = .ok (.ireturn, 1) := by decide +kernel
theorem dX6_count_49 : decode cX6_count 49 = .ok (.aload_n 0, 1) := by decide +kernel
theorem dX6_count_50 : decode cX6_count 50 = .ok (.getfield 13, 3) := by decide +kernel
theorem dX6_count_53 : decode cX6_count 53 = .ok (.ireturn, 1) := by decide +kernel
theorem dX6_count_54 : decode cX6_count 54 = .ok (.aload_n 0, 1) := by decide +kernel
theorem dX6_count_55 : decode cX6_count 55 = .ok (.getfield 20, 3) := by decide +kernel
theorem dX6_count_58 : decode cX6_count 58 = .ok (.ireturn, 1) := by decide +kernel
theorem dX6_count_59 : decode cX6_count 59 = .ok (.aload_n 0, 1) := by decide +kernel
theorem dX6_count_60 : decode cX6_count 60 = .ok (.getfield 83, 3) := by decide +kernel
theorem dX6_count_63 : decode cX6_count 63 = .ok (.ireturn, 1) := by decide +kernel
theorem dX6_count_64 : decode cX6_count 64 = .ok (.aload_n 0, 1) := by decide +kernel
theorem dX6_count_65 : decode cX6_count 65 = .ok (.getfield 86, 3) := by decide +kernel
theorem dX6_count_68 : decode cX6_count 68 = .ok (.ireturn, 1) := by decide +kernel
theorem dX6_count_69 : decode cX6_count 69 = .ok (.aload_n 0, 1) := by decide +kernel
theorem dX6_count_70 : decode cX6_count 70 = .ok (.getfield 96, 3) := by decide +kernel
theorem dX6_count_73 : decode cX6_count 73 = .ok (.ireturn, 1) := by decide +kernel
theorem dX6_count_74 : decode cX6_count 74 = .ok (.aload_n 0, 1) := by decide +kernel
theorem dX6_count_75 : decode cX6_count 75 = .ok (.getfield 246, 3) := by decide +kernel
theorem dX6_count_78 : decode cX6_count 78 = .ok (.ireturn, 1) := by decide +kernel
theorem dX6_count_79 : decode cX6_count 79 = .ok (.iconst (-1), 1) := by decide +kernel
theorem dX6_count_80 : decode cX6_count 80 = .ok (.ireturn, 1) := by decide +kernel
theorem dL_law_0 : decode cL_law 0 = .ok (.new 7, 3) := by decide +kernel
theorem dL_law_3 : decode cL_law 3 = .ok (.dup, 1) := by decide +kernel
theorem dL_law_4 : decode cL_law 4 = .ok (.invokespecial 9, 3) := by decide +kernel
theorem dL_law_7 : decode cL_law 7 = .ok (.astore_n 1, 1) := by decide +kernel
theorem dL_law_8 : decode cL_law 8 = .ok (.new 10, 3) := by decide +kernel
theorem dL_law_11 : decode cL_law 11 = .ok (.dup, 1) := by decide +kernel
theorem dL_law_12 : decode cL_law 12 = .ok (.invokespecial 12, 3) := by decide +kernel
theorem dL_law_15 : decode cL_law 15 = .ok (.astore_n 2, 1) := by decide +kernel
theorem dL_law_16 : decode cL_law 16 = .ok (.iconst 0, 1) := by decide +kernel
theorem dL_law_17 : decode cL_law 17 = .ok (.istore_n 3, 1) := by decide +kernel
theorem dL_law_18 : decode cL_law 18 = .ok (.iload_n 3, 1) := by decide +kernel
theorem dL_law_19 : decode cL_law 19 = .ok (.aload_n 0, 1) := by decide +kernel
theorem dL_law_20 : decode cL_law 20 = .ok (.arraylength, 1) := by decide +kernel
theorem dL_law_21 : decode cL_law 21 = .ok (.bipush 6, 2) := by decide +kernel
theorem dL_law_23 : decode cL_law 23 = .ok (.isub, 1) := by decide +kernel
theorem dL_law_24 : decode cL_law 24 = .ok (.if_icmp .gt 833, 3) := by decide +kernel
theorem dL_law_27 : decode cL_law 27 = .ok (.aload_n 0, 1) := by decide +kernel
theorem dL_law_28 : decode cL_law 28 = .ok (.iload_n 3, 1) := by decide +kernel
theorem dL_law_29 : decode cL_law 29 = .ok (.iaload, 1) := by decide +kernel
theorem dL_law_30 : decode cL_law 30 = .ok (.bipush 31, 2) := by decide +kernel
theorem dL_law_32 : decode cL_law 32 = .ok (.iand, 1) := by decide +kernel
theorem dL_law_33 : decode cL_law 33 = .ok (.tableswitch 818 0 28 #[131, 154, 167, 180, 193, 226, 259, 282, 305, 318, 341, 364, 427, 450, 483, 506, 519, 532, 555, 588, 611, 624, 667, 690, 703, 726, 769, 782, 795], 131) := by decide +kernel
theorem dL_law_164 : decode cL_law 164 = .ok (.aload_n 1, 1) := by decide +kernel
theorem dL_law_165 : decode cL_law 165 = .ok (.aload_n 0, 1) := by decide +kernel
theorem dL_law_166 : decode cL_law 166 = .ok (.iload_n 3, 1) := by decide +kernel
theorem dL_law_167 : decode cL_law 167 = .ok (.iconst 1, 1) := by decide +kernel
theorem dL_law_168 : decode cL_law 168 = .ok (.iadd, 1) := by decide +kernel
theorem dL_law_169 : decode cL_law 169 = .ok (.iaload, 1) := by decide +kernel
theorem dL_law_170 : decode cL_law 170 = .ok (.invokevirtual 13, 3) := by decide +kernel
theorem dL_law_173 : decode cL_law 173 = .ok (.aload_n 2, 1) := by decide +kernel
theorem dL_law_174 : decode cL_law 174 = .ok (.aload_n 0, 1) := by decide +kernel
theorem dL_law_175 : decode cL_law 175 = .ok (.iload_n 3, 1) := by decide +kernel
theorem dL_law_176 : decode cL_law 176 = .ok (.iconst 1, 1) := by decide +kernel
theorem dL_law_177 : decode cL_law 177 = .ok (.iadd, 1) := by decide +kernel
theorem dL_law_178 : decode cL_law 178 = .ok (.iaload, 1) := by decide +kernel
theorem dL_law_179 : decode cL_law 179 = .ok (.invokevirtual 17, 3) := by decide +kernel
theorem dL_law_182 : decode cL_law 182 = .ok (.if_icmp .eq 669, 3) := by decide +kernel
theorem dL_law_185 : decode cL_law 185 = .ok (.iconst 0, 1) := by decide +kernel
theorem dL_law_186 : decode cL_law 186 = .ok (.ireturn, 1) := by decide +kernel
theorem dL_law_187 : decode cL_law 187 = .ok (.aload_n 1, 1) := by decide +kernel
theorem dL_law_188 : decode cL_law 188 = .ok (.invokevirtual 18, 3) := by decide +kernel
theorem dL_law_191 : decode cL_law 191 = .ok (.aload_n 2, 1) := by decide +kernel
theorem dL_law_192 : decode cL_law 192 = .ok (.invokevirtual 22, 3) := by decide +kernel
theorem dL_law_195 : decode cL_law 195 = .ok (.if_icmp .eq 656, 3) := by decide +kernel
theorem dL_law_198 : decode cL_law 198 = .ok (.iconst 0, 1) := by decide +kernel
theorem dL_law_199 : decode cL_law 199 = .ok (.ireturn, 1) := by decide +kernel
theorem dL_law_200 : decode cL_law 200 = .ok (.aload_n 1, 1) := by decide +kernel
theorem dL_law_201 : decode cL_law 201 = .ok (.invokevirtual 23, 3) := by decide +kernel
theorem dL_law_204 : decode cL_law 204 = .ok (.aload_n 2, 1) := by decide +kernel
theorem dL_law_205 : decode cL_law 205 = .ok (.invokevirtual 26, 3) := by decide +kernel
theorem dL_law_208 : decode cL_law 208 = .ok (.if_icmp .eq 643, 3) := by decide +kernel
theorem dL_law_211 : decode cL_law 211 = .ok (.iconst 0, 1) := by decide +kernel
theorem dL_law_212 : decode cL_law 212 = .ok (.ireturn, 1) := by decide +kernel
theorem dL_law_213 : decode cL_law 213 = .ok (.aload_n 1, 1) := by decide +kernel
theorem dL_law_214 : decode cL_law 214 = .ok (.invokevirtual 27, 3) := by decide +kernel
theorem dL_law_217 : decode cL_law 217 = .ok (.aload_n 2, 1) := by decide +kernel
theorem dL_law_218 : decode cL_law 218 = .ok (.invokevirtual 30, 3) := by decide +kernel
theorem dL_law_221 : decode cL_law 221 = .ok (.if_icmp .eq 630, 3) := by decide +kernel
theorem dL_law_224 : decode cL_law 224 = .ok (.iconst 0, 1) := by decide +kernel
theorem dL_law_225 : decode cL_law 225 = .ok (.ireturn, 1) := by decide +kernel
theorem dL_law_226 : decode cL_law 226 = .ok (.aload_n 1, 1) := by decide +kernel
theorem dL_law_227 : decode cL_law 227 = .ok (.aload_n 0, 1) := by decide +kernel
theorem dL_law_228 : decode cL_law 228 = .ok (.iload_n 3, 1) := by decide +kernel
theorem dL_law_229 : decode cL_law 229 = .ok (.iconst 1, 1) := by decide +kernel
theorem dL_law_230 : decode cL_law 230 = .ok (.iadd, 1) := by decide +kernel
theorem dL_law_231 : decode cL_law 231 = .ok (.iaload, 1) := by decide +kernel
theorem dL_law_232 : decode cL_law 232 = .ok (.aload_n 0, 1) := by decide +kernel
theorem dL_law_233 : decode cL_law 233 = .ok (.iload_n 3, 1) := by decide +kernel
theorem dL_law_234 : decode cL_law 234 = .ok (.iconst 2, 1) := by decide +kernel
theorem dL_law_235 : decode cL_law 235 = .ok (.iadd, 1) := by decide +kernel
theorem dL_law_236 : decode cL_law 236 = .ok (.iaload, 1) := by decide +kernel
theorem dL_law_237 : decode cL_law 237 = .ok (.invokevirtual 31, 3) := by decide +kernel
theorem dL_law_240 : decode cL_law 240 = .ok (.aload_n 2, 1) := by decide +kernel
theorem dL_law_241 : decode cL_law 241 = .ok (.aload_n 0, 1) := by decide +kernel
theorem dL_law_242 : decode cL_law 242 = .ok (.iload_n 3, 1) := by decide +kernel
theorem dL_law_243 : decode cL_law 243 = .ok (.iconst 1, 1) := by decide +kernel
theorem dL_law_244 : decode cL_law 244 = .ok (.iadd, 1) := by decide +kernel
theorem dL_law_245 : decode cL_law 245 = .ok (.iaload, 1) := by decide +kernel
theorem dL_law_246 : decode cL_law 246 = .ok (.aload_n 0, 1) := by decide +kernel
theorem dL_law_247 : decode cL_law 247 = .ok (.iload_n 3, 1) := by decide +kernel
theorem dL_law_248 : decode cL_law 248 = .ok (.iconst 2, 1) := by decide +kernel
theorem dL_law_249 : decode cL_law 249 = .ok (.iadd, 1) := by decide +kernel
theorem dL_law_250 : decode cL_law 250 = .ok (.iaload, 1) := by decide +kernel
theorem dL_law_251 : decode cL_law 251 = .ok (.invokevirtual 35, 3) := by decide +kernel
theorem dL_law_254 : decode cL_law 254 = .ok (.if_icmp .eq 597, 3) := by decide +kernel
theorem dL_law_257 : decode cL_law 257 = .ok (.iconst 0, 1) := by decide +kernel
theorem dL_law_258 : decode cL_law 258 = .ok (.ireturn, 1) := by decide +kernel
theorem dL_law_259 : decode cL_law 259 = .ok (.aload_n 1, 1) := by decide +kernel
theorem dL_law_260 : decode cL_law 260 = .ok (.aload_n 0, 1) := by decide +kernel
theorem dL_law_261 : decode cL_law 261 = .ok (.iload_n 3, 1) := by decide +kernel
theorem dL_law_262 : decode cL_law 262 = .ok (.iconst 1, 1) := by decide +kernel
theorem dL_law_263 : decode cL_law 263 = .ok (.iadd, 1) := by decide +kernel
theorem dL_law_264 : decode cL_law 264 = .ok (.iaload, 1) := by decide +kernel
theorem dL_law_265 : decode cL_law 265 = .ok (.aload_n 0, 1) := by decide +kernel
theorem dL_law_266 : decode cL_law 266 = .ok (.iload_n 3, 1) := by decide +kernel
theorem dL_law_267 : decode cL_law 267 = .ok (.iconst 2, 1) := by decide +kernel
theorem dL_law_268 : decode cL_law 268 = .ok (.iadd, 1) := by decide +kernel
theorem dL_law_269 : decode cL_law 269 = .ok (.iaload, 1) := by decide +kernel
theorem dL_law_270 : decode cL_law 270 = .ok (.invokevirtual 36, 3) := by decide +kernel
theorem dL_law_273 : decode cL_law 273 = .ok (.aload_n 2, 1) := by decide +kernel
theorem dL_law_274 : decode cL_law 274 = .ok (.aload_n 0, 1) := by decide +kernel
theorem dL_law_275 : decode cL_law 275 = .ok (.iload_n 3, 1) := by decide +kernel
theorem dL_law_276 : decode cL_law 276 = .ok (.iconst 1, 1) := by decide +kernel
theorem dL_law_277 : decode cL_law 277 = .ok (.iadd, 1) := by decide +kernel
theorem dL_law_278 : decode cL_law 278 = .ok (.iaload, 1) := by decide +kernel
theorem dL_law_279 : decode cL_law 279 = .ok (.aload_n 0, 1) := by decide +kernel
theorem dL_law_280 : decode cL_law 280 = .ok (.iload_n 3, 1) := by decide +kernel
theorem dL_law_281 : decode cL_law 281 = .ok (.iconst 2, 1) := by decide +kernel
theorem dL_law_282 : decode cL_law 282 = .ok (.iadd, 1) := by decide +kernel
theorem dL_law_283 : decode cL_law 283 = .ok (.iaload, 1) := by decide +kernel
theorem dL_law_284 : decode cL_law 284 = .ok (.invokevirtual 39, 3) := by decide +kernel
theorem dL_law_287 : decode cL_law 287 = .ok (.if_icmp .eq 564, 3) := by decide +kernel
theorem dL_law_290 : decode cL_law 290 = .ok (.iconst 0, 1) := by decide +kernel
theorem dL_law_291 : decode cL_law 291 = .ok (.ireturn, 1) := by decide +kernel
theorem dL_law_292 : decode cL_law 292 = .ok (.aload_n 1, 1) := by decide +kernel
theorem dL_law_293 : decode cL_law 293 = .ok (.aload_n 0, 1) := by decide +kernel
theorem dL_law_294 : decode cL_law 294 = .ok (.iload_n 3, 1) := by decide +kernel
theorem dL_law_295 : decode cL_law 295 = .ok (.iconst 1, 1) := by decide +kernel
theorem dL_law_296 : decode cL_law 296 = .ok (.iadd, 1) := by decide +kernel
theorem dL_law_297 : decode cL_law 297 = .ok (.iaload, 1) := by decide +kernel
theorem dL_law_298 : decode cL_law 298 = .ok (.invokevirtual 40, 3) := by decide +kernel
theorem dL_law_301 : decode cL_law 301 = .ok (.aload_n 2, 1) := by decide +kernel
theorem dL_law_302 : decode cL_law 302 = .ok (.aload_n 0, 1) := by decide +kernel
theorem dL_law_303 : decode cL_law 303 = .ok (.iload_n 3, 1) := by decide +kernel
theorem dL_law_304 : decode cL_law 304 = .ok (.iconst 1, 1) := by decide +kernel
theorem dL_law_305 : decode cL_law 305 = .ok (.iadd, 1) := by decide +kernel
theorem dL_law_306 : decode cL_law 306 = .ok (.iaload, 1) := by decide +kernel
theorem dL_law_307 : decode cL_law 307 = .ok (.invokevirtual 43, 3) := by decide +kernel
theorem dL_law_310 : decode cL_law 310 = .ok (.if_icmp .eq 541, 3) := by decide +kernel
theorem dL_law_313 : decode cL_law 313 = .ok (.iconst 0, 1) := by decide +kernel
theorem dL_law_314 : decode cL_law 314 = .ok (.ireturn, 1) := by decide +kernel
theorem dL_law_315 : decode cL_law 315 = .ok (.aload_n 1, 1) := by decide +kernel
theorem dL_law_316 : decode cL_law 316 = .ok (.aload_n 0, 1) := by decide +kernel
theorem dL_law_317 : decode cL_law 317 = .ok (.iload_n 3, 1) := by decide +kernel
theorem dL_law_318 : decode cL_law 318 = .ok (.iconst 1, 1) := by decide +kernel
theorem dL_law_319 : decode cL_law 319 = .ok (.iadd, 1) := by decide +kernel
theorem dL_law_320 : decode cL_law 320 = .ok (.iaload, 1) := by decide +kernel
theorem dL_law_321 : decode cL_law 321 = .ok (.invokevirtual 44, 3) := by decide +kernel
theorem dL_law_324 : decode cL_law 324 = .ok (.aload_n 2, 1) := by decide +kernel
theorem dL_law_325 : decode cL_law 325 = .ok (.aload_n 0, 1) := by decide +kernel
theorem dL_law_326 : decode cL_law 326 = .ok (.iload_n 3, 1) := by decide +kernel
theorem dL_law_327 : decode cL_law 327 = .ok (.iconst 1, 1) := by decide +kernel
theorem dL_law_328 : decode cL_law 328 = .ok (.iadd, 1) := by decide +kernel
theorem dL_law_329 : decode cL_law 329 = .ok (.iaload, 1) := by decide +kernel
theorem dL_law_330 : decode cL_law 330 = .ok (.invokevirtual 47, 3) := by decide +kernel
theorem dL_law_333 : decode cL_law 333 = .ok (.if_icmp .eq 518, 3) := by decide +kernel
theorem dL_law_336 : decode cL_law 336 = .ok (.iconst 0, 1) := by decide +kernel
theorem dL_law_337 : decode cL_law 337 = .ok (.ireturn, 1) := by decide +kernel
theorem dL_law_338 : decode cL_law 338 = .ok (.aload_n 1, 1) := by decide +kernel
theorem dL_law_339 : decode cL_law 339 = .ok (.invokevirtual 48, 3) := by decide +kernel
theorem dL_law_342 : decode cL_law 342 = .ok (.aload_n 2, 1) := by decide +kernel
theorem dL_law_343 : decode cL_law 343 = .ok (.invokevirtual 51, 3) := by decide +kernel
theorem dL_law_346 : decode cL_law 346 = .ok (.if_icmp .eq 505, 3) := by decide +kernel
theorem dL_law_349 : decode cL_law 349 = .ok (.iconst 0, 1) := by decide +kernel
theorem dL_law_350 : decode cL_law 350 = .ok (.ireturn, 1) := by decide +kernel
theorem dL_law_351 : decode cL_law 351 = .ok (.aload_n 1, 1) := by decide +kernel
theorem dL_law_352 : decode cL_law 352 = .ok (.aload_n 0, 1) := by decide +kernel
theorem dL_law_353 : decode cL_law 353 = .ok (.iload_n 3, 1) := by decide +kernel
theorem dL_law_354 : decode cL_law 354 = .ok (.iconst 1, 1) := by decide +kernel
theorem dL_law_355 : decode cL_law 355 = .ok (.iadd, 1) := by decide +kernel
theorem dL_law_356 : decode cL_law 356 = .ok (.iaload, 1) := by decide +kernel
theorem dL_law_357 : decode cL_law 357 = .ok (.invokevirtual 52, 3) := by decide +kernel
theorem dL_law_360 : decode cL_law 360 = .ok (.aload_n 2, 1) := by decide +kernel
theorem dL_law_361 : decode cL_law 361 = .ok (.aload_n 0, 1) := by decide +kernel
theorem dL_law_362 : decode cL_law 362 = .ok (.iload_n 3, 1) := by decide +kernel
theorem dL_law_363 : decode cL_law 363 = .ok (.iconst 1, 1) := by decide +kernel
theorem dL_law_364 : decode cL_law 364 = .ok (.iadd, 1) := by decide +kernel
theorem dL_law_365 : decode cL_law 365 = .ok (.iaload, 1) := by decide +kernel
theorem dL_law_366 : decode cL_law 366 = .ok (.invokevirtual 55, 3) := by decide +kernel
theorem dL_law_369 : decode cL_law 369 = .ok (.if_icmp .eq 482, 3) := by decide +kernel
theorem dL_law_372 : decode cL_law 372 = .ok (.iconst 0, 1) := by decide +kernel
theorem dL_law_373 : decode cL_law 373 = .ok (.ireturn, 1) := by decide +kernel
theorem dL_law_374 : decode cL_law 374 = .ok (.aload_n 1, 1) := by decide +kernel
theorem dL_law_375 : decode cL_law 375 = .ok (.aload_n 0, 1) := by decide +kernel
theorem dL_law_376 : decode cL_law 376 = .ok (.iload_n 3, 1) := by decide +kernel
theorem dL_law_377 : decode cL_law 377 = .ok (.iconst 1, 1) := by decide +kernel
theorem dL_law_378 : decode cL_law 378 = .ok (.iadd, 1) := by decide +kernel
theorem dL_law_379 : decode cL_law 379 = .ok (.iaload, 1) := by decide +kernel
theorem dL_law_380 : decode cL_law 380 = .ok (.invokevirtual 56, 3) := by decide +kernel
theorem dL_law_383 : decode cL_law 383 = .ok (.aload_n 2, 1) := by decide +kernel
theorem dL_law_384 : decode cL_law 384 = .ok (.aload_n 0, 1) := by decide +kernel
theorem dL_law_385 : decode cL_law 385 = .ok (.iload_n 3, 1) := by decide +kernel
theorem dL_law_386 : decode cL_law 386 = .ok (.iconst 1, 1) := by decide +kernel
theorem dL_law_387 : decode cL_law 387 = .ok (.iadd, 1) := by decide +kernel
theorem dL_law_388 : decode cL_law 388 = .ok (.iaload, 1) := by decide +kernel
theorem dL_law_389 : decode cL_law 389 = .ok (.invokevirtual 59, 3) := by decide +kernel
theorem dL_law_392 : decode cL_law 392 = .ok (.if_icmp .eq 459, 3) := by decide +kernel
theorem dL_law_395 : decode cL_law 395 = .ok (.iconst 0, 1) := by decide +kernel
theorem dL_law_396 : decode cL_law 396 = .ok (.ireturn, 1) := by decide +kernel
theorem dL_law_397 : decode cL_law 397 = .ok (.aload_n 1, 1) := by decide +kernel
theorem dL_law_398 : decode cL_law 398 = .ok (.aload_n 0, 1) := by decide +kernel
theorem dL_law_399 : decode cL_law 399 = .ok (.iload_n 3, 1) := by decide +kernel
theorem dL_law_400 : decode cL_law 400 = .ok (.iconst 1, 1) := by decide +kernel
theorem dL_law_401 : decode cL_law 401 = .ok (.iadd, 1) := by decide +kernel
theorem dL_law_402 : decode cL_law 402 = .ok (.iaload, 1) := by decide +kernel
theorem dL_law_403 : decode cL_law 403 = .ok (.aload_n 0, 1) := by decide +kernel
theorem dL_law_404 : decode cL_law 404 = .ok (.iload_n 3, 1) := by decide +kernel
theorem dL_law_405 : decode cL_law 405 = .ok (.iconst 2, 1) := by decide +kernel
theorem dL_law_406 : decode cL_law 406 = .ok (.iadd, 1) := by decide +kernel
theorem dL_law_407 : decode cL_law 407 = .ok (.iaload, 1) := by decide +kernel
theorem dL_law_408 : decode cL_law 408 = .ok (.aload_n 0, 1) := by decide +kernel
theorem dL_law_409 : decode cL_law 409 = .ok (.iload_n 3, 1) := by decide +kernel
theorem dL_law_410 : decode cL_law 410 = .ok (.iconst 3, 1) := by decide +kernel
theorem dL_law_411 : decode cL_law 411 = .ok (.iadd, 1) := by decide +kernel
theorem dL_law_412 : decode cL_law 412 = .ok (.iaload, 1) := by decide +kernel
theorem dL_law_413 : decode cL_law 413 = .ok (.aload_n 0, 1) := by decide +kernel
theorem dL_law_414 : decode cL_law 414 = .ok (.iload_n 3, 1) := by decide +kernel
theorem dL_law_415 : decode cL_law 415 = .ok (.iconst 4, 1) := by decide +kernel
theorem dL_law_416 : decode cL_law 416 = .ok (.iadd, 1) := by decide +kernel
theorem dL_law_417 : decode cL_law 417 = .ok (.iaload, 1) := by decide +kernel
theorem dL_law_418 : decode cL_law 418 = .ok (.aload_n 0, 1) := by decide +kernel
theorem dL_law_419 : decode cL_law 419 = .ok (.iload_n 3, 1) := by decide +kernel
theorem dL_law_420 : decode cL_law 420 = .ok (.iconst 5, 1) := by decide +kernel
theorem dL_law_421 : decode cL_law 421 = .ok (.iadd, 1) := by decide +kernel
theorem dL_law_422 : decode cL_law 422 = .ok (.iaload, 1) := by decide +kernel
theorem dL_law_423 : decode cL_law 423 = .ok (.invokevirtual 60, 3) := by decide +kernel
theorem dL_law_426 : decode cL_law 426 = .ok (.aload_n 2, 1) := by decide +kernel
theorem dL_law_427 : decode cL_law 427 = .ok (.aload_n 0, 1) := by decide +kernel
theorem dL_law_428 : decode cL_law 428 = .ok (.iload_n 3, 1) := by decide +kernel
theorem dL_law_429 : decode cL_law 429 = .ok (.iconst 1, 1) := by decide +kernel
theorem dL_law_430 : decode cL_law 430 = .ok (.iadd, 1) := by decide +kernel
theorem dL_law_431 : decode cL_law 431 = .ok (.iaload, 1) := by decide +kernel
theorem dL_law_432 : decode cL_law 432 = .ok (.aload_n 0, 1) := by decide +kernel
theorem dL_law_433 : decode cL_law 433 = .ok (.iload_n 3, 1) := by decide +kernel
theorem dL_law_434 : decode cL_law 434 = .ok (.iconst 2, 1) := by decide +kernel
theorem dL_law_435 : decode cL_law 435 = .ok (.iadd, 1) := by decide +kernel
theorem dL_law_436 : decode cL_law 436 = .ok (.iaload, 1) := by decide +kernel
theorem dL_law_437 : decode cL_law 437 = .ok (.aload_n 0, 1) := by decide +kernel
theorem dL_law_438 : decode cL_law 438 = .ok (.iload_n 3, 1) := by decide +kernel
theorem dL_law_439 : decode cL_law 439 = .ok (.iconst 3, 1) := by decide +kernel
theorem dL_law_440 : decode cL_law 440 = .ok (.iadd, 1) := by decide +kernel
theorem dL_law_441 : decode cL_law 441 = .ok (.iaload, 1) := by decide +kernel
theorem dL_law_442 : decode cL_law 442 = .ok (.aload_n 0, 1) := by decide +kernel
theorem dL_law_443 : decode cL_law 443 = .ok (.iload_n 3, 1) := by decide +kernel
theorem dL_law_444 : decode cL_law 444 = .ok (.iconst 4, 1) := by decide +kernel
theorem dL_law_445 : decode cL_law 445 = .ok (.iadd, 1) := by decide +kernel
theorem dL_law_446 : decode cL_law 446 = .ok (.iaload, 1) := by decide +kernel
theorem dL_law_447 : decode cL_law 447 = .ok (.aload_n 0, 1) := by decide +kernel
theorem dL_law_448 : decode cL_law 448 = .ok (.iload_n 3, 1) := by decide +kernel
theorem dL_law_449 : decode cL_law 449 = .ok (.iconst 5, 1) := by decide +kernel
theorem dL_law_450 : decode cL_law 450 = .ok (.iadd, 1) := by decide +kernel
theorem dL_law_451 : decode cL_law 451 = .ok (.iaload, 1) := by decide +kernel
theorem dL_law_452 : decode cL_law 452 = .ok (.invokevirtual 64, 3) := by decide +kernel
theorem dL_law_455 : decode cL_law 455 = .ok (.if_icmp .eq 396, 3) := by decide +kernel
theorem dL_law_458 : decode cL_law 458 = .ok (.iconst 0, 1) := by decide +kernel
theorem dL_law_459 : decode cL_law 459 = .ok (.ireturn, 1) := by decide +kernel
theorem dL_law_460 : decode cL_law 460 = .ok (.aload_n 1, 1) := by decide +kernel
theorem dL_law_461 : decode cL_law 461 = .ok (.aload_n 0, 1) := by decide +kernel
theorem dL_law_462 : decode cL_law 462 = .ok (.iload_n 3, 1) := by decide +kernel
theorem dL_law_463 : decode cL_law 463 = .ok (.iconst 1, 1) := by decide +kernel
theorem dL_law_464 : decode cL_law 464 = .ok (.iadd, 1) := by decide +kernel
theorem dL_law_465 : decode cL_law 465 = .ok (.iaload, 1) := by decide +kernel
theorem dL_law_466 : decode cL_law 466 = .ok (.invokevirtual 65, 3) := by decide +kernel
theorem dL_law_469 : decode cL_law 469 = .ok (.aload_n 2, 1) := by decide +kernel
theorem dL_law_470 : decode cL_law 470 = .ok (.aload_n 0, 1) := by decide +kernel
theorem dL_law_471 : decode cL_law 471 = .ok (.iload_n 3, 1) := by decide +kernel
theorem dL_law_472 : decode cL_law 472 = .ok (.iconst 1, 1) := by decide +kernel
theorem dL_law_473 : decode cL_law 473 = .ok (.iadd, 1) := by decide +kernel
theorem dL_law_474 : decode cL_law 474 = .ok (.iaload, 1) := by decide +kernel
theorem dL_law_475 : decode cL_law 475 = .ok (.invokevirtual 68, 3) := by decide +kernel
theorem dL_law_478 : decode cL_law 478 = .ok (.if_icmp .eq 373, 3) := by decide +kernel
theorem dL_law_481 : decode cL_law 481 = .ok (.iconst 0, 1) := by decide +kernel
theorem dL_law_482 : decode cL_law 482 = .ok (.ireturn, 1) := by decide +kernel
theorem dL_law_483 : decode cL_law 483 = .ok (.aload_n 1, 1) := by decide +kernel
theorem dL_law_484 : decode cL_law 484 = .ok (.aload_n 0, 1) := by decide +kernel
theorem dL_law_485 : decode cL_law 485 = .ok (.iload_n 3, 1) := by decide +kernel
theorem dL_law_486 : decode cL_law 486 = .ok (.iconst 1, 1) := by decide +kernel
theorem dL_law_487 : decode cL_law 487 = .ok (.iadd, 1) := by decide +kernel
theorem dL_law_488 : decode cL_law 488 = .ok (.iaload, 1) := by decide +kernel
theorem dL_law_489 : decode cL_law 489 = .ok (.aload_n 0, 1) := by decide +kernel
theorem dL_law_490 : decode cL_law 490 = .ok (.iload_n 3, 1) := by decide +kernel
theorem dL_law_491 : decode cL_law 491 = .ok (.iconst 2, 1) := by decide +kernel
theorem dL_law_492 : decode cL_law 492 = .ok (.iadd, 1) := by decide +kernel
theorem dL_law_493 : decode cL_law 493 = .ok (.iaload, 1) := by decide +kernel
theorem dL_law_494 : decode cL_law 494 = .ok (.invokevirtual 69, 3) := by decide +kernel
theorem dL_law_497 : decode cL_law 497 = .ok (.aload_n 2, 1) := by decide +kernel
theorem dL_law_498 : decode cL_law 498 = .ok (.aload_n 0, 1) := by decide +kernel
theorem dL_law_499 : decode cL_law 499 = .ok (.iload_n 3, 1) := by decide +kernel
theorem dL_law_500 : decode cL_law 500 = .ok (.iconst 1, 1) := by decide +kernel
theorem dL_law_501 : decode cL_law 501 = .ok (.iadd, 1) := by decide +kernel
theorem dL_law_502 : decode cL_law 502 = .ok (.iaload, 1) := by decide +kernel
theorem dL_law_503 : decode cL_law 503 = .ok (.aload_n 0, 1) := by decide +kernel
theorem dL_law_504 : decode cL_law 504 = .ok (.iload_n 3, 1) := by decide +kernel
theorem dL_law_505 : decode cL_law 505 = .ok (.iconst 2, 1) := by decide +kernel
theorem dL_law_506 : decode cL_law 506 = .ok (.iadd, 1) := by decide +kernel
theorem dL_law_507 : decode cL_law 507 = .ok (.iaload, 1) := by decide +kernel
theorem dL_law_508 : decode cL_law 508 = .ok (.invokevirtual 72, 3) := by decide +kernel
theorem dL_law_511 : decode cL_law 511 = .ok (.if_icmp .eq 340, 3) := by decide +kernel
theorem dL_law_514 : decode cL_law 514 = .ok (.iconst 0, 1) := by decide +kernel
theorem dL_law_515 : decode cL_law 515 = .ok (.ireturn, 1) := by decide +kernel
theorem dL_law_516 : decode cL_law 516 = .ok (.aload_n 1, 1) := by decide +kernel
theorem dL_law_517 : decode cL_law 517 = .ok (.aload_n 0, 1) := by decide +kernel
theorem dL_law_518 : decode cL_law 518 = .ok (.iload_n 3, 1) := by decide +kernel
theorem dL_law_519 : decode cL_law 519 = .ok (.iconst 1, 1) := by decide +kernel
theorem dL_law_520 : decode cL_law 520 = .ok (.iadd, 1) := by decide +kernel
theorem dL_law_521 : decode cL_law 521 = .ok (.iaload, 1) := by decide +kernel
theorem dL_law_522 : decode cL_law 522 = .ok (.invokevirtual 73, 3) := by decide +kernel
theorem dL_law_525 : decode cL_law 525 = .ok (.aload_n 2, 1) := by decide +kernel
theorem dL_law_526 : decode cL_law 526 = .ok (.aload_n 0, 1) := by decide +kernel
theorem dL_law_527 : decode cL_law 527 = .ok (.iload_n 3, 1) := by decide +kernel
theorem dL_law_528 : decode cL_law 528 = .ok (.iconst 1, 1) := by decide +kernel
theorem dL_law_529 : decode cL_law 529 = .ok (.iadd, 1) := by decide +kernel
theorem dL_law_530 : decode cL_law 530 = .ok (.iaload, 1) := by decide +kernel
theorem dL_law_531 : decode cL_law 531 = .ok (.invokevirtual 76, 3) := by decide +kernel
theorem dL_law_534 : decode cL_law 534 = .ok (.if_icmp .eq 317, 3) := by decide +kernel
theorem dL_law_537 : decode cL_law 537 = .ok (.iconst 0, 1) := by decide +kernel
theorem dL_law_538 : decode cL_law 538 = .ok (.ireturn, 1) := by decide +kernel
theorem dL_law_539 : decode cL_law 539 = .ok (.aload_n 1, 1) := by decide +kernel
theorem dL_law_540 : decode cL_law 540 = .ok (.invokevirtual 77, 3) := by decide +kernel
theorem dL_law_543 : decode cL_law 543 = .ok (.aload_n 2, 1) := by decide +kernel
theorem dL_law_544 : decode cL_law 544 = .ok (.invokevirtual 80, 3) := by decide +kernel
theorem dL_law_547 : decode cL_law 547 = .ok (.if_icmp .eq 304, 3) := by decide +kernel
theorem dL_law_550 : decode cL_law 550 = .ok (.iconst 0, 1) := by decide +kernel
theorem dL_law_551 : decode cL_law 551 = .ok (.ireturn, 1) := by decide +kernel
theorem dL_law_552 : decode cL_law 552 = .ok (.aload_n 1, 1) := by decide +kernel
theorem dL_law_553 : decode cL_law 553 = .ok (.invokevirtual 81, 3) := by decide +kernel
theorem dL_law_556 : decode cL_law 556 = .ok (.aload_n 2, 1) := by decide +kernel
theorem dL_law_557 : decode cL_law 557 = .ok (.invokevirtual 84, 3) := by decide +kernel
theorem dL_law_560 : decode cL_law 560 = .ok (.if_icmp .eq 291, 3) := by decide +kernel
theorem dL_law_563 : decode cL_law 563 = .ok (.iconst 0, 1) := by decide +kernel
theorem dL_law_564 : decode cL_law 564 = .ok (.ireturn, 1) := by decide +kernel
theorem dL_law_565 : decode cL_law 565 = .ok (.aload_n 1, 1) := by decide +kernel
theorem dL_law_566 : decode cL_law 566 = .ok (.aload_n 0, 1) := by decide +kernel
theorem dL_law_567 : decode cL_law 567 = .ok (.iload_n 3, 1) := by decide +kernel
theorem dL_law_568 : decode cL_law 568 = .ok (.iconst 1, 1) := by decide +kernel
theorem dL_law_569 : decode cL_law 569 = .ok (.iadd, 1) := by decide +kernel
theorem dL_law_570 : decode cL_law 570 = .ok (.iaload, 1) := by decide +kernel
theorem dL_law_571 : decode cL_law 571 = .ok (.invokevirtual 85, 3) := by decide +kernel
theorem dL_law_574 : decode cL_law 574 = .ok (.aload_n 2, 1) := by decide +kernel
theorem dL_law_575 : decode cL_law 575 = .ok (.aload_n 0, 1) := by decide +kernel
theorem dL_law_576 : decode cL_law 576 = .ok (.iload_n 3, 1) := by decide +kernel
theorem dL_law_577 : decode cL_law 577 = .ok (.iconst 1, 1) := by decide +kernel
theorem dL_law_578 : decode cL_law 578 = .ok (.iadd, 1) := by decide +kernel
theorem dL_law_579 : decode cL_law 579 = .ok (.iaload, 1) := by decide +kernel
theorem dL_law_580 : decode cL_law 580 = .ok (.invokevirtual 88, 3) := by decide +kernel
theorem dL_law_583 : decode cL_law 583 = .ok (.if_icmp .eq 268, 3) := by decide +kernel
theorem dL_law_586 : decode cL_law 586 = .ok (.iconst 0, 1) := by decide +kernel
theorem dL_law_587 : decode cL_law 587 = .ok (.ireturn, 1) := by decide +kernel
theorem dL_law_588 : decode cL_law 588 = .ok (.aload_n 1, 1) := by decide +kernel
theorem dL_law_589 : decode cL_law 589 = .ok (.aload_n 0, 1) := by decide +kernel
theorem dL_law_590 : decode cL_law 590 = .ok (.iload_n 3, 1) := by decide +kernel
theorem dL_law_591 : decode cL_law 591 = .ok (.iconst 1, 1) := by decide +kernel
theorem dL_law_592 : decode cL_law 592 = .ok (.iadd, 1) := by decide +kernel
theorem dL_law_593 : decode cL_law 593 = .ok (.iaload, 1) := by decide +kernel
theorem dL_law_594 : decode cL_law 594 = .ok (.aload_n 0, 1) := by decide +kernel
theorem dL_law_595 : decode cL_law 595 = .ok (.iload_n 3, 1) := by decide +kernel
theorem dL_law_596 : decode cL_law 596 = .ok (.iconst 2, 1) := by decide +kernel
theorem dL_law_597 : decode cL_law 597 = .ok (.iadd, 1) := by decide +kernel
theorem dL_law_598 : decode cL_law 598 = .ok (.iaload, 1) := by decide +kernel
theorem dL_law_599 : decode cL_law 599 = .ok (.invokevirtual 89, 3) := by decide +kernel
theorem dL_law_602 : decode cL_law 602 = .ok (.aload_n 2, 1) := by decide +kernel
theorem dL_law_603 : decode cL_law 603 = .ok (.aload_n 0, 1) := by decide +kernel
theorem dL_law_604 : decode cL_law 604 = .ok (.iload_n 3, 1) := by decide +kernel
theorem dL_law_605 : decode cL_law 605 = .ok (.iconst 1, 1) := by decide +kernel
theorem dL_law_606 : decode cL_law 606 = .ok (.iadd, 1) := by decide +kernel
theorem dL_law_607 : decode cL_law 607 = .ok (.iaload, 1) := by decide +kernel
theorem dL_law_608 : decode cL_law 608 = .ok (.aload_n 0, 1) := by decide +kernel
theorem dL_law_609 : decode cL_law 609 = .ok (.iload_n 3, 1) := by decide +kernel
theorem dL_law_610 : decode cL_law 610 = .ok (.iconst 2, 1) := by decide +kernel
theorem dL_law_611 : decode cL_law 611 = .ok (.iadd, 1) := by decide +kernel
theorem dL_law_612 : decode cL_law 612 = .ok (.iaload, 1) := by decide +kernel
theorem dL_law_613 : decode cL_law 613 = .ok (.invokevirtual 92, 3) := by decide +kernel
theorem dL_law_616 : decode cL_law 616 = .ok (.if_icmp .eq 235, 3) := by decide +kernel
theorem dL_law_619 : decode cL_law 619 = .ok (.iconst 0, 1) := by decide +kernel
theorem dL_law_620 : decode cL_law 620 = .ok (.ireturn, 1) := by decide +kernel
theorem dL_law_621 : decode cL_law 621 = .ok (.aload_n 1, 1) := by decide +kernel
theorem dL_law_622 : decode cL_law 622 = .ok (.aload_n 0, 1) := by decide +kernel
theorem dL_law_623 : decode cL_law 623 = .ok (.iload_n 3, 1) := by decide +kernel
theorem dL_law_624 : decode cL_law 624 = .ok (.iconst 1, 1) := by decide +kernel
theorem dL_law_625 : decode cL_law 625 = .ok (.iadd, 1) := by decide +kernel
theorem dL_law_626 : decode cL_law 626 = .ok (.iaload, 1) := by decide +kernel
theorem dL_law_627 : decode cL_law 627 = .ok (.invokevirtual 93, 3) := by decide +kernel
theorem dL_law_630 : decode cL_law 630 = .ok (.aload_n 2, 1) := by decide +kernel
theorem dL_law_631 : decode cL_law 631 = .ok (.aload_n 0, 1) := by decide +kernel
theorem dL_law_632 : decode cL_law 632 = .ok (.iload_n 3, 1) := by decide +kernel
theorem dL_law_633 : decode cL_law 633 = .ok (.iconst 1, 1) := by decide +kernel
theorem dL_law_634 : decode cL_law 634 = .ok (.iadd, 1) := by decide +kernel
theorem dL_law_635 : decode cL_law 635 = .ok (.iaload, 1) := by decide +kernel
theorem dL_law_636 : decode cL_law 636 = .ok (.invokevirtual 96, 3) := by decide +kernel
theorem dL_law_639 : decode cL_law 639 = .ok (.if_icmp .eq 212, 3) := by decide +kernel
theorem dL_law_642 : decode cL_law 642 = .ok (.iconst 0, 1) := by decide +kernel
theorem dL_law_643 : decode cL_law 643 = .ok (.ireturn, 1) := by decide +kernel
theorem dL_law_644 : decode cL_law 644 = .ok (.aload_n 1, 1) := by decide +kernel
theorem dL_law_645 : decode cL_law 645 = .ok (.invokevirtual 97, 3) := by decide +kernel
theorem dL_law_648 : decode cL_law 648 = .ok (.aload_n 2, 1) := by decide +kernel
theorem dL_law_649 : decode cL_law 649 = .ok (.invokevirtual 100, 3) := by decide +kernel
theorem dL_law_652 : decode cL_law 652 = .ok (.if_icmp .eq 199, 3) := by decide +kernel
theorem dL_law_655 : decode cL_law 655 = .ok (.iconst 0, 1) := by decide +kernel
theorem dL_law_656 : decode cL_law 656 = .ok (.ireturn, 1) := by decide +kernel
theorem dL_law_657 : decode cL_law 657 = .ok (.aload_n 1, 1) := by decide +kernel
theorem dL_law_658 : decode cL_law 658 = .ok (.aload_n 0, 1) := by decide +kernel
theorem dL_law_659 : decode cL_law 659 = .ok (.iload_n 3, 1) := by decide +kernel
theorem dL_law_660 : decode cL_law 660 = .ok (.iconst 1, 1) := by decide +kernel
theorem dL_law_661 : decode cL_law 661 = .ok (.iadd, 1) := by decide +kernel
theorem dL_law_662 : decode cL_law 662 = .ok (.iaload, 1) := by decide +kernel
theorem dL_law_663 : decode cL_law 663 = .ok (.aload_n 0, 1) := by decide +kernel
theorem dL_law_664 : decode cL_law 664 = .ok (.iload_n 3, 1) := by decide +kernel
theorem dL_law_665 : decode cL_law 665 = .ok (.iconst 2, 1) := by decide +kernel
theorem dL_law_666 : decode cL_law 666 = .ok (.iadd, 1) := by decide +kernel
theorem dL_law_667 : decode cL_law 667 = .ok (.iaload, 1) := by decide +kernel
theorem dL_law_668 : decode cL_law 668 = .ok (.aload_n 0, 1) := by decide +kernel
theorem dL_law_669 : decode cL_law 669 = .ok (.iload_n 3, 1) := by decide +kernel
theorem dL_law_670 : decode cL_law 670 = .ok (.iconst 3, 1) := by decide +kernel
theorem dL_law_671 : decode cL_law 671 = .ok (.iadd, 1) := by decide +kernel
theorem dL_law_672 : decode cL_law 672 = .ok (.iaload, 1) := by decide +kernel
theorem dL_law_673 : decode cL_law 673 = .ok (.invokevirtual 101, 3) := by decide +kernel
theorem dL_law_676 : decode cL_law 676 = .ok (.aload_n 2, 1) := by decide +kernel
theorem dL_law_677 : decode cL_law 677 = .ok (.aload_n 0, 1) := by decide +kernel
theorem dL_law_678 : decode cL_law 678 = .ok (.iload_n 3, 1) := by decide +kernel
theorem dL_law_679 : decode cL_law 679 = .ok (.iconst 1, 1) := by decide +kernel
theorem dL_law_680 : decode cL_law 680 = .ok (.iadd, 1) := by decide +kernel
theorem dL_law_681 : decode cL_law 681 = .ok (.iaload, 1) := by decide +kernel
theorem dL_law_682 : decode cL_law 682 = .ok (.aload_n 0, 1) := by decide +kernel
theorem dL_law_683 : decode cL_law 683 = .ok (.iload_n 3, 1) := by decide +kernel
theorem dL_law_684 : decode cL_law 684 = .ok (.iconst 2, 1) := by decide +kernel
theorem dL_law_685 : decode cL_law 685 = .ok (.iadd, 1) := by decide +kernel
theorem dL_law_686 : decode cL_law 686 = .ok (.iaload, 1) := by decide +kernel
theorem dL_law_687 : decode cL_law 687 = .ok (.aload_n 0, 1) := by decide +kernel
theorem dL_law_688 : decode cL_law 688 = .ok (.iload_n 3, 1) := by decide +kernel
theorem dL_law_689 : decode cL_law 689 = .ok (.iconst 3, 1) := by decide +kernel
theorem dL_law_690 : decode cL_law 690 = .ok (.iadd, 1) := by decide +kernel
theorem dL_law_691 : decode cL_law 691 = .ok (.iaload, 1) := by decide +kernel
theorem dL_law_692 : decode cL_law 692 = .ok (.invokevirtual 105, 3) := by decide +kernel
theorem dL_law_695 : decode cL_law 695 = .ok (.if_icmp .eq 156, 3) := by decide +kernel
theorem dL_law_698 : decode cL_law 698 = .ok (.iconst 0, 1) := by decide +kernel
theorem dL_law_699 : decode cL_law 699 = .ok (.ireturn, 1) := by decide +kernel
theorem dL_law_700 : decode cL_law 700 = .ok (.aload_n 1, 1) := by decide +kernel
theorem dL_law_701 : decode cL_law 701 = .ok (.aload_n 0, 1) := by decide +kernel
theorem dL_law_702 : decode cL_law 702 = .ok (.iload_n 3, 1) := by decide +kernel
theorem dL_law_703 : decode cL_law 703 = .ok (.iconst 1, 1) := by decide +kernel
theorem dL_law_704 : decode cL_law 704 = .ok (.iadd, 1) := by decide +kernel
theorem dL_law_705 : decode cL_law 705 = .ok (.iaload, 1) := by decide +kernel
theorem dL_law_706 : decode cL_law 706 = .ok (.invokevirtual 106, 3) := by decide +kernel
theorem dL_law_709 : decode cL_law 709 = .ok (.aload_n 2, 1) := by decide +kernel
theorem dL_law_710 : decode cL_law 710 = .ok (.aload_n 0, 1) := by decide +kernel
theorem dL_law_711 : decode cL_law 711 = .ok (.iload_n 3, 1) := by decide +kernel
theorem dL_law_712 : decode cL_law 712 = .ok (.iconst 1, 1) := by decide +kernel
theorem dL_law_713 : decode cL_law 713 = .ok (.iadd, 1) := by decide +kernel
theorem dL_law_714 : decode cL_law 714 = .ok (.iaload, 1) := by decide +kernel
theorem dL_law_715 : decode cL_law 715 = .ok (.invokevirtual 109, 3) := by decide +kernel
theorem dL_law_718 : decode cL_law 718 = .ok (.if_icmp .eq 133, 3) := by decide +kernel
theorem dL_law_721 : decode cL_law 721 = .ok (.iconst 0, 1) := by decide +kernel
theorem dL_law_722 : decode cL_law 722 = .ok (.ireturn, 1) := by decide +kernel
theorem dL_law_723 : decode cL_law 723 = .ok (.aload_n 1, 1) := by decide +kernel
theorem dL_law_724 : decode cL_law 724 = .ok (.invokevirtual 110, 3) := by decide +kernel
theorem dL_law_727 : decode cL_law 727 = .ok (.aload_n 2, 1) := by decide +kernel
theorem dL_law_728 : decode cL_law 728 = .ok (.invokevirtual 113, 3) := by decide +kernel
theorem dL_law_731 : decode cL_law 731 = .ok (.if_icmp .eq 120, 3) := by decide +kernel
theorem dL_law_734 : decode cL_law 734 = .ok (.iconst 0, 1) := by decide +kernel
theorem dL_law_735 : decode cL_law 735 = .ok (.ireturn, 1) := by decide +kernel
theorem dL_law_736 : decode cL_law 736 = .ok (.aload_n 1, 1) := by decide +kernel
theorem dL_law_737 : decode cL_law 737 = .ok (.aload_n 0, 1) := by decide +kernel
theorem dL_law_738 : decode cL_law 738 = .ok (.iload_n 3, 1) := by decide +kernel
theorem dL_law_739 : decode cL_law 739 = .ok (.iconst 1, 1) := by decide +kernel
theorem dL_law_740 : decode cL_law 740 = .ok (.iadd, 1) := by decide +kernel
theorem dL_law_741 : decode cL_law 741 = .ok (.iaload, 1) := by decide +kernel
theorem dL_law_742 : decode cL_law 742 = .ok (.invokevirtual 114, 3) := by decide +kernel
theorem dL_law_745 : decode cL_law 745 = .ok (.aload_n 2, 1) := by decide +kernel
theorem dL_law_746 : decode cL_law 746 = .ok (.aload_n 0, 1) := by decide +kernel
theorem dL_law_747 : decode cL_law 747 = .ok (.iload_n 3, 1) := by decide +kernel
theorem dL_law_748 : decode cL_law 748 = .ok (.iconst 1, 1) := by decide +kernel
theorem dL_law_749 : decode cL_law 749 = .ok (.iadd, 1) := by decide +kernel
theorem dL_law_750 : decode cL_law 750 = .ok (.iaload, 1) := by decide +kernel
theorem dL_law_751 : decode cL_law 751 = .ok (.invokevirtual 117, 3) := by decide +kernel
theorem dL_law_754 : decode cL_law 754 = .ok (.if_icmp .eq 97, 3) := by decide +kernel
theorem dL_law_757 : decode cL_law 757 = .ok (.iconst 0, 1) := by decide +kernel
theorem dL_law_758 : decode cL_law 758 = .ok (.ireturn, 1) := by decide +kernel
theorem dL_law_759 : decode cL_law 759 = .ok (.aload_n 1, 1) := by decide +kernel
theorem dL_law_760 : decode cL_law 760 = .ok (.aload_n 0, 1) := by decide +kernel
theorem dL_law_761 : decode cL_law 761 = .ok (.iload_n 3, 1) := by decide +kernel
theorem dL_law_762 : decode cL_law 762 = .ok (.iconst 1, 1) := by decide +kernel
theorem dL_law_763 : decode cL_law 763 = .ok (.iadd, 1) := by decide +kernel
theorem dL_law_764 : decode cL_law 764 = .ok (.iaload, 1) := by decide +kernel
theorem dL_law_765 : decode cL_law 765 = .ok (.aload_n 0, 1) := by decide +kernel
theorem dL_law_766 : decode cL_law 766 = .ok (.iload_n 3, 1) := by decide +kernel
theorem dL_law_767 : decode cL_law 767 = .ok (.iconst 2, 1) := by decide +kernel
theorem dL_law_768 : decode cL_law 768 = .ok (.iadd, 1) := by decide +kernel
theorem dL_law_769 : decode cL_law 769 = .ok (.iaload, 1) := by decide +kernel
theorem dL_law_770 : decode cL_law 770 = .ok (.aload_n 0, 1) := by decide +kernel
theorem dL_law_771 : decode cL_law 771 = .ok (.iload_n 3, 1) := by decide +kernel
theorem dL_law_772 : decode cL_law 772 = .ok (.iconst 3, 1) := by decide +kernel
theorem dL_law_773 : decode cL_law 773 = .ok (.iadd, 1) := by decide +kernel
theorem dL_law_774 : decode cL_law 774 = .ok (.iaload, 1) := by decide +kernel
theorem dL_law_775 : decode cL_law 775 = .ok (.invokevirtual 118, 3) := by decide +kernel
theorem dL_law_778 : decode cL_law 778 = .ok (.aload_n 2, 1) := by decide +kernel
theorem dL_law_779 : decode cL_law 779 = .ok (.aload_n 0, 1) := by decide +kernel
theorem dL_law_780 : decode cL_law 780 = .ok (.iload_n 3, 1) := by decide +kernel
theorem dL_law_781 : decode cL_law 781 = .ok (.iconst 1, 1) := by decide +kernel
theorem dL_law_782 : decode cL_law 782 = .ok (.iadd, 1) := by decide +kernel
theorem dL_law_783 : decode cL_law 783 = .ok (.iaload, 1) := by decide +kernel
theorem dL_law_784 : decode cL_law 784 = .ok (.aload_n 0, 1) := by decide +kernel
theorem dL_law_785 : decode cL_law 785 = .ok (.iload_n 3, 1) := by decide +kernel
theorem dL_law_786 : decode cL_law 786 = .ok (.iconst 2, 1) := by decide +kernel
theorem dL_law_787 : decode cL_law 787 = .ok (.iadd, 1) := by decide +kernel
theorem dL_law_788 : decode cL_law 788 = .ok (.iaload, 1) := by decide +kernel
theorem dL_law_789 : decode cL_law 789 = .ok (.aload_n 0, 1) := by decide +kernel
theorem dL_law_790 : decode cL_law 790 = .ok (.iload_n 3, 1) := by decide +kernel
theorem dL_law_791 : decode cL_law 791 = .ok (.iconst 3, 1) := by decide +kernel
theorem dL_law_792 : decode cL_law 792 = .ok (.iadd, 1) := by decide +kernel
theorem dL_law_793 : decode cL_law 793 = .ok (.iaload, 1) := by decide +kernel
theorem dL_law_794 : decode cL_law 794 = .ok (.invokevirtual 121, 3) := by decide +kernel
theorem dL_law_797 : decode cL_law 797 = .ok (.if_icmp .eq 54, 3) := by decide +kernel
theorem dL_law_800 : decode cL_law 800 = .ok (.iconst 0, 1) := by decide +kernel
theorem dL_law_801 : decode cL_law 801 = .ok (.ireturn, 1) := by decide +kernel
theorem dL_law_802 : decode cL_law 802 = .ok (.aload_n 1, 1) := by decide +kernel
theorem dL_law_803 : decode cL_law 803 = .ok (.invokevirtual 122, 3) := by decide +kernel
theorem dL_law_806 : decode cL_law 806 = .ok (.aload_n 2, 1) := by decide +kernel
theorem dL_law_807 : decode cL_law 807 = .ok (.invokevirtual 125, 3) := by decide +kernel
theorem dL_law_810 : decode cL_law 810 = .ok (.if_icmp .eq 41, 3) := by decide +kernel
theorem dL_law_813 : decode cL_law 813 = .ok (.iconst 0, 1) := by decide +kernel
theorem dL_law_814 : decode cL_law 814 = .ok (.ireturn, 1) := by decide +kernel
theorem dL_law_815 : decode cL_law 815 = .ok (.aload_n 1, 1) := by decide +kernel
theorem dL_law_816 : decode cL_law 816 = .ok (.invokevirtual 126, 3) := by decide +kernel
theorem dL_law_819 : decode cL_law 819 = .ok (.aload_n 2, 1) := by decide +kernel
theorem dL_law_820 : decode cL_law 820 = .ok (.invokevirtual 129, 3) := by decide +kernel
theorem dL_law_823 : decode cL_law 823 = .ok (.if_icmp .eq 28, 3) := by decide +kernel
theorem dL_law_826 : decode cL_law 826 = .ok (.iconst 0, 1) := by decide +kernel
theorem dL_law_827 : decode cL_law 827 = .ok (.ireturn, 1) := by decide +kernel
theorem dL_law_828 : decode cL_law 828 = .ok (.aload_n 1, 1) := by decide +kernel
theorem dL_law_829 : decode cL_law 829 = .ok (.aload_n 0, 1) := by decide +kernel
theorem dL_law_830 : decode cL_law 830 = .ok (.iload_n 3, 1) := by decide +kernel
theorem dL_law_831 : decode cL_law 831 = .ok (.iconst 1, 1) := by decide +kernel
theorem dL_law_832 : decode cL_law 832 = .ok (.iadd, 1) := by decide +kernel
theorem dL_law_833 : decode cL_law 833 = .ok (.iaload, 1) := by decide +kernel
theorem dL_law_834 : decode cL_law 834 = .ok (.invokevirtual 130, 3) := by decide +kernel
theorem dL_law_837 : decode cL_law 837 = .ok (.aload_n 2, 1) := by decide +kernel
theorem dL_law_838 : decode cL_law 838 = .ok (.aload_n 0, 1) := by decide +kernel
theorem dL_law_839 : decode cL_law 839 = .ok (.iload_n 3, 1) := by decide +kernel
theorem dL_law_840 : decode cL_law 840 = .ok (.iconst 1, 1) := by decide +kernel
theorem dL_law_841 : decode cL_law 841 = .ok (.iadd, 1) := by decide +kernel
theorem dL_law_842 : decode cL_law 842 = .ok (.iaload, 1) := by decide +kernel
theorem dL_law_843 : decode cL_law 843 = .ok (.invokevirtual 133, 3) := by decide +kernel
theorem dL_law_846 : decode cL_law 846 = .ok (.if_icmp .eq 5, 3) := by decide +kernel
theorem dL_law_849 : decode cL_law 849 = .ok (.iconst 0, 1) := by decide +kernel
theorem dL_law_850 : decode cL_law 850 = .ok (.ireturn, 1) := by decide +kernel
theorem dL_law_851 : decode cL_law 851 = .ok (.iinc 3 6, 3) := by decide +kernel
theorem dL_law_854 : decode cL_law 854 = .ok (.goto (-836), 3) := by decide +kernel
theorem dL_law_857 : decode cL_law 857 = .ok (.iconst 1, 1) := by decide +kernel
theorem dL_law_858 : decode cL_law 858 = .ok (.ireturn, 1) := by decide +kernel

/-! The law's instructions. -/
theorem d_La_law_530 : decode b_La_law 530 = .ok (.iadd, 1) := by decide +kernel
theorem d_La_law_531 : decode b_La_law 531 = .ok (.iaload, 1) := by decide +kernel
theorem d_La_law_532 : decode b_La_law 532 = .ok (.invokevirtual 69, 3) := by decide +kernel
theorem d_La_law_535 : decode b_La_law 535 = .ok (.aload_n 2, 1) := by decide +kernel
theorem d_La_law_536 : decode b_La_law 536 = .ok (.aload_n 0, 1) := by decide +kernel
theorem d_La_law_537 : decode b_La_law 537 = .ok (.iload_n 3, 1) := by decide +kernel
theorem d_La_law_538 : decode b_La_law 538 = .ok (.iconst 1, 1) := by decide +kernel
theorem d_La_law_539 : decode b_La_law 539 = .ok (.iadd, 1) := by decide +kernel
theorem d_La_law_540 : decode b_La_law 540 = .ok (.iaload, 1) := by decide +kernel
theorem d_La_law_541 : decode b_La_law 541 = .ok (.invokevirtual 72, 3) := by decide +kernel
theorem d_La_law_544 : decode b_La_law 544 = .ok (.if_icmp .eq 120, 3) := by decide +kernel
theorem d_La_law_547 : decode b_La_law 547 = .ok (.iconst 0, 1) := by decide +kernel
theorem d_La_law_548 : decode b_La_law 548 = .ok (.ireturn, 1) := by decide +kernel
theorem d_La_law_549 : decode b_La_law 549 = .ok (.aload_n 1, 1) := by decide +kernel
theorem d_La_law_550 : decode b_La_law 550 = .ok (.aload_n 0, 1) := by decide +kernel
theorem d_La_law_551 : decode b_La_law 551 = .ok (.iload_n 3, 1) := by decide +kernel
theorem d_La_law_552 : decode b_La_law 552 = .ok (.iconst 1, 1) := by decide +kernel
theorem d_La_law_553 : decode b_La_law 553 = .ok (.iadd, 1) := by decide +kernel
theorem d_La_law_554 : decode b_La_law 554 = .ok (.iaload, 1) := by decide +kernel
theorem d_La_law_555 : decode b_La_law 555 = .ok (.aload_n 0, 1) := by decide +kernel
theorem d_La_law_556 : decode b_La_law 556 = .ok (.iload_n 3, 1) := by decide +kernel
theorem d_La_law_557 : decode b_La_law 557 = .ok (.iconst 2, 1) := by decide +kernel
theorem d_La_law_558 : decode b_La_law 558 = .ok (.iadd, 1) := by decide +kernel
theorem d_La_law_559 : decode b_La_law 559 = .ok (.iaload, 1) := by decide +kernel
theorem d_La_law_560 : decode b_La_law 560 = .ok (.invokevirtual 73, 3) := by decide +kernel
theorem d_La_law_563 : decode b_La_law 563 = .ok (.aload_n 2, 1) := by decide +kernel
theorem d_La_law_564 : decode b_La_law 564 = .ok (.aload_n 0, 1) := by decide +kernel
theorem d_La_law_565 : decode b_La_law 565 = .ok (.iload_n 3, 1) := by decide +kernel
theorem d_La_law_566 : decode b_La_law 566 = .ok (.iconst 1, 1) := by decide +kernel
theorem d_La_law_567 : decode b_La_law 567 = .ok (.iadd, 1) := by decide +kernel
theorem d_La_law_568 : decode b_La_law 568 = .ok (.iaload, 1) := by decide +kernel
theorem d_La_law_569 : decode b_La_law 569 = .ok (.aload_n 0, 1) := by decide +kernel
theorem d_La_law_570 : decode b_La_law 570 = .ok (.iload_n 3, 1) := by decide +kernel
theorem d_La_law_571 : decode b_La_law 571 = .ok (.iconst 2, 1) := by decide +kernel
theorem d_La_law_572 : decode b_La_law 572 = .ok (.iadd, 1) := by decide +kernel
theorem d_La_law_573 : decode b_La_law 573 = .ok (.iaload, 1) := by decide +kernel
theorem d_La_law_574 : decode b_La_law 574 = .ok (.invokevirtual 76, 3) := by decide +kernel
theorem d_La_law_577 : decode b_La_law 577 = .ok (.if_icmp .eq 87, 3) := by decide +kernel
theorem d_La_law_580 : decode b_La_law 580 = .ok (.iconst 0, 1) := by decide +kernel
theorem d_La_law_581 : decode b_La_law 581 = .ok (.ireturn, 1) := by decide +kernel
theorem d_La_law_582 : decode b_La_law 582 = .ok (.aload_n 1, 1) := by decide +kernel
theorem d_La_law_583 : decode b_La_law 583 = .ok (.invokevirtual 77, 3) := by decide +kernel
theorem d_La_law_586 : decode b_La_law 586 = .ok (.aload_n 2, 1) := by decide +kernel
theorem d_La_law_587 : decode b_La_law 587 = .ok (.invokevirtual 80, 3) := by decide +kernel
theorem d_La_law_590 : decode b_La_law 590 = .ok (.if_icmp .eq 74, 3) := by decide +kernel
theorem d_La_law_593 : decode b_La_law 593 = .ok (.iconst 0, 1) := by decide +kernel
theorem d_La_law_594 : decode b_La_law 594 = .ok (.ireturn, 1) := by decide +kernel
theorem d_La_law_595 : decode b_La_law 595 = .ok (.aload_n 1, 1) := by decide +kernel
theorem d_La_law_596 : decode b_La_law 596 = .ok (.aload_n 0, 1) := by decide +kernel
theorem d_La_law_597 : decode b_La_law 597 = .ok (.iload_n 3, 1) := by decide +kernel
theorem d_La_law_598 : decode b_La_law 598 = .ok (.iconst 1, 1) := by decide +kernel
theorem d_La_law_599 : decode b_La_law 599 = .ok (.iadd, 1) := by decide +kernel
theorem d_La_law_600 : decode b_La_law 600 = .ok (.iaload, 1) := by decide +kernel
theorem d_La_law_601 : decode b_La_law 601 = .ok (.aload_n 0, 1) := by decide +kernel
theorem d_La_law_602 : decode b_La_law 602 = .ok (.iload_n 3, 1) := by decide +kernel
theorem d_La_law_603 : decode b_La_law 603 = .ok (.iconst 2, 1) := by decide +kernel
theorem d_La_law_604 : decode b_La_law 604 = .ok (.iadd, 1) := by decide +kernel
theorem d_La_law_605 : decode b_La_law 605 = .ok (.iaload, 1) := by decide +kernel
theorem d_La_law_606 : decode b_La_law 606 = .ok (.invokevirtual 81, 3) := by decide +kernel
theorem d_La_law_609 : decode b_La_law 609 = .ok (.aload_n 2, 1) := by decide +kernel
theorem d_La_law_610 : decode b_La_law 610 = .ok (.aload_n 0, 1) := by decide +kernel
theorem d_La_law_611 : decode b_La_law 611 = .ok (.iload_n 3, 1) := by decide +kernel
theorem d_La_law_612 : decode b_La_law 612 = .ok (.iconst 1, 1) := by decide +kernel
theorem d_La_law_613 : decode b_La_law 613 = .ok (.iadd, 1) := by decide +kernel
theorem d_La_law_614 : decode b_La_law 614 = .ok (.iaload, 1) := by decide +kernel
theorem d_La_law_615 : decode b_La_law 615 = .ok (.aload_n 0, 1) := by decide +kernel
theorem d_La_law_616 : decode b_La_law 616 = .ok (.iload_n 3, 1) := by decide +kernel
theorem d_La_law_617 : decode b_La_law 617 = .ok (.iconst 2, 1) := by decide +kernel
theorem d_La_law_618 : decode b_La_law 618 = .ok (.iadd, 1) := by decide +kernel
theorem d_La_law_619 : decode b_La_law 619 = .ok (.iaload, 1) := by decide +kernel
theorem d_La_law_620 : decode b_La_law 620 = .ok (.invokevirtual 84, 3) := by decide +kernel
theorem d_La_law_623 : decode b_La_law 623 = .ok (.if_icmp .eq 41, 3) := by decide +kernel
theorem d_La_law_626 : decode b_La_law 626 = .ok (.iconst 0, 1) := by decide +kernel
theorem d_La_law_627 : decode b_La_law 627 = .ok (.ireturn, 1) := by decide +kernel
theorem d_La_law_628 : decode b_La_law 628 = .ok (.aload_n 1, 1) := by decide +kernel
theorem d_La_law_629 : decode b_La_law 629 = .ok (.aload_n 0, 1) := by decide +kernel
theorem d_La_law_630 : decode b_La_law 630 = .ok (.iload_n 3, 1) := by decide +kernel
theorem d_La_law_631 : decode b_La_law 631 = .ok (.iconst 1, 1) := by decide +kernel
theorem d_La_law_632 : decode b_La_law 632 = .ok (.iadd, 1) := by decide +kernel
theorem d_La_law_633 : decode b_La_law 633 = .ok (.iaload, 1) := by decide +kernel
theorem d_La_law_634 : decode b_La_law 634 = .ok (.invokevirtual 85, 3) := by decide +kernel
theorem d_La_law_637 : decode b_La_law 637 = .ok (.aload_n 2, 1) := by decide +kernel
theorem d_La_law_638 : decode b_La_law 638 = .ok (.aload_n 0, 1) := by decide +kernel
theorem d_La_law_639 : decode b_La_law 639 = .ok (.iload_n 3, 1) := by decide +kernel
theorem d_La_law_640 : decode b_La_law 640 = .ok (.iconst 1, 1) := by decide +kernel
theorem d_La_law_641 : decode b_La_law 641 = .ok (.iadd, 1) := by decide +kernel
theorem d_La_law_642 : decode b_La_law 642 = .ok (.iaload, 1) := by decide +kernel
theorem d_La_law_643 : decode b_La_law 643 = .ok (.invokevirtual 88, 3) := by decide +kernel
theorem d_La_law_646 : decode b_La_law 646 = .ok (.if_icmp .eq 18, 3) := by decide +kernel
theorem d_La_law_649 : decode b_La_law 649 = .ok (.iconst 0, 1) := by decide +kernel
theorem d_La_law_650 : decode b_La_law 650 = .ok (.ireturn, 1) := by decide +kernel
theorem d_La_law_651 : decode b_La_law 651 = .ok (.aload_n 1, 1) := by decide +kernel
theorem d_La_law_652 : decode b_La_law 652 = .ok (.invokevirtual 89, 3) := by decide +kernel
theorem d_La_law_655 : decode b_La_law 655 = .ok (.aload_n 2, 1) := by decide +kernel
theorem d_La_law_656 : decode b_La_law 656 = .ok (.invokevirtual 92, 3) := by decide +kernel
theorem d_La_law_659 : decode b_La_law 659 = .ok (.if_icmp .eq 5, 3) := by decide +kernel
theorem d_La_law_662 : decode b_La_law 662 = .ok (.iconst 0, 1) := by decide +kernel
theorem d_La_law_663 : decode b_La_law 663 = .ok (.ireturn, 1) := by decide +kernel
theorem d_La_law_664 : decode b_La_law 664 = .ok (.iinc 3 5, 3) := by decide +kernel
theorem d_La_law_667 : decode b_La_law 667 = .ok (.goto (-649), 3) := by decide +kernel
theorem d_La_law_670 : decode b_La_law 670 = .ok (.iconst 1, 1) := by decide +kernel
theorem d_La_law_671 : decode b_La_law 671 = .ok (.ireturn, 1) := by decide +kernel

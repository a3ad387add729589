theorem dL_534 : decode code 534 = .ok (.iaload, 1) := by decide +kernel
theorem dL_535 : decode code 535 = .ok (.invokevirtual 70, 3) := by decide +kernel
theorem dL_538 : decode code 538 = .ok (.aload_n 2, 1) := by decide +kernel
theorem dL_539 : decode code 539 = .ok (.aload_n 0, 1) := by decide +kernel
theorem dL_540 : decode code 540 = .ok (.iload 4, 2) := by decide +kernel
theorem dL_542 : decode code 542 = .ok (.iconst 1, 1) := by decide +kernel
theorem dL_543 : decode code 543 = .ok (.iadd, 1) := by decide +kernel
theorem dL_544 : decode code 544 = .ok (.iaload, 1) := by decide +kernel
theorem dL_545 : decode code 545 = .ok (.invokevirtual 73, 3) := by decide +kernel
theorem dL_548 : decode code 548 = .ok (.if_icmp .eq 523, 3) := by decide +kernel
theorem dL_551 : decode code 551 = .ok (.iconst 0, 1) := by decide +kernel
theorem dL_552 : decode code 552 = .ok (.ireturn, 1) := by decide +kernel
theorem dL_553 : decode code 553 = .ok (.aload_n 1, 1) := by decide +kernel
theorem dL_554 : decode code 554 = .ok (.aload_n 0, 1) := by decide +kernel
theorem dL_555 : decode code 555 = .ok (.iload 4, 2) := by decide +kernel
theorem dL_557 : decode code 557 = .ok (.iconst 1, 1) := by decide +kernel
theorem dL_558 : decode code 558 = .ok (.iadd, 1) := by decide +kernel
theorem dL_559 : decode code 559 = .ok (.iaload, 1) := by decide +kernel
theorem dL_560 : decode code 560 = .ok (.invokevirtual 74, 3) := by decide +kernel
theorem dL_563 : decode code 563 = .ok (.aload_n 2, 1) := by decide +kernel
theorem dL_564 : decode code 564 = .ok (.aload_n 0, 1) := by decide +kernel
theorem dL_565 : decode code 565 = .ok (.iload 4, 2) := by decide +kernel
theorem dL_567 : decode code 567 = .ok (.iconst 1, 1) := by decide +kernel
theorem dL_568 : decode code 568 = .ok (.iadd, 1) := by decide +kernel
theorem dL_569 : decode code 569 = .ok (.iaload, 1) := by decide +kernel
theorem dL_570 : decode code 570 = .ok (.invokevirtual 77, 3) := by decide +kernel
theorem dL_573 : decode code 573 = .ok (.if_icmp .eq 498, 3) := by decide +kernel
theorem dL_576 : decode code 576 = .ok (.iconst 0, 1) := by decide +kernel
theorem dL_577 : decode code 577 = .ok (.ireturn, 1) := by decide +kernel
theorem dL_578 : decode code 578 = .ok (.aload_n 1, 1) := by decide +kernel
theorem dL_579 : decode code 579 = .ok (.invokevirtual 78, 3) := by decide +kernel
theorem dL_582 : decode code 582 = .ok (.aload_n 2, 1) := by decide +kernel
theorem dL_583 : decode code 583 = .ok (.invokevirtual 81, 3) := by decide +kernel
theorem dL_586 : decode code 586 = .ok (.if_icmp .eq 485, 3) := by decide +kernel
theorem dL_589 : decode code 589 = .ok (.iconst 0, 1) := by decide +kernel
theorem dL_590 : decode code 590 = .ok (.ireturn, 1) := by decide +kernel
theorem dL_591 : decode code 591 = .ok (.aload_n 1, 1) := by decide +kernel
theorem dL_592 : decode code 592 = .ok (.invokevirtual 82, 3) := by decide +kernel
theorem dL_595 : decode code 595 = .ok (.aload_n 2, 1) := by decide +kernel
theorem dL_596 : decode code 596 = .ok (.invokevirtual 85, 3) := by decide +kernel
theorem dL_599 : decode code 599 = .ok (.if_icmp .eq 472, 3) := by decide +kernel
theorem dL_602 : decode code 602 = .ok (.iconst 0, 1) := by decide +kernel
theorem dL_603 : decode code 603 = .ok (.ireturn, 1) := by decide +kernel
theorem dL_604 : decode code 604 = .ok (.aload_n 1, 1) := by decide +kernel
theorem dL_605 : decode code 605 = .ok (.invokevirtual 86, 3) := by decide +kernel
theorem dL_608 : decode code 608 = .ok (.aload_n 2, 1) := by decide +kernel
theorem dL_609 : decode code 609 = .ok (.invokevirtual 89, 3) := by decide +kernel
theorem dL_612 : decode code 612 = .ok (.if_icmp .eq 459, 3) := by decide +kernel
theorem dL_615 : decode code 615 = .ok (.iconst 0, 1) := by decide +kernel
theorem dL_616 : decode code 616 = .ok (.ireturn, 1) := by decide +kernel
theorem dL_617 : decode code 617 = .ok (.aload_n 1, 1) := by decide +kernel
theorem dL_618 : decode code 618 = .ok (.aload_n 0, 1) := by decide +kernel
theorem dL_619 : decode code 619 = .ok (.iload 4, 2) := by decide +kernel
theorem dL_621 : decode code 621 = .ok (.iconst 1, 1) := by decide +kernel
theorem dL_622 : decode code 622 = .ok (.iadd, 1) := by decide +kernel
theorem dL_623 : decode code 623 = .ok (.iaload, 1) := by decide +kernel
theorem dL_624 : decode code 624 = .ok (.aload_n 3, 1) := by decide +kernel
theorem dL_625 : decode code 625 = .ok (.invokestatic 90, 3) := by decide +kernel
theorem dL_628 : decode code 628 = .ok (.istore 5, 2) := by decide +kernel
theorem dL_630 : decode code 630 = .ok (.aload_n 2, 1) := by decide +kernel
theorem dL_631 : decode code 631 = .ok (.aload_n 0, 1) := by decide +kernel
theorem dL_632 : decode code 632 = .ok (.iload 4, 2) := by decide +kernel
theorem dL_634 : decode code 634 = .ok (.iconst 1, 1) := by decide +kernel
theorem dL_635 : decode code 635 = .ok (.iadd, 1) := by decide +kernel
theorem dL_636 : decode code 636 = .ok (.iaload, 1) := by decide +kernel
theorem dL_637 : decode code 637 = .ok (.invokevirtual 95, 3) := by decide +kernel
theorem dL_640 : decode code 640 = .ok (.istore 6, 2) := by decide +kernel
theorem dL_642 : decode code 642 = .ok (.aload_n 2, 1) := by decide +kernel
theorem dL_643 : decode code 643 = .ok (.invokevirtual 96, 3) := by decide +kernel
theorem dL_646 : decode code 646 = .ok (.iload 5, 2) := by decide +kernel
theorem dL_648 : decode code 648 = .ok (.if_icmp .eq 5, 3) := by decide +kernel
theorem dL_651 : decode code 651 = .ok (.iconst 0, 1) := by decide +kernel
theorem dL_652 : decode code 652 = .ok (.ireturn, 1) := by decide +kernel
theorem dL_653 : decode code 653 = .ok (.iload 5, 2) := by decide +kernel
theorem dL_655 : decode code 655 = .ok (.ifCond .ne 15, 3) := by decide +kernel
theorem dL_658 : decode code 658 = .ok (.aload_n 3, 1) := by decide +kernel
theorem dL_659 : decode code 659 = .ok (.iconst 0, 1) := by decide +kernel
theorem dL_660 : decode code 660 = .ok (.laload, 1) := by decide +kernel
theorem dL_661 : decode code 661 = .ok (.iload 6, 2) := by decide +kernel
theorem dL_663 : decode code 663 = .ok (.i2l, 1) := by decide +kernel
theorem dL_664 : decode code 664 = .ok (.lcmp, 1) := by decide +kernel
theorem dL_665 : decode code 665 = .ok (.ifCond .eq 5, 3) := by decide +kernel
theorem dL_668 : decode code 668 = .ok (.iconst 0, 1) := by decide +kernel
theorem dL_669 : decode code 669 = .ok (.ireturn, 1) := by decide +kernel
theorem dL_670 : decode code 670 = .ok (.goto 401, 3) := by decide +kernel
theorem dL_673 : decode code 673 = .ok (.aload_n 1, 1) := by decide +kernel
theorem dL_674 : decode code 674 = .ok (.invokevirtual 99, 3) := by decide +kernel
theorem dL_677 : decode code 677 = .ok (.aload_n 2, 1) := by decide +kernel
theorem dL_678 : decode code 678 = .ok (.invokevirtual 102, 3) := by decide +kernel
theorem dL_681 : decode code 681 = .ok (.if_icmp .eq 390, 3) := by decide +kernel

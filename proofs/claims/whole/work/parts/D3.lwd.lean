/-! The law: its code, 3 -/
theorem dw_518 : decode code 518 = .ok (.iload_n 3, 1) := by decide +kernel
theorem dw_519 : decode code 519 = .ok (.iconst 2, 1) := by decide +kernel
theorem dw_520 : decode code 520 = .ok (.iadd, 1) := by decide +kernel
theorem dw_521 : decode code 521 = .ok (.iaload, 1) := by decide +kernel
theorem dw_522 : decode code 522 = .ok (.aload_n 0, 1) := by decide +kernel
theorem dw_523 : decode code 523 = .ok (.iload_n 3, 1) := by decide +kernel
theorem dw_524 : decode code 524 = .ok (.iconst 3, 1) := by decide +kernel
theorem dw_525 : decode code 525 = .ok (.iadd, 1) := by decide +kernel
theorem dw_526 : decode code 526 = .ok (.iaload, 1) := by decide +kernel
theorem dw_527 : decode code 527 = .ok (.aload_n 0, 1) := by decide +kernel
theorem dw_528 : decode code 528 = .ok (.iload_n 3, 1) := by decide +kernel
theorem dw_529 : decode code 529 = .ok (.iconst 4, 1) := by decide +kernel
theorem dw_530 : decode code 530 = .ok (.iadd, 1) := by decide +kernel
theorem dw_531 : decode code 531 = .ok (.iaload, 1) := by decide +kernel
theorem dw_532 : decode code 532 = .ok (.invokevirtual 65, 3) := by decide +kernel
theorem dw_535 : decode code 535 = .ok (.if_icmp .eq 197, 3) := by decide +kernel
theorem dw_538 : decode code 538 = .ok (.iconst 0, 1) := by decide +kernel
theorem dw_539 : decode code 539 = .ok (.ireturn, 1) := by decide +kernel
theorem dw_540 : decode code 540 = .ok (.aload_n 1, 1) := by decide +kernel
theorem dw_541 : decode code 541 = .ok (.aload_n 0, 1) := by decide +kernel
theorem dw_542 : decode code 542 = .ok (.iload_n 3, 1) := by decide +kernel
theorem dw_543 : decode code 543 = .ok (.iconst 1, 1) := by decide +kernel
theorem dw_544 : decode code 544 = .ok (.iadd, 1) := by decide +kernel
theorem dw_545 : decode code 545 = .ok (.iaload, 1) := by decide +kernel
theorem dw_546 : decode code 546 = .ok (.aload_n 0, 1) := by decide +kernel
theorem dw_547 : decode code 547 = .ok (.iload_n 3, 1) := by decide +kernel
theorem dw_548 : decode code 548 = .ok (.iconst 2, 1) := by decide +kernel
theorem dw_549 : decode code 549 = .ok (.iadd, 1) := by decide +kernel
theorem dw_550 : decode code 550 = .ok (.iaload, 1) := by decide +kernel
theorem dw_551 : decode code 551 = .ok (.aload_n 0, 1) := by decide +kernel
theorem dw_552 : decode code 552 = .ok (.iload_n 3, 1) := by decide +kernel
theorem dw_553 : decode code 553 = .ok (.iconst 3, 1) := by decide +kernel
theorem dw_554 : decode code 554 = .ok (.iadd, 1) := by decide +kernel
theorem dw_555 : decode code 555 = .ok (.iaload, 1) := by decide +kernel
theorem dw_556 : decode code 556 = .ok (.invokevirtual 66, 3) := by decide +kernel
theorem dw_559 : decode code 559 = .ok (.aload_n 2, 1) := by decide +kernel
theorem dw_560 : decode code 560 = .ok (.aload_n 0, 1) := by decide +kernel
theorem dw_561 : decode code 561 = .ok (.iload_n 3, 1) := by decide +kernel
theorem dw_562 : decode code 562 = .ok (.iconst 1, 1) := by decide +kernel
theorem dw_563 : decode code 563 = .ok (.iadd, 1) := by decide +kernel
theorem dw_564 : decode code 564 = .ok (.iaload, 1) := by decide +kernel
theorem dw_565 : decode code 565 = .ok (.aload_n 0, 1) := by decide +kernel
theorem dw_566 : decode code 566 = .ok (.iload_n 3, 1) := by decide +kernel
theorem dw_567 : decode code 567 = .ok (.iconst 2, 1) := by decide +kernel
theorem dw_568 : decode code 568 = .ok (.iadd, 1) := by decide +kernel
theorem dw_569 : decode code 569 = .ok (.iaload, 1) := by decide +kernel
theorem dw_570 : decode code 570 = .ok (.aload_n 0, 1) := by decide +kernel
theorem dw_571 : decode code 571 = .ok (.iload_n 3, 1) := by decide +kernel
theorem dw_572 : decode code 572 = .ok (.iconst 3, 1) := by decide +kernel
theorem dw_573 : decode code 573 = .ok (.iadd, 1) := by decide +kernel
theorem dw_574 : decode code 574 = .ok (.iaload, 1) := by decide +kernel
theorem dw_575 : decode code 575 = .ok (.invokevirtual 69, 3) := by decide +kernel
theorem dw_578 : decode code 578 = .ok (.if_icmp .eq 154, 3) := by decide +kernel
theorem dw_581 : decode code 581 = .ok (.iconst 0, 1) := by decide +kernel
theorem dw_582 : decode code 582 = .ok (.ireturn, 1) := by decide +kernel
theorem dw_583 : decode code 583 = .ok (.aload_n 1, 1) := by decide +kernel
theorem dw_584 : decode code 584 = .ok (.aload_n 0, 1) := by decide +kernel
theorem dw_585 : decode code 585 = .ok (.iload_n 3, 1) := by decide +kernel
theorem dw_586 : decode code 586 = .ok (.iconst 1, 1) := by decide +kernel
theorem dw_587 : decode code 587 = .ok (.iadd, 1) := by decide +kernel
theorem dw_588 : decode code 588 = .ok (.iaload, 1) := by decide +kernel
theorem dw_589 : decode code 589 = .ok (.aload_n 0, 1) := by decide +kernel
theorem dw_590 : decode code 590 = .ok (.iload_n 3, 1) := by decide +kernel
theorem dw_591 : decode code 591 = .ok (.iconst 2, 1) := by decide +kernel
theorem dw_592 : decode code 592 = .ok (.iadd, 1) := by decide +kernel
theorem dw_593 : decode code 593 = .ok (.iaload, 1) := by decide +kernel
theorem dw_594 : decode code 594 = .ok (.invokevirtual 70, 3) := by decide +kernel
theorem dw_597 : decode code 597 = .ok (.aload_n 2, 1) := by decide +kernel
theorem dw_598 : decode code 598 = .ok (.aload_n 0, 1) := by decide +kernel
theorem dw_599 : decode code 599 = .ok (.iload_n 3, 1) := by decide +kernel
theorem dw_600 : decode code 600 = .ok (.iconst 1, 1) := by decide +kernel
theorem dw_601 : decode code 601 = .ok (.iadd, 1) := by decide +kernel
theorem dw_602 : decode code 602 = .ok (.iaload, 1) := by decide +kernel
theorem dw_603 : decode code 603 = .ok (.aload_n 0, 1) := by decide +kernel
theorem dw_604 : decode code 604 = .ok (.iload_n 3, 1) := by decide +kernel
theorem dw_605 : decode code 605 = .ok (.iconst 2, 1) := by decide +kernel
theorem dw_606 : decode code 606 = .ok (.iadd, 1) := by decide +kernel
theorem dw_607 : decode code 607 = .ok (.iaload, 1) := by decide +kernel
theorem dw_608 : decode code 608 = .ok (.invokevirtual 73, 3) := by decide +kernel
theorem dw_611 : decode code 611 = .ok (.if_icmp .eq 121, 3) := by decide +kernel
theorem dw_614 : decode code 614 = .ok (.iconst 0, 1) := by decide +kernel
theorem dw_615 : decode code 615 = .ok (.ireturn, 1) := by decide +kernel
theorem dw_616 : decode code 616 = .ok (.aload_n 1, 1) := by decide +kernel
theorem dw_617 : decode code 617 = .ok (.aload_n 0, 1) := by decide +kernel
theorem dw_618 : decode code 618 = .ok (.iload_n 3, 1) := by decide +kernel
theorem dw_619 : decode code 619 = .ok (.iconst 1, 1) := by decide +kernel
theorem dw_620 : decode code 620 = .ok (.iadd, 1) := by decide +kernel
theorem dw_621 : decode code 621 = .ok (.iaload, 1) := by decide +kernel
theorem dw_622 : decode code 622 = .ok (.aload_n 0, 1) := by decide +kernel
theorem dw_623 : decode code 623 = .ok (.iload_n 3, 1) := by decide +kernel
theorem dw_624 : decode code 624 = .ok (.iconst 2, 1) := by decide +kernel
theorem dw_625 : decode code 625 = .ok (.iadd, 1) := by decide +kernel
theorem dw_626 : decode code 626 = .ok (.iaload, 1) := by decide +kernel
theorem dw_627 : decode code 627 = .ok (.aload_n 0, 1) := by decide +kernel
theorem dw_628 : decode code 628 = .ok (.iload_n 3, 1) := by decide +kernel
theorem dw_629 : decode code 629 = .ok (.iconst 3, 1) := by decide +kernel
theorem dw_630 : decode code 630 = .ok (.iadd, 1) := by decide +kernel
theorem dw_631 : decode code 631 = .ok (.iaload, 1) := by decide +kernel
theorem dw_632 : decode code 632 = .ok (.invokevirtual 74, 3) := by decide +kernel
theorem dw_635 : decode code 635 = .ok (.aload_n 2, 1) := by decide +kernel
theorem dw_636 : decode code 636 = .ok (.aload_n 0, 1) := by decide +kernel
theorem dw_637 : decode code 637 = .ok (.iload_n 3, 1) := by decide +kernel
theorem dw_638 : decode code 638 = .ok (.iconst 1, 1) := by decide +kernel
theorem dw_639 : decode code 639 = .ok (.iadd, 1) := by decide +kernel
theorem dw_640 : decode code 640 = .ok (.iaload, 1) := by decide +kernel
theorem dw_641 : decode code 641 = .ok (.aload_n 0, 1) := by decide +kernel
theorem dw_642 : decode code 642 = .ok (.iload_n 3, 1) := by decide +kernel
theorem dw_643 : decode code 643 = .ok (.iconst 2, 1) := by decide +kernel
theorem dw_644 : decode code 644 = .ok (.iadd, 1) := by decide +kernel
theorem dw_645 : decode code 645 = .ok (.iaload, 1) := by decide +kernel
theorem dw_646 : decode code 646 = .ok (.aload_n 0, 1) := by decide +kernel
theorem dw_647 : decode code 647 = .ok (.iload_n 3, 1) := by decide +kernel
theorem dw_648 : decode code 648 = .ok (.iconst 3, 1) := by decide +kernel
theorem dw_649 : decode code 649 = .ok (.iadd, 1) := by decide +kernel
theorem dw_650 : decode code 650 = .ok (.iaload, 1) := by decide +kernel
theorem dw_651 : decode code 651 = .ok (.invokevirtual 77, 3) := by decide +kernel
theorem dw_654 : decode code 654 = .ok (.if_icmp .eq 78, 3) := by decide +kernel
theorem dw_657 : decode code 657 = .ok (.iconst 0, 1) := by decide +kernel
theorem dw_658 : decode code 658 = .ok (.ireturn, 1) := by decide +kernel
theorem dw_659 : decode code 659 = .ok (.aload_n 1, 1) := by decide +kernel
theorem dw_660 : decode code 660 = .ok (.aload_n 0, 1) := by decide +kernel
theorem dw_661 : decode code 661 = .ok (.iload_n 3, 1) := by decide +kernel
theorem dw_662 : decode code 662 = .ok (.iconst 1, 1) := by decide +kernel
theorem dw_663 : decode code 663 = .ok (.iadd, 1) := by decide +kernel
theorem dw_664 : decode code 664 = .ok (.iaload, 1) := by decide +kernel
theorem dw_665 : decode code 665 = .ok (.invokevirtual 78, 3) := by decide +kernel
theorem dw_668 : decode code 668 = .ok (.aload_n 2, 1) := by decide +kernel
theorem dw_669 : decode code 669 = .ok (.aload_n 0, 1) := by decide +kernel
theorem dw_670 : decode code 670 = .ok (.iload_n 3, 1) := by decide +kernel
theorem dw_671 : decode code 671 = .ok (.iconst 1, 1) := by decide +kernel
theorem dw_672 : decode code 672 = .ok (.iadd, 1) := by decide +kernel
theorem dw_673 : decode code 673 = .ok (.iaload, 1) := by decide +kernel
theorem dw_674 : decode code 674 = .ok (.invokevirtual 81, 3) := by decide +kernel
theorem dw_677 : decode code 677 = .ok (.if_icmp .eq 55, 3) := by decide +kernel
theorem dw_680 : decode code 680 = .ok (.iconst 0, 1) := by decide +kernel
theorem dw_681 : decode code 681 = .ok (.ireturn, 1) := by decide +kernel
theorem dw_682 : decode code 682 = .ok (.aload_n 1, 1) := by decide +kernel
theorem dw_683 : decode code 683 = .ok (.invokevirtual 82, 3) := by decide +kernel
theorem dw_686 : decode code 686 = .ok (.aload_n 2, 1) := by decide +kernel
theorem dw_687 : decode code 687 = .ok (.invokevirtual 85, 3) := by decide +kernel
theorem dw_690 : decode code 690 = .ok (.if_icmp .eq 42, 3) := by decide +kernel
theorem dw_693 : decode code 693 = .ok (.iconst 0, 1) := by decide +kernel
theorem dw_694 : decode code 694 = .ok (.ireturn, 1) := by decide +kernel
theorem dw_695 : decode code 695 = .ok (.aload_n 1, 1) := by decide +kernel
theorem dw_696 : decode code 696 = .ok (.aload_n 0, 1) := by decide +kernel
theorem dw_697 : decode code 697 = .ok (.iload_n 3, 1) := by decide +kernel
theorem dw_698 : decode code 698 = .ok (.iconst 1, 1) := by decide +kernel
theorem dw_699 : decode code 699 = .ok (.iadd, 1) := by decide +kernel
theorem dw_700 : decode code 700 = .ok (.iaload, 1) := by decide +kernel
theorem dw_701 : decode code 701 = .ok (.invokevirtual 86, 3) := by decide +kernel
theorem dw_704 : decode code 704 = .ok (.aload_n 2, 1) := by decide +kernel
theorem dw_705 : decode code 705 = .ok (.aload_n 0, 1) := by decide +kernel
theorem dw_706 : decode code 706 = .ok (.iload_n 3, 1) := by decide +kernel
theorem dw_707 : decode code 707 = .ok (.iconst 1, 1) := by decide +kernel
theorem dw_708 : decode code 708 = .ok (.iadd, 1) := by decide +kernel
theorem dw_709 : decode code 709 = .ok (.iaload, 1) := by decide +kernel
theorem dw_710 : decode code 710 = .ok (.invokevirtual 89, 3) := by decide +kernel
theorem dw_713 : decode code 713 = .ok (.if_icmp .eq 19, 3) := by decide +kernel
theorem dw_716 : decode code 716 = .ok (.iconst 0, 1) := by decide +kernel
theorem dw_717 : decode code 717 = .ok (.ireturn, 1) := by decide +kernel
theorem dw_718 : decode code 718 = .ok (.aload_n 1, 1) := by decide +kernel
theorem dw_719 : decode code 719 = .ok (.invokevirtual 90, 3) := by decide +kernel
theorem dw_722 : decode code 722 = .ok (.aload_n 2, 1) := by decide +kernel
theorem dw_723 : decode code 723 = .ok (.invokevirtual 94, 3) := by decide +kernel
theorem dw_726 : decode code 726 = .ok (.lcmp, 1) := by decide +kernel
theorem dw_727 : decode code 727 = .ok (.ifCond .eq 5, 3) := by decide +kernel
theorem dw_730 : decode code 730 = .ok (.iconst 0, 1) := by decide +kernel
theorem dw_731 : decode code 731 = .ok (.ireturn, 1) := by decide +kernel
theorem dw_732 : decode code 732 = .ok (.iinc 3 5, 3) := by decide +kernel
theorem dw_735 : decode code 735 = .ok (.goto (-717), 3) := by decide +kernel
theorem dw_738 : decode code 738 = .ok (.iconst 1, 1) := by decide +kernel
theorem dw_739 : decode code 739 = .ok (.ireturn, 1) := by decide +kernel

theorem d_Lw_law_540 : decode code 540 = .ok (.invokevirtual 85, 3) := by decide +kernel
theorem d_Lw_law_543 : decode code 543 = .ok (.iload 5, 2) := by decide +kernel
theorem d_Lw_law_545 : decode code 545 = .ok (.if_icmp .eq 5, 3) := by decide +kernel
theorem d_Lw_law_548 : decode code 548 = .ok (.iconst 0, 1) := by decide +kernel
theorem d_Lw_law_549 : decode code 549 = .ok (.ireturn, 1) := by decide +kernel
theorem d_Lw_law_550 : decode code 550 = .ok (.iload 5, 2) := by decide +kernel
theorem d_Lw_law_552 : decode code 552 = .ok (.ifCond .ne 15, 3) := by decide +kernel
theorem d_Lw_law_555 : decode code 555 = .ok (.aload_n 3, 1) := by decide +kernel
theorem d_Lw_law_556 : decode code 556 = .ok (.iconst 0, 1) := by decide +kernel
theorem d_Lw_law_557 : decode code 557 = .ok (.laload, 1) := by decide +kernel
theorem d_Lw_law_558 : decode code 558 = .ok (.iload 6, 2) := by decide +kernel
theorem d_Lw_law_560 : decode code 560 = .ok (.i2l, 1) := by decide +kernel
theorem d_Lw_law_561 : decode code 561 = .ok (.lcmp, 1) := by decide +kernel
theorem d_Lw_law_562 : decode code 562 = .ok (.ifCond .eq 5, 3) := by decide +kernel
theorem d_Lw_law_565 : decode code 565 = .ok (.iconst 0, 1) := by decide +kernel
theorem d_Lw_law_566 : decode code 566 = .ok (.ireturn, 1) := by decide +kernel
theorem d_Lw_law_567 : decode code 567 = .ok (.goto 438, 3) := by decide +kernel
theorem d_Lw_law_570 : decode code 570 = .ok (.aload_n 1, 1) := by decide +kernel
theorem d_Lw_law_571 : decode code 571 = .ok (.aload_n 0, 1) := by decide +kernel
theorem d_Lw_law_572 : decode code 572 = .ok (.iload 4, 2) := by decide +kernel
theorem d_Lw_law_574 : decode code 574 = .ok (.iconst 1, 1) := by decide +kernel
theorem d_Lw_law_575 : decode code 575 = .ok (.iadd, 1) := by decide +kernel
theorem d_Lw_law_576 : decode code 576 = .ok (.iaload, 1) := by decide +kernel
theorem d_Lw_law_577 : decode code 577 = .ok (.aload_n 3, 1) := by decide +kernel
theorem d_Lw_law_578 : decode code 578 = .ok (.invokestatic 107, 3) := by decide +kernel
theorem d_Lw_law_581 : decode code 581 = .ok (.istore 5, 2) := by decide +kernel
theorem d_Lw_law_583 : decode code 583 = .ok (.aload_n 2, 1) := by decide +kernel
theorem d_Lw_law_584 : decode code 584 = .ok (.aload_n 0, 1) := by decide +kernel
theorem d_Lw_law_585 : decode code 585 = .ok (.iload 4, 2) := by decide +kernel
theorem d_Lw_law_587 : decode code 587 = .ok (.iconst 1, 1) := by decide +kernel
theorem d_Lw_law_588 : decode code 588 = .ok (.iadd, 1) := by decide +kernel
theorem d_Lw_law_589 : decode code 589 = .ok (.iaload, 1) := by decide +kernel
theorem d_Lw_law_590 : decode code 590 = .ok (.invokevirtual 109, 3) := by decide +kernel
theorem d_Lw_law_593 : decode code 593 = .ok (.istore 6, 2) := by decide +kernel
theorem d_Lw_law_595 : decode code 595 = .ok (.aload_n 2, 1) := by decide +kernel
theorem d_Lw_law_596 : decode code 596 = .ok (.invokevirtual 85, 3) := by decide +kernel
theorem d_Lw_law_599 : decode code 599 = .ok (.iload 5, 2) := by decide +kernel
theorem d_Lw_law_601 : decode code 601 = .ok (.if_icmp .eq 5, 3) := by decide +kernel
theorem d_Lw_law_604 : decode code 604 = .ok (.iconst 0, 1) := by decide +kernel
theorem d_Lw_law_605 : decode code 605 = .ok (.ireturn, 1) := by decide +kernel
theorem d_Lw_law_606 : decode code 606 = .ok (.iload 5, 2) := by decide +kernel
theorem d_Lw_law_608 : decode code 608 = .ok (.ifCond .ne 15, 3) := by decide +kernel
theorem d_Lw_law_611 : decode code 611 = .ok (.aload_n 3, 1) := by decide +kernel
theorem d_Lw_law_612 : decode code 612 = .ok (.iconst 0, 1) := by decide +kernel
theorem d_Lw_law_613 : decode code 613 = .ok (.laload, 1) := by decide +kernel
theorem d_Lw_law_614 : decode code 614 = .ok (.iload 6, 2) := by decide +kernel
theorem d_Lw_law_616 : decode code 616 = .ok (.i2l, 1) := by decide +kernel
theorem d_Lw_law_617 : decode code 617 = .ok (.lcmp, 1) := by decide +kernel
theorem d_Lw_law_618 : decode code 618 = .ok (.ifCond .eq 5, 3) := by decide +kernel
theorem d_Lw_law_621 : decode code 621 = .ok (.iconst 0, 1) := by decide +kernel
theorem d_Lw_law_622 : decode code 622 = .ok (.ireturn, 1) := by decide +kernel
theorem d_Lw_law_623 : decode code 623 = .ok (.goto 382, 3) := by decide +kernel
theorem d_Lw_law_626 : decode code 626 = .ok (.aload_n 1, 1) := by decide +kernel
theorem d_Lw_law_627 : decode code 627 = .ok (.aload_n 0, 1) := by decide +kernel
theorem d_Lw_law_628 : decode code 628 = .ok (.iload 4, 2) := by decide +kernel
theorem d_Lw_law_630 : decode code 630 = .ok (.iconst 1, 1) := by decide +kernel
theorem d_Lw_law_631 : decode code 631 = .ok (.iadd, 1) := by decide +kernel
theorem d_Lw_law_632 : decode code 632 = .ok (.iaload, 1) := by decide +kernel
theorem d_Lw_law_633 : decode code 633 = .ok (.aload_n 0, 1) := by decide +kernel
theorem d_Lw_law_634 : decode code 634 = .ok (.iload 4, 2) := by decide +kernel
theorem d_Lw_law_636 : decode code 636 = .ok (.iconst 2, 1) := by decide +kernel
theorem d_Lw_law_637 : decode code 637 = .ok (.iadd, 1) := by decide +kernel
theorem d_Lw_law_638 : decode code 638 = .ok (.iaload, 1) := by decide +kernel
theorem d_Lw_law_639 : decode code 639 = .ok (.aload_n 3, 1) := by decide +kernel
theorem d_Lw_law_640 : decode code 640 = .ok (.invokestatic 110, 3) := by decide +kernel
theorem d_Lw_law_643 : decode code 643 = .ok (.istore 5, 2) := by decide +kernel
theorem d_Lw_law_645 : decode code 645 = .ok (.aload_n 2, 1) := by decide +kernel
theorem d_Lw_law_646 : decode code 646 = .ok (.aload_n 0, 1) := by decide +kernel
theorem d_Lw_law_647 : decode code 647 = .ok (.iload 4, 2) := by decide +kernel
theorem d_Lw_law_649 : decode code 649 = .ok (.iconst 1, 1) := by decide +kernel
theorem d_Lw_law_650 : decode code 650 = .ok (.iadd, 1) := by decide +kernel
theorem d_Lw_law_651 : decode code 651 = .ok (.iaload, 1) := by decide +kernel
theorem d_Lw_law_652 : decode code 652 = .ok (.aload_n 0, 1) := by decide +kernel
theorem d_Lw_law_653 : decode code 653 = .ok (.iload 4, 2) := by decide +kernel
theorem d_Lw_law_655 : decode code 655 = .ok (.iconst 2, 1) := by decide +kernel
theorem d_Lw_law_656 : decode code 656 = .ok (.iadd, 1) := by decide +kernel
theorem d_Lw_law_657 : decode code 657 = .ok (.iaload, 1) := by decide +kernel
theorem d_Lw_law_658 : decode code 658 = .ok (.invokevirtual 112, 3) := by decide +kernel
theorem d_Lw_law_661 : decode code 661 = .ok (.istore 6, 2) := by decide +kernel
theorem d_Lw_law_663 : decode code 663 = .ok (.aload_n 2, 1) := by decide +kernel
theorem d_Lw_law_664 : decode code 664 = .ok (.invokevirtual 85, 3) := by decide +kernel
theorem d_Lw_law_667 : decode code 667 = .ok (.iload 5, 2) := by decide +kernel
theorem d_Lw_law_669 : decode code 669 = .ok (.if_icmp .eq 5, 3) := by decide +kernel
theorem d_Lw_law_672 : decode code 672 = .ok (.iconst 0, 1) := by decide +kernel
theorem d_Lw_law_673 : decode code 673 = .ok (.ireturn, 1) := by decide +kernel
theorem d_Lw_law_674 : decode code 674 = .ok (.iload 5, 2) := by decide +kernel
theorem d_Lw_law_676 : decode code 676 = .ok (.ifCond .ne 15, 3) := by decide +kernel
theorem d_Lw_law_679 : decode code 679 = .ok (.aload_n 3, 1) := by decide +kernel
theorem d_Lw_law_680 : decode code 680 = .ok (.iconst 0, 1) := by decide +kernel
theorem d_Lw_law_681 : decode code 681 = .ok (.laload, 1) := by decide +kernel
theorem d_Lw_law_682 : decode code 682 = .ok (.iload 6, 2) := by decide +kernel
theorem d_Lw_law_684 : decode code 684 = .ok (.i2l, 1) := by decide +kernel
theorem d_Lw_law_685 : decode code 685 = .ok (.lcmp, 1) := by decide +kernel
theorem d_Lw_law_686 : decode code 686 = .ok (.ifCond .eq 5, 3) := by decide +kernel
theorem d_Lw_law_689 : decode code 689 = .ok (.iconst 0, 1) := by decide +kernel
theorem d_Lw_law_690 : decode code 690 = .ok (.ireturn, 1) := by decide +kernel
theorem d_Lw_law_691 : decode code 691 = .ok (.goto 314, 3) := by decide +kernel
theorem d_Lw_law_694 : decode code 694 = .ok (.aload_n 1, 1) := by decide +kernel
theorem d_Lw_law_695 : decode code 695 = .ok (.aload_n 0, 1) := by decide +kernel
theorem d_Lw_law_696 : decode code 696 = .ok (.iload 4, 2) := by decide +kernel
theorem d_Lw_law_698 : decode code 698 = .ok (.iconst 1, 1) := by decide +kernel
theorem d_Lw_law_699 : decode code 699 = .ok (.iadd, 1) := by decide +kernel
theorem d_Lw_law_700 : decode code 700 = .ok (.iaload, 1) := by decide +kernel
theorem d_Lw_law_701 : decode code 701 = .ok (.aload_n 0, 1) := by decide +kernel
theorem d_Lw_law_702 : decode code 702 = .ok (.iload 4, 2) := by decide +kernel
theorem d_Lw_law_704 : decode code 704 = .ok (.iconst 2, 1) := by decide +kernel
theorem d_Lw_law_705 : decode code 705 = .ok (.iadd, 1) := by decide +kernel
theorem d_Lw_law_706 : decode code 706 = .ok (.iaload, 1) := by decide +kernel
theorem d_Lw_law_707 : decode code 707 = .ok (.aload_n 3, 1) := by decide +kernel
theorem d_Lw_law_708 : decode code 708 = .ok (.invokestatic 113, 3) := by decide +kernel
theorem d_Lw_law_711 : decode code 711 = .ok (.istore 5, 2) := by decide +kernel
theorem d_Lw_law_713 : decode code 713 = .ok (.aload_n 2, 1) := by decide +kernel
theorem d_Lw_law_714 : decode code 714 = .ok (.aload_n 0, 1) := by decide +kernel
theorem d_Lw_law_715 : decode code 715 = .ok (.iload 4, 2) := by decide +kernel
theorem d_Lw_law_717 : decode code 717 = .ok (.iconst 1, 1) := by decide +kernel
theorem d_Lw_law_718 : decode code 718 = .ok (.iadd, 1) := by decide +kernel
theorem d_Lw_law_719 : decode code 719 = .ok (.iaload, 1) := by decide +kernel
theorem d_Lw_law_720 : decode code 720 = .ok (.aload_n 0, 1) := by decide +kernel
theorem d_Lw_law_721 : decode code 721 = .ok (.iload 4, 2) := by decide +kernel
theorem d_Lw_law_723 : decode code 723 = .ok (.iconst 2, 1) := by decide +kernel
theorem d_Lw_law_724 : decode code 724 = .ok (.iadd, 1) := by decide +kernel
theorem d_Lw_law_725 : decode code 725 = .ok (.iaload, 1) := by decide +kernel
theorem d_Lw_law_726 : decode code 726 = .ok (.invokevirtual 115, 3) := by decide +kernel
theorem d_Lw_law_729 : decode code 729 = .ok (.istore 6, 2) := by decide +kernel
theorem d_Lw_law_731 : decode code 731 = .ok (.aload_n 2, 1) := by decide +kernel
theorem d_Lw_law_732 : decode code 732 = .ok (.invokevirtual 85, 3) := by decide +kernel
theorem d_Lw_law_735 : decode code 735 = .ok (.iload 5, 2) := by decide +kernel
theorem d_Lw_law_737 : decode code 737 = .ok (.if_icmp .eq 5, 3) := by decide +kernel
theorem d_Lw_law_740 : decode code 740 = .ok (.iconst 0, 1) := by decide +kernel
theorem d_Lw_law_741 : decode code 741 = .ok (.ireturn, 1) := by decide +kernel
theorem d_Lw_law_742 : decode code 742 = .ok (.iload 5, 2) := by decide +kernel
theorem d_Lw_law_744 : decode code 744 = .ok (.ifCond .ne 22, 3) := by decide +kernel
theorem d_Lw_law_747 : decode code 747 = .ok (.aload_n 3, 1) := by decide +kernel
theorem d_Lw_law_748 : decode code 748 = .ok (.iconst 0, 1) := by decide +kernel
theorem d_Lw_law_749 : decode code 749 = .ok (.laload, 1) := by decide +kernel
theorem d_Lw_law_750 : decode code 750 = .ok (.iload 6, 2) := by decide +kernel
theorem d_Lw_law_752 : decode code 752 = .ok (.ifCond .eq 7, 3) := by decide +kernel
theorem d_Lw_law_755 : decode code 755 = .ok (.lconst 1, 1) := by decide +kernel
theorem d_Lw_law_756 : decode code 756 = .ok (.goto 4, 3) := by decide +kernel
theorem d_Lw_law_759 : decode code 759 = .ok (.lconst 0, 1) := by decide +kernel
theorem d_Lw_law_760 : decode code 760 = .ok (.lcmp, 1) := by decide +kernel
theorem d_Lw_law_761 : decode code 761 = .ok (.ifCond .eq 5, 3) := by decide +kernel
theorem d_Lw_law_764 : decode code 764 = .ok (.iconst 0, 1) := by decide +kernel
theorem d_Lw_law_765 : decode code 765 = .ok (.ireturn, 1) := by decide +kernel
theorem d_Lw_law_766 : decode code 766 = .ok (.goto 239, 3) := by decide +kernel
theorem d_Lw_law_769 : decode code 769 = .ok (.aload_n 1, 1) := by decide +kernel
theorem d_Lw_law_770 : decode code 770 = .ok (.aload_n 3, 1) := by decide +kernel
theorem d_Lw_law_771 : decode code 771 = .ok (.invokestatic 116, 3) := by decide +kernel
theorem d_Lw_law_774 : decode code 774 = .ok (.istore 5, 2) := by decide +kernel
theorem d_Lw_law_776 : decode code 776 = .ok (.aload_n 2, 1) := by decide +kernel
theorem d_Lw_law_777 : decode code 777 = .ok (.invokevirtual 119, 3) := by decide +kernel
theorem d_Lw_law_780 : decode code 780 = .ok (.istore 6, 2) := by decide +kernel
theorem d_Lw_law_782 : decode code 782 = .ok (.aload_n 2, 1) := by decide +kernel
theorem d_Lw_law_783 : decode code 783 = .ok (.invokevirtual 85, 3) := by decide +kernel
theorem d_Lw_law_786 : decode code 786 = .ok (.iload 5, 2) := by decide +kernel
theorem d_Lw_law_788 : decode code 788 = .ok (.if_icmp .eq 5, 3) := by decide +kernel
theorem d_Lw_law_791 : decode code 791 = .ok (.iconst 0, 1) := by decide +kernel
theorem d_Lw_law_792 : decode code 792 = .ok (.ireturn, 1) := by decide +kernel
theorem d_Lw_law_793 : decode code 793 = .ok (.iload 5, 2) := by decide +kernel
theorem d_Lw_law_795 : decode code 795 = .ok (.ifCond .ne 15, 3) := by decide +kernel

theorem dL_halves_447 : decode cL_halves 447 = .ok (.aload_n 0, 1) := by decide +kernel
theorem dL_halves_448 : decode cL_halves 448 = .ok (.iconst 0, 1) := by decide +kernel
theorem dL_halves_449 : decode cL_halves 449 = .ok (.iconst 3, 1) := by decide +kernel
theorem dL_halves_450 : decode cL_halves 450 = .ok (.invokevirtual 87, 3) := by decide +kernel
theorem dL_halves_453 : decode cL_halves 453 = .ok (.ldc2_w 187, 3) := by decide +kernel
theorem dL_halves_456 : decode cL_halves 456 = .ok (.dcmp .l, 1) := by decide +kernel
theorem dL_halves_457 : decode cL_halves 457 = .ok (.ifCond .ne 46, 3) := by decide +kernel
theorem dL_halves_460 : decode cL_halves 460 = .ok (.aload_n 0, 1) := by decide +kernel
theorem dL_halves_461 : decode cL_halves 461 = .ok (.iconst 0, 1) := by decide +kernel
theorem dL_halves_462 : decode cL_halves 462 = .ok (.iconst 3, 1) := by decide +kernel
theorem dL_halves_463 : decode cL_halves 463 = .ok (.invokevirtual 90, 3) := by decide +kernel
theorem dL_halves_466 : decode cL_halves 466 = .ok (.dconst 0, 1) := by decide +kernel
theorem dL_halves_467 : decode cL_halves 467 = .ok (.dcmp .l, 1) := by decide +kernel
theorem dL_halves_468 : decode cL_halves 468 = .ok (.ifCond .ne 35, 3) := by decide +kernel
theorem dL_halves_471 : decode cL_halves 471 = .ok (.aload_n 0, 1) := by decide +kernel
theorem dL_halves_472 : decode cL_halves 472 = .ok (.iconst 0, 1) := by decide +kernel
theorem dL_halves_473 : decode cL_halves 473 = .ok (.iconst 3, 1) := by decide +kernel
theorem dL_halves_474 : decode cL_halves 474 = .ok (.iconst 4, 1) := by decide +kernel
theorem dL_halves_475 : decode cL_halves 475 = .ok (.invokevirtual 84, 3) := by decide +kernel
theorem dL_halves_478 : decode cL_halves 478 = .ok (.iconst 2, 1) := by decide +kernel
theorem dL_halves_479 : decode cL_halves 479 = .ok (.if_icmp .ne 24, 3) := by decide +kernel
theorem dL_halves_482 : decode cL_halves 482 = .ok (.aload_n 0, 1) := by decide +kernel
theorem dL_halves_483 : decode cL_halves 483 = .ok (.iconst 0, 1) := by decide +kernel
theorem dL_halves_484 : decode cL_halves 484 = .ok (.invokevirtual 93, 3) := by decide +kernel
theorem dL_halves_487 : decode cL_halves 487 = .ok (.ldc2_w 197, 3) := by decide +kernel
theorem dL_halves_490 : decode cL_halves 490 = .ok (.dcmp .l, 1) := by decide +kernel
theorem dL_halves_491 : decode cL_halves 491 = .ok (.ifCond .ne 12, 3) := by decide +kernel
theorem dL_halves_494 : decode cL_halves 494 = .ok (.aload_n 0, 1) := by decide +kernel
theorem dL_halves_495 : decode cL_halves 495 = .ok (.iconst 0, 1) := by decide +kernel
theorem dL_halves_496 : decode cL_halves 496 = .ok (.invokevirtual 96, 3) := by decide +kernel
theorem dL_halves_499 : decode cL_halves 499 = .ok (.iconst 3, 1) := by decide +kernel
theorem dL_halves_500 : decode cL_halves 500 = .ok (.if_icmp .eq 5, 3) := by decide +kernel
theorem dL_halves_503 : decode cL_halves 503 = .ok (.iconst 0, 1) := by decide +kernel
theorem dL_halves_504 : decode cL_halves 504 = .ok (.ireturn, 1) := by decide +kernel
theorem dL_halves_505 : decode cL_halves 505 = .ok (.aload_n 0, 1) := by decide +kernel
theorem dL_halves_506 : decode cL_halves 506 = .ok (.iconst 0, 1) := by decide +kernel
theorem dL_halves_507 : decode cL_halves 507 = .ok (.iconst 3, 1) := by decide +kernel
theorem dL_halves_508 : decode cL_halves 508 = .ok (.ldc2_w 62, 3) := by decide +kernel
theorem dL_halves_511 : decode cL_halves 511 = .ok (.invokevirtual 99, 3) := by decide +kernel
theorem dL_halves_514 : decode cL_halves 514 = .ok (.iconst 3, 1) := by decide +kernel
theorem dL_halves_515 : decode cL_halves 515 = .ok (.if_icmp .ne 56, 3) := by decide +kernel
theorem dL_halves_518 : decode cL_halves 518 = .ok (.aload_n 0, 1) := by decide +kernel
theorem dL_halves_519 : decode cL_halves 519 = .ok (.iconst 0, 1) := by decide +kernel
theorem dL_halves_520 : decode cL_halves 520 = .ok (.iconst 3, 1) := by decide +kernel
theorem dL_halves_521 : decode cL_halves 521 = .ok (.ldc2_w 199, 3) := by decide +kernel
theorem dL_halves_524 : decode cL_halves 524 = .ok (.invokevirtual 99, 3) := by decide +kernel
theorem dL_halves_527 : decode cL_halves 527 = .ok (.iconst 2, 1) := by decide +kernel
theorem dL_halves_528 : decode cL_halves 528 = .ok (.if_icmp .ne 43, 3) := by decide +kernel
theorem dL_halves_531 : decode cL_halves 531 = .ok (.aload_n 0, 1) := by decide +kernel
theorem dL_halves_532 : decode cL_halves 532 = .ok (.iconst 0, 1) := by decide +kernel
theorem dL_halves_533 : decode cL_halves 533 = .ok (.iconst 2, 1) := by decide +kernel
theorem dL_halves_534 : decode cL_halves 534 = .ok (.ldc2_w 201, 3) := by decide +kernel
theorem dL_halves_537 : decode cL_halves 537 = .ok (.invokevirtual 99, 3) := by decide +kernel
theorem dL_halves_540 : decode cL_halves 540 = .ok (.iconst 3, 1) := by decide +kernel
theorem dL_halves_541 : decode cL_halves 541 = .ok (.if_icmp .ne 30, 3) := by decide +kernel
theorem dL_halves_544 : decode cL_halves 544 = .ok (.aload_n 0, 1) := by decide +kernel
theorem dL_halves_545 : decode cL_halves 545 = .ok (.iconst 0, 1) := by decide +kernel
theorem dL_halves_546 : decode cL_halves 546 = .ok (.iconst 1, 1) := by decide +kernel
theorem dL_halves_547 : decode cL_halves 547 = .ok (.ldc2_w 199, 3) := by decide +kernel
theorem dL_halves_550 : decode cL_halves 550 = .ok (.invokevirtual 99, 3) := by decide +kernel
theorem dL_halves_553 : decode cL_halves 553 = .ok (.bipush (-5), 2) := by decide +kernel
theorem dL_halves_555 : decode cL_halves 555 = .ok (.if_icmp .ne 16, 3) := by decide +kernel
theorem dL_halves_558 : decode cL_halves 558 = .ok (.aload_n 0, 1) := by decide +kernel
theorem dL_halves_559 : decode cL_halves 559 = .ok (.iconst 0, 1) := by decide +kernel
theorem dL_halves_560 : decode cL_halves 560 = .ok (.iconst 1, 1) := by decide +kernel
theorem dL_halves_561 : decode cL_halves 561 = .ok (.ldc2_w 19, 3) := by decide +kernel
theorem dL_halves_564 : decode cL_halves 564 = .ok (.invokevirtual 99, 3) := by decide +kernel
theorem dL_halves_567 : decode cL_halves 567 = .ok (.iconst 3, 1) := by decide +kernel
theorem dL_halves_568 : decode cL_halves 568 = .ok (.if_icmp .eq 5, 3) := by decide +kernel
theorem dL_halves_571 : decode cL_halves 571 = .ok (.iconst 0, 1) := by decide +kernel
theorem dL_halves_572 : decode cL_halves 572 = .ok (.ireturn, 1) := by decide +kernel
theorem dL_halves_573 : decode cL_halves 573 = .ok (.aload_n 0, 1) := by decide +kernel
theorem dL_halves_574 : decode cL_halves 574 = .ok (.iconst 1, 1) := by decide +kernel
theorem dL_halves_575 : decode cL_halves 575 = .ok (.iconst 3, 1) := by decide +kernel
theorem dL_halves_576 : decode cL_halves 576 = .ok (.iconst 1, 1) := by decide +kernel
theorem dL_halves_577 : decode cL_halves 577 = .ok (.invokevirtual 54, 3) := by decide +kernel
theorem dL_halves_580 : decode cL_halves 580 = .ok (.iconst 2, 1) := by decide +kernel
theorem dL_halves_581 : decode cL_halves 581 = .ok (.if_icmp .ne 124, 3) := by decide +kernel
theorem dL_halves_584 : decode cL_halves 584 = .ok (.aload_n 0, 1) := by decide +kernel
theorem dL_halves_585 : decode cL_halves 585 = .ok (.iconst 1, 1) := by decide +kernel
theorem dL_halves_586 : decode cL_halves 586 = .ok (.iconst 0, 1) := by decide +kernel
theorem dL_halves_587 : decode cL_halves 587 = .ok (.invokevirtual 9, 3) := by decide +kernel
theorem dL_halves_590 : decode cL_halves 590 = .ok (.ldc2_w 187, 3) := by decide +kernel
theorem dL_halves_593 : decode cL_halves 593 = .ok (.dcmp .l, 1) := by decide +kernel
theorem dL_halves_594 : decode cL_halves 594 = .ok (.ifCond .ne 111, 3) := by decide +kernel
theorem dL_halves_597 : decode cL_halves 597 = .ok (.aload_n 0, 1) := by decide +kernel
theorem dL_halves_598 : decode cL_halves 598 = .ok (.iconst 1, 1) := by decide +kernel
theorem dL_halves_599 : decode cL_halves 599 = .ok (.iconst 1, 1) := by decide +kernel
theorem dL_halves_600 : decode cL_halves 600 = .ok (.invokevirtual 9, 3) := by decide +kernel
theorem dL_halves_603 : decode cL_halves 603 = .ok (.ldc2_w 187, 3) := by decide +kernel
theorem dL_halves_606 : decode cL_halves 606 = .ok (.dcmp .l, 1) := by decide +kernel
theorem dL_halves_607 : decode cL_halves 607 = .ok (.ifCond .ne 98, 3) := by decide +kernel
theorem dL_halves_610 : decode cL_halves 610 = .ok (.aload_n 0, 1) := by decide +kernel
theorem dL_halves_611 : decode cL_halves 611 = .ok (.iconst 1, 1) := by decide +kernel
theorem dL_halves_612 : decode cL_halves 612 = .ok (.invokevirtual 48, 3) := by decide +kernel
theorem dL_halves_615 : decode cL_halves 615 = .ok (.iconst 2, 1) := by decide +kernel
theorem dL_halves_616 : decode cL_halves 616 = .ok (.if_icmp .ne 89, 3) := by decide +kernel
theorem dL_halves_619 : decode cL_halves 619 = .ok (.aload_n 0, 1) := by decide +kernel
theorem dL_halves_620 : decode cL_halves 620 = .ok (.iconst 1, 1) := by decide +kernel
theorem dL_halves_621 : decode cL_halves 621 = .ok (.iconst 1, 1) := by decide +kernel
theorem dL_halves_622 : decode cL_halves 622 = .ok (.invokevirtual 9, 3) := by decide +kernel
theorem dL_halves_625 : decode cL_halves 625 = .ok (.ldc2_w 189, 3) := by decide +kernel
theorem dL_halves_628 : decode cL_halves 628 = .ok (.dcmp .l, 1) := by decide +kernel
theorem dL_halves_629 : decode cL_halves 629 = .ok (.ifCond .ne 76, 3) := by decide +kernel
theorem dL_halves_632 : decode cL_halves 632 = .ok (.aload_n 0, 1) := by decide +kernel
theorem dL_halves_633 : decode cL_halves 633 = .ok (.iconst 1, 1) := by decide +kernel
theorem dL_halves_634 : decode cL_halves 634 = .ok (.invokevirtual 51, 3) := by decide +kernel
theorem dL_halves_637 : decode cL_halves 637 = .ok (.iconst 2, 1) := by decide +kernel
theorem dL_halves_638 : decode cL_halves 638 = .ok (.if_icmp .ne 67, 3) := by decide +kernel
theorem dL_halves_641 : decode cL_halves 641 = .ok (.aload_n 0, 1) := by decide +kernel
theorem dL_halves_642 : decode cL_halves 642 = .ok (.iconst 1, 1) := by decide +kernel
theorem dL_halves_643 : decode cL_halves 643 = .ok (.iconst 0, 1) := by decide +kernel
theorem dL_halves_644 : decode cL_halves 644 = .ok (.invokevirtual 9, 3) := by decide +kernel
theorem dL_halves_647 : decode cL_halves 647 = .ok (.ldc2_w 187, 3) := by decide +kernel
theorem dL_halves_650 : decode cL_halves 650 = .ok (.dcmp .l, 1) := by decide +kernel
theorem dL_halves_651 : decode cL_halves 651 = .ok (.ifCond .ne 54, 3) := by decide +kernel
theorem dL_halves_654 : decode cL_halves 654 = .ok (.aload_n 0, 1) := by decide +kernel
theorem dL_halves_655 : decode cL_halves 655 = .ok (.iconst 1, 1) := by decide +kernel
theorem dL_halves_656 : decode cL_halves 656 = .ok (.iconst 1, 1) := by decide +kernel
theorem dL_halves_657 : decode cL_halves 657 = .ok (.invokevirtual 9, 3) := by decide +kernel
theorem dL_halves_660 : decode cL_halves 660 = .ok (.ldc2_w 187, 3) := by decide +kernel
theorem dL_halves_663 : decode cL_halves 663 = .ok (.dcmp .l, 1) := by decide +kernel
theorem dL_halves_664 : decode cL_halves 664 = .ok (.ifCond .ne 41, 3) := by decide +kernel
theorem dL_halves_667 : decode cL_halves 667 = .ok (.aload_n 0, 1) := by decide +kernel
theorem dL_halves_668 : decode cL_halves 668 = .ok (.iconst 1, 1) := by decide +kernel
theorem dL_halves_669 : decode cL_halves 669 = .ok (.iconst 1, 1) := by decide +kernel
theorem dL_halves_670 : decode cL_halves 670 = .ok (.ldc2_w 62, 3) := by decide +kernel
theorem dL_halves_673 : decode cL_halves 673 = .ok (.invokevirtual 37, 3) := by decide +kernel
theorem dL_halves_676 : decode cL_halves 676 = .ok (.iconst 1, 1) := by decide +kernel
theorem dL_halves_677 : decode cL_halves 677 = .ok (.if_icmp .ne 28, 3) := by decide +kernel
theorem dL_halves_680 : decode cL_halves 680 = .ok (.aload_n 0, 1) := by decide +kernel
theorem dL_halves_681 : decode cL_halves 681 = .ok (.iconst 1, 1) := by decide +kernel
theorem dL_halves_682 : decode cL_halves 682 = .ok (.iconst 1, 1) := by decide +kernel
theorem dL_halves_683 : decode cL_halves 683 = .ok (.ldc2_w 62, 3) := by decide +kernel
theorem dL_halves_686 : decode cL_halves 686 = .ok (.invokevirtual 37, 3) := by decide +kernel
theorem dL_halves_689 : decode cL_halves 689 = .ok (.bipush (-5), 2) := by decide +kernel
theorem dL_halves_691 : decode cL_halves 691 = .ok (.if_icmp .ne 14, 3) := by decide +kernel
theorem dL_halves_694 : decode cL_halves 694 = .ok (.aload_n 0, 1) := by decide +kernel
theorem dL_halves_695 : decode cL_halves 695 = .ok (.iconst 1, 1) := by decide +kernel
theorem dL_halves_696 : decode cL_halves 696 = .ok (.iconst 1, 1) := by decide +kernel
theorem dL_halves_697 : decode cL_halves 697 = .ok (.lconst 0, 1) := by decide +kernel
theorem dL_halves_698 : decode cL_halves 698 = .ok (.invokevirtual 37, 3) := by decide +kernel
theorem dL_halves_701 : decode cL_halves 701 = .ok (.iconst 1, 1) := by decide +kernel
theorem dL_halves_702 : decode cL_halves 702 = .ok (.if_icmp .eq 5, 3) := by decide +kernel
theorem dL_halves_705 : decode cL_halves 705 = .ok (.iconst 0, 1) := by decide +kernel
theorem dL_halves_706 : decode cL_halves 706 = .ok (.ireturn, 1) := by decide +kernel
theorem dL_halves_707 : decode cL_halves 707 = .ok (.aload_n 0, 1) := by decide +kernel
theorem dL_halves_708 : decode cL_halves 708 = .ok (.iconst 1, 1) := by decide +kernel
theorem dL_halves_709 : decode cL_halves 709 = .ok (.ldc2_w 203, 3) := by decide +kernel
theorem dL_halves_712 : decode cL_halves 712 = .ok (.invokevirtual 59, 3) := by decide +kernel
theorem dL_halves_715 : decode cL_halves 715 = .ok (.iconst 1, 1) := by decide +kernel
theorem dL_halves_716 : decode cL_halves 716 = .ok (.if_icmp .ne 72, 3) := by decide +kernel
theorem dL_halves_719 : decode cL_halves 719 = .ok (.aload_n 0, 1) := by decide +kernel
theorem dL_halves_720 : decode cL_halves 720 = .ok (.iconst 0, 1) := by decide +kernel
theorem dL_halves_721 : decode cL_halves 721 = .ok (.iconst 3, 1) := by decide +kernel
theorem dL_halves_722 : decode cL_halves 722 = .ok (.iconst 1, 1) := by decide +kernel
theorem dL_halves_723 : decode cL_halves 723 = .ok (.iconst 0, 1) := by decide +kernel
theorem dL_halves_724 : decode cL_halves 724 = .ok (.invokevirtual 76, 3) := by decide +kernel
theorem dL_halves_727 : decode cL_halves 727 = .ok (.ldc2_w 185, 3) := by decide +kernel
theorem dL_halves_730 : decode cL_halves 730 = .ok (.dcmp .l, 1) := by decide +kernel
theorem dL_halves_731 : decode cL_halves 731 = .ok (.ifCond .ne 57, 3) := by decide +kernel
theorem dL_halves_734 : decode cL_halves 734 = .ok (.aload_n 0, 1) := by decide +kernel
theorem dL_halves_735 : decode cL_halves 735 = .ok (.iconst 0, 1) := by decide +kernel
theorem dL_halves_736 : decode cL_halves 736 = .ok (.iconst 3, 1) := by decide +kernel
theorem dL_halves_737 : decode cL_halves 737 = .ok (.iconst 1, 1) := by decide +kernel
theorem dL_halves_738 : decode cL_halves 738 = .ok (.iconst 1, 1) := by decide +kernel
theorem dL_halves_739 : decode cL_halves 739 = .ok (.invokevirtual 76, 3) := by decide +kernel
theorem dL_halves_742 : decode cL_halves 742 = .ok (.ldc2_w 205, 3) := by decide +kernel
theorem dL_halves_745 : decode cL_halves 745 = .ok (.dcmp .l, 1) := by decide +kernel
theorem dL_halves_746 : decode cL_halves 746 = .ok (.ifCond .ne 42, 3) := by decide +kernel
theorem dL_halves_749 : decode cL_halves 749 = .ok (.aload_n 0, 1) := by decide +kernel
theorem dL_halves_750 : decode cL_halves 750 = .ok (.iconst 0, 1) := by decide +kernel
theorem dL_halves_751 : decode cL_halves 751 = .ok (.iconst 3, 1) := by decide +kernel
theorem dL_halves_752 : decode cL_halves 752 = .ok (.iconst 2, 1) := by decide +kernel
theorem dL_halves_753 : decode cL_halves 753 = .ok (.iconst 0, 1) := by decide +kernel
theorem dL_halves_754 : decode cL_halves 754 = .ok (.invokevirtual 76, 3) := by decide +kernel
theorem dL_halves_757 : decode cL_halves 757 = .ok (.ldc2_w 207, 3) := by decide +kernel
theorem dL_halves_760 : decode cL_halves 760 = .ok (.dcmp .l, 1) := by decide +kernel
theorem dL_halves_761 : decode cL_halves 761 = .ok (.ifCond .ne 27, 3) := by decide +kernel
theorem dL_halves_764 : decode cL_halves 764 = .ok (.aload_n 0, 1) := by decide +kernel
theorem dL_halves_765 : decode cL_halves 765 = .ok (.iconst 1, 1) := by decide +kernel
theorem dL_halves_766 : decode cL_halves 766 = .ok (.ldc2_w 203, 3) := by decide +kernel
theorem dL_halves_769 : decode cL_halves 769 = .ok (.invokevirtual 59, 3) := by decide +kernel
theorem dL_halves_772 : decode cL_halves 772 = .ok (.bipush (-5), 2) := by decide +kernel
theorem dL_halves_774 : decode cL_halves 774 = .ok (.if_icmp .ne 14, 3) := by decide +kernel
theorem dL_halves_777 : decode cL_halves 777 = .ok (.aload_n 0, 1) := by decide +kernel
theorem dL_halves_778 : decode cL_halves 778 = .ok (.invokestatic 173, 3) := by decide +kernel
theorem dL_halves_781 : decode cL_halves 781 = .ok (.ifCond .eq 7, 3) := by decide +kernel
theorem dL_halves_784 : decode cL_halves 784 = .ok (.iconst 1, 1) := by decide +kernel
theorem dL_halves_785 : decode cL_halves 785 = .ok (.goto 4, 3) := by decide +kernel
theorem dL_halves_788 : decode cL_halves 788 = .ok (.iconst 0, 1) := by decide +kernel
theorem dL_halves_789 : decode cL_halves 789 = .ok (.ireturn, 1) := by decide +kernel
set_option maxRecDepth 20000 in
theorem ggL_same_X8_init : GoodIn wsL_same wsX8_init := goodIn_r _ [10, 11, 12, 13, 14, 15, 16, 17, 18, 19, 20, 21, 22, 23, 24, 25, 26, 27, 28, 29, 30, 31, 32, 33, 34, 35, 36, 37, 38, 39, 40, 41, 42, 43, 44, 45, 46, 47, 48, 49, 50, 51, 52, 53, 54, 55, 56, 57, 58, 59, 60, 61, 62, 63, 64, 65, 66, 67, 68, 69, 70, 71, 72, 73, 74, 75, 76, 77, 78, 79, 80, 81, 82, 83, 84, 351, 352, 353, 354, 344, 345, 346, 347, 348, 349, 350, 355, 356, 357, 358, 359, 360, 361, 362, 363, 364, 365, 366, 367, 368, 369, 370, 371, 372, 373] (by decide +kernel) (by decide +kernel)
set_option maxRecDepth 20000 in
theorem gL_same_X8_init : GoodIn wsL_same (wsX8_init) := ggL_same_X8_init
set_option maxRecDepth 20000 in
theorem ggL_same_X8_add : GoodIn wsL_same wsX8_add := goodIn_r _ [88, 17, 89, 23, 90, 91, 3, 92, 93, 94, 95, 96, 97, 98, 99, 100, 101, 102, 103, 104, 105, 106, 107, 108, 109, 110, 111, 112, 113, 114, 115, 116, 117, 118, 119, 120, 121, 122, 16, 123, 41, 42, 124, 125, 126, 22, 127, 61, 60, 59, 128, 129, 130, 131, 44, 132, 133, 134, 135, 45, 136, 137, 138, 34, 139, 52, 140, 53, 141, 142, 143, 144, 145, 344, 345, 346, 347, 348, 349, 350, 372, 373, 351, 352, 353, 354, 355, 356, 357] (by decide +kernel) (by decide +kernel)
set_option maxRecDepth 20000 in
theorem gL_same_X8_add : GoodIn wsL_same (wsV RL 25 RX8 yX8_add wsX8_add) := goodIn_app (goodIn_of _ (by decide +kernel)) ggL_same_X8_add
set_option maxRecDepth 20000 in
theorem ggL_same_X8_kind : GoodIn wsL_same wsX8_kind := goodIn_r _ [149, 31, 17, 150, 151, 3, 152, 90, 91, 92, 153, 154, 155, 30, 156, 77, 157, 78, 79, 158, 80, 159, 81, 160, 161, 121, 122, 16, 123, 41, 42, 162, 163, 164, 165, 74, 76, 166, 167, 168, 169, 170, 171, 172, 173, 174, 175, 176, 177, 178, 179, 180, 181, 182, 183, 116, 184, 185, 186, 187, 188, 189, 190, 191, 192, 193, 194, 195, 196, 197, 198, 199, 200, 201, 202, 203, 204, 205, 206, 207, 208, 209, 210, 211, 212, 213, 214, 215, 216, 217, 344, 345, 346, 347, 348, 349, 350, 362, 363, 364, 365, 366, 367, 368, 369, 370, 371, 351, 352, 353, 354, 372, 373] (by decide +kernel) (by decide +kernel)
set_option maxRecDepth 20000 in
theorem gL_same_X8_kind : GoodIn wsL_same (wsV RL 80 RX8 yX8_kind wsX8_kind) := goodIn_app (goodIn_of _ (by decide +kernel)) ggL_same_X8_kind
set_option maxRecDepth 20000 in
theorem ggL_same_X8_count : GoodIn wsL_same wsX8_count := goodIn_r _ [221, 17, 89, 222, 23, 223, 27, 224, 120, 121, 122, 16, 123, 41, 42, 225, 226, 227, 3, 228, 31, 153, 154, 155, 30, 156, 77, 157, 78, 79, 158, 80, 159, 81, 160, 161, 162, 163, 164, 165, 74, 76, 166, 167, 168, 169, 170, 171, 172, 173, 174, 175, 176, 177, 178, 179, 180, 181, 182, 183, 116, 184, 185, 186, 187, 188, 189, 190, 191, 192, 193, 194, 195, 196, 197, 198, 199, 200, 201, 202, 203, 204, 205, 206, 207, 208, 209, 229, 230, 231, 232, 233, 234, 235, 236, 237, 238, 239, 240, 241, 215, 216, 217, 344, 345, 346, 347, 348, 349, 350, 372, 373, 351, 352, 353, 354, 355, 356, 357, 358, 359, 360, 361, 362, 363, 364, 365, 366, 367, 368, 369, 370, 371] (by decide +kernel) (by decide +kernel)
set_option maxRecDepth 20000 in
theorem gL_same_X8_count : GoodIn wsL_same (wsV RL 33 RX8 yX8_count wsX8_count) := goodIn_app (goodIn_of _ (by decide +kernel)) ggL_same_X8_count
set_option maxRecDepth 20000 in
theorem ggL_same_X8_table : GoodIn wsL_same wsX8_table := goodIn_r _ [245, 31, 17, 246, 247, 150, 151, 3, 152, 90, 91, 92, 153, 154, 155, 30, 156, 77, 157, 78, 79, 158, 80, 159, 81, 160, 161, 121, 122, 16, 123, 41, 42, 162, 163, 164, 165, 74, 76, 166, 167, 168, 169, 170, 171, 172, 173, 174, 175, 176, 177, 178, 179, 180, 181, 182, 183, 116, 184, 185, 186, 187, 188, 189, 190, 191, 192, 193, 194, 195, 196, 197, 198, 199, 200, 201, 202, 203, 204, 205, 206, 207, 208, 209, 248, 249, 250, 251, 229, 230, 231, 232, 233, 234, 235, 236, 237, 238, 239, 240, 241, 215, 216, 217, 252, 253, 254, 255, 256, 257, 258, 259, 260, 261, 262, 263, 82, 83, 84, 264, 265, 266, 267, 268, 269, 270, 271, 272, 273, 274, 275, 344, 345, 346, 347, 348, 349, 350, 362, 363, 364, 365, 366, 367, 368, 369, 370, 371, 351, 352, 353, 354, 372, 373] (by decide +kernel) (by decide +kernel)
set_option maxRecDepth 20000 in
theorem gL_same_X8_table : GoodIn wsL_same (wsV RL 84 RX8 yX8_table wsX8_table) := goodIn_app (goodIn_of _ (by decide +kernel)) ggL_same_X8_table
set_option maxRecDepth 20000 in
theorem ggL_same_X8_guess : GoodIn wsL_same wsX8_guess := goodIn_r _ [279, 17, 89, 150, 151, 3, 152, 90, 91, 92, 120, 121, 122, 16, 123, 41, 42, 280, 281, 282, 283, 284, 285, 286, 287, 31, 246, 288, 153, 154, 155, 30, 156, 77, 157, 78, 79, 158, 80, 159, 81, 160, 161, 162, 163, 164, 165, 74, 76, 166, 167, 168, 169, 170, 171, 172, 173, 174, 175, 176, 177, 178, 179, 180, 181, 182, 183, 116, 184, 185, 186, 187, 188, 189, 190, 191, 192, 193, 194, 195, 196, 197, 198, 199, 200, 201, 202, 203, 204, 205, 206, 207, 208, 209, 260, 261, 262, 263, 82, 83, 84, 264, 265, 266, 267, 268, 269, 270, 271, 241, 215, 216, 217, 272, 273, 274, 275, 344, 345, 346, 347, 348, 349, 350, 372, 373, 351, 352, 353, 354, 362, 363, 364, 365, 366, 367, 368, 369, 370, 371] (by decide +kernel) (by decide +kernel)
set_option maxRecDepth 20000 in
theorem gL_same_X8_guess : GoodIn wsL_same (wsV RL 87 RX8 yX8_guess wsX8_guess) := goodIn_app (goodIn_of _ (by decide +kernel)) ggL_same_X8_guess
set_option maxRecDepth 20000 in
theorem ggL_same_X8_error : GoodIn wsL_same wsX8_error := goodIn_r _ [292, 31, 17, 246, 293, 150, 151, 3, 152, 90, 91, 92, 280, 281, 282, 283, 153, 154, 155, 30, 156, 77, 157, 78, 79, 158, 80, 159, 81, 160, 161, 121, 122, 16, 123, 41, 42, 162, 163, 164, 165, 74, 76, 166, 167, 168, 169, 170, 171, 172, 173, 174, 175, 176, 177, 178, 179, 180, 181, 182, 183, 116, 184, 185, 186, 187, 188, 189, 190, 191, 192, 193, 194, 195, 196, 197, 198, 199, 200, 201, 202, 203, 204, 205, 206, 207, 208, 209, 260, 261, 262, 263, 82, 83, 84, 264, 265, 266, 267, 268, 269, 270, 271, 241, 215, 216, 217, 272, 273, 274, 275, 344, 345, 346, 347, 348, 349, 350, 362, 363, 364, 365, 366, 367, 368, 369, 370, 371, 351, 352, 353, 354, 372, 373] (by decide +kernel) (by decide +kernel)
set_option maxRecDepth 20000 in
theorem gL_same_X8_error : GoodIn wsL_same (wsV RL 90 RX8 yX8_error wsX8_error) := goodIn_app (goodIn_of _ (by decide +kernel)) ggL_same_X8_error
set_option maxRecDepth 20000 in
theorem ggL_same_X8_best : GoodIn wsL_same wsX8_best := goodIn_r _ [297, 31, 17, 246, 293, 90, 91, 3, 92, 153, 154, 155, 30, 156, 77, 157, 78, 79, 158, 80, 159, 81, 160, 161, 121, 122, 16, 123, 41, 42, 162, 163, 164, 165, 74, 76, 166, 167, 168, 169, 170, 171, 172, 173, 174, 175, 176, 177, 178, 179, 180, 181, 182, 183, 116, 184, 185, 186, 187, 188, 189, 190, 191, 192, 193, 194, 195, 196, 197, 198, 199, 200, 201, 202, 203, 204, 205, 206, 207, 208, 209, 260, 261, 262, 263, 82, 83, 84, 264, 265, 266, 267, 268, 269, 270, 271, 241, 215, 216, 217, 272, 273, 274, 275, 344, 345, 346, 347, 348, 349, 350, 362, 363, 364, 365, 366, 367, 368, 369, 370, 371, 351, 352, 353, 354, 372, 373] (by decide +kernel) (by decide +kernel)
set_option maxRecDepth 20000 in
theorem gL_same_X8_best : GoodIn wsL_same (wsV RL 96 RX8 yX8_best wsX8_best) := goodIn_app (goodIn_of _ (by decide +kernel)) ggL_same_X8_best
set_option maxRecDepth 20000 in
theorem ggL_same_X8_bridge : GoodIn wsL_same wsX8_bridge := goodIn_r _ [301, 17, 222, 23, 124, 125, 126, 22, 127, 61, 60, 59, 128, 129, 130, 16, 131, 41, 42, 44, 132, 133, 134, 135, 45, 136, 137, 138, 34, 139, 52, 140, 53, 225, 226, 227, 3, 228, 31, 153, 154, 155, 30, 156, 77, 157, 78, 79, 158, 80, 159, 81, 160, 161, 121, 122, 123, 162, 163, 164, 165, 74, 76, 166, 167, 168, 169, 170, 171, 172, 173, 174, 175, 176, 177, 178, 179, 180, 181, 182, 183, 116, 184, 185, 186, 187, 188, 189, 190, 191, 192, 193, 194, 195, 196, 197, 198, 199, 200, 201, 202, 203, 204, 205, 206, 207, 208, 209, 229, 230, 231, 232, 233, 234, 235, 236, 237, 238, 239, 240, 241, 215, 216, 217, 344, 345, 346, 347, 348, 349, 350, 351, 352, 353, 354, 355, 356, 357, 372, 373, 362, 363, 364, 365, 366, 367, 368, 369, 370, 371] (by decide +kernel) (by decide +kernel)
set_option maxRecDepth 20000 in
theorem gL_same_X8_bridge : GoodIn wsL_same (wsV RL 209 RX8 yX8_bridge wsX8_bridge) := goodIn_app (goodIn_of _ (by decide +kernel)) ggL_same_X8_bridge
set_option maxRecDepth 20000 in
theorem ggL_same_X8_entry : GoodIn wsL_same wsX8_entry := goodIn_r _ [305, 31, 17, 150, 151, 3, 152, 90, 91, 92, 280, 281, 282, 283, 153, 154, 155, 30, 156, 77, 157, 78, 79, 158, 80, 159, 81, 160, 161, 121, 122, 16, 123, 41, 42, 162, 163, 164, 165, 74, 76, 166, 167, 168, 169, 170, 171, 172, 173, 174, 175, 176, 177, 178, 179, 180, 181, 182, 183, 116, 184, 185, 186, 187, 188, 189, 190, 191, 192, 193, 194, 195, 196, 197, 198, 199, 200, 201, 202, 203, 204, 205, 206, 207, 208, 209, 210, 211, 212, 213, 306, 269, 270, 271, 241, 215, 216, 217, 307, 273, 274, 275, 344, 345, 346, 347, 348, 349, 350, 362, 363, 364, 365, 366, 367, 368, 369, 370, 371, 351, 352, 353, 354, 372, 373] (by decide +kernel) (by decide +kernel)
set_option maxRecDepth 20000 in
theorem gL_same_X8_entry : GoodIn wsL_same (wsV RL 76 RX8 yX8_entry wsX8_entry) := goodIn_app (goodIn_of _ (by decide +kernel)) ggL_same_X8_entry
set_option maxRecDepth 20000 in
theorem ggL_same_X8_setting : GoodIn wsL_same wsX8_setting := goodIn_r _ [311, 17, 312, 23, 313, 314, 16, 315, 316, 98, 95, 99, 100, 101, 102, 103, 104, 317, 318, 319, 320, 141, 106, 107, 108, 109, 110, 111, 112, 113, 321, 322, 323, 324, 325, 326, 327, 124, 125, 126, 22, 127, 61, 60, 59, 128, 129, 130, 131, 41, 42, 44, 132, 133, 134, 135, 45, 136, 137, 138, 34, 139, 52, 140, 53, 344, 345, 346, 347, 348, 349, 350, 351, 352, 353, 354, 355, 356, 357, 372, 373] (by decide +kernel) (by decide +kernel)
set_option maxRecDepth 20000 in
theorem gL_same_X8_setting : GoodIn wsL_same (wsV RL 59 RX8 yX8_setting wsX8_setting) := goodIn_app (goodIn_of _ (by decide +kernel)) ggL_same_X8_setting
set_option maxRecDepth 20000 in
theorem ggL_same_X8_set : GoodIn wsL_same wsX8_set := goodIn_r _ [331, 17, 332, 23, 90, 91, 3, 92, 120, 121, 122, 16, 123, 41, 42, 333, 334, 335, 34, 336, 53, 93, 94, 95, 96, 97, 98, 99, 100, 101, 102, 103, 104, 105, 106, 107, 108, 109, 110, 111, 112, 113, 114, 115, 116, 117, 118, 119, 141, 337, 338, 339, 124, 125, 126, 22, 127, 61, 60, 59, 128, 129, 130, 131, 44, 132, 133, 134, 135, 45, 136, 137, 138, 139, 52, 140, 344, 345, 346, 347, 348, 349, 350, 372, 373, 351, 352, 353, 354, 355, 356, 357] (by decide +kernel) (by decide +kernel)
set_option maxRecDepth 20000 in
theorem gL_same_X8_set : GoodIn wsL_same (wsV RL 37 RX8 yX8_set wsX8_set) := goodIn_app (goodIn_of _ (by decide +kernel)) ggL_same_X8_set
set_option maxRecDepth 20000 in
theorem ggL_same_X8_cut : GoodIn wsL_same wsX8_cut := goodIn_r _ [343, 17, 89, 23, 90, 91, 3, 92, 120, 121, 122, 16, 123, 41, 42, 124, 125, 126, 22, 127, 61, 60, 59, 128, 129, 130, 131, 44, 132, 133, 134, 135, 45, 136, 137, 138, 34, 139, 52, 140, 53, 344, 345, 346, 347, 348, 349, 350, 372, 373, 351, 352, 353, 354, 355, 356, 357] (by decide +kernel) (by decide +kernel)
set_option maxRecDepth 20000 in
theorem gL_same_X8_cut : GoodIn wsL_same (wsV RL 29 RX8 yX8_cut wsX8_cut) := goodIn_app (goodIn_of _ (by decide +kernel)) ggL_same_X8_cut
theorem dL_same_0 : decode cL_same 0 = .ok (.new 10, 3) := by decide +kernel
theorem dL_same_3 : decode cL_same 3 = .ok (.dup, 1) := by decide +kernel
theorem dL_same_4 : decode cL_same 4 = .ok (.invokespecial 114, 3) := by decide +kernel
theorem dL_same_7 : decode cL_same 7 = .ok (.astore_n 0, 1) := by decide +kernel
theorem dL_same_8 : decode cL_same 8 = .ok (.iconst 0, 1) := by decide +kernel
theorem dL_same_9 : decode cL_same 9 = .ok (.istore_n 1, 1) := by decide +kernel
theorem dL_same_10 : decode cL_same 10 = .ok (.iload_n 1, 1) := by decide +kernel
theorem dL_same_11 : decode cL_same 11 = .ok (.iconst 3, 1) := by decide +kernel
theorem dL_same_12 : decode cL_same 12 = .ok (.if_icmp .ge 25, 3) := by decide +kernel
theorem dL_same_15 : decode cL_same 15 = .ok (.aload_n 0, 1) := by decide +kernel
theorem dL_same_16 : decode cL_same 16 = .ok (.iconst 0, 1) := by decide +kernel
theorem dL_same_17 : decode cL_same 17 = .ok (.ldc2_w 57, 3) := by decide +kernel
theorem dL_same_20 : decode cL_same 20 = .ok (.invokevirtual 25, 3) := by decide +kernel
theorem dL_same_23 : decode cL_same 23 = .ok (.iload_n 1, 1) := by decide +kernel
theorem dL_same_24 : decode cL_same 24 = .ok (.iconst 1, 1) := by decide +kernel
theorem dL_same_25 : decode cL_same 25 = .ok (.iadd, 1) := by decide +kernel
theorem dL_same_26 : decode cL_same 26 = .ok (.if_icmp .eq 5, 3) := by decide +kernel
theorem dL_same_29 : decode cL_same 29 = .ok (.iconst 0, 1) := by decide +kernel
theorem dL_same_30 : decode cL_same 30 = .ok (.ireturn, 1) := by decide +kernel
theorem dL_same_31 : decode cL_same 31 = .ok (.iinc 1 1, 3) := by decide +kernel
theorem dL_same_34 : decode cL_same 34 = .ok (.goto (-24), 3) := by decide +kernel
theorem dL_same_37 : decode cL_same 37 = .ok (.aload_n 0, 1) := by decide +kernel
theorem dL_same_38 : decode cL_same 38 = .ok (.iconst 0, 1) := by decide +kernel
theorem dL_same_39 : decode cL_same 39 = .ok (.iconst 0, 1) := by decide +kernel
theorem dL_same_40 : decode cL_same 40 = .ok (.iconst 1, 1) := by decide +kernel
theorem dL_same_41 : decode cL_same 41 = .ok (.iconst 0, 1) := by decide +kernel
theorem dL_same_42 : decode cL_same 42 = .ok (.invokevirtual 80, 3) := by decide +kernel
theorem dL_same_45 : decode cL_same 45 = .ok (.iconst 2, 1) := by decide +kernel
theorem dL_same_46 : decode cL_same 46 = .ok (.if_icmp .ne 152, 3) := by decide +kernel
theorem dL_same_49 : decode cL_same 49 = .ok (.aload_n 0, 1) := by decide +kernel
theorem dL_same_50 : decode cL_same 50 = .ok (.iconst 0, 1) := by decide +kernel
theorem dL_same_51 : decode cL_same 51 = .ok (.iconst 0, 1) := by decide +kernel
theorem dL_same_52 : decode cL_same 52 = .ok (.iconst 2, 1) := by decide +kernel
theorem dL_same_53 : decode cL_same 53 = .ok (.iconst 0, 1) := by decide +kernel
theorem dL_same_54 : decode cL_same 54 = .ok (.invokevirtual 80, 3) := by decide +kernel
theorem dL_same_57 : decode cL_same 57 = .ok (.iconst 3, 1) := by decide +kernel
theorem dL_same_58 : decode cL_same 58 = .ok (.if_icmp .ne 140, 3) := by decide +kernel
theorem dL_same_61 : decode cL_same 61 = .ok (.aload_n 0, 1) := by decide +kernel
theorem dL_same_62 : decode cL_same 62 = .ok (.iconst 0, 1) := by decide +kernel
theorem dL_same_63 : decode cL_same 63 = .ok (.iconst 2, 1) := by decide +kernel
theorem dL_same_64 : decode cL_same 64 = .ok (.iconst 1, 1) := by decide +kernel
theorem dL_same_65 : decode cL_same 65 = .ok (.iconst 0, 1) := by decide +kernel
theorem dL_same_66 : decode cL_same 66 = .ok (.invokevirtual 80, 3) := by decide +kernel
theorem dL_same_69 : decode cL_same 69 = .ok (.iconst 2, 1) := by decide +kernel
theorem dL_same_70 : decode cL_same 70 = .ok (.if_icmp .ne 128, 3) := by decide +kernel
theorem dL_same_73 : decode cL_same 73 = .ok (.aload_n 0, 1) := by decide +kernel
theorem dL_same_74 : decode cL_same 74 = .ok (.iconst 0, 1) := by decide +kernel
theorem dL_same_75 : decode cL_same 75 = .ok (.iconst 3, 1) := by decide +kernel
theorem dL_same_76 : decode cL_same 76 = .ok (.iconst 2, 1) := by decide +kernel
theorem dL_same_77 : decode cL_same 77 = .ok (.iconst 0, 1) := by decide +kernel
theorem dL_same_78 : decode cL_same 78 = .ok (.invokevirtual 80, 3) := by decide +kernel
theorem dL_same_81 : decode cL_same 81 = .ok (.ifCond .ne 117, 3) := by decide +kernel
theorem dL_same_84 : decode cL_same 84 = .ok (.aload_n 0, 1) := by decide +kernel
theorem dL_same_85 : decode cL_same 85 = .ok (.iconst 3, 1) := by decide +kernel
theorem dL_same_86 : decode cL_same 86 = .ok (.invokevirtual 33, 3) := by decide +kernel
theorem dL_same_89 : decode cL_same 89 = .ok (.bipush 7, 2) := by decide +kernel
theorem dL_same_91 : decode cL_same 91 = .ok (.if_icmp .ne 107, 3) := by decide +kernel
theorem dL_same_94 : decode cL_same 94 = .ok (.aload_n 0, 1) := by decide +kernel
theorem dL_same_95 : decode cL_same 95 = .ok (.iconst 0, 1) := by decide +kernel
theorem dL_same_96 : decode cL_same 96 = .ok (.iconst 0, 1) := by decide +kernel
theorem dL_same_97 : decode cL_same 97 = .ok (.iconst 1, 1) := by decide +kernel
theorem dL_same_98 : decode cL_same 98 = .ok (.invokevirtual 84, 3) := by decide +kernel
theorem dL_same_101 : decode cL_same 101 = .ok (.iconst 3, 1) := by decide +kernel
theorem dL_same_102 : decode cL_same 102 = .ok (.if_icmp .ne 96, 3) := by decide +kernel
theorem dL_same_105 : decode cL_same 105 = .ok (.aload_n 0, 1) := by decide +kernel
theorem dL_same_106 : decode cL_same 106 = .ok (.iconst 0, 1) := by decide +kernel
theorem dL_same_107 : decode cL_same 107 = .ok (.iconst 0, 1) := by decide +kernel
theorem dL_same_108 : decode cL_same 108 = .ok (.iconst 3, 1) := by decide +kernel
theorem dL_same_109 : decode cL_same 109 = .ok (.invokevirtual 84, 3) := by decide +kernel
theorem dL_same_112 : decode cL_same 112 = .ok (.iconst 1, 1) := by decide +kernel
theorem dL_same_113 : decode cL_same 113 = .ok (.if_icmp .ne 85, 3) := by decide +kernel
theorem dL_same_116 : decode cL_same 116 = .ok (.aload_n 0, 1) := by decide +kernel
theorem dL_same_117 : decode cL_same 117 = .ok (.iconst 0, 1) := by decide +kernel
theorem dL_same_118 : decode cL_same 118 = .ok (.iconst 3, 1) := by decide +kernel
theorem dL_same_119 : decode cL_same 119 = .ok (.iconst 3, 1) := by decide +kernel
theorem dL_same_120 : decode cL_same 120 = .ok (.invokevirtual 84, 3) := by decide +kernel
theorem dL_same_123 : decode cL_same 123 = .ok (.bipush (-5), 2) := by decide +kernel
theorem dL_same_125 : decode cL_same 125 = .ok (.if_icmp .ne 73, 3) := by decide +kernel
theorem dL_same_128 : decode cL_same 128 = .ok (.aload_n 0, 1) := by decide +kernel
theorem dL_same_129 : decode cL_same 129 = .ok (.iconst 0, 1) := by decide +kernel
theorem dL_same_130 : decode cL_same 130 = .ok (.iconst 0, 1) := by decide +kernel
theorem dL_same_131 : decode cL_same 131 = .ok (.iconst 4, 1) := by decide +kernel
theorem dL_same_132 : decode cL_same 132 = .ok (.invokevirtual 84, 3) := by decide +kernel
theorem dL_same_135 : decode cL_same 135 = .ok (.bipush (-5), 2) := by decide +kernel
theorem dL_same_137 : decode cL_same 137 = .ok (.if_icmp .ne 61, 3) := by decide +kernel
theorem dL_same_140 : decode cL_same 140 = .ok (.aload_n 0, 1) := by decide +kernel
theorem dL_same_141 : decode cL_same 141 = .ok (.iconst 0, 1) := by decide +kernel
theorem dL_same_142 : decode cL_same 142 = .ok (.iconst 0, 1) := by decide +kernel
theorem dL_same_143 : decode cL_same 143 = .ok (.invokevirtual 87, 3) := by decide +kernel
theorem dL_same_146 : decode cL_same 146 = .ok (.dconst 1, 1) := by decide +kernel
theorem dL_same_147 : decode cL_same 147 = .ok (.dcmp .l, 1) := by decide +kernel
theorem dL_same_148 : decode cL_same 148 = .ok (.ifCond .ne 50, 3) := by decide +kernel
theorem dL_same_151 : decode cL_same 151 = .ok (.aload_n 0, 1) := by decide +kernel
theorem dL_same_152 : decode cL_same 152 = .ok (.iconst 0, 1) := by decide +kernel
theorem dL_same_153 : decode cL_same 153 = .ok (.iconst 0, 1) := by decide +kernel
theorem dL_same_154 : decode cL_same 154 = .ok (.invokevirtual 90, 3) := by decide +kernel
theorem dL_same_157 : decode cL_same 157 = .ok (.aload_n 0, 1) := by decide +kernel
theorem dL_same_158 : decode cL_same 158 = .ok (.iconst 0, 1) := by decide +kernel
theorem dL_same_159 : decode cL_same 159 = .ok (.iconst 0, 1) := by decide +kernel
theorem dL_same_160 : decode cL_same 160 = .ok (.invokevirtual 90, 3) := by decide +kernel
theorem dL_same_163 : decode cL_same 163 = .ok (.dcmp .l, 1) := by decide +kernel
theorem dL_same_164 : decode cL_same 164 = .ok (.ifCond .eq 34, 3) := by decide +kernel
theorem dL_same_167 : decode cL_same 167 = .ok (.aload_n 0, 1) := by decide +kernel
theorem dL_same_168 : decode cL_same 168 = .ok (.iconst 0, 1) := by decide +kernel
theorem dL_same_169 : decode cL_same 169 = .ok (.invokevirtual 96, 3) := by decide +kernel
theorem dL_same_172 : decode cL_same 172 = .ok (.iconst 3, 1) := by decide +kernel
theorem dL_same_173 : decode cL_same 173 = .ok (.if_icmp .ne 25, 3) := by decide +kernel
theorem dL_same_176 : decode cL_same 176 = .ok (.aload_n 0, 1) := by decide +kernel
theorem dL_same_177 : decode cL_same 177 = .ok (.iconst 0, 1) := by decide +kernel
theorem dL_same_178 : decode cL_same 178 = .ok (.iconst 3, 1) := by decide +kernel
theorem dL_same_179 : decode cL_same 179 = .ok (.invokevirtual 90, 3) := by decide +kernel
theorem dL_same_182 : decode cL_same 182 = .ok (.dconst 0, 1) := by decide +kernel
theorem dL_same_183 : decode cL_same 183 = .ok (.dcmp .l, 1) := by decide +kernel
theorem dL_same_184 : decode cL_same 184 = .ok (.ifCond .ne 14, 3) := by decide +kernel
theorem dL_same_187 : decode cL_same 187 = .ok (.aload_n 0, 1) := by decide +kernel
theorem dL_same_188 : decode cL_same 188 = .ok (.iconst 0, 1) := by decide +kernel
theorem dL_same_189 : decode cL_same 189 = .ok (.iconst 3, 1) := by decide +kernel
theorem dL_same_190 : decode cL_same 190 = .ok (.iconst 4, 1) := by decide +kernel
theorem dL_same_191 : decode cL_same 191 = .ok (.invokevirtual 84, 3) := by decide +kernel
theorem dL_same_194 : decode cL_same 194 = .ok (.iconst 1, 1) := by decide +kernel
theorem dL_same_195 : decode cL_same 195 = .ok (.if_icmp .eq 5, 3) := by decide +kernel
theorem dL_same_198 : decode cL_same 198 = .ok (.iconst 0, 1) := by decide +kernel
theorem dL_same_199 : decode cL_same 199 = .ok (.ireturn, 1) := by decide +kernel
theorem dL_same_200 : decode cL_same 200 = .ok (.aload_n 0, 1) := by decide +kernel
theorem dL_same_201 : decode cL_same 201 = .ok (.iconst 0, 1) := by decide +kernel
theorem dL_same_202 : decode cL_same 202 = .ok (.invokevirtual 209, 3) := by decide +kernel
theorem dL_same_205 : decode cL_same 205 = .ok (.bipush (-5), 2) := by decide +kernel
theorem dL_same_207 : decode cL_same 207 = .ok (.if_icmp .ne 124, 3) := by decide +kernel
theorem dL_same_210 : decode cL_same 210 = .ok (.aload_n 0, 1) := by decide +kernel
theorem dL_same_211 : decode cL_same 211 = .ok (.iconst 1, 1) := by decide +kernel
theorem dL_same_212 : decode cL_same 212 = .ok (.invokevirtual 209, 3) := by decide +kernel
theorem dL_same_215 : decode cL_same 215 = .ok (.ifCond .ne 116, 3) := by decide +kernel
theorem dL_same_218 : decode cL_same 218 = .ok (.aload_n 0, 1) := by decide +kernel
theorem dL_same_219 : decode cL_same 219 = .ok (.iconst 2, 1) := by decide +kernel
theorem dL_same_220 : decode cL_same 220 = .ok (.invokevirtual 33, 3) := by decide +kernel
theorem dL_same_223 : decode cL_same 223 = .ok (.iconst 1, 1) := by decide +kernel
theorem dL_same_224 : decode cL_same 224 = .ok (.if_icmp .ne 107, 3) := by decide +kernel
theorem dL_same_227 : decode cL_same 227 = .ok (.aload_n 0, 1) := by decide +kernel
theorem dL_same_228 : decode cL_same 228 = .ok (.iconst 0, 1) := by decide +kernel
theorem dL_same_229 : decode cL_same 229 = .ok (.iconst 0, 1) := by decide +kernel
theorem dL_same_230 : decode cL_same 230 = .ok (.iconst 1, 1) := by decide +kernel
theorem dL_same_231 : decode cL_same 231 = .ok (.iconst 0, 1) := by decide +kernel
theorem dL_same_232 : decode cL_same 232 = .ok (.invokevirtual 80, 3) := by decide +kernel
theorem dL_same_235 : decode cL_same 235 = .ok (.iconst 1, 1) := by decide +kernel
theorem dL_same_236 : decode cL_same 236 = .ok (.if_icmp .ne 95, 3) := by decide +kernel
theorem dL_same_239 : decode cL_same 239 = .ok (.aload_n 0, 1) := by decide +kernel
theorem dL_same_240 : decode cL_same 240 = .ok (.iconst 0, 1) := by decide +kernel
theorem dL_same_241 : decode cL_same 241 = .ok (.iconst 0, 1) := by decide +kernel
theorem dL_same_242 : decode cL_same 242 = .ok (.iconst 1, 1) := by decide +kernel
theorem dL_same_243 : decode cL_same 243 = .ok (.iconst 0, 1) := by decide +kernel
theorem dL_same_244 : decode cL_same 244 = .ok (.invokevirtual 76, 3) := by decide +kernel
theorem dL_same_247 : decode cL_same 247 = .ok (.dconst 0, 1) := by decide +kernel
theorem dL_same_248 : decode cL_same 248 = .ok (.dcmp .l, 1) := by decide +kernel
theorem dL_same_249 : decode cL_same 249 = .ok (.ifCond .ne 82, 3) := by decide +kernel
theorem dL_same_252 : decode cL_same 252 = .ok (.aload_n 0, 1) := by decide +kernel
theorem dL_same_253 : decode cL_same 253 = .ok (.iconst 0, 1) := by decide +kernel
theorem dL_same_254 : decode cL_same 254 = .ok (.iconst 0, 1) := by decide +kernel
theorem dL_same_255 : decode cL_same 255 = .ok (.iconst 2, 1) := by decide +kernel
theorem dL_same_256 : decode cL_same 256 = .ok (.iconst 0, 1) := by decide +kernel
theorem dL_same_257 : decode cL_same 257 = .ok (.invokevirtual 80, 3) := by decide +kernel
theorem dL_same_260 : decode cL_same 260 = .ok (.iconst 1, 1) := by decide +kernel
theorem dL_same_261 : decode cL_same 261 = .ok (.if_icmp .ne 70, 3) := by decide +kernel
theorem dL_same_264 : decode cL_same 264 = .ok (.aload_n 0, 1) := by decide +kernel
theorem dL_same_265 : decode cL_same 265 = .ok (.iconst 0, 1) := by decide +kernel
theorem dL_same_266 : decode cL_same 266 = .ok (.iconst 0, 1) := by decide +kernel
theorem dL_same_267 : decode cL_same 267 = .ok (.iconst 2, 1) := by decide +kernel
theorem dL_same_268 : decode cL_same 268 = .ok (.iconst 0, 1) := by decide +kernel
theorem dL_same_269 : decode cL_same 269 = .ok (.invokevirtual 76, 3) := by decide +kernel
theorem dL_same_272 : decode cL_same 272 = .ok (.dconst 1, 1) := by decide +kernel
theorem dL_same_273 : decode cL_same 273 = .ok (.dcmp .l, 1) := by decide +kernel
theorem dL_same_274 : decode cL_same 274 = .ok (.ifCond .ne 57, 3) := by decide +kernel
theorem dL_same_277 : decode cL_same 277 = .ok (.aload_n 0, 1) := by decide +kernel
theorem dL_same_278 : decode cL_same 278 = .ok (.iconst 0, 1) := by decide +kernel
theorem dL_same_279 : decode cL_same 279 = .ok (.iconst 0, 1) := by decide +kernel
theorem dL_same_280 : decode cL_same 280 = .ok (.iconst 2, 1) := by decide +kernel
theorem dL_same_281 : decode cL_same 281 = .ok (.invokevirtual 84, 3) := by decide +kernel
theorem dL_same_284 : decode cL_same 284 = .ok (.iconst 3, 1) := by decide +kernel
theorem dL_same_285 : decode cL_same 285 = .ok (.if_icmp .ne 46, 3) := by decide +kernel
theorem dL_same_288 : decode cL_same 288 = .ok (.aload_n 0, 1) := by decide +kernel
theorem dL_same_289 : decode cL_same 289 = .ok (.iconst 0, 1) := by decide +kernel
theorem dL_same_290 : decode cL_same 290 = .ok (.iconst 2, 1) := by decide +kernel
theorem dL_same_291 : decode cL_same 291 = .ok (.iconst 2, 1) := by decide +kernel
theorem dL_same_292 : decode cL_same 292 = .ok (.invokevirtual 84, 3) := by decide +kernel
theorem dL_same_295 : decode cL_same 295 = .ok (.iconst 1, 1) := by decide +kernel
theorem dL_same_296 : decode cL_same 296 = .ok (.if_icmp .ne 35, 3) := by decide +kernel
theorem dL_same_299 : decode cL_same 299 = .ok (.aload_n 0, 1) := by decide +kernel
theorem dL_same_300 : decode cL_same 300 = .ok (.iconst 0, 1) := by decide +kernel
theorem dL_same_301 : decode cL_same 301 = .ok (.iconst 2, 1) := by decide +kernel
theorem dL_same_302 : decode cL_same 302 = .ok (.iconst 1, 1) := by decide +kernel
theorem dL_same_303 : decode cL_same 303 = .ok (.iconst 0, 1) := by decide +kernel
theorem dL_same_304 : decode cL_same 304 = .ok (.invokevirtual 76, 3) := by decide +kernel
theorem dL_same_307 : decode cL_same 307 = .ok (.dconst 1, 1) := by decide +kernel
theorem dL_same_308 : decode cL_same 308 = .ok (.dcmp .l, 1) := by decide +kernel
theorem dL_same_309 : decode cL_same 309 = .ok (.ifCond .ne 22, 3) := by decide +kernel
theorem dL_same_312 : decode cL_same 312 = .ok (.aload_n 0, 1) := by decide +kernel
theorem dL_same_313 : decode cL_same 313 = .ok (.iconst 0, 1) := by decide +kernel
theorem dL_same_314 : decode cL_same 314 = .ok (.iconst 0, 1) := by decide +kernel
theorem dL_same_315 : decode cL_same 315 = .ok (.invokevirtual 90, 3) := by decide +kernel
theorem dL_same_318 : decode cL_same 318 = .ok (.dconst 0, 1) := by decide +kernel
theorem dL_same_319 : decode cL_same 319 = .ok (.dcmp .l, 1) := by decide +kernel
theorem dL_same_320 : decode cL_same 320 = .ok (.ifCond .ne 11, 3) := by decide +kernel
theorem dL_same_323 : decode cL_same 323 = .ok (.aload_n 0, 1) := by decide +kernel
theorem dL_same_324 : decode cL_same 324 = .ok (.iconst 0, 1) := by decide +kernel
theorem dL_same_325 : decode cL_same 325 = .ok (.invokevirtual 96, 3) := by decide +kernel
theorem dL_same_328 : decode cL_same 328 = .ok (.ifCond .eq 5, 3) := by decide +kernel
theorem dL_same_331 : decode cL_same 331 = .ok (.iconst 0, 1) := by decide +kernel
theorem dL_same_332 : decode cL_same 332 = .ok (.ireturn, 1) := by decide +kernel
theorem dL_same_333 : decode cL_same 333 = .ok (.aload_n 0, 1) := by decide +kernel
theorem dL_same_334 : decode cL_same 334 = .ok (.iconst 0, 1) := by decide +kernel
theorem dL_same_335 : decode cL_same 335 = .ok (.invokevirtual 209, 3) := by decide +kernel
theorem dL_same_338 : decode cL_same 338 = .ok (.bipush 7, 2) := by decide +kernel
theorem dL_same_340 : decode cL_same 340 = .ok (.if_icmp .ne 48, 3) := by decide +kernel
theorem dL_same_343 : decode cL_same 343 = .ok (.aload_n 0, 1) := by decide +kernel
theorem dL_same_344 : decode cL_same 344 = .ok (.iconst 0, 1) := by decide +kernel
theorem dL_same_345 : decode cL_same 345 = .ok (.ldc2_w 57, 3) := by decide +kernel
theorem dL_same_348 : decode cL_same 348 = .ok (.invokevirtual 59, 3) := by decide +kernel
theorem dL_same_351 : decode cL_same 351 = .ok (.ifCond .ne 37, 3) := by decide +kernel
theorem dL_same_354 : decode cL_same 354 = .ok (.aload_n 0, 1) := by decide +kernel
theorem dL_same_355 : decode cL_same 355 = .ok (.iconst 0, 1) := by decide +kernel
theorem dL_same_356 : decode cL_same 356 = .ok (.iconst 3, 1) := by decide +kernel
theorem dL_same_357 : decode cL_same 357 = .ok (.iconst 1, 1) := by decide +kernel
theorem dL_same_358 : decode cL_same 358 = .ok (.iconst 0, 1) := by decide +kernel
theorem dL_same_359 : decode cL_same 359 = .ok (.invokevirtual 80, 3) := by decide +kernel
theorem dL_same_362 : decode cL_same 362 = .ok (.iconst 2, 1) := by decide +kernel
theorem dL_same_363 : decode cL_same 363 = .ok (.if_icmp .ne 25, 3) := by decide +kernel
theorem dL_same_366 : decode cL_same 366 = .ok (.aload_n 0, 1) := by decide +kernel
theorem dL_same_367 : decode cL_same 367 = .ok (.iconst 0, 1) := by decide +kernel
theorem dL_same_368 : decode cL_same 368 = .ok (.iconst 3, 1) := by decide +kernel
theorem dL_same_369 : decode cL_same 369 = .ok (.iconst 2, 1) := by decide +kernel
theorem dL_same_370 : decode cL_same 370 = .ok (.iconst 0, 1) := by decide +kernel
theorem dL_same_371 : decode cL_same 371 = .ok (.invokevirtual 80, 3) := by decide +kernel
theorem dL_same_374 : decode cL_same 374 = .ok (.iconst 3, 1) := by decide +kernel
theorem dL_same_375 : decode cL_same 375 = .ok (.if_icmp .ne 13, 3) := by decide +kernel
theorem dL_same_378 : decode cL_same 378 = .ok (.aload_n 0, 1) := by decide +kernel
theorem dL_same_379 : decode cL_same 379 = .ok (.iconst 3, 1) := by decide +kernel
theorem dL_same_380 : decode cL_same 380 = .ok (.invokevirtual 33, 3) := by decide +kernel
theorem dL_same_383 : decode cL_same 383 = .ok (.bipush 10, 2) := by decide +kernel
theorem dL_same_385 : decode cL_same 385 = .ok (.if_icmp .eq 5, 3) := by decide +kernel
theorem dL_same_388 : decode cL_same 388 = .ok (.iconst 0, 1) := by decide +kernel
theorem dL_same_389 : decode cL_same 389 = .ok (.ireturn, 1) := by decide +kernel
theorem dL_same_390 : decode cL_same 390 = .ok (.aload_n 0, 1) := by decide +kernel
theorem dL_same_391 : decode cL_same 391 = .ok (.iconst 0, 1) := by decide +kernel
theorem dL_same_392 : decode cL_same 392 = .ok (.iconst 1, 1) := by decide +kernel
theorem dL_same_393 : decode cL_same 393 = .ok (.ldc2_w 203, 3) := by decide +kernel
theorem dL_same_396 : decode cL_same 396 = .ok (.invokevirtual 37, 3) := by decide +kernel
theorem dL_same_399 : decode cL_same 399 = .ok (.iconst 1, 1) := by decide +kernel
theorem dL_same_400 : decode cL_same 400 = .ok (.if_icmp .ne 90, 3) := by decide +kernel
theorem dL_same_403 : decode cL_same 403 = .ok (.aload_n 0, 1) := by decide +kernel
theorem dL_same_404 : decode cL_same 404 = .ok (.iconst 0, 1) := by decide +kernel
theorem dL_same_405 : decode cL_same 405 = .ok (.iconst 0, 1) := by decide +kernel
theorem dL_same_406 : decode cL_same 406 = .ok (.iconst 1, 1) := by decide +kernel
theorem dL_same_407 : decode cL_same 407 = .ok (.iconst 0, 1) := by decide +kernel
theorem dL_same_408 : decode cL_same 408 = .ok (.invokevirtual 80, 3) := by decide +kernel
theorem dL_same_411 : decode cL_same 411 = .ok (.ifCond .ne 79, 3) := by decide +kernel
theorem dL_same_414 : decode cL_same 414 = .ok (.aload_n 0, 1) := by decide +kernel
theorem dL_same_415 : decode cL_same 415 = .ok (.iconst 0, 1) := by decide +kernel
theorem dL_same_416 : decode cL_same 416 = .ok (.iconst 0, 1) := by decide +kernel
theorem dL_same_417 : decode cL_same 417 = .ok (.iconst 1, 1) := by decide +kernel
theorem dL_same_418 : decode cL_same 418 = .ok (.iconst 0, 1) := by decide +kernel
theorem dL_same_419 : decode cL_same 419 = .ok (.invokevirtual 76, 3) := by decide +kernel
theorem dL_same_422 : decode cL_same 422 = .ok (.ldc2_w 197, 3) := by decide +kernel
theorem dL_same_425 : decode cL_same 425 = .ok (.dcmp .l, 1) := by decide +kernel
theorem dL_same_426 : decode cL_same 426 = .ok (.ifCond .ne 64, 3) := by decide +kernel
theorem dL_same_429 : decode cL_same 429 = .ok (.aload_n 0, 1) := by decide +kernel
theorem dL_same_430 : decode cL_same 430 = .ok (.iconst 0, 1) := by decide +kernel
theorem dL_same_431 : decode cL_same 431 = .ok (.iconst 1, 1) := by decide +kernel
theorem dL_same_432 : decode cL_same 432 = .ok (.ldc2_w 213, 3) := by decide +kernel
theorem dL_same_435 : decode cL_same 435 = .ok (.invokevirtual 37, 3) := by decide +kernel
theorem dL_same_438 : decode cL_same 438 = .ok (.iconst 1, 1) := by decide +kernel
theorem dL_same_439 : decode cL_same 439 = .ok (.if_icmp .ne 51, 3) := by decide +kernel
theorem dL_same_442 : decode cL_same 442 = .ok (.aload_n 0, 1) := by decide +kernel
theorem dL_same_443 : decode cL_same 443 = .ok (.iconst 0, 1) := by decide +kernel
theorem dL_same_444 : decode cL_same 444 = .ok (.iconst 0, 1) := by decide +kernel
theorem dL_same_445 : decode cL_same 445 = .ok (.iconst 1, 1) := by decide +kernel
theorem dL_same_446 : decode cL_same 446 = .ok (.iconst 0, 1) := by decide +kernel
theorem dL_same_447 : decode cL_same 447 = .ok (.invokevirtual 80, 3) := by decide +kernel
theorem dL_same_450 : decode cL_same 450 = .ok (.iconst 2, 1) := by decide +kernel
theorem dL_same_451 : decode cL_same 451 = .ok (.if_icmp .ne 39, 3) := by decide +kernel
theorem dL_same_454 : decode cL_same 454 = .ok (.aload_n 0, 1) := by decide +kernel
theorem dL_same_455 : decode cL_same 455 = .ok (.iconst 0, 1) := by decide +kernel
theorem dL_same_456 : decode cL_same 456 = .ok (.iconst 2, 1) := by decide +kernel
theorem dL_same_457 : decode cL_same 457 = .ok (.invokevirtual 29, 3) := by decide +kernel
theorem dL_same_460 : decode cL_same 460 = .ok (.iconst 1, 1) := by decide +kernel
theorem dL_same_461 : decode cL_same 461 = .ok (.if_icmp .ne 29, 3) := by decide +kernel
theorem dL_same_464 : decode cL_same 464 = .ok (.aload_n 0, 1) := by decide +kernel
theorem dL_same_465 : decode cL_same 465 = .ok (.iconst 0, 1) := by decide +kernel
theorem dL_same_466 : decode cL_same 466 = .ok (.iconst 2, 1) := by decide +kernel
theorem dL_same_467 : decode cL_same 467 = .ok (.iconst 0, 1) := by decide +kernel
theorem dL_same_468 : decode cL_same 468 = .ok (.invokevirtual 84, 3) := by decide +kernel
theorem dL_same_471 : decode cL_same 471 = .ok (.iconst 1, 1) := by decide +kernel
theorem dL_same_472 : decode cL_same 472 = .ok (.if_icmp .ne 18, 3) := by decide +kernel
theorem dL_same_475 : decode cL_same 475 = .ok (.aload_n 0, 1) := by decide +kernel
theorem dL_same_476 : decode cL_same 476 = .ok (.iconst 0, 1) := by decide +kernel
theorem dL_same_477 : decode cL_same 477 = .ok (.iconst 2, 1) := by decide +kernel
theorem dL_same_478 : decode cL_same 478 = .ok (.invokevirtual 87, 3) := by decide +kernel
theorem dL_same_481 : decode cL_same 481 = .ok (.dconst 1, 1) := by decide +kernel
theorem dL_same_482 : decode cL_same 482 = .ok (.dcmp .l, 1) := by decide +kernel
theorem dL_same_483 : decode cL_same 483 = .ok (.ifCond .ne 7, 3) := by decide +kernel
theorem dL_same_486 : decode cL_same 486 = .ok (.iconst 1, 1) := by decide +kernel
theorem dL_same_487 : decode cL_same 487 = .ok (.goto 4, 3) := by decide +kernel
theorem dL_same_490 : decode cL_same 490 = .ok (.iconst 0, 1) := by decide +kernel
theorem dL_same_491 : decode cL_same 491 = .ok (.ireturn, 1) := by decide +kernel
set_option maxRecDepth 20000 in
theorem ggL_isAs_X8_count : GoodIn wsL_isAs wsX8_count := goodIn_r _ [13, 14, 15, 16, 17, 18, 19, 20, 21, 22, 23, 24, 25, 26, 27, 28, 29, 30, 12, 31, 32, 33, 34, 35, 36, 37, 38, 39, 40, 41, 42, 43, 44, 45, 46, 47, 48, 49, 50, 51, 52, 53, 54, 55, 56, 57, 58, 59, 60, 61, 62, 63, 64, 65, 66, 67, 68, 69, 70, 71, 72, 73, 74, 75, 76, 77, 78, 79, 80, 81, 82, 83, 84, 85, 86, 87, 88, 89, 90, 91, 92, 93, 94, 95, 96, 97, 98, 99, 100, 101, 102, 103, 104, 105, 106, 107, 108, 109, 110, 111, 112, 113, 114, 127, 128, 129, 130, 131, 132, 133, 134, 135, 136, 137, 138, 139, 140, 141, 142, 143, 144, 145, 146, 147, 148, 149, 150, 151, 152, 153, 154, 155, 156] (by decide +kernel) (by decide +kernel)
set_option maxRecDepth 20000 in
theorem gL_isAs_X8_count : GoodIn wsL_isAs (wsV RL 33 RX8 yX8_count wsX8_count) := goodIn_app (goodIn_of _ (by decide +kernel)) ggL_isAs_X8_count
set_option maxRecDepth 20000 in
theorem ggL_isAs_X8_told : GoodIn wsL_isAs wsX8_told := goodIn_r _ [118, 14, 119, 120, 121, 24, 122, 123, 124, 12, 125, 126, 127, 128, 129, 130, 131, 132, 133, 136, 137, 138, 139] (by decide +kernel) (by decide +kernel)
set_option maxRecDepth 20000 in
theorem gL_isAs_X8_told : GoodIn wsL_isAs (wsV RL 68 RX8 yX8_told wsX8_told) := goodIn_app (goodIn_of _ (by decide +kernel)) ggL_isAs_X8_told
theorem dL_isAs_0 : decode cL_isAs 0 = .ok (.aload_n 0, 1) := by decide +kernel
theorem dL_isAs_1 : decode cL_isAs 1 = .ok (.iconst 0, 1) := by decide +kernel
theorem dL_isAs_2 : decode cL_isAs 2 = .ok (.invokevirtual 33, 3) := by decide +kernel
theorem dL_isAs_5 : decode cL_isAs 5 = .ok (.i2l, 1) := by decide +kernel
theorem dL_isAs_6 : decode cL_isAs 6 = .ok (.lload_n 1, 1) := by decide +kernel
theorem dL_isAs_7 : decode cL_isAs 7 = .ok (.ldc2_w 215, 3) := by decide +kernel
theorem dL_isAs_10 : decode cL_isAs 10 = .ok (.lrem, 1) := by decide +kernel
theorem dL_isAs_11 : decode cL_isAs 11 = .ok (.lcmp, 1) := by decide +kernel
theorem dL_isAs_12 : decode cL_isAs 12 = .ok (.ifCond .ne 158, 3) := by decide +kernel
theorem dL_isAs_15 : decode cL_isAs 15 = .ok (.aload_n 0, 1) := by decide +kernel
theorem dL_isAs_16 : decode cL_isAs 16 = .ok (.iconst 1, 1) := by decide +kernel
theorem dL_isAs_17 : decode cL_isAs 17 = .ok (.invokevirtual 33, 3) := by decide +kernel
theorem dL_isAs_20 : decode cL_isAs 20 = .ok (.i2l, 1) := by decide +kernel
theorem dL_isAs_21 : decode cL_isAs 21 = .ok (.lload_n 1, 1) := by decide +kernel
theorem dL_isAs_22 : decode cL_isAs 22 = .ok (.ldc2_w 215, 3) := by decide +kernel
theorem dL_isAs_25 : decode cL_isAs 25 = .ok (.ldiv, 1) := by decide +kernel
theorem dL_isAs_26 : decode cL_isAs 26 = .ok (.ldc2_w 215, 3) := by decide +kernel
theorem dL_isAs_29 : decode cL_isAs 29 = .ok (.lrem, 1) := by decide +kernel
theorem dL_isAs_30 : decode cL_isAs 30 = .ok (.lcmp, 1) := by decide +kernel
theorem dL_isAs_31 : decode cL_isAs 31 = .ok (.ifCond .ne 139, 3) := by decide +kernel
theorem dL_isAs_34 : decode cL_isAs 34 = .ok (.aload_n 0, 1) := by decide +kernel
theorem dL_isAs_35 : decode cL_isAs 35 = .ok (.iconst 2, 1) := by decide +kernel
theorem dL_isAs_36 : decode cL_isAs 36 = .ok (.invokevirtual 33, 3) := by decide +kernel
theorem dL_isAs_39 : decode cL_isAs 39 = .ok (.i2l, 1) := by decide +kernel
theorem dL_isAs_40 : decode cL_isAs 40 = .ok (.lload_n 1, 1) := by decide +kernel
theorem dL_isAs_41 : decode cL_isAs 41 = .ok (.ldc2_w 217, 3) := by decide +kernel
theorem dL_isAs_44 : decode cL_isAs 44 = .ok (.ldiv, 1) := by decide +kernel
theorem dL_isAs_45 : decode cL_isAs 45 = .ok (.ldc2_w 219, 3) := by decide +kernel
theorem dL_isAs_48 : decode cL_isAs 48 = .ok (.lrem, 1) := by decide +kernel
theorem dL_isAs_49 : decode cL_isAs 49 = .ok (.lcmp, 1) := by decide +kernel
theorem dL_isAs_50 : decode cL_isAs 50 = .ok (.ifCond .ne 120, 3) := by decide +kernel
theorem dL_isAs_53 : decode cL_isAs 53 = .ok (.aload_n 0, 1) := by decide +kernel
theorem dL_isAs_54 : decode cL_isAs 54 = .ok (.iconst 0, 1) := by decide +kernel
theorem dL_isAs_55 : decode cL_isAs 55 = .ok (.invokevirtual 68, 3) := by decide +kernel
theorem dL_isAs_58 : decode cL_isAs 58 = .ok (.ldc2_w 193, 3) := by decide +kernel
theorem dL_isAs_61 : decode cL_isAs 61 = .ok (.dcmp .l, 1) := by decide +kernel
theorem dL_isAs_62 : decode cL_isAs 62 = .ok (.ifCond .ne 7, 3) := by decide +kernel
theorem dL_isAs_65 : decode cL_isAs 65 = .ok (.iconst 1, 1) := by decide +kernel
theorem dL_isAs_66 : decode cL_isAs 66 = .ok (.goto 4, 3) := by decide +kernel
theorem dL_isAs_69 : decode cL_isAs 69 = .ok (.iconst 0, 1) := by decide +kernel
theorem dL_isAs_70 : decode cL_isAs 70 = .ok (.lload_n 1, 1) := by decide +kernel
theorem dL_isAs_71 : decode cL_isAs 71 = .ok (.ldc2_w 221, 3) := by decide +kernel
theorem dL_isAs_74 : decode cL_isAs 74 = .ok (.ldiv, 1) := by decide +kernel
theorem dL_isAs_75 : decode cL_isAs 75 = .ok (.ldc2_w 219, 3) := by decide +kernel
theorem dL_isAs_78 : decode cL_isAs 78 = .ok (.lrem, 1) := by decide +kernel
theorem dL_isAs_79 : decode cL_isAs 79 = .ok (.lconst 1, 1) := by decide +kernel
theorem dL_isAs_80 : decode cL_isAs 80 = .ok (.lcmp, 1) := by decide +kernel
theorem dL_isAs_81 : decode cL_isAs 81 = .ok (.ifCond .ne 7, 3) := by decide +kernel
theorem dL_isAs_84 : decode cL_isAs 84 = .ok (.iconst 1, 1) := by decide +kernel
theorem dL_isAs_85 : decode cL_isAs 85 = .ok (.goto 4, 3) := by decide +kernel
theorem dL_isAs_88 : decode cL_isAs 88 = .ok (.iconst 0, 1) := by decide +kernel
theorem dL_isAs_89 : decode cL_isAs 89 = .ok (.if_icmp .ne 81, 3) := by decide +kernel
theorem dL_isAs_92 : decode cL_isAs 92 = .ok (.aload_n 0, 1) := by decide +kernel
theorem dL_isAs_93 : decode cL_isAs 93 = .ok (.iconst 1, 1) := by decide +kernel
theorem dL_isAs_94 : decode cL_isAs 94 = .ok (.invokevirtual 68, 3) := by decide +kernel
theorem dL_isAs_97 : decode cL_isAs 97 = .ok (.ldc2_w 189, 3) := by decide +kernel
theorem dL_isAs_100 : decode cL_isAs 100 = .ok (.dcmp .l, 1) := by decide +kernel
theorem dL_isAs_101 : decode cL_isAs 101 = .ok (.ifCond .ne 7, 3) := by decide +kernel
theorem dL_isAs_104 : decode cL_isAs 104 = .ok (.iconst 1, 1) := by decide +kernel
theorem dL_isAs_105 : decode cL_isAs 105 = .ok (.goto 4, 3) := by decide +kernel
theorem dL_isAs_108 : decode cL_isAs 108 = .ok (.iconst 0, 1) := by decide +kernel
theorem dL_isAs_109 : decode cL_isAs 109 = .ok (.lload_n 1, 1) := by decide +kernel
theorem dL_isAs_110 : decode cL_isAs 110 = .ok (.ldc2_w 223, 3) := by decide +kernel
theorem dL_isAs_113 : decode cL_isAs 113 = .ok (.ldiv, 1) := by decide +kernel
theorem dL_isAs_114 : decode cL_isAs 114 = .ok (.ldc2_w 219, 3) := by decide +kernel
theorem dL_isAs_117 : decode cL_isAs 117 = .ok (.lrem, 1) := by decide +kernel
theorem dL_isAs_118 : decode cL_isAs 118 = .ok (.lconst 1, 1) := by decide +kernel
theorem dL_isAs_119 : decode cL_isAs 119 = .ok (.lcmp, 1) := by decide +kernel
theorem dL_isAs_120 : decode cL_isAs 120 = .ok (.ifCond .ne 7, 3) := by decide +kernel
theorem dL_isAs_123 : decode cL_isAs 123 = .ok (.iconst 1, 1) := by decide +kernel
theorem dL_isAs_124 : decode cL_isAs 124 = .ok (.goto 4, 3) := by decide +kernel
theorem dL_isAs_127 : decode cL_isAs 127 = .ok (.iconst 0, 1) := by decide +kernel
theorem dL_isAs_128 : decode cL_isAs 128 = .ok (.if_icmp .ne 42, 3) := by decide +kernel
theorem dL_isAs_131 : decode cL_isAs 131 = .ok (.aload_n 0, 1) := by decide +kernel
theorem dL_isAs_132 : decode cL_isAs 132 = .ok (.iconst 2, 1) := by decide +kernel
theorem dL_isAs_133 : decode cL_isAs 133 = .ok (.invokevirtual 68, 3) := by decide +kernel
theorem dL_isAs_136 : decode cL_isAs 136 = .ok (.ldc2_w 193, 3) := by decide +kernel
theorem dL_isAs_139 : decode cL_isAs 139 = .ok (.dcmp .l, 1) := by decide +kernel
theorem dL_isAs_140 : decode cL_isAs 140 = .ok (.ifCond .ne 7, 3) := by decide +kernel
theorem dL_isAs_143 : decode cL_isAs 143 = .ok (.iconst 1, 1) := by decide +kernel
theorem dL_isAs_144 : decode cL_isAs 144 = .ok (.goto 4, 3) := by decide +kernel
theorem dL_isAs_147 : decode cL_isAs 147 = .ok (.iconst 0, 1) := by decide +kernel
theorem dL_isAs_148 : decode cL_isAs 148 = .ok (.lload_n 1, 1) := by decide +kernel
theorem dL_isAs_149 : decode cL_isAs 149 = .ok (.ldc2_w 225, 3) := by decide +kernel
theorem dL_isAs_152 : decode cL_isAs 152 = .ok (.ldiv, 1) := by decide +kernel
theorem dL_isAs_153 : decode cL_isAs 153 = .ok (.lconst 1, 1) := by decide +kernel
theorem dL_isAs_154 : decode cL_isAs 154 = .ok (.lcmp, 1) := by decide +kernel
theorem dL_isAs_155 : decode cL_isAs 155 = .ok (.ifCond .ne 7, 3) := by decide +kernel
theorem dL_isAs_158 : decode cL_isAs 158 = .ok (.iconst 1, 1) := by decide +kernel
theorem dL_isAs_159 : decode cL_isAs 159 = .ok (.goto 4, 3) := by decide +kernel
theorem dL_isAs_162 : decode cL_isAs 162 = .ok (.iconst 0, 1) := by decide +kernel
theorem dL_isAs_163 : decode cL_isAs 163 = .ok (.if_icmp .ne 7, 3) := by decide +kernel
theorem dL_isAs_166 : decode cL_isAs 166 = .ok (.iconst 1, 1) := by decide +kernel
theorem dL_isAs_167 : decode cL_isAs 167 = .ok (.goto 4, 3) := by decide +kernel
theorem dL_isAs_170 : decode cL_isAs 170 = .ok (.iconst 0, 1) := by decide +kernel
theorem dL_isAs_171 : decode cL_isAs 171 = .ok (.ireturn, 1) := by decide +kernel
set_option maxRecDepth 20000 in
theorem ggL_marked_X8_count : GoodIn wsL_marked wsX8_count := goodIn_r _ [12, 13, 14, 15, 16, 17, 18, 19, 20, 21, 22, 23, 24, 25, 26, 27, 28, 29, 11, 30, 31, 32, 33, 34, 35, 36, 37, 38, 39, 40, 41, 42, 43, 44, 45, 46, 47, 48, 49, 50, 51, 52, 53, 54, 55, 56, 57, 58, 59, 60, 61, 62, 63, 64, 65, 66, 67, 68, 69, 70, 71, 72, 73, 74, 75, 76, 77, 78, 79, 80, 81, 82, 83, 84, 85, 86, 87, 88, 89, 90, 91, 92, 93, 94, 95, 96, 97, 98, 99, 100, 101, 102, 103, 104, 105, 106, 107, 108, 109, 110, 111, 112, 113, 126, 127, 128, 129, 130, 131, 132, 133, 134, 135, 136, 137, 138, 139, 140, 141, 142, 143, 144, 145, 146, 147, 148, 149, 150, 151, 152, 153, 154, 155] (by decide +kernel) (by decide +kernel)
set_option maxRecDepth 20000 in
theorem gL_marked_X8_count : GoodIn wsL_marked (wsV RL 33 RX8 yX8_count wsX8_count) := goodIn_app (goodIn_of _ (by decide +kernel)) ggL_marked_X8_count
set_option maxRecDepth 20000 in
theorem ggL_marked_X8_told : GoodIn wsL_marked wsX8_told := goodIn_r _ [117, 13, 118, 119, 120, 23, 121, 122, 123, 11, 124, 125, 126, 127, 128, 129, 130, 131, 132, 135, 136, 137, 138] (by decide +kernel) (by decide +kernel)
set_option maxRecDepth 20000 in
theorem gL_marked_X8_told : GoodIn wsL_marked (wsV RL 68 RX8 yX8_told wsX8_told) := goodIn_app (goodIn_of _ (by decide +kernel)) ggL_marked_X8_told
theorem dL_marked_0 : decode cL_marked 0 = .ok (.aload_n 0, 1) := by decide +kernel
theorem dL_marked_1 : decode cL_marked 1 = .ok (.iconst 0, 1) := by decide +kernel
theorem dL_marked_2 : decode cL_marked 2 = .ok (.invokevirtual 33, 3) := by decide +kernel
theorem dL_marked_5 : decode cL_marked 5 = .ok (.i2l, 1) := by decide +kernel
theorem dL_marked_6 : decode cL_marked 6 = .ok (.ldc2_w 215, 3) := by decide +kernel
theorem dL_marked_9 : decode cL_marked 9 = .ok (.aload_n 0, 1) := by decide +kernel
theorem dL_marked_10 : decode cL_marked 10 = .ok (.iconst 1, 1) := by decide +kernel
theorem dL_marked_11 : decode cL_marked 11 = .ok (.invokevirtual 33, 3) := by decide +kernel
theorem dL_marked_14 : decode cL_marked 14 = .ok (.i2l, 1) := by decide +kernel
theorem dL_marked_15 : decode cL_marked 15 = .ok (.lmul, 1) := by decide +kernel
theorem dL_marked_16 : decode cL_marked 16 = .ok (.ladd, 1) := by decide +kernel
theorem dL_marked_17 : decode cL_marked 17 = .ok (.ldc2_w 217, 3) := by decide +kernel
theorem dL_marked_20 : decode cL_marked 20 = .ok (.aload_n 0, 1) := by decide +kernel
theorem dL_marked_21 : decode cL_marked 21 = .ok (.iconst 2, 1) := by decide +kernel
theorem dL_marked_22 : decode cL_marked 22 = .ok (.invokevirtual 33, 3) := by decide +kernel
theorem dL_marked_25 : decode cL_marked 25 = .ok (.i2l, 1) := by decide +kernel
theorem dL_marked_26 : decode cL_marked 26 = .ok (.lmul, 1) := by decide +kernel
theorem dL_marked_27 : decode cL_marked 27 = .ok (.ladd, 1) := by decide +kernel
theorem dL_marked_28 : decode cL_marked 28 = .ok (.aload_n 0, 1) := by decide +kernel
theorem dL_marked_29 : decode cL_marked 29 = .ok (.iconst 0, 1) := by decide +kernel
theorem dL_marked_30 : decode cL_marked 30 = .ok (.invokevirtual 68, 3) := by decide +kernel
theorem dL_marked_33 : decode cL_marked 33 = .ok (.ldc2_w 193, 3) := by decide +kernel
theorem dL_marked_36 : decode cL_marked 36 = .ok (.dcmp .l, 1) := by decide +kernel
theorem dL_marked_37 : decode cL_marked 37 = .ok (.ifCond .ne 9, 3) := by decide +kernel
theorem dL_marked_40 : decode cL_marked 40 = .ok (.ldc2_w 221, 3) := by decide +kernel
theorem dL_marked_43 : decode cL_marked 43 = .ok (.goto 4, 3) := by decide +kernel
theorem dL_marked_46 : decode cL_marked 46 = .ok (.lconst 0, 1) := by decide +kernel
theorem dL_marked_47 : decode cL_marked 47 = .ok (.ladd, 1) := by decide +kernel
theorem dL_marked_48 : decode cL_marked 48 = .ok (.aload_n 0, 1) := by decide +kernel
theorem dL_marked_49 : decode cL_marked 49 = .ok (.iconst 1, 1) := by decide +kernel
theorem dL_marked_50 : decode cL_marked 50 = .ok (.invokevirtual 68, 3) := by decide +kernel
theorem dL_marked_53 : decode cL_marked 53 = .ok (.ldc2_w 189, 3) := by decide +kernel
theorem dL_marked_56 : decode cL_marked 56 = .ok (.dcmp .l, 1) := by decide +kernel
theorem dL_marked_57 : decode cL_marked 57 = .ok (.ifCond .ne 9, 3) := by decide +kernel
theorem dL_marked_60 : decode cL_marked 60 = .ok (.ldc2_w 223, 3) := by decide +kernel
theorem dL_marked_63 : decode cL_marked 63 = .ok (.goto 4, 3) := by decide +kernel
theorem dL_marked_66 : decode cL_marked 66 = .ok (.lconst 0, 1) := by decide +kernel
theorem dL_marked_67 : decode cL_marked 67 = .ok (.ladd, 1) := by decide +kernel
theorem dL_marked_68 : decode cL_marked 68 = .ok (.aload_n 0, 1) := by decide +kernel
theorem dL_marked_69 : decode cL_marked 69 = .ok (.iconst 2, 1) := by decide +kernel
theorem dL_marked_70 : decode cL_marked 70 = .ok (.invokevirtual 68, 3) := by decide +kernel
theorem dL_marked_73 : decode cL_marked 73 = .ok (.ldc2_w 193, 3) := by decide +kernel
theorem dL_marked_76 : decode cL_marked 76 = .ok (.dcmp .l, 1) := by decide +kernel
theorem dL_marked_77 : decode cL_marked 77 = .ok (.ifCond .ne 9, 3) := by decide +kernel
theorem dL_marked_80 : decode cL_marked 80 = .ok (.ldc2_w 225, 3) := by decide +kernel
theorem dL_marked_83 : decode cL_marked 83 = .ok (.goto 4, 3) := by decide +kernel
theorem dL_marked_86 : decode cL_marked 86 = .ok (.lconst 0, 1) := by decide +kernel
theorem dL_marked_87 : decode cL_marked 87 = .ok (.ladd, 1) := by decide +kernel
theorem dL_marked_88 : decode cL_marked 88 = .ok (.lreturn, 1) := by decide +kernel
set_option maxRecDepth 20000 in
theorem ggL_law_X8_init : GoodIn wsL_law wsX8_init := goodIn_r _ [42, 43, 44, 45, 46, 47, 48, 49, 50, 51, 52, 53, 54, 55, 56, 57, 58, 59, 60, 61, 62, 63, 64, 65, 66, 67, 68, 69, 70, 71, 72, 73, 74, 75, 76, 77, 78, 79, 80, 81, 82, 83, 84, 85, 86, 87, 88, 89, 90, 91, 92, 93, 94, 95, 96, 97, 98, 99, 100, 101, 102, 103, 104, 105, 106, 107, 108, 109, 110, 111, 112, 113, 114, 115, 116, 567, 568, 569, 570, 560, 561, 562, 563, 564, 565, 566, 571, 572, 573, 574, 575, 576, 577, 578, 579, 580, 581, 582, 583, 584, 585, 586, 587, 588, 589] (by decide +kernel) (by decide +kernel)
set_option maxRecDepth 20000 in
theorem gL_law_X8_init : GoodIn wsL_law (wsX8_init) := ggL_law_X8_init
set_option maxRecDepth 20000 in
theorem ggL_law_L_puts : GoodIn wsL_law wsL_puts := goodIn_r _ [119, 120, 121, 122, 123, 2, 124, 59, 125, 126, 127, 128, 58, 129, 100, 99, 560, 561, 562, 563, 564, 565, 566, 574, 575, 576, 577] (by decide +kernel) (by decide +kernel)
set_option maxRecDepth 20000 in
theorem gL_law_L_puts : GoodIn wsL_law (va_wsS RL 115 yL_puts wsL_puts) := goodIn_app (goodIn_of _ (by decide +kernel)) ggL_law_L_puts
set_option maxRecDepth 20000 in
theorem ggL_law_L_drawn : GoodIn wsL_law wsL_drawn := goodIn_r _ [538, 539] (by decide +kernel) (by decide +kernel)
set_option maxRecDepth 20000 in
theorem gL_law_L_drawn : GoodIn wsL_law (va_wsS RL 239 yL_drawn wsL_drawn) := goodIn_app (goodIn_of _ (by decide +kernel)) ggL_law_L_drawn
set_option maxRecDepth 20000 in
theorem ggL_law_L_part : GoodIn wsL_law wsL_part := goodIn_r _ [542, 543] (by decide +kernel) (by decide +kernel)
set_option maxRecDepth 20000 in
theorem gL_law_L_part : GoodIn wsL_law (va_wsS RL 243 yL_part wsL_part) := goodIn_app (goodIn_of _ (by decide +kernel)) ggL_law_L_part
set_option maxRecDepth 20000 in
theorem ggL_law_L_marked : GoodIn wsL_law wsL_marked := goodIn_r _ [546, 547, 548, 505, 549, 503, 550, 551, 193, 194, 195, 2, 196, 49, 170, 197, 55, 198, 59, 125, 188, 189, 190, 48, 191, 73, 74, 199, 200, 201, 202, 63, 203, 204, 205, 62, 206, 109, 207, 110, 111, 208, 112, 209, 113, 210, 211, 212, 213, 214, 215, 106, 108, 216, 217, 218, 219, 220, 221, 222, 223, 224, 225, 226, 227, 228, 229, 230, 231, 232, 233, 234, 235, 236, 237, 238, 239, 240, 241, 242, 243, 244, 245, 246, 247, 248, 249, 250, 251, 252, 253, 254, 255, 256, 257, 258, 259, 260, 261, 262, 263, 264, 265, 266, 267, 268, 269, 270, 271, 272, 273, 274, 275, 276, 423, 424, 425, 426, 356, 408, 409, 410, 286, 287, 288, 289, 560, 561, 562, 563, 564, 565, 566, 588, 589, 567, 568, 569, 570, 571, 572, 573, 574, 575, 576, 577, 578, 579, 580, 581, 582, 583, 584, 585, 586, 587] (by decide +kernel) (by decide +kernel)
set_option maxRecDepth 20000 in
theorem gL_law_L_marked : GoodIn wsL_law (va_wsS RL 246 yL_marked wsL_marked) := goodIn_app (goodIn_of _ (by decide +kernel)) ggL_law_L_marked
set_option maxRecDepth 20000 in
theorem ggL_law_X8_count : GoodIn wsL_law wsX8_count := goodIn_r _ [196, 49, 170, 197, 55, 198, 59, 125, 188, 189, 190, 48, 191, 73, 74, 199, 200, 201, 2, 202, 63, 203, 204, 205, 62, 206, 109, 207, 110, 111, 208, 112, 209, 113, 210, 211, 212, 213, 214, 215, 106, 108, 216, 217, 218, 219, 220, 221, 222, 223, 224, 225, 226, 227, 228, 229, 230, 231, 232, 233, 234, 235, 236, 237, 238, 239, 240, 241, 242, 243, 244, 245, 246, 247, 248, 249, 250, 251, 252, 253, 254, 255, 256, 257, 258, 259, 260, 261, 262, 263, 264, 265, 266, 267, 268, 269, 270, 271, 272, 273, 274, 275, 276, 560, 561, 562, 563, 564, 565, 566, 588, 589, 567, 568, 569, 570, 571, 572, 573, 574, 575, 576, 577, 578, 579, 580, 581, 582, 583, 584, 585, 586, 587] (by decide +kernel) (by decide +kernel)
set_option maxRecDepth 20000 in
theorem gL_law_X8_count : GoodIn wsL_law (wsV RL 33 RX8 yX8_count wsX8_count) := goodIn_app (goodIn_of _ (by decide +kernel)) ggL_law_X8_count
set_option maxRecDepth 20000 in
theorem ggL_law_X8_add : GoodIn wsL_law wsX8_add := goodIn_r _ [312, 49, 170, 55, 134, 135, 2, 136, 313, 314, 315, 316, 317, 318, 319, 320, 321, 322, 323, 324, 325, 326, 327, 328, 329, 330, 331, 332, 333, 334, 335, 234, 336, 337, 338, 188, 189, 190, 48, 191, 73, 74, 171, 172, 173, 54, 174, 93, 92, 91, 175, 176, 177, 178, 76, 179, 180, 181, 182, 77, 183, 184, 185, 66, 186, 84, 187, 85, 339, 340, 163, 164, 165, 560, 561, 562, 563, 564, 565, 566, 588, 589, 567, 568, 569, 570, 571, 572, 573] (by decide +kernel) (by decide +kernel)
set_option maxRecDepth 20000 in
theorem gL_law_X8_add : GoodIn wsL_law (wsV RL 25 RX8 yX8_add wsX8_add) := goodIn_app (goodIn_of _ (by decide +kernel)) ggL_law_X8_add
set_option maxRecDepth 20000 in
theorem ggL_law_X8_cut : GoodIn wsL_law wsX8_cut := goodIn_r _ [344, 49, 170, 55, 134, 135, 2, 136, 188, 189, 190, 48, 191, 73, 74, 171, 172, 173, 54, 174, 93, 92, 91, 175, 176, 177, 178, 76, 179, 180, 181, 182, 77, 183, 184, 185, 66, 186, 84, 187, 85, 560, 561, 562, 563, 564, 565, 566, 588, 589, 567, 568, 569, 570, 571, 572, 573] (by decide +kernel) (by decide +kernel)
set_option maxRecDepth 20000 in
theorem gL_law_X8_cut : GoodIn wsL_law (wsV RL 29 RX8 yX8_cut wsX8_cut) := goodIn_app (goodIn_of _ (by decide +kernel)) ggL_law_X8_cut
set_option maxRecDepth 20000 in
theorem ggL_law_X8_set : GoodIn wsL_law wsX8_set := goodIn_r _ [348, 49, 281, 55, 134, 135, 2, 136, 188, 189, 190, 48, 191, 73, 74, 282, 283, 284, 66, 285, 85, 313, 314, 315, 316, 317, 318, 319, 320, 321, 322, 323, 324, 325, 326, 327, 328, 329, 330, 331, 332, 333, 334, 335, 234, 336, 337, 338, 339, 349, 350, 351, 171, 172, 173, 54, 174, 93, 92, 91, 175, 176, 177, 178, 76, 179, 180, 181, 182, 77, 183, 184, 185, 186, 84, 187, 560, 561, 562, 563, 564, 565, 566, 588, 589, 567, 568, 569, 570, 571, 572, 573] (by decide +kernel) (by decide +kernel)
set_option maxRecDepth 20000 in
theorem gL_law_X8_set : GoodIn wsL_law (wsV RL 37 RX8 yX8_set wsX8_set) := goodIn_app (goodIn_of _ (by decide +kernel)) ggL_law_X8_set
set_option maxRecDepth 20000 in
theorem ggL_law_X8_read : GoodIn wsL_law wsX8_read := goodIn_r _ [133, 59, 67, 134, 135, 2, 136, 137, 138, 139, 58, 140, 101, 141, 100, 142, 143, 144, 145, 102, 146, 147, 148, 149, 99, 150, 151, 152, 153, 154, 155, 156, 157, 158, 159, 160, 161, 162, 163, 164, 66, 165, 85, 84, 166, 167, 168, 169, 55, 49, 170, 171, 172, 173, 54, 174, 93, 92, 91, 175, 176, 177, 48, 178, 73, 74, 76, 179, 180, 181, 182, 77, 183, 184, 185, 186, 187, 188, 189, 190, 191, 192, 560, 561, 562, 563, 564, 565, 566, 574, 575, 576, 577, 588, 589, 571, 572, 573, 567, 568, 569, 570] (by decide +kernel) (by decide +kernel)
set_option maxRecDepth 20000 in
theorem gL_law_X8_read : GoodIn wsL_law (wsV RL 41 RX8 yX8_read wsX8_read) := goodIn_app (goodIn_of _ (by decide +kernel)) ggL_law_X8_read
set_option maxRecDepth 20000 in
theorem ggL_law_X8_fill : GoodIn wsL_law wsX8_fill := goodIn_r _ [355, 67, 49, 356, 134, 135, 2, 136, 357, 358, 359, 360, 361, 362, 363, 364, 365, 366, 163, 164, 66, 165, 85, 84, 166, 167, 168, 169, 55, 170, 171, 172, 173, 54, 174, 93, 92, 91, 175, 176, 177, 48, 178, 73, 74, 76, 179, 180, 181, 182, 77, 183, 184, 185, 186, 187, 188, 189, 190, 191, 192, 560, 561, 562, 563, 564, 565, 566, 567, 568, 569, 570, 588, 589, 571, 572, 573] (by decide +kernel) (by decide +kernel)
set_option maxRecDepth 20000 in
theorem gL_law_X8_fill : GoodIn wsL_law (wsV RL 44 RX8 yX8_fill wsX8_fill) := goodIn_app (goodIn_of _ (by decide +kernel)) ggL_law_X8_fill
set_option maxRecDepth 20000 in
theorem ggL_law_X8_sum : GoodIn wsL_law wsX8_sum := goodIn_r _ [370, 49, 170, 67, 134, 135, 2, 136, 188, 189, 190, 48, 191, 73, 74, 371, 372, 359, 373, 361, 374, 375, 335, 234, 336, 337, 338, 366, 163, 164, 66, 165, 85, 84, 166, 167, 168, 169, 55, 171, 172, 173, 54, 174, 93, 92, 91, 175, 176, 177, 178, 76, 179, 180, 181, 182, 77, 183, 184, 185, 186, 187, 192, 560, 561, 562, 563, 564, 565, 566, 588, 589, 567, 568, 569, 570, 571, 572, 573] (by decide +kernel) (by decide +kernel)
set_option maxRecDepth 20000 in
theorem gL_law_X8_sum : GoodIn wsL_law (wsV RL 48 RX8 yX8_sum wsX8_sum) := goodIn_app (goodIn_of _ (by decide +kernel)) ggL_law_X8_sum
set_option maxRecDepth 20000 in
theorem ggL_law_X8_take : GoodIn wsL_law wsX8_take := goodIn_r _ [386, 63, 49, 67, 170, 387, 388, 2, 389, 134, 135, 136, 203, 204, 205, 62, 206, 109, 207, 110, 111, 208, 112, 209, 113, 210, 211, 189, 190, 48, 191, 73, 74, 212, 213, 214, 215, 106, 108, 216, 217, 218, 219, 220, 221, 222, 223, 224, 225, 226, 227, 228, 229, 230, 231, 232, 233, 234, 235, 236, 237, 238, 239, 240, 241, 242, 243, 244, 245, 246, 247, 248, 249, 250, 251, 252, 253, 254, 255, 256, 257, 258, 259, 260, 390, 391, 392, 393, 394, 395, 396, 397, 273, 274, 275, 276, 398, 399, 400, 401, 402, 335, 336, 337, 338, 403, 163, 164, 66, 165, 85, 84, 166, 167, 168, 169, 55, 171, 172, 173, 54, 174, 93, 92, 91, 175, 176, 177, 178, 76, 179, 180, 181, 182, 77, 183, 184, 185, 186, 187, 188, 192, 560, 561, 562, 563, 564, 565, 566, 588, 589, 578, 579, 580, 581, 582, 583, 584, 585, 586, 587, 567, 568, 569, 570, 571, 572, 573] (by decide +kernel) (by decide +kernel)
set_option maxRecDepth 20000 in
theorem gL_law_X8_take : GoodIn wsL_law (wsV RL 54 RX8 yX8_take wsX8_take) := goodIn_app (goodIn_of _ (by decide +kernel)) ggL_law_X8_take
set_option maxRecDepth 20000 in
theorem ggL_law_X8_setting : GoodIn wsL_law wsX8_setting := goodIn_r _ [407, 49, 356, 55, 408, 409, 48, 410, 411, 318, 315, 319, 320, 321, 322, 323, 324, 412, 413, 414, 415, 339, 326, 327, 328, 329, 330, 331, 332, 333, 416, 417, 418, 419, 420, 421, 422, 171, 172, 173, 54, 174, 93, 92, 91, 175, 176, 177, 178, 73, 74, 76, 179, 180, 181, 182, 77, 183, 184, 185, 66, 186, 84, 187, 85, 560, 561, 562, 563, 564, 565, 566, 567, 568, 569, 570, 571, 572, 573, 588, 589] (by decide +kernel) (by decide +kernel)
set_option maxRecDepth 20000 in
theorem gL_law_X8_setting : GoodIn wsL_law (wsV RL 59 RX8 yX8_setting wsX8_setting) := goodIn_app (goodIn_of _ (by decide +kernel)) ggL_law_X8_setting
set_option maxRecDepth 20000 in
theorem ggL_law_X8_bridge : GoodIn wsL_law wsX8_bridge := goodIn_r _ [535, 49, 197, 55, 171, 172, 173, 54, 174, 93, 92, 91, 175, 176, 177, 48, 178, 73, 74, 76, 179, 180, 181, 182, 77, 183, 184, 185, 66, 186, 84, 187, 85, 199, 200, 201, 2, 202, 63, 203, 204, 205, 62, 206, 109, 207, 110, 111, 208, 112, 209, 113, 210, 211, 189, 190, 191, 212, 213, 214, 215, 106, 108, 216, 217, 218, 219, 220, 221, 222, 223, 224, 225, 226, 227, 228, 229, 230, 231, 232, 233, 234, 235, 236, 237, 238, 239, 240, 241, 242, 243, 244, 245, 246, 247, 248, 249, 250, 251, 252, 253, 254, 255, 256, 257, 258, 259, 260, 261, 262, 263, 264, 265, 266, 267, 268, 269, 270, 271, 272, 273, 274, 275, 276, 560, 561, 562, 563, 564, 565, 566, 567, 568, 569, 570, 571, 572, 573, 588, 589, 578, 579, 580, 581, 582, 583, 584, 585, 586, 587] (by decide +kernel) (by decide +kernel)
set_option maxRecDepth 20000 in
theorem gL_law_X8_bridge : GoodIn wsL_law (wsV RL 209 RX8 yX8_bridge wsX8_bridge) := goodIn_app (goodIn_of _ (by decide +kernel)) ggL_law_X8_bridge
set_option maxRecDepth 20000 in
theorem ggL_law_L_isAs : GoodIn wsL_law wsL_isAs := goodIn_r _ [554, 547, 548, 555, 505, 549, 503, 550, 551, 193, 194, 195, 2, 196, 49, 170, 197, 55, 198, 59, 125, 188, 189, 190, 48, 191, 73, 74, 199, 200, 201, 202, 63, 203, 204, 205, 62, 206, 109, 207, 110, 111, 208, 112, 209, 113, 210, 211, 212, 213, 214, 215, 106, 108, 216, 217, 218, 219, 220, 221, 222, 223, 224, 225, 226, 227, 228, 229, 230, 231, 232, 233, 234, 235, 236, 237, 238, 239, 240, 241, 242, 243, 244, 245, 246, 247, 248, 249, 250, 251, 252, 253, 254, 255, 256, 257, 258, 259, 260, 261, 262, 263, 264, 265, 266, 267, 268, 269, 270, 271, 272, 273, 274, 275, 276, 423, 424, 425, 426, 356, 408, 409, 410, 286, 287, 288, 289, 560, 561, 562, 563, 564, 565, 566, 588, 589, 567, 568, 569, 570, 571, 572, 573, 574, 575, 576, 577, 578, 579, 580, 581, 582, 583, 584, 585, 586, 587] (by decide +kernel) (by decide +kernel)
set_option maxRecDepth 20000 in
theorem gL_law_L_isAs : GoodIn wsL_law (va_wsS RL 254 yL_isAs wsL_isAs) := goodIn_app (goodIn_of _ (by decide +kernel)) ggL_law_L_isAs
set_option maxRecDepth 20000 in
theorem ggL_law_X8_keep : GoodIn wsL_law wsX8_keep := goodIn_r _ [559, 50, 49, 51, 522, 176, 177, 48, 178, 73, 74, 76, 179, 180, 181, 182, 77, 183, 184, 185, 66, 186, 84, 187, 85, 523, 524, 525, 526, 527, 560, 561, 562, 563, 564, 565, 566, 567, 568, 569, 570, 588, 589] (by decide +kernel) (by decide +kernel)
set_option maxRecDepth 20000 in
theorem gL_law_X8_keep : GoodIn wsL_law (wsV RL 257 RX8 yX8_keep wsX8_keep) := goodIn_app (goodIn_of _ (by decide +kernel)) ggL_law_X8_keep
set_option maxRecDepth 20000 in
theorem ggL_law_X8_undo : GoodIn wsL_law wsX8_undo := goodIn_r _ [513, 55, 198, 49, 514, 515, 516, 54, 517, 93, 91, 92, 175, 176, 177, 48, 178, 73, 74, 76, 179, 180, 181, 182, 77, 183, 184, 185, 66, 186, 84, 187, 85, 560, 561, 562, 563, 564, 565, 566, 571, 572, 573, 567, 568, 569, 570, 588, 589] (by decide +kernel) (by decide +kernel)
set_option maxRecDepth 20000 in
theorem gL_law_X8_undo : GoodIn wsL_law (wsV RL 177 RX8 yX8_undo wsX8_undo) := goodIn_app (goodIn_of _ (by decide +kernel)) ggL_law_X8_undo
set_option maxRecDepth 20000 in
theorem ggL_law_X8_restore : GoodIn wsL_law wsX8_restore := goodIn_r _ [521, 51, 55, 49, 50, 171, 172, 173, 54, 174, 93, 92, 91, 175, 176, 177, 48, 178, 73, 74, 76, 179, 180, 181, 182, 77, 183, 184, 185, 66, 186, 84, 187, 85, 522, 523, 524, 525, 526, 527, 560, 561, 562, 563, 564, 565, 566, 571, 572, 573, 567, 568, 569, 570, 588, 589] (by decide +kernel) (by decide +kernel)
set_option maxRecDepth 20000 in
theorem gL_law_X8_restore : GoodIn wsL_law (wsV RL 180 RX8 yX8_restore wsX8_restore) := goodIn_app (goodIn_of _ (by decide +kernel)) ggL_law_X8_restore
set_option maxRecDepth 20000 in
theorem ggL_law_X8_number : GoodIn wsL_law wsX8_number := goodIn_r _ [280, 49, 281, 134, 135, 2, 136, 188, 189, 190, 48, 191, 73, 74, 282, 283, 284, 66, 285, 85, 286, 287, 288, 289, 560, 561, 562, 563, 564, 565, 566, 588, 589, 567, 568, 569, 570] (by decide +kernel) (by decide +kernel)
set_option maxRecDepth 20000 in
theorem gL_law_X8_number : GoodIn wsL_law (wsV RL 9 RX8 yX8_number wsX8_number) := goodIn_app (goodIn_of _ (by decide +kernel)) ggL_law_X8_number
theorem dL_law_0 : decode cL_law 0 = .ok (.invokestatic 227, 3) := by decide +kernel
theorem dL_law_3 : decode cL_law 3 = .ok (.ifCond .eq 15, 3) := by decide +kernel
theorem dL_law_6 : decode cL_law 6 = .ok (.invokestatic 231, 3) := by decide +kernel
theorem dL_law_9 : decode cL_law 9 = .ok (.ifCond .eq 9, 3) := by decide +kernel
theorem dL_law_12 : decode cL_law 12 = .ok (.invokestatic 234, 3) := by decide +kernel
theorem dL_law_15 : decode cL_law 15 = .ok (.ifCond .ne 5, 3) := by decide +kernel
theorem dL_law_18 : decode cL_law 18 = .ok (.iconst 0, 1) := by decide +kernel
theorem dL_law_19 : decode cL_law 19 = .ok (.ireturn, 1) := by decide +kernel
theorem dL_law_20 : decode cL_law 20 = .ok (.new 10, 3) := by decide +kernel
theorem dL_law_23 : decode cL_law 23 = .ok (.dup, 1) := by decide +kernel
theorem dL_law_24 : decode cL_law 24 = .ok (.invokespecial 114, 3) := by decide +kernel
theorem dL_law_27 : decode cL_law 27 = .ok (.astore_n 1, 1) := by decide +kernel
theorem dL_law_28 : decode cL_law 28 = .ok (.bipush 64, 2) := by decide +kernel
theorem dL_law_30 : decode cL_law 30 = .ok (.newarray .long, 2) := by decide +kernel
theorem dL_law_32 : decode cL_law 32 = .ok (.astore_n 2, 1) := by decide +kernel
theorem dL_law_33 : decode cL_law 33 = .ok (.iconst 0, 1) := by decide +kernel
theorem dL_law_34 : decode cL_law 34 = .ok (.istore_n 3, 1) := by decide +kernel
theorem dL_law_35 : decode cL_law 35 = .ok (.aload_n 1, 1) := by decide +kernel
theorem dL_law_36 : decode cL_law 36 = .ok (.ldc2_w 237, 3) := by decide +kernel
theorem dL_law_39 : decode cL_law 39 = .ok (.invokestatic 115, 3) := by decide +kernel
theorem dL_law_42 : decode cL_law 42 = .ok (.ifCond .ne 5, 3) := by decide +kernel
theorem dL_law_45 : decode cL_law 45 = .ok (.iconst 0, 1) := by decide +kernel
theorem dL_law_46 : decode cL_law 46 = .ok (.ireturn, 1) := by decide +kernel
theorem dL_law_47 : decode cL_law 47 = .ok (.iconst 0, 1) := by decide +kernel
theorem dL_law_48 : decode cL_law 48 = .ok (.istore 4, 2) := by decide +kernel
theorem dL_law_50 : decode cL_law 50 = .ok (.iload 4, 2) := by decide +kernel
theorem dL_law_52 : decode cL_law 52 = .ok (.bipush 36, 2) := by decide +kernel
theorem dL_law_54 : decode cL_law 54 = .ok (.if_icmp .ge 349, 3) := by decide +kernel
theorem dL_law_57 : decode cL_law 57 = .ok (.aload_n 0, 1) := by decide +kernel
theorem dL_law_58 : decode cL_law 58 = .ok (.iload 4, 2) := by decide +kernel
theorem dL_law_60 : decode cL_law 60 = .ok (.invokestatic 239, 3) := by decide +kernel
theorem dL_law_63 : decode cL_law 63 = .ok (.istore 5, 2) := by decide +kernel
theorem dL_law_65 : decode cL_law 65 = .ok (.iload 5, 2) := by decide +kernel
theorem dL_law_67 : decode cL_law 67 = .ok (.bipush 11, 2) := by decide +kernel
theorem dL_law_69 : decode cL_law 69 = .ok (.invokestatic 243, 3) := by decide +kernel
theorem dL_law_72 : decode cL_law 72 = .ok (.istore 6, 2) := by decide +kernel
theorem dL_law_74 : decode cL_law 74 = .ok (.iload 5, 2) := by decide +kernel
theorem dL_law_76 : decode cL_law 76 = .ok (.iconst 4, 1) := by decide +kernel
theorem dL_law_77 : decode cL_law 77 = .ok (.ishr, 1) := by decide +kernel
theorem dL_law_78 : decode cL_law 78 = .ok (.iconst 2, 1) := by decide +kernel
theorem dL_law_79 : decode cL_law 79 = .ok (.invokestatic 243, 3) := by decide +kernel
theorem dL_law_82 : decode cL_law 82 = .ok (.istore 7, 2) := by decide +kernel
theorem dL_law_84 : decode cL_law 84 = .ok (.aload_n 2, 1) := by decide +kernel
theorem dL_law_85 : decode cL_law 85 = .ok (.iload_n 3, 1) := by decide +kernel
theorem dL_law_86 : decode cL_law 86 = .ok (.aload_n 1, 1) := by decide +kernel
theorem dL_law_87 : decode cL_law 87 = .ok (.invokestatic 246, 3) := by decide +kernel
theorem dL_law_90 : decode cL_law 90 = .ok (.lastore, 1) := by decide +kernel
theorem dL_law_91 : decode cL_law 91 = .ok (.aload_n 1, 1) := by decide +kernel
theorem dL_law_92 : decode cL_law 92 = .ok (.iconst 4, 1) := by decide +kernel
theorem dL_law_93 : decode cL_law 93 = .ok (.invokevirtual 33, 3) := by decide +kernel
theorem dL_law_96 : decode cL_law 96 = .ok (.istore 8, 2) := by decide +kernel
theorem dL_law_98 : decode cL_law 98 = .ok (.ldc2_w 250, 3) := by decide +kernel
theorem dL_law_101 : decode cL_law 101 = .ok (.iload 5, 2) := by decide +kernel
theorem dL_law_103 : decode cL_law 103 = .ok (.bipush 6, 2) := by decide +kernel
theorem dL_law_105 : decode cL_law 105 = .ok (.ishr, 1) := by decide +kernel
theorem dL_law_106 : decode cL_law 106 = .ok (.bipush 8, 2) := by decide +kernel
theorem dL_law_108 : decode cL_law 108 = .ok (.invokestatic 243, 3) := by decide +kernel
theorem dL_law_111 : decode cL_law 111 = .ok (.i2l, 1) := by decide +kernel
theorem dL_law_112 : decode cL_law 112 = .ok (.ladd, 1) := by decide +kernel
theorem dL_law_113 : decode cL_law 113 = .ok (.bipush 52, 2) := by decide +kernel
theorem dL_law_115 : decode cL_law 115 = .ok (.lshl, 1) := by decide +kernel
theorem dL_law_116 : decode cL_law 116 = .ok (.lstore 9, 2) := by decide +kernel
theorem dL_law_118 : decode cL_law 118 = .ok (.iload 6, 2) := by decide +kernel
theorem dL_law_120 : decode cL_law 120 = .ok (.iconst 3, 1) := by decide +kernel
theorem dL_law_121 : decode cL_law 121 = .ok (.if_icmp .ge 14, 3) := by decide +kernel
theorem dL_law_124 : decode cL_law 124 = .ok (.aload_n 1, 1) := by decide +kernel
theorem dL_law_125 : decode cL_law 125 = .ok (.iload 7, 2) := by decide +kernel
theorem dL_law_127 : decode cL_law 127 = .ok (.lload 9, 2) := by decide +kernel
theorem dL_law_129 : decode cL_law 129 = .ok (.invokevirtual 25, 3) := by decide +kernel
theorem dL_law_132 : decode cL_law 132 = .ok (.goto 223, 3) := by decide +kernel
theorem dL_law_135 : decode cL_law 135 = .ok (.iload 6, 2) := by decide +kernel
theorem dL_law_137 : decode cL_law 137 = .ok (.iconst 3, 1) := by decide +kernel
theorem dL_law_138 : decode cL_law 138 = .ok (.if_icmp .ne 23, 3) := by decide +kernel
theorem dL_law_141 : decode cL_law 141 = .ok (.aload_n 1, 1) := by decide +kernel
theorem dL_law_142 : decode cL_law 142 = .ok (.iload 7, 2) := by decide +kernel
theorem dL_law_144 : decode cL_law 144 = .ok (.iconst 1, 1) := by decide +kernel
theorem dL_law_145 : decode cL_law 145 = .ok (.iload 5, 2) := by decide +kernel
theorem dL_law_147 : decode cL_law 147 = .ok (.bipush 6, 2) := by decide +kernel
theorem dL_law_149 : decode cL_law 149 = .ok (.ishr, 1) := by decide +kernel
theorem dL_law_150 : decode cL_law 150 = .ok (.iconst 3, 1) := by decide +kernel
theorem dL_law_151 : decode cL_law 151 = .ok (.invokestatic 243, 3) := by decide +kernel
theorem dL_law_154 : decode cL_law 154 = .ok (.iadd, 1) := by decide +kernel
theorem dL_law_155 : decode cL_law 155 = .ok (.invokevirtual 29, 3) := by decide +kernel
theorem dL_law_158 : decode cL_law 158 = .ok (.goto 197, 3) := by decide +kernel
theorem dL_law_161 : decode cL_law 161 = .ok (.iload 6, 2) := by decide +kernel
theorem dL_law_163 : decode cL_law 163 = .ok (.iconst 4, 1) := by decide +kernel
theorem dL_law_164 : decode cL_law 164 = .ok (.if_icmp .ne 23, 3) := by decide +kernel
theorem dL_law_167 : decode cL_law 167 = .ok (.aload_n 1, 1) := by decide +kernel
theorem dL_law_168 : decode cL_law 168 = .ok (.iload 7, 2) := by decide +kernel
theorem dL_law_170 : decode cL_law 170 = .ok (.iload 5, 2) := by decide +kernel
theorem dL_law_172 : decode cL_law 172 = .ok (.bipush 9, 2) := by decide +kernel
theorem dL_law_174 : decode cL_law 174 = .ok (.ishr, 1) := by decide +kernel
theorem dL_law_175 : decode cL_law 175 = .ok (.iconst 4, 1) := by decide +kernel
theorem dL_law_176 : decode cL_law 176 = .ok (.invokestatic 243, 3) := by decide +kernel
theorem dL_law_179 : decode cL_law 179 = .ok (.lload 9, 2) := by decide +kernel
theorem dL_law_181 : decode cL_law 181 = .ok (.invokevirtual 37, 3) := by decide +kernel
theorem dL_law_184 : decode cL_law 184 = .ok (.goto 171, 3) := by decide +kernel
theorem dL_law_187 : decode cL_law 187 = .ok (.iload 6, 2) := by decide +kernel
theorem dL_law_189 : decode cL_law 189 = .ok (.iconst 5, 1) := by decide +kernel
theorem dL_law_190 : decode cL_law 190 = .ok (.if_icmp .ne 12, 3) := by decide +kernel
theorem dL_law_193 : decode cL_law 193 = .ok (.aload_n 1, 1) := by decide +kernel
theorem dL_law_194 : decode cL_law 194 = .ok (.iload 7, 2) := by decide +kernel
theorem dL_law_196 : decode cL_law 196 = .ok (.invokevirtual 41, 3) := by decide +kernel
theorem dL_law_199 : decode cL_law 199 = .ok (.goto 156, 3) := by decide +kernel
theorem dL_law_202 : decode cL_law 202 = .ok (.iload 6, 2) := by decide +kernel
theorem dL_law_204 : decode cL_law 204 = .ok (.bipush 6, 2) := by decide +kernel
theorem dL_law_206 : decode cL_law 206 = .ok (.if_icmp .ne 33, 3) := by decide +kernel
theorem dL_law_209 : decode cL_law 209 = .ok (.aload_n 1, 1) := by decide +kernel
theorem dL_law_210 : decode cL_law 210 = .ok (.iload 7, 2) := by decide +kernel
theorem dL_law_212 : decode cL_law 212 = .ok (.iload 5, 2) := by decide +kernel
theorem dL_law_214 : decode cL_law 214 = .ok (.bipush 6, 2) := by decide +kernel
theorem dL_law_216 : decode cL_law 216 = .ok (.ishr, 1) := by decide +kernel
theorem dL_law_217 : decode cL_law 217 = .ok (.iconst 5, 1) := by decide +kernel
theorem dL_law_218 : decode cL_law 218 = .ok (.invokestatic 243, 3) := by decide +kernel
theorem dL_law_221 : decode cL_law 221 = .ok (.iconst 1, 1) := by decide +kernel
theorem dL_law_222 : decode cL_law 222 = .ok (.iload 5, 2) := by decide +kernel
theorem dL_law_224 : decode cL_law 224 = .ok (.bipush 9, 2) := by decide +kernel
theorem dL_law_226 : decode cL_law 226 = .ok (.ishr, 1) := by decide +kernel
theorem dL_law_227 : decode cL_law 227 = .ok (.bipush 16, 2) := by decide +kernel
theorem dL_law_229 : decode cL_law 229 = .ok (.invokestatic 243, 3) := by decide +kernel
theorem dL_law_232 : decode cL_law 232 = .ok (.iadd, 1) := by decide +kernel
theorem dL_law_233 : decode cL_law 233 = .ok (.invokevirtual 44, 3) := by decide +kernel
theorem dL_law_236 : decode cL_law 236 = .ok (.goto 119, 3) := by decide +kernel
theorem dL_law_239 : decode cL_law 239 = .ok (.iload 6, 2) := by decide +kernel
theorem dL_law_241 : decode cL_law 241 = .ok (.bipush 7, 2) := by decide +kernel
theorem dL_law_243 : decode cL_law 243 = .ok (.if_icmp .ne 12, 3) := by decide +kernel
theorem dL_law_246 : decode cL_law 246 = .ok (.aload_n 1, 1) := by decide +kernel
theorem dL_law_247 : decode cL_law 247 = .ok (.iload 7, 2) := by decide +kernel
theorem dL_law_249 : decode cL_law 249 = .ok (.invokevirtual 48, 3) := by decide +kernel
theorem dL_law_252 : decode cL_law 252 = .ok (.goto 103, 3) := by decide +kernel
theorem dL_law_255 : decode cL_law 255 = .ok (.iload 6, 2) := by decide +kernel
theorem dL_law_257 : decode cL_law 257 = .ok (.bipush 8, 2) := by decide +kernel
theorem dL_law_259 : decode cL_law 259 = .ok (.if_icmp .ne 30, 3) := by decide +kernel
theorem dL_law_262 : decode cL_law 262 = .ok (.aload_n 1, 1) := by decide +kernel
theorem dL_law_263 : decode cL_law 263 = .ok (.iload 7, 2) := by decide +kernel
theorem dL_law_265 : decode cL_law 265 = .ok (.iload 5, 2) := by decide +kernel
theorem dL_law_267 : decode cL_law 267 = .ok (.bipush 6, 2) := by decide +kernel
theorem dL_law_269 : decode cL_law 269 = .ok (.ishr, 1) := by decide +kernel
theorem dL_law_270 : decode cL_law 270 = .ok (.iconst 4, 1) := by decide +kernel
theorem dL_law_271 : decode cL_law 271 = .ok (.invokestatic 243, 3) := by decide +kernel
theorem dL_law_274 : decode cL_law 274 = .ok (.iload 5, 2) := by decide +kernel
theorem dL_law_276 : decode cL_law 276 = .ok (.bipush 8, 2) := by decide +kernel
theorem dL_law_278 : decode cL_law 278 = .ok (.ishr, 1) := by decide +kernel
theorem dL_law_279 : decode cL_law 279 = .ok (.iconst 3, 1) := by decide +kernel
theorem dL_law_280 : decode cL_law 280 = .ok (.invokestatic 243, 3) := by decide +kernel
theorem dL_law_283 : decode cL_law 283 = .ok (.invokevirtual 54, 3) := by decide +kernel
theorem dL_law_286 : decode cL_law 286 = .ok (.goto 69, 3) := by decide +kernel
theorem dL_law_289 : decode cL_law 289 = .ok (.iload 6, 2) := by decide +kernel
theorem dL_law_291 : decode cL_law 291 = .ok (.bipush 9, 2) := by decide +kernel
theorem dL_law_293 : decode cL_law 293 = .ok (.if_icmp .ne 41, 3) := by decide +kernel
theorem dL_law_296 : decode cL_law 296 = .ok (.aload_n 1, 1) := by decide +kernel
theorem dL_law_297 : decode cL_law 297 = .ok (.iload 5, 2) := by decide +kernel
theorem dL_law_299 : decode cL_law 299 = .ok (.bipush 6, 2) := by decide +kernel
theorem dL_law_301 : decode cL_law 301 = .ok (.ishr, 1) := by decide +kernel
theorem dL_law_302 : decode cL_law 302 = .ok (.iconst 3, 1) := by decide +kernel
theorem dL_law_303 : decode cL_law 303 = .ok (.invokestatic 243, 3) := by decide +kernel
theorem dL_law_306 : decode cL_law 306 = .ok (.iload 5, 2) := by decide +kernel
theorem dL_law_308 : decode cL_law 308 = .ok (.bipush 8, 2) := by decide +kernel
theorem dL_law_310 : decode cL_law 310 = .ok (.ishr, 1) := by decide +kernel
theorem dL_law_311 : decode cL_law 311 = .ok (.iconst 3, 1) := by decide +kernel
theorem dL_law_312 : decode cL_law 312 = .ok (.invokestatic 243, 3) := by decide +kernel
theorem dL_law_315 : decode cL_law 315 = .ok (.iconst 1, 1) := by decide +kernel
theorem dL_law_316 : decode cL_law 316 = .ok (.if_icmp .ne 9, 3) := by decide +kernel
theorem dL_law_319 : decode cL_law 319 = .ok (.ldc2_w 252, 3) := by decide +kernel
theorem dL_law_322 : decode cL_law 322 = .ok (.goto 6, 3) := by decide +kernel
theorem dL_law_325 : decode cL_law 325 = .ok (.ldc2_w 201, 3) := by decide +kernel
theorem dL_law_328 : decode cL_law 328 = .ok (.invokevirtual 59, 3) := by decide +kernel
theorem dL_law_331 : decode cL_law 331 = .ok (.goto 24, 3) := by decide +kernel
theorem dL_law_334 : decode cL_law 334 = .ok (.aload_n 1, 1) := by decide +kernel
theorem dL_law_335 : decode cL_law 335 = .ok (.iload 5, 2) := by decide +kernel
theorem dL_law_337 : decode cL_law 337 = .ok (.bipush 6, 2) := by decide +kernel
theorem dL_law_339 : decode cL_law 339 = .ok (.ishr, 1) := by decide +kernel
theorem dL_law_340 : decode cL_law 340 = .ok (.iconst 2, 1) := by decide +kernel
theorem dL_law_341 : decode cL_law 341 = .ok (.invokestatic 243, 3) := by decide +kernel
theorem dL_law_344 : decode cL_law 344 = .ok (.ifCond .ne 7, 3) := by decide +kernel
theorem dL_law_347 : decode cL_law 347 = .ok (.iconst 1, 1) := by decide +kernel
theorem dL_law_348 : decode cL_law 348 = .ok (.goto 4, 3) := by decide +kernel
theorem dL_law_351 : decode cL_law 351 = .ok (.iconst 0, 1) := by decide +kernel
theorem dL_law_352 : decode cL_law 352 = .ok (.invokevirtual 209, 3) := by decide +kernel
theorem dL_law_355 : decode cL_law 355 = .ok (.istore 11, 2) := by decide +kernel
theorem dL_law_357 : decode cL_law 357 = .ok (.iload 11, 2) := by decide +kernel
theorem dL_law_359 : decode cL_law 359 = .ok (.ifCond .ge 25, 3) := by decide +kernel
theorem dL_law_362 : decode cL_law 362 = .ok (.aload_n 1, 1) := by decide +kernel
theorem dL_law_363 : decode cL_law 363 = .ok (.iconst 4, 1) := by decide +kernel
theorem dL_law_364 : decode cL_law 364 = .ok (.invokevirtual 33, 3) := by decide +kernel
theorem dL_law_367 : decode cL_law 367 = .ok (.iload 8, 2) := by decide +kernel
theorem dL_law_369 : decode cL_law 369 = .ok (.if_icmp .ne 13, 3) := by decide +kernel
theorem dL_law_372 : decode cL_law 372 = .ok (.aload_n 1, 1) := by decide +kernel
theorem dL_law_373 : decode cL_law 373 = .ok (.aload_n 2, 1) := by decide +kernel
theorem dL_law_374 : decode cL_law 374 = .ok (.iload_n 3, 1) := by decide +kernel
theorem dL_law_375 : decode cL_law 375 = .ok (.laload, 1) := by decide +kernel
theorem dL_law_376 : decode cL_law 376 = .ok (.invokestatic 254, 3) := by decide +kernel
theorem dL_law_379 : decode cL_law 379 = .ok (.ifCond .ne 5, 3) := by decide +kernel
theorem dL_law_382 : decode cL_law 382 = .ok (.iconst 0, 1) := by decide +kernel
theorem dL_law_383 : decode cL_law 383 = .ok (.ireturn, 1) := by decide +kernel
theorem dL_law_384 : decode cL_law 384 = .ok (.iload_n 3, 1) := by decide +kernel
theorem dL_law_385 : decode cL_law 385 = .ok (.iload 11, 2) := by decide +kernel
theorem dL_law_387 : decode cL_law 387 = .ok (.ifCond .ge 7, 3) := by decide +kernel
theorem dL_law_390 : decode cL_law 390 = .ok (.iconst 0, 1) := by decide +kernel
theorem dL_law_391 : decode cL_law 391 = .ok (.goto 4, 3) := by decide +kernel
theorem dL_law_394 : decode cL_law 394 = .ok (.iconst 1, 1) := by decide +kernel
theorem dL_law_395 : decode cL_law 395 = .ok (.iadd, 1) := by decide +kernel
theorem dL_law_396 : decode cL_law 396 = .ok (.istore_n 3, 1) := by decide +kernel
theorem dL_law_397 : decode cL_law 397 = .ok (.iinc 4 1, 3) := by decide +kernel
theorem dL_law_400 : decode cL_law 400 = .ok (.goto (-350), 3) := by decide +kernel
theorem dL_law_403 : decode cL_law 403 = .ok (.aload_n 2, 1) := by decide +kernel
theorem dL_law_404 : decode cL_law 404 = .ok (.iload_n 3, 1) := by decide +kernel
theorem dL_law_405 : decode cL_law 405 = .ok (.aload_n 1, 1) := by decide +kernel
theorem dL_law_406 : decode cL_law 406 = .ok (.invokestatic 246, 3) := by decide +kernel
theorem dL_law_409 : decode cL_law 409 = .ok (.lastore, 1) := by decide +kernel
theorem dL_law_410 : decode cL_law 410 = .ok (.aload_n 1, 1) := by decide +kernel
theorem dL_law_411 : decode cL_law 411 = .ok (.iconst 0, 1) := by decide +kernel
theorem dL_law_412 : decode cL_law 412 = .ok (.iconst 0, 1) := by decide +kernel
theorem dL_law_413 : decode cL_law 413 = .ok (.iconst 2, 1) := by decide +kernel
theorem dL_law_414 : decode cL_law 414 = .ok (.invokevirtual 44, 3) := by decide +kernel
theorem dL_law_417 : decode cL_law 417 = .ok (.iconst 2, 1) := by decide +kernel
theorem dL_law_418 : decode cL_law 418 = .ok (.if_icmp .ne 55, 3) := by decide +kernel
theorem dL_law_421 : decode cL_law 421 = .ok (.aload_n 1, 1) := by decide +kernel
theorem dL_law_422 : decode cL_law 422 = .ok (.iconst 0, 1) := by decide +kernel
theorem dL_law_423 : decode cL_law 423 = .ok (.ldc2_w 199, 3) := by decide +kernel
theorem dL_law_426 : decode cL_law 426 = .ok (.invokevirtual 25, 3) := by decide +kernel
theorem dL_law_429 : decode cL_law 429 = .ok (.iconst 3, 1) := by decide +kernel
theorem dL_law_430 : decode cL_law 430 = .ok (.if_icmp .ne 43, 3) := by decide +kernel
theorem dL_law_433 : decode cL_law 433 = .ok (.aload_n 1, 1) := by decide +kernel
theorem dL_law_434 : decode cL_law 434 = .ok (.invokestatic 173, 3) := by decide +kernel
theorem dL_law_437 : decode cL_law 437 = .ok (.ifCond .eq 36, 3) := by decide +kernel
theorem dL_law_440 : decode cL_law 440 = .ok (.aload_n 1, 1) := by decide +kernel
theorem dL_law_441 : decode cL_law 441 = .ok (.invokevirtual 257, 3) := by decide +kernel
theorem dL_law_444 : decode cL_law 444 = .ok (.aload_n 1, 1) := by decide +kernel
theorem dL_law_445 : decode cL_law 445 = .ok (.iconst 0, 1) := by decide +kernel
theorem dL_law_446 : decode cL_law 446 = .ok (.invokevirtual 33, 3) := by decide +kernel
theorem dL_law_449 : decode cL_law 449 = .ok (.aload_n 1, 1) := by decide +kernel
theorem dL_law_450 : decode cL_law 450 = .ok (.iconst 1, 1) := by decide +kernel
theorem dL_law_451 : decode cL_law 451 = .ok (.invokevirtual 33, 3) := by decide +kernel
theorem dL_law_454 : decode cL_law 454 = .ok (.iadd, 1) := by decide +kernel
theorem dL_law_455 : decode cL_law 455 = .ok (.if_icmp .ne 18, 3) := by decide +kernel
theorem dL_law_458 : decode cL_law 458 = .ok (.aload_n 1, 1) := by decide +kernel
theorem dL_law_459 : decode cL_law 459 = .ok (.invokevirtual 177, 3) := by decide +kernel
theorem dL_law_462 : decode cL_law 462 = .ok (.iconst 1, 1) := by decide +kernel
theorem dL_law_463 : decode cL_law 463 = .ok (.if_icmp .lt 10, 3) := by decide +kernel
theorem dL_law_466 : decode cL_law 466 = .ok (.aload_n 1, 1) := by decide +kernel
theorem dL_law_467 : decode cL_law 467 = .ok (.invokevirtual 177, 3) := by decide +kernel
theorem dL_law_470 : decode cL_law 470 = .ok (.ifCond .ge 5, 3) := by decide +kernel
theorem dL_law_473 : decode cL_law 473 = .ok (.iconst 0, 1) := by decide +kernel
theorem dL_law_474 : decode cL_law 474 = .ok (.ireturn, 1) := by decide +kernel
theorem dL_law_475 : decode cL_law 475 = .ok (.iconst 0, 1) := by decide +kernel
theorem dL_law_476 : decode cL_law 476 = .ok (.istore 4, 2) := by decide +kernel
theorem dL_law_478 : decode cL_law 478 = .ok (.aload_n 1, 1) := by decide +kernel
theorem dL_law_479 : decode cL_law 479 = .ok (.iconst 4, 1) := by decide +kernel
theorem dL_law_480 : decode cL_law 480 = .ok (.invokevirtual 33, 3) := by decide +kernel
theorem dL_law_483 : decode cL_law 483 = .ok (.ifCond .le 37, 3) := by decide +kernel
theorem dL_law_486 : decode cL_law 486 = .ok (.iload 4, 2) := by decide +kernel
theorem dL_law_488 : decode cL_law 488 = .ok (.iconst 4, 1) := by decide +kernel
theorem dL_law_489 : decode cL_law 489 = .ok (.if_icmp .gt 23, 3) := by decide +kernel
theorem dL_law_492 : decode cL_law 492 = .ok (.aload_n 1, 1) := by decide +kernel
theorem dL_law_493 : decode cL_law 493 = .ok (.aload_n 2, 1) := by decide +kernel
theorem dL_law_494 : decode cL_law 494 = .ok (.iload_n 3, 1) := by decide +kernel
theorem dL_law_495 : decode cL_law 495 = .ok (.iload 4, 2) := by decide +kernel
theorem dL_law_497 : decode cL_law 497 = .ok (.isub, 1) := by decide +kernel
theorem dL_law_498 : decode cL_law 498 = .ok (.laload, 1) := by decide +kernel
theorem dL_law_499 : decode cL_law 499 = .ok (.invokestatic 254, 3) := by decide +kernel
theorem dL_law_502 : decode cL_law 502 = .ok (.ifCond .eq 10, 3) := by decide +kernel
theorem dL_law_505 : decode cL_law 505 = .ok (.aload_n 1, 1) := by decide +kernel
theorem dL_law_506 : decode cL_law 506 = .ok (.invokevirtual 177, 3) := by decide +kernel
theorem dL_law_509 : decode cL_law 509 = .ok (.ifCond .ge 5, 3) := by decide +kernel
theorem dL_law_512 : decode cL_law 512 = .ok (.iconst 0, 1) := by decide +kernel
theorem dL_law_513 : decode cL_law 513 = .ok (.ireturn, 1) := by decide +kernel
theorem dL_law_514 : decode cL_law 514 = .ok (.iinc 4 1, 3) := by decide +kernel
theorem dL_law_517 : decode cL_law 517 = .ok (.goto (-39), 3) := by decide +kernel
theorem dL_law_520 : decode cL_law 520 = .ok (.aload_n 1, 1) := by decide +kernel
theorem dL_law_521 : decode cL_law 521 = .ok (.invokevirtual 177, 3) := by decide +kernel
theorem dL_law_524 : decode cL_law 524 = .ok (.bipush (-5), 2) := by decide +kernel
theorem dL_law_526 : decode cL_law 526 = .ok (.if_icmp .ne 65, 3) := by decide +kernel
theorem dL_law_529 : decode cL_law 529 = .ok (.aload_n 1, 1) := by decide +kernel
theorem dL_law_530 : decode cL_law 530 = .ok (.iconst 5, 1) := by decide +kernel
theorem dL_law_531 : decode cL_law 531 = .ok (.invokevirtual 33, 3) := by decide +kernel
theorem dL_law_534 : decode cL_law 534 = .ok (.iconst 5, 1) := by decide +kernel
theorem dL_law_535 : decode cL_law 535 = .ok (.if_icmp .ne 56, 3) := by decide +kernel
theorem dL_law_538 : decode cL_law 538 = .ok (.aload_n 1, 1) := by decide +kernel
theorem dL_law_539 : decode cL_law 539 = .ok (.invokevirtual 180, 3) := by decide +kernel
theorem dL_law_542 : decode cL_law 542 = .ok (.aload_n 1, 1) := by decide +kernel
theorem dL_law_543 : decode cL_law 543 = .ok (.iconst 0, 1) := by decide +kernel
theorem dL_law_544 : decode cL_law 544 = .ok (.invokevirtual 33, 3) := by decide +kernel
theorem dL_law_547 : decode cL_law 547 = .ok (.aload_n 1, 1) := by decide +kernel
theorem dL_law_548 : decode cL_law 548 = .ok (.iconst 1, 1) := by decide +kernel
theorem dL_law_549 : decode cL_law 549 = .ok (.invokevirtual 33, 3) := by decide +kernel
theorem dL_law_552 : decode cL_law 552 = .ok (.iadd, 1) := by decide +kernel
theorem dL_law_553 : decode cL_law 553 = .ok (.if_icmp .ne 38, 3) := by decide +kernel
theorem dL_law_556 : decode cL_law 556 = .ok (.aload_n 1, 1) := by decide +kernel
theorem dL_law_557 : decode cL_law 557 = .ok (.iconst 0, 1) := by decide +kernel
theorem dL_law_558 : decode cL_law 558 = .ok (.invokevirtual 33, 3) := by decide +kernel
theorem dL_law_561 : decode cL_law 561 = .ok (.iconst 3, 1) := by decide +kernel
theorem dL_law_562 : decode cL_law 562 = .ok (.if_icmp .ne 29, 3) := by decide +kernel
theorem dL_law_565 : decode cL_law 565 = .ok (.aload_n 1, 1) := by decide +kernel
theorem dL_law_566 : decode cL_law 566 = .ok (.iconst 0, 1) := by decide +kernel
theorem dL_law_567 : decode cL_law 567 = .ok (.iconst 2, 1) := by decide +kernel
theorem dL_law_568 : decode cL_law 568 = .ok (.invokevirtual 9, 3) := by decide +kernel
theorem dL_law_571 : decode cL_law 571 = .ok (.ldc2_w 197, 3) := by decide +kernel
theorem dL_law_574 : decode cL_law 574 = .ok (.dcmp .l, 1) := by decide +kernel
theorem dL_law_575 : decode cL_law 575 = .ok (.ifCond .ne 16, 3) := by decide +kernel
theorem dL_law_578 : decode cL_law 578 = .ok (.aload_n 1, 1) := by decide +kernel
theorem dL_law_579 : decode cL_law 579 = .ok (.iconst 4, 1) := by decide +kernel
theorem dL_law_580 : decode cL_law 580 = .ok (.invokevirtual 33, 3) := by decide +kernel
theorem dL_law_583 : decode cL_law 583 = .ok (.iconst 1, 1) := by decide +kernel
theorem dL_law_584 : decode cL_law 584 = .ok (.if_icmp .ne 7, 3) := by decide +kernel
theorem dL_law_587 : decode cL_law 587 = .ok (.iconst 1, 1) := by decide +kernel
theorem dL_law_588 : decode cL_law 588 = .ok (.goto 4, 3) := by decide +kernel
theorem dL_law_591 : decode cL_law 591 = .ok (.iconst 0, 1) := by decide +kernel
theorem dL_law_592 : decode cL_law 592 = .ok (.ireturn, 1) := by decide +kernel
abbrev vwCl : List vw_C := [(RX1, TX1, 10), (RX2, TX2, 3), (RX4, TX4, 2), (RX5, TX5, 4), (RX7, TX7, 4), (RX8, TX8, 7)]

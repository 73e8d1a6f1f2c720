/-! the law's arms (printed by mklaw.py) -/
section ARM
variable {g : GP} {J : JT} {b L i t K nn : Nat} {Lw : Wld} {xs : Nat → Int32} {a : Nat → Nat} {h : HT} {P : PT}
theorem arm_11 (hJ : JL g b L xs J) (hi : i + 5 ≤ L) (hL : L ≤ 320) (X : Ix P K Lw nn h) (hP : P.length ≤ t) (ht : t < 100) (next : Nx g b J t i) : Z g mL_law J (200 + t) (4000 + 2 * t) 583 [some (.ref b), some (.ref (a 0)), some (.ref (a 93)), some (.int (nI i))] [] (WD g a h P) := by
  obtain ⟨y, h1, h2, e1, e2, iv⟩ := Bo.mu X (b_comes X (xs (i + 1)) (xs (i + 2)) (xs (i + 3)) (xs (i + 4)))
  refine Z.aload_n (n := 584) dL_law_583 rfl rfl ?_
  refine Z.aload_n (n := 585) dL_law_584 rfl rfl ?_
  refine Z.iload_n (n := 586) dL_law_585 rfl rfl ?_
  refine Z.iconst (n := 587) (v := 1) dL_law_586 rfl (by decide +kernel) ?_
  refine Z.iadd (n := 588) dL_law_587 rfl ?_
  refine Z.sld (n := 589) (j := i + 1) hJ dL_law_588 rfl (nI_add i 1) (by omega) (by omega) ?_
  refine Z.aload_n (n := 590) dL_law_589 rfl rfl ?_
  refine Z.iload_n (n := 591) dL_law_590 rfl rfl ?_
  refine Z.iconst (n := 592) (v := 2) dL_law_591 rfl (by decide +kernel) ?_
  refine Z.iadd (n := 593) dL_law_592 rfl ?_
  refine Z.sld (n := 594) (j := i + 2) hJ dL_law_593 rfl (nI_add i 2) (by omega) (by omega) ?_
  refine Z.aload_n (n := 595) dL_law_594 rfl rfl ?_
  refine Z.iload_n (n := 596) dL_law_595 rfl rfl ?_
  refine Z.iconst (n := 597) (v := 3) dL_law_596 rfl (by decide +kernel) ?_
  refine Z.iadd (n := 598) dL_law_597 rfl ?_
  refine Z.sld (n := 599) (j := i + 3) hJ dL_law_598 rfl (nI_add i 3) (by omega) (by omega) ?_
  refine Z.aload_n (n := 600) dL_law_599 rfl rfl ?_
  refine Z.iload_n (n := 601) dL_law_600 rfl rfl ?_
  refine Z.iconst (n := 602) (v := 4) dL_law_601 rfl (by decide +kernel) ?_
  refine Z.iadd (n := 603) dL_law_602 rfl ?_
  refine Z.sld (n := 604) (j := i + 4) hJ dL_law_603 rfl (nI_add i 4) (by omega) (by omega) ?_
  refine Z.callV (cl' := 200 + t) (sl' := 4000 + 2 * t) (n := 607) vL_63 (ctX11_comes X.2.1.1 e1) hJ.rm (Nat.le_of_ble_eq_true rfl) rfl rfl (by omega) (by omega) rfl W0 rfl rfl (Nat.le_of_ble_eq_true rfl) rfl dL_law_604 rfl (fun v w hw => ?_)
  obtain ⟨rfl, rfl⟩ := hw
  show Z g mL_law J _ _ 607 [some (.ref b), some (.ref (a 0)), some (.ref (a 93)), some (.int (nI i))] [.int y] (WD g a h1 P)
  refine Z.aload_n (n := 608) dL_law_607 rfl rfl ?_
  refine Z.aload_n (n := 609) dL_law_608 rfl rfl ?_
  refine Z.iload_n (n := 610) dL_law_609 rfl rfl ?_
  refine Z.iconst (n := 611) (v := 1) dL_law_610 rfl (by decide +kernel) ?_
  refine Z.iadd (n := 612) dL_law_611 rfl ?_
  refine Z.sld (n := 613) (j := i + 1) hJ dL_law_612 rfl (nI_add i 1) (by omega) (by omega) ?_
  refine Z.aload_n (n := 614) dL_law_613 rfl rfl ?_
  refine Z.iload_n (n := 615) dL_law_614 rfl rfl ?_
  refine Z.iconst (n := 616) (v := 2) dL_law_615 rfl (by decide +kernel) ?_
  refine Z.iadd (n := 617) dL_law_616 rfl ?_
  refine Z.sld (n := 618) (j := i + 2) hJ dL_law_617 rfl (nI_add i 2) (by omega) (by omega) ?_
  refine Z.aload_n (n := 619) dL_law_618 rfl rfl ?_
  refine Z.iload_n (n := 620) dL_law_619 rfl rfl ?_
  refine Z.iconst (n := 621) (v := 3) dL_law_620 rfl (by decide +kernel) ?_
  refine Z.iadd (n := 622) dL_law_621 rfl ?_
  refine Z.sld (n := 623) (j := i + 3) hJ dL_law_622 rfl (nI_add i 3) (by omega) (by omega) ?_
  refine Z.aload_n (n := 624) dL_law_623 rfl rfl ?_
  refine Z.iload_n (n := 625) dL_law_624 rfl rfl ?_
  refine Z.iconst (n := 626) (v := 4) dL_law_625 rfl (by decide +kernel) ?_
  refine Z.iadd (n := 627) dL_law_626 rfl ?_
  refine Z.sld (n := 628) (j := i + 4) hJ dL_law_627 rfl (nI_add i 4) (by omega) (by omega) ?_
  refine Z.callV (cl' := 200 + t) (sl' := 4000 + 2 * t) (n := 631) vL_67 (ctX12_comes e2) hJ.rm (Nat.le_of_ble_eq_true rfl) rfl rfl (by omega) (by omega) rfl W93 rfl rfl (Nat.le_of_ble_eq_true rfl) rfl dL_law_628 rfl (fun v w hw => ?_)
  obtain ⟨rfl, rfl⟩ := hw
  show Z g mL_law J _ _ 631 [some (.ref b), some (.ref (a 0)), some (.ref (a 93)), some (.int (nI i))] [.int y, .int y] (WD g a h2 P)
  exact Z.icmp_eq (n := 634) (tgt := 1286) dL_law_631 (by decide +kernel) rfl (fun _ => (Z.wd (by omega) (by omega) (next a h2 P iv (by omega)))) (fun cc => absurd rfl cc)
theorem arm_12 (hJ : JL g b L xs J) (hi : i + 5 ≤ L) (hL : L ≤ 320) (X : Ix P K Lw nn h) (hP : P.length ≤ t) (ht : t < 100) (next : Nx g b J t i) : Z g mL_law J (200 + t) (4000 + 2 * t) 636 [some (.ref b), some (.ref (a 0)), some (.ref (a 93)), some (.int (nI i))] [] (WD g a h P) := by
  obtain ⟨y, h1, h2, e1, e2, iv⟩ := BoL.mu X (b_war X (xs (i + 1)) (xs (i + 2)) (xs (i + 3)) (xs (i + 4)))
  refine Z.aload_n (n := 637) dL_law_636 rfl rfl ?_
  refine Z.aload_n (n := 638) dL_law_637 rfl rfl ?_
  refine Z.iload_n (n := 639) dL_law_638 rfl rfl ?_
  refine Z.iconst (n := 640) (v := 1) dL_law_639 rfl (by decide +kernel) ?_
  refine Z.iadd (n := 641) dL_law_640 rfl ?_
  refine Z.sld (n := 642) (j := i + 1) hJ dL_law_641 rfl (nI_add i 1) (by omega) (by omega) ?_
  refine Z.aload_n (n := 643) dL_law_642 rfl rfl ?_
  refine Z.iload_n (n := 644) dL_law_643 rfl rfl ?_
  refine Z.iconst (n := 645) (v := 2) dL_law_644 rfl (by decide +kernel) ?_
  refine Z.iadd (n := 646) dL_law_645 rfl ?_
  refine Z.sld (n := 647) (j := i + 2) hJ dL_law_646 rfl (nI_add i 2) (by omega) (by omega) ?_
  refine Z.aload_n (n := 648) dL_law_647 rfl rfl ?_
  refine Z.iload_n (n := 649) dL_law_648 rfl rfl ?_
  refine Z.iconst (n := 650) (v := 3) dL_law_649 rfl (by decide +kernel) ?_
  refine Z.iadd (n := 651) dL_law_650 rfl ?_
  refine Z.sld (n := 652) (j := i + 3) hJ dL_law_651 rfl (nI_add i 3) (by omega) (by omega) ?_
  refine Z.aload_n (n := 653) dL_law_652 rfl rfl ?_
  refine Z.iload_n (n := 654) dL_law_653 rfl rfl ?_
  refine Z.iconst (n := 655) (v := 4) dL_law_654 rfl (by decide +kernel) ?_
  refine Z.iadd (n := 656) dL_law_655 rfl ?_
  refine Z.sld (n := 657) (j := i + 4) hJ dL_law_656 rfl (nI_add i 4) (by omega) (by omega) ?_
  refine Z.callV (cl' := 200 + t) (sl' := 4000 + 2 * t) (n := 660) vL_68 (ctX11_war X.2.1.1 e1) hJ.rm (Nat.le_of_ble_eq_true rfl) rfl rfl (by omega) (by omega) rfl W0 rfl rfl (Nat.le_of_ble_eq_true rfl) rfl dL_law_657 rfl (fun v w hw => ?_)
  obtain ⟨rfl, rfl⟩ := hw
  show Z g mL_law J _ _ 660 [some (.ref b), some (.ref (a 0)), some (.ref (a 93)), some (.int (nI i))] [.long y] (WD g a h1 P)
  refine Z.aload_n (n := 661) dL_law_660 rfl rfl ?_
  refine Z.aload_n (n := 662) dL_law_661 rfl rfl ?_
  refine Z.iload_n (n := 663) dL_law_662 rfl rfl ?_
  refine Z.iconst (n := 664) (v := 1) dL_law_663 rfl (by decide +kernel) ?_
  refine Z.iadd (n := 665) dL_law_664 rfl ?_
  refine Z.sld (n := 666) (j := i + 1) hJ dL_law_665 rfl (nI_add i 1) (by omega) (by omega) ?_
  refine Z.aload_n (n := 667) dL_law_666 rfl rfl ?_
  refine Z.iload_n (n := 668) dL_law_667 rfl rfl ?_
  refine Z.iconst (n := 669) (v := 2) dL_law_668 rfl (by decide +kernel) ?_
  refine Z.iadd (n := 670) dL_law_669 rfl ?_
  refine Z.sld (n := 671) (j := i + 2) hJ dL_law_670 rfl (nI_add i 2) (by omega) (by omega) ?_
  refine Z.aload_n (n := 672) dL_law_671 rfl rfl ?_
  refine Z.iload_n (n := 673) dL_law_672 rfl rfl ?_
  refine Z.iconst (n := 674) (v := 3) dL_law_673 rfl (by decide +kernel) ?_
  refine Z.iadd (n := 675) dL_law_674 rfl ?_
  refine Z.sld (n := 676) (j := i + 3) hJ dL_law_675 rfl (nI_add i 3) (by omega) (by omega) ?_
  refine Z.aload_n (n := 677) dL_law_676 rfl rfl ?_
  refine Z.iload_n (n := 678) dL_law_677 rfl rfl ?_
  refine Z.iconst (n := 679) (v := 4) dL_law_678 rfl (by decide +kernel) ?_
  refine Z.iadd (n := 680) dL_law_679 rfl ?_
  refine Z.sld (n := 681) (j := i + 4) hJ dL_law_680 rfl (nI_add i 4) (by omega) (by omega) ?_
  refine Z.callV (cl' := 200 + t) (sl' := 4000 + 2 * t) (n := 684) vL_72 (ctX12_war e2) hJ.rm (Nat.le_of_ble_eq_true rfl) rfl rfl (by omega) (by omega) rfl W93 rfl rfl (Nat.le_of_ble_eq_true rfl) rfl dL_law_681 rfl (fun v w hw => ?_)
  obtain ⟨rfl, rfl⟩ := hw
  show Z g mL_law J _ _ 684 [some (.ref b), some (.ref (a 0)), some (.ref (a 93)), some (.int (nI i))] [.long y, .long y] (WD g a h2 P)
  refine Z.lcmp (n := 685) (v := 0) dL_law_684 rfl (lgc y) ?_
  exact Z.if_eq (n := 688) (tgt := 1286) dL_law_685 (by decide +kernel) rfl (fun _ => Z.wd (by omega) (by omega) (next a h2 P iv (by omega))) (fun cc => absurd rfl cc)
theorem arm_13 (hJ : JL g b L xs J) (hi : i + 5 ≤ L) (hL : L ≤ 320) (X : Ix P K Lw nn h) (hP : P.length ≤ t) (ht : t < 100) (next : Nx g b J t i) : Z g mL_law J (200 + t) (4000 + 2 * t) 690 [some (.ref b), some (.ref (a 0)), some (.ref (a 93)), some (.int (nI i))] [] (WD g a h P) := by
  obtain ⟨y, h1, h2, e1, e2, iv⟩ := Bo.mu X (b_dares X (xs (i + 1)) (xs (i + 2)) (xs (i + 3)))
  refine Z.aload_n (n := 691) dL_law_690 rfl rfl ?_
  refine Z.aload_n (n := 692) dL_law_691 rfl rfl ?_
  refine Z.iload_n (n := 693) dL_law_692 rfl rfl ?_
  refine Z.iconst (n := 694) (v := 1) dL_law_693 rfl (by decide +kernel) ?_
  refine Z.iadd (n := 695) dL_law_694 rfl ?_
  refine Z.sld (n := 696) (j := i + 1) hJ dL_law_695 rfl (nI_add i 1) (by omega) (by omega) ?_
  refine Z.aload_n (n := 697) dL_law_696 rfl rfl ?_
  refine Z.iload_n (n := 698) dL_law_697 rfl rfl ?_
  refine Z.iconst (n := 699) (v := 2) dL_law_698 rfl (by decide +kernel) ?_
  refine Z.iadd (n := 700) dL_law_699 rfl ?_
  refine Z.sld (n := 701) (j := i + 2) hJ dL_law_700 rfl (nI_add i 2) (by omega) (by omega) ?_
  refine Z.aload_n (n := 702) dL_law_701 rfl rfl ?_
  refine Z.iload_n (n := 703) dL_law_702 rfl rfl ?_
  refine Z.iconst (n := 704) (v := 3) dL_law_703 rfl (by decide +kernel) ?_
  refine Z.iadd (n := 705) dL_law_704 rfl ?_
  refine Z.sld (n := 706) (j := i + 3) hJ dL_law_705 rfl (nI_add i 3) (by omega) (by omega) ?_
  refine Z.callV (cl' := 200 + t) (sl' := 4000 + 2 * t) (n := 709) vL_73 (ctX11_dares X.2.1.1 e1) hJ.rm (Nat.le_of_ble_eq_true rfl) rfl rfl (by omega) (by omega) rfl W0 rfl rfl (Nat.le_of_ble_eq_true rfl) rfl dL_law_706 rfl (fun v w hw => ?_)
  obtain ⟨rfl, rfl⟩ := hw
  show Z g mL_law J _ _ 709 [some (.ref b), some (.ref (a 0)), some (.ref (a 93)), some (.int (nI i))] [.int y] (WD g a h1 P)
  refine Z.aload_n (n := 710) dL_law_709 rfl rfl ?_
  refine Z.aload_n (n := 711) dL_law_710 rfl rfl ?_
  refine Z.iload_n (n := 712) dL_law_711 rfl rfl ?_
  refine Z.iconst (n := 713) (v := 1) dL_law_712 rfl (by decide +kernel) ?_
  refine Z.iadd (n := 714) dL_law_713 rfl ?_
  refine Z.sld (n := 715) (j := i + 1) hJ dL_law_714 rfl (nI_add i 1) (by omega) (by omega) ?_
  refine Z.aload_n (n := 716) dL_law_715 rfl rfl ?_
  refine Z.iload_n (n := 717) dL_law_716 rfl rfl ?_
  refine Z.iconst (n := 718) (v := 2) dL_law_717 rfl (by decide +kernel) ?_
  refine Z.iadd (n := 719) dL_law_718 rfl ?_
  refine Z.sld (n := 720) (j := i + 2) hJ dL_law_719 rfl (nI_add i 2) (by omega) (by omega) ?_
  refine Z.aload_n (n := 721) dL_law_720 rfl rfl ?_
  refine Z.iload_n (n := 722) dL_law_721 rfl rfl ?_
  refine Z.iconst (n := 723) (v := 3) dL_law_722 rfl (by decide +kernel) ?_
  refine Z.iadd (n := 724) dL_law_723 rfl ?_
  refine Z.sld (n := 725) (j := i + 3) hJ dL_law_724 rfl (nI_add i 3) (by omega) (by omega) ?_
  refine Z.callV (cl' := 200 + t) (sl' := 4000 + 2 * t) (n := 728) vL_76 (ctX12_dares e2) hJ.rm (Nat.le_of_ble_eq_true rfl) rfl rfl (by omega) (by omega) rfl W93 rfl rfl (Nat.le_of_ble_eq_true rfl) rfl dL_law_725 rfl (fun v w hw => ?_)
  obtain ⟨rfl, rfl⟩ := hw
  show Z g mL_law J _ _ 728 [some (.ref b), some (.ref (a 0)), some (.ref (a 93)), some (.int (nI i))] [.int y, .int y] (WD g a h2 P)
  exact Z.icmp_eq (n := 731) (tgt := 1286) dL_law_728 (by decide +kernel) rfl (fun _ => (Z.wd (by omega) (by omega) (next a h2 P iv (by omega)))) (fun cc => absurd rfl cc)
theorem arm_14 (hJ : JL g b L xs J) (hi : i + 5 ≤ L) (hL : L ≤ 320) (X : Ix P K Lw nn h) (hP : P.length ≤ t) (ht : t < 100) (next : Nx g b J t i) : Z g mL_law J (200 + t) (4000 + 2 * t) 733 [some (.ref b), some (.ref (a 0)), some (.ref (a 93)), some (.int (nI i))] [] (WD g a h P) := by
  obtain ⟨y, h1, h2, e1, e2, iv⟩ := Bo.mu X (b_first X (xs (i + 1)))
  refine Z.aload_n (n := 734) dL_law_733 rfl rfl ?_
  refine Z.aload_n (n := 735) dL_law_734 rfl rfl ?_
  refine Z.iload_n (n := 736) dL_law_735 rfl rfl ?_
  refine Z.iconst (n := 737) (v := 1) dL_law_736 rfl (by decide +kernel) ?_
  refine Z.iadd (n := 738) dL_law_737 rfl ?_
  refine Z.sld (n := 739) (j := i + 1) hJ dL_law_738 rfl (nI_add i 1) (by omega) (by omega) ?_
  refine Z.callV (cl' := 200 + t) (sl' := 4000 + 2 * t) (n := 742) vL_77 (ctX11_first X.2.1.1 e1) hJ.rm (Nat.le_of_ble_eq_true rfl) rfl rfl (by omega) (by omega) rfl W0 rfl rfl (Nat.le_of_ble_eq_true rfl) rfl dL_law_739 rfl (fun v w hw => ?_)
  obtain ⟨rfl, rfl⟩ := hw
  show Z g mL_law J _ _ 742 [some (.ref b), some (.ref (a 0)), some (.ref (a 93)), some (.int (nI i))] [.int y] (WD g a h1 P)
  refine Z.aload_n (n := 743) dL_law_742 rfl rfl ?_
  refine Z.aload_n (n := 744) dL_law_743 rfl rfl ?_
  refine Z.iload_n (n := 745) dL_law_744 rfl rfl ?_
  refine Z.iconst (n := 746) (v := 1) dL_law_745 rfl (by decide +kernel) ?_
  refine Z.iadd (n := 747) dL_law_746 rfl ?_
  refine Z.sld (n := 748) (j := i + 1) hJ dL_law_747 rfl (nI_add i 1) (by omega) (by omega) ?_
  refine Z.callV (cl' := 200 + t) (sl' := 4000 + 2 * t) (n := 751) vL_81 (ctX12_first e2) hJ.rm (Nat.le_of_ble_eq_true rfl) rfl rfl (by omega) (by omega) rfl W93 rfl rfl (Nat.le_of_ble_eq_true rfl) rfl dL_law_748 rfl (fun v w hw => ?_)
  obtain ⟨rfl, rfl⟩ := hw
  show Z g mL_law J _ _ 751 [some (.ref b), some (.ref (a 0)), some (.ref (a 93)), some (.int (nI i))] [.int y, .int y] (WD g a h2 P)
  exact Z.icmp_eq (n := 754) (tgt := 1286) dL_law_751 (by decide +kernel) rfl (fun _ => (Z.wd (by omega) (by omega) (next a h2 P iv (by omega)))) (fun cc => absurd rfl cc)
theorem arm_15 (hJ : JL g b L xs J) (hi : i + 5 ≤ L) (hL : L ≤ 320) (X : Ix P K Lw nn h) (hP : P.length ≤ t) (ht : t < 100) (next : Nx g b J t i) : Z g mL_law J (200 + t) (4000 + 2 * t) 756 [some (.ref b), some (.ref (a 0)), some (.ref (a 93)), some (.int (nI i))] [] (WD g a h P) := by
  obtain ⟨y, h1, h2, e1, e2, iv⟩ := Bo.mu X (b_keeps X (xs (i + 1)) (xs (i + 2)) (xs (i + 3)))
  refine Z.aload_n (n := 757) dL_law_756 rfl rfl ?_
  refine Z.aload_n (n := 758) dL_law_757 rfl rfl ?_
  refine Z.iload_n (n := 759) dL_law_758 rfl rfl ?_
  refine Z.iconst (n := 760) (v := 1) dL_law_759 rfl (by decide +kernel) ?_
  refine Z.iadd (n := 761) dL_law_760 rfl ?_
  refine Z.sld (n := 762) (j := i + 1) hJ dL_law_761 rfl (nI_add i 1) (by omega) (by omega) ?_
  refine Z.aload_n (n := 763) dL_law_762 rfl rfl ?_
  refine Z.iload_n (n := 764) dL_law_763 rfl rfl ?_
  refine Z.iconst (n := 765) (v := 2) dL_law_764 rfl (by decide +kernel) ?_
  refine Z.iadd (n := 766) dL_law_765 rfl ?_
  refine Z.sld (n := 767) (j := i + 2) hJ dL_law_766 rfl (nI_add i 2) (by omega) (by omega) ?_
  refine Z.aload_n (n := 768) dL_law_767 rfl rfl ?_
  refine Z.iload_n (n := 769) dL_law_768 rfl rfl ?_
  refine Z.iconst (n := 770) (v := 3) dL_law_769 rfl (by decide +kernel) ?_
  refine Z.iadd (n := 771) dL_law_770 rfl ?_
  refine Z.sld (n := 772) (j := i + 3) hJ dL_law_771 rfl (nI_add i 3) (by omega) (by omega) ?_
  refine Z.callV (cl' := 200 + t) (sl' := 4000 + 2 * t) (n := 775) vL_82 (ctX11_keeps e1) hJ.rm (Nat.le_of_ble_eq_true rfl) rfl rfl (by omega) (by omega) rfl W0 rfl rfl (Nat.le_of_ble_eq_true rfl) rfl dL_law_772 rfl (fun v w hw => ?_)
  obtain ⟨rfl, rfl⟩ := hw
  show Z g mL_law J _ _ 775 [some (.ref b), some (.ref (a 0)), some (.ref (a 93)), some (.int (nI i))] [.int y] (WD g a h1 P)
  refine Z.aload_n (n := 776) dL_law_775 rfl rfl ?_
  refine Z.aload_n (n := 777) dL_law_776 rfl rfl ?_
  refine Z.iload_n (n := 778) dL_law_777 rfl rfl ?_
  refine Z.iconst (n := 779) (v := 1) dL_law_778 rfl (by decide +kernel) ?_
  refine Z.iadd (n := 780) dL_law_779 rfl ?_
  refine Z.sld (n := 781) (j := i + 1) hJ dL_law_780 rfl (nI_add i 1) (by omega) (by omega) ?_
  refine Z.aload_n (n := 782) dL_law_781 rfl rfl ?_
  refine Z.iload_n (n := 783) dL_law_782 rfl rfl ?_
  refine Z.iconst (n := 784) (v := 2) dL_law_783 rfl (by decide +kernel) ?_
  refine Z.iadd (n := 785) dL_law_784 rfl ?_
  refine Z.sld (n := 786) (j := i + 2) hJ dL_law_785 rfl (nI_add i 2) (by omega) (by omega) ?_
  refine Z.aload_n (n := 787) dL_law_786 rfl rfl ?_
  refine Z.iload_n (n := 788) dL_law_787 rfl rfl ?_
  refine Z.iconst (n := 789) (v := 3) dL_law_788 rfl (by decide +kernel) ?_
  refine Z.iadd (n := 790) dL_law_789 rfl ?_
  refine Z.sld (n := 791) (j := i + 3) hJ dL_law_790 rfl (nI_add i 3) (by omega) (by omega) ?_
  refine Z.callV (cl' := 200 + t) (sl' := 4000 + 2 * t) (n := 794) vL_85 (ctX12_keeps e2) hJ.rm (Nat.le_of_ble_eq_true rfl) rfl rfl (by omega) (by omega) rfl W93 rfl rfl (Nat.le_of_ble_eq_true rfl) rfl dL_law_791 rfl (fun v w hw => ?_)
  obtain ⟨rfl, rfl⟩ := hw
  show Z g mL_law J _ _ 794 [some (.ref b), some (.ref (a 0)), some (.ref (a 93)), some (.int (nI i))] [.int y, .int y] (WD g a h2 P)
  exact Z.icmp_eq (n := 797) (tgt := 1286) dL_law_794 (by decide +kernel) rfl (fun _ => (Z.wd (by omega) (by omega) (next a h2 P iv (by omega)))) (fun cc => absurd rfl cc)
theorem arm_16 (hJ : JL g b L xs J) (hi : i + 5 ≤ L) (hL : L ≤ 320) (X : Ix P K Lw nn h) (hP : P.length ≤ t) (ht : t < 100) (next : Nx g b J t i) : Z g mL_law J (200 + t) (4000 + 2 * t) 799 [some (.ref b), some (.ref (a 0)), some (.ref (a 93)), some (.int (nI i))] [] (WD g a h P) := by
  obtain ⟨y, h1, h2, e1, e2, iv⟩ := Bo.mu X (b_empty X (xs (i + 1)))
  refine Z.aload_n (n := 800) dL_law_799 rfl rfl ?_
  refine Z.aload_n (n := 801) dL_law_800 rfl rfl ?_
  refine Z.iload_n (n := 802) dL_law_801 rfl rfl ?_
  refine Z.iconst (n := 803) (v := 1) dL_law_802 rfl (by decide +kernel) ?_
  refine Z.iadd (n := 804) dL_law_803 rfl ?_
  refine Z.sld (n := 805) (j := i + 1) hJ dL_law_804 rfl (nI_add i 1) (by omega) (by omega) ?_
  refine Z.callV (cl' := 200 + t) (sl' := 4000 + 2 * t) (n := 808) vL_86 (ctX11_empty e1) hJ.rm (Nat.le_of_ble_eq_true rfl) rfl rfl (by omega) (by omega) rfl W0 rfl rfl (Nat.le_of_ble_eq_true rfl) rfl dL_law_805 rfl (fun v w hw => ?_)
  obtain ⟨rfl, rfl⟩ := hw
  show Z g mL_law J _ _ 808 [some (.ref b), some (.ref (a 0)), some (.ref (a 93)), some (.int (nI i))] [.int y] (WD g a h1 P)
  refine Z.aload_n (n := 809) dL_law_808 rfl rfl ?_
  refine Z.aload_n (n := 810) dL_law_809 rfl rfl ?_
  refine Z.iload_n (n := 811) dL_law_810 rfl rfl ?_
  refine Z.iconst (n := 812) (v := 1) dL_law_811 rfl (by decide +kernel) ?_
  refine Z.iadd (n := 813) dL_law_812 rfl ?_
  refine Z.sld (n := 814) (j := i + 1) hJ dL_law_813 rfl (nI_add i 1) (by omega) (by omega) ?_
  refine Z.callV (cl' := 200 + t) (sl' := 4000 + 2 * t) (n := 817) vL_89 (ctX12_empty e2) hJ.rm (Nat.le_of_ble_eq_true rfl) rfl rfl (by omega) (by omega) rfl W93 rfl rfl (Nat.le_of_ble_eq_true rfl) rfl dL_law_814 rfl (fun v w hw => ?_)
  obtain ⟨rfl, rfl⟩ := hw
  show Z g mL_law J _ _ 817 [some (.ref b), some (.ref (a 0)), some (.ref (a 93)), some (.int (nI i))] [.int y, .int y] (WD g a h2 P)
  exact Z.icmp_eq (n := 820) (tgt := 1286) dL_law_817 (by decide +kernel) rfl (fun _ => (Z.wd (by omega) (by omega) (next a h2 P iv (by omega)))) (fun cc => absurd rfl cc)
theorem arm_17 (hJ : JL g b L xs J) (hi : i + 5 ≤ L) (hL : L ≤ 320) (X : Ix P K Lw nn h) (hP : P.length ≤ t) (ht : t < 100) (next : Nx g b J t i) : Z g mL_law J (200 + t) (4000 + 2 * t) 822 [some (.ref b), some (.ref (a 0)), some (.ref (a 93)), some (.int (nI i))] [] (WD g a h P) := by
  obtain ⟨y, h1, h2, e1, e2, iv⟩ := Bo.mu X (b_all X (xs (i + 1)))
  refine Z.aload_n (n := 823) dL_law_822 rfl rfl ?_
  refine Z.aload_n (n := 824) dL_law_823 rfl rfl ?_
  refine Z.iload_n (n := 825) dL_law_824 rfl rfl ?_
  refine Z.iconst (n := 826) (v := 1) dL_law_825 rfl (by decide +kernel) ?_
  refine Z.iadd (n := 827) dL_law_826 rfl ?_
  refine Z.sld (n := 828) (j := i + 1) hJ dL_law_827 rfl (nI_add i 1) (by omega) (by omega) ?_
  refine Z.callV (cl' := 200 + t) (sl' := 4000 + 2 * t) (n := 831) vL_90 (ctX11_all e1) hJ.rm (Nat.le_of_ble_eq_true rfl) rfl rfl (by omega) (by omega) rfl W0 rfl rfl (Nat.le_of_ble_eq_true rfl) rfl dL_law_828 rfl (fun v w hw => ?_)
  obtain ⟨rfl, rfl⟩ := hw
  show Z g mL_law J _ _ 831 [some (.ref b), some (.ref (a 0)), some (.ref (a 93)), some (.int (nI i))] [.int y] (WD g a h1 P)
  refine Z.aload_n (n := 832) dL_law_831 rfl rfl ?_
  refine Z.aload_n (n := 833) dL_law_832 rfl rfl ?_
  refine Z.iload_n (n := 834) dL_law_833 rfl rfl ?_
  refine Z.iconst (n := 835) (v := 1) dL_law_834 rfl (by decide +kernel) ?_
  refine Z.iadd (n := 836) dL_law_835 rfl ?_
  refine Z.sld (n := 837) (j := i + 1) hJ dL_law_836 rfl (nI_add i 1) (by omega) (by omega) ?_
  refine Z.callV (cl' := 200 + t) (sl' := 4000 + 2 * t) (n := 840) vL_93 (ctX12_all e2) hJ.rm (Nat.le_of_ble_eq_true rfl) rfl rfl (by omega) (by omega) rfl W93 rfl rfl (Nat.le_of_ble_eq_true rfl) rfl dL_law_837 rfl (fun v w hw => ?_)
  obtain ⟨rfl, rfl⟩ := hw
  show Z g mL_law J _ _ 840 [some (.ref b), some (.ref (a 0)), some (.ref (a 93)), some (.int (nI i))] [.int y, .int y] (WD g a h2 P)
  exact Z.icmp_eq (n := 843) (tgt := 1286) dL_law_840 (by decide +kernel) rfl (fun _ => (Z.wd (by omega) (by omega) (next a h2 P iv (by omega)))) (fun cc => absurd rfl cc)
theorem arm_18 (hJ : JL g b L xs J) (hi : i + 5 ≤ L) (hL : L ≤ 320) (X : Ix P K Lw nn h) (hP : P.length ≤ t) (ht : t < 100) (next : Nx g b J t i) : Z g mL_law J (200 + t) (4000 + 2 * t) 845 [some (.ref b), some (.ref (a 0)), some (.ref (a 93)), some (.int (nI i))] [] (WD g a h P) := by
  by_cases c0 : xs (i + 3) = 0
  · obtain ⟨y, h1, h2, e1, e2, iv⟩ := Bo.mu X (b_quiet X (xs (i + 1)) (xs (i + 2)) 0 (by decide))
    refine Z.aload_n (n := 846) dL_law_845 rfl rfl ?_
    refine Z.aload_n (n := 847) dL_law_846 rfl rfl ?_
    refine Z.iload_n (n := 848) dL_law_847 rfl rfl ?_
    refine Z.iconst (n := 849) (v := 1) dL_law_848 rfl (by decide +kernel) ?_
    refine Z.iadd (n := 850) dL_law_849 rfl ?_
    refine Z.sld (n := 851) (j := i + 1) hJ dL_law_850 rfl (nI_add i 1) (by omega) (by omega) ?_
    refine Z.aload_n (n := 852) dL_law_851 rfl rfl ?_
    refine Z.iload_n (n := 853) dL_law_852 rfl rfl ?_
    refine Z.iconst (n := 854) (v := 2) dL_law_853 rfl (by decide +kernel) ?_
    refine Z.iadd (n := 855) dL_law_854 rfl ?_
    refine Z.sld (n := 856) (j := i + 2) hJ dL_law_855 rfl (nI_add i 2) (by omega) (by omega) ?_
    refine Z.aload_n (n := 857) dL_law_856 rfl rfl ?_
    refine Z.iload_n (n := 858) dL_law_857 rfl rfl ?_
    refine Z.iconst (n := 859) (v := 3) dL_law_858 rfl (by decide +kernel) ?_
    refine Z.iadd (n := 860) dL_law_859 rfl ?_
    refine Z.sld (n := 861) (j := i + 3) hJ dL_law_860 rfl (nI_add i 3) (by omega) (by omega) ?_
    refine Z.if_eq (n := 864) (tgt := 868) dL_law_861 (by decide +kernel) rfl (fun _ => ?_) (fun cc => absurd c0 cc)
    refine Z.iconst (n := 869) (v := 0) dL_law_868 rfl (by decide +kernel) ?_
    refine Z.callV (cl' := 200 + t) (sl' := 4000 + 2 * t) (n := 872) vL_94 (ctX11_quiet e1) hJ.rm (Nat.le_of_ble_eq_true rfl) rfl rfl (by omega) (by omega) rfl W0 rfl rfl (Nat.le_of_ble_eq_true rfl) rfl dL_law_869 rfl (fun v w hw => ?_)
    obtain ⟨rfl, rfl⟩ := hw
    show Z g mL_law J _ _ 872 [some (.ref b), some (.ref (a 0)), some (.ref (a 93)), some (.int (nI i))] [.int y] (WD g a h1 P)
    refine Z.aload_n (n := 873) dL_law_872 rfl rfl ?_
    refine Z.aload_n (n := 874) dL_law_873 rfl rfl ?_
    refine Z.iload_n (n := 875) dL_law_874 rfl rfl ?_
    refine Z.iconst (n := 876) (v := 1) dL_law_875 rfl (by decide +kernel) ?_
    refine Z.iadd (n := 877) dL_law_876 rfl ?_
    refine Z.sld (n := 878) (j := i + 1) hJ dL_law_877 rfl (nI_add i 1) (by omega) (by omega) ?_
    refine Z.aload_n (n := 879) dL_law_878 rfl rfl ?_
    refine Z.iload_n (n := 880) dL_law_879 rfl rfl ?_
    refine Z.iconst (n := 881) (v := 2) dL_law_880 rfl (by decide +kernel) ?_
    refine Z.iadd (n := 882) dL_law_881 rfl ?_
    refine Z.sld (n := 883) (j := i + 2) hJ dL_law_882 rfl (nI_add i 2) (by omega) (by omega) ?_
    refine Z.aload_n (n := 884) dL_law_883 rfl rfl ?_
    refine Z.iload_n (n := 885) dL_law_884 rfl rfl ?_
    refine Z.iconst (n := 886) (v := 3) dL_law_885 rfl (by decide +kernel) ?_
    refine Z.iadd (n := 887) dL_law_886 rfl ?_
    refine Z.sld (n := 888) (j := i + 3) hJ dL_law_887 rfl (nI_add i 3) (by omega) (by omega) ?_
    refine Z.if_eq (n := 891) (tgt := 895) dL_law_888 (by decide +kernel) rfl (fun _ => ?_) (fun cc => absurd c0 cc)
    refine Z.iconst (n := 896) (v := 0) dL_law_895 rfl (by decide +kernel) ?_
    refine Z.callV (cl' := 200 + t) (sl' := 4000 + 2 * t) (n := 899) vL_98 (ctX12_quiet e2) hJ.rm (Nat.le_of_ble_eq_true rfl) rfl rfl (by omega) (by omega) rfl W93 rfl rfl (Nat.le_of_ble_eq_true rfl) rfl dL_law_896 rfl (fun v w hw => ?_)
    obtain ⟨rfl, rfl⟩ := hw
    show Z g mL_law J _ _ 899 [some (.ref b), some (.ref (a 0)), some (.ref (a 93)), some (.int (nI i))] [.int y, .int y] (WD g a h2 P)
    exact Z.icmp_eq (n := 902) (tgt := 1286) dL_law_899 (by decide +kernel) rfl (fun _ => (Z.wd (by omega) (by omega) (next a h2 P iv (by omega)))) (fun cc => absurd rfl cc)
  · obtain ⟨y, h1, h2, e1, e2, iv⟩ := Bo.mu X (b_quiet X (xs (i + 1)) (xs (i + 2)) 1 (by decide))
    refine Z.aload_n (n := 846) dL_law_845 rfl rfl ?_
    refine Z.aload_n (n := 847) dL_law_846 rfl rfl ?_
    refine Z.iload_n (n := 848) dL_law_847 rfl rfl ?_
    refine Z.iconst (n := 849) (v := 1) dL_law_848 rfl (by decide +kernel) ?_
    refine Z.iadd (n := 850) dL_law_849 rfl ?_
    refine Z.sld (n := 851) (j := i + 1) hJ dL_law_850 rfl (nI_add i 1) (by omega) (by omega) ?_
    refine Z.aload_n (n := 852) dL_law_851 rfl rfl ?_
    refine Z.iload_n (n := 853) dL_law_852 rfl rfl ?_
    refine Z.iconst (n := 854) (v := 2) dL_law_853 rfl (by decide +kernel) ?_
    refine Z.iadd (n := 855) dL_law_854 rfl ?_
    refine Z.sld (n := 856) (j := i + 2) hJ dL_law_855 rfl (nI_add i 2) (by omega) (by omega) ?_
    refine Z.aload_n (n := 857) dL_law_856 rfl rfl ?_
    refine Z.iload_n (n := 858) dL_law_857 rfl rfl ?_
    refine Z.iconst (n := 859) (v := 3) dL_law_858 rfl (by decide +kernel) ?_
    refine Z.iadd (n := 860) dL_law_859 rfl ?_
    refine Z.sld (n := 861) (j := i + 3) hJ dL_law_860 rfl (nI_add i 3) (by omega) (by omega) ?_
    refine Z.if_eq (n := 864) (tgt := 868) dL_law_861 (by decide +kernel) rfl (fun cc => absurd cc c0) (fun _ => ?_)
    refine Z.iconst (n := 865) (v := 1) dL_law_864 rfl (by decide +kernel) ?_
    refine Z.goto (tgt := 869) dL_law_865 (by decide +kernel) ?_
    refine Z.callV (cl' := 200 + t) (sl' := 4000 + 2 * t) (n := 872) vL_94 (ctX11_quiet e1) hJ.rm (Nat.le_of_ble_eq_true rfl) rfl rfl (by omega) (by omega) rfl W0 rfl rfl (Nat.le_of_ble_eq_true rfl) rfl dL_law_869 rfl (fun v w hw => ?_)
    obtain ⟨rfl, rfl⟩ := hw
    show Z g mL_law J _ _ 872 [some (.ref b), some (.ref (a 0)), some (.ref (a 93)), some (.int (nI i))] [.int y] (WD g a h1 P)
    refine Z.aload_n (n := 873) dL_law_872 rfl rfl ?_
    refine Z.aload_n (n := 874) dL_law_873 rfl rfl ?_
    refine Z.iload_n (n := 875) dL_law_874 rfl rfl ?_
    refine Z.iconst (n := 876) (v := 1) dL_law_875 rfl (by decide +kernel) ?_
    refine Z.iadd (n := 877) dL_law_876 rfl ?_
    refine Z.sld (n := 878) (j := i + 1) hJ dL_law_877 rfl (nI_add i 1) (by omega) (by omega) ?_
    refine Z.aload_n (n := 879) dL_law_878 rfl rfl ?_
    refine Z.iload_n (n := 880) dL_law_879 rfl rfl ?_
    refine Z.iconst (n := 881) (v := 2) dL_law_880 rfl (by decide +kernel) ?_
    refine Z.iadd (n := 882) dL_law_881 rfl ?_
    refine Z.sld (n := 883) (j := i + 2) hJ dL_law_882 rfl (nI_add i 2) (by omega) (by omega) ?_
    refine Z.aload_n (n := 884) dL_law_883 rfl rfl ?_
    refine Z.iload_n (n := 885) dL_law_884 rfl rfl ?_
    refine Z.iconst (n := 886) (v := 3) dL_law_885 rfl (by decide +kernel) ?_
    refine Z.iadd (n := 887) dL_law_886 rfl ?_
    refine Z.sld (n := 888) (j := i + 3) hJ dL_law_887 rfl (nI_add i 3) (by omega) (by omega) ?_
    refine Z.if_eq (n := 891) (tgt := 895) dL_law_888 (by decide +kernel) rfl (fun cc => absurd cc c0) (fun _ => ?_)
    refine Z.iconst (n := 892) (v := 1) dL_law_891 rfl (by decide +kernel) ?_
    refine Z.goto (tgt := 896) dL_law_892 (by decide +kernel) ?_
    refine Z.callV (cl' := 200 + t) (sl' := 4000 + 2 * t) (n := 899) vL_98 (ctX12_quiet e2) hJ.rm (Nat.le_of_ble_eq_true rfl) rfl rfl (by omega) (by omega) rfl W93 rfl rfl (Nat.le_of_ble_eq_true rfl) rfl dL_law_896 rfl (fun v w hw => ?_)
    obtain ⟨rfl, rfl⟩ := hw
    show Z g mL_law J _ _ 899 [some (.ref b), some (.ref (a 0)), some (.ref (a 93)), some (.int (nI i))] [.int y, .int y] (WD g a h2 P)
    exact Z.icmp_eq (n := 902) (tgt := 1286) dL_law_899 (by decide +kernel) rfl (fun _ => (Z.wd (by omega) (by omega) (next a h2 P iv (by omega)))) (fun cc => absurd rfl cc)
theorem arm_19 (hJ : JL g b L xs J) (hi : i + 5 ≤ L) (hL : L ≤ 320) (X : Ix P K Lw nn h) (hP : P.length ≤ t) (ht : t < 100) (next : Nx g b J t i) : Z g mL_law J (200 + t) (4000 + 2 * t) 904 [some (.ref b), some (.ref (a 0)), some (.ref (a 93)), some (.int (nI i))] [] (WD g a h P) := by
  obtain ⟨y, h1, h2, e1, e2, iv⟩ := m_lead X (xs (i + 1)) (xs (i + 2)) (xs (i + 3))
  refine Z.aload_n (n := 905) dL_law_904 rfl rfl ?_
  refine Z.aload_n (n := 906) dL_law_905 rfl rfl ?_
  refine Z.iload_n (n := 907) dL_law_906 rfl rfl ?_
  refine Z.iconst (n := 908) (v := 1) dL_law_907 rfl (by decide +kernel) ?_
  refine Z.iadd (n := 909) dL_law_908 rfl ?_
  refine Z.sld (n := 910) (j := i + 1) hJ dL_law_909 rfl (nI_add i 1) (by omega) (by omega) ?_
  refine Z.aload_n (n := 911) dL_law_910 rfl rfl ?_
  refine Z.iload_n (n := 912) dL_law_911 rfl rfl ?_
  refine Z.iconst (n := 913) (v := 2) dL_law_912 rfl (by decide +kernel) ?_
  refine Z.iadd (n := 914) dL_law_913 rfl ?_
  refine Z.sld (n := 915) (j := i + 2) hJ dL_law_914 rfl (nI_add i 2) (by omega) (by omega) ?_
  refine Z.aload_n (n := 916) dL_law_915 rfl rfl ?_
  refine Z.iload_n (n := 917) dL_law_916 rfl rfl ?_
  refine Z.iconst (n := 918) (v := 3) dL_law_917 rfl (by decide +kernel) ?_
  refine Z.iadd (n := 919) dL_law_918 rfl ?_
  refine Z.sld (n := 920) (j := i + 3) hJ dL_law_919 rfl (nI_add i 3) (by omega) (by omega) ?_
  refine Z.callV (cl' := 200 + t) (sl' := 4000 + 2 * t) (n := 923) vL_99 (ctX11_lead X.2.1.1 e1) hJ.rm (Nat.le_of_ble_eq_true rfl) rfl rfl (by omega) (by omega) rfl W0 rfl rfl (Nat.le_of_ble_eq_true rfl) rfl dL_law_920 rfl (fun v w hw => ?_)
  obtain ⟨rfl, rfl⟩ := hw
  show Z g mL_law J _ _ 923 [some (.ref b), some (.ref (a 0)), some (.ref (a 93)), some (.int (nI i))] [.int y] (WD g a h1 P)
  refine Z.aload_n (n := 924) dL_law_923 rfl rfl ?_
  refine Z.aload_n (n := 925) dL_law_924 rfl rfl ?_
  refine Z.iload_n (n := 926) dL_law_925 rfl rfl ?_
  refine Z.iconst (n := 927) (v := 1) dL_law_926 rfl (by decide +kernel) ?_
  refine Z.iadd (n := 928) dL_law_927 rfl ?_
  refine Z.sld (n := 929) (j := i + 1) hJ dL_law_928 rfl (nI_add i 1) (by omega) (by omega) ?_
  refine Z.aload_n (n := 930) dL_law_929 rfl rfl ?_
  refine Z.iload_n (n := 931) dL_law_930 rfl rfl ?_
  refine Z.iconst (n := 932) (v := 2) dL_law_931 rfl (by decide +kernel) ?_
  refine Z.iadd (n := 933) dL_law_932 rfl ?_
  refine Z.sld (n := 934) (j := i + 2) hJ dL_law_933 rfl (nI_add i 2) (by omega) (by omega) ?_
  refine Z.aload_n (n := 935) dL_law_934 rfl rfl ?_
  refine Z.iload_n (n := 936) dL_law_935 rfl rfl ?_
  refine Z.iconst (n := 937) (v := 3) dL_law_936 rfl (by decide +kernel) ?_
  refine Z.iadd (n := 938) dL_law_937 rfl ?_
  refine Z.sld (n := 939) (j := i + 3) hJ dL_law_938 rfl (nI_add i 3) (by omega) (by omega) ?_
  refine Z.callV (cl' := 200 + t) (sl' := 4000 + 2 * t) (n := 942) vL_102 (ctX12_lead e2) hJ.rm (Nat.le_of_ble_eq_true rfl) rfl rfl (by omega) (by omega) rfl W93 rfl rfl (Nat.le_of_ble_eq_true rfl) rfl dL_law_939 rfl (fun v w hw => ?_)
  obtain ⟨rfl, rfl⟩ := hw
  show Z g mL_law J _ _ 942 [some (.ref b), some (.ref (a 0)), some (.ref (a 93)), some (.int (nI i))] [.int y, .int y] (WD g a h2 P)
  exact Z.icmp_eq (n := 945) (tgt := 1286) dL_law_942 (by decide +kernel) rfl (fun _ => (Z.wd (by omega) (by omega) (next a h2 P iv (by omega)))) (fun cc => absurd rfl cc)
theorem arm_20 (hJ : JL g b L xs J) (hi : i + 5 ≤ L) (hL : L ≤ 320) (X : Ix P K Lw nn h) (hP : P.length ≤ t) (ht : t < 100) (next : Nx g b J t i) : Z g mL_law J (200 + t) (4000 + 2 * t) 947 [some (.ref b), some (.ref (a 0)), some (.ref (a 93)), some (.int (nI i))] [] (WD g a h P) := by
  obtain ⟨y, h1, h2, e1, e2, iv⟩ := m_next X (xs (i + 1))
  refine Z.aload_n (n := 948) dL_law_947 rfl rfl ?_
  refine Z.aload_n (n := 949) dL_law_948 rfl rfl ?_
  refine Z.iload_n (n := 950) dL_law_949 rfl rfl ?_
  refine Z.iconst (n := 951) (v := 1) dL_law_950 rfl (by decide +kernel) ?_
  refine Z.iadd (n := 952) dL_law_951 rfl ?_
  refine Z.sld (n := 953) (j := i + 1) hJ dL_law_952 rfl (nI_add i 1) (by omega) (by omega) ?_
  refine Z.callV (cl' := 200 + t) (sl' := 4000 + 2 * t) (n := 956) vL_103 (ctX11_next X.2.1.1 e1) hJ.rm (Nat.le_of_ble_eq_true rfl) rfl rfl (by omega) (by omega) rfl W0 rfl rfl (Nat.le_of_ble_eq_true rfl) rfl dL_law_953 rfl (fun v w hw => ?_)
  obtain ⟨rfl, rfl⟩ := hw
  show Z g mL_law J _ _ 956 [some (.ref b), some (.ref (a 0)), some (.ref (a 93)), some (.int (nI i))] [.int y] (WD g a h1 P)
  refine Z.aload_n (n := 957) dL_law_956 rfl rfl ?_
  refine Z.aload_n (n := 958) dL_law_957 rfl rfl ?_
  refine Z.iload_n (n := 959) dL_law_958 rfl rfl ?_
  refine Z.iconst (n := 960) (v := 1) dL_law_959 rfl (by decide +kernel) ?_
  refine Z.iadd (n := 961) dL_law_960 rfl ?_
  refine Z.sld (n := 962) (j := i + 1) hJ dL_law_961 rfl (nI_add i 1) (by omega) (by omega) ?_
  refine Z.callV (cl' := 200 + t) (sl' := 4000 + 2 * t) (n := 965) vL_106 (ctX12_next e2) hJ.rm (Nat.le_of_ble_eq_true rfl) rfl rfl (by omega) (by omega) rfl W93 rfl rfl (Nat.le_of_ble_eq_true rfl) rfl dL_law_962 rfl (fun v w hw => ?_)
  obtain ⟨rfl, rfl⟩ := hw
  show Z g mL_law J _ _ 965 [some (.ref b), some (.ref (a 0)), some (.ref (a 93)), some (.int (nI i))] [.int y, .int y] (WD g a h2 P)
  exact Z.icmp_eq (n := 968) (tgt := 1286) dL_law_965 (by decide +kernel) rfl (fun _ => (Z.wd (by omega) (by omega) (next a h2 P iv (by omega)))) (fun cc => absurd rfl cc)
theorem arm_21 (hJ : JL g b L xs J) (hi : i + 5 ≤ L) (hL : L ≤ 320) (X : Ix P K Lw nn h) (hP : P.length ≤ t) (ht : t < 100) (next : Nx g b J t i) : Z g mL_law J (200 + t) (4000 + 2 * t) 970 [some (.ref b), some (.ref (a 0)), some (.ref (a 93)), some (.int (nI i))] [] (WD g a h P) := by
  obtain ⟨y, h1, h2, e1, e2, iv⟩ := Bo.mu X (b_edge X (xs (i + 1)))
  refine Z.aload_n (n := 971) dL_law_970 rfl rfl ?_
  refine Z.aload_n (n := 972) dL_law_971 rfl rfl ?_
  refine Z.iload_n (n := 973) dL_law_972 rfl rfl ?_
  refine Z.iconst (n := 974) (v := 1) dL_law_973 rfl (by decide +kernel) ?_
  refine Z.iadd (n := 975) dL_law_974 rfl ?_
  refine Z.sld (n := 976) (j := i + 1) hJ dL_law_975 rfl (nI_add i 1) (by omega) (by omega) ?_
  refine Z.callV (cl' := 200 + t) (sl' := 4000 + 2 * t) (n := 979) vL_107 (ctX11_edge e1) hJ.rm (Nat.le_of_ble_eq_true rfl) rfl rfl (by omega) (by omega) rfl W0 rfl rfl (Nat.le_of_ble_eq_true rfl) rfl dL_law_976 rfl (fun v w hw => ?_)
  obtain ⟨rfl, rfl⟩ := hw
  show Z g mL_law J _ _ 979 [some (.ref b), some (.ref (a 0)), some (.ref (a 93)), some (.int (nI i))] [.int y] (WD g a h1 P)
  refine Z.aload_n (n := 980) dL_law_979 rfl rfl ?_
  refine Z.aload_n (n := 981) dL_law_980 rfl rfl ?_
  refine Z.iload_n (n := 982) dL_law_981 rfl rfl ?_
  refine Z.iconst (n := 983) (v := 1) dL_law_982 rfl (by decide +kernel) ?_
  refine Z.iadd (n := 984) dL_law_983 rfl ?_
  refine Z.sld (n := 985) (j := i + 1) hJ dL_law_984 rfl (nI_add i 1) (by omega) (by omega) ?_
  refine Z.callV (cl' := 200 + t) (sl' := 4000 + 2 * t) (n := 988) vL_110 (ctX12_edge e2) hJ.rm (Nat.le_of_ble_eq_true rfl) rfl rfl (by omega) (by omega) rfl W93 rfl rfl (Nat.le_of_ble_eq_true rfl) rfl dL_law_985 rfl (fun v w hw => ?_)
  obtain ⟨rfl, rfl⟩ := hw
  show Z g mL_law J _ _ 988 [some (.ref b), some (.ref (a 0)), some (.ref (a 93)), some (.int (nI i))] [.int y, .int y] (WD g a h2 P)
  exact Z.icmp_eq (n := 991) (tgt := 1286) dL_law_988 (by decide +kernel) rfl (fun _ => (Z.wd (by omega) (by omega) (next a h2 P iv (by omega)))) (fun cc => absurd rfl cc)
end ARM

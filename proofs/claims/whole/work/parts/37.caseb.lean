theorem dL_law_646 : decode cL_law 646 = .ok (.aload_n 1, 1) := by decide +kernel
theorem dL_law_647 : decode cL_law 647 = .ok (.aload_n 0, 1) := by decide +kernel
theorem dL_law_648 : decode cL_law 648 = .ok (.iload_n 3, 1) := by decide +kernel
theorem dL_law_649 : decode cL_law 649 = .ok (.iconst 1, 1) := by decide +kernel
theorem dL_law_650 : decode cL_law 650 = .ok (.iadd, 1) := by decide +kernel
theorem dL_law_651 : decode cL_law 651 = .ok (.iaload, 1) := by decide +kernel
theorem dL_law_652 : decode cL_law 652 = .ok (.aload_n 0, 1) := by decide +kernel
theorem dL_law_653 : decode cL_law 653 = .ok (.iload_n 3, 1) := by decide +kernel
theorem dL_law_654 : decode cL_law 654 = .ok (.iconst 2, 1) := by decide +kernel
theorem dL_law_655 : decode cL_law 655 = .ok (.iadd, 1) := by decide +kernel
theorem dL_law_656 : decode cL_law 656 = .ok (.iaload, 1) := by decide +kernel
theorem dL_law_657 : decode cL_law 657 = .ok (.invokevirtual 81, 3) := by decide +kernel
theorem wm_1178 : (Jvm.Cond.methodLink "GrownKindsLaw" (81 : Nat) ({ cls := "GrownKinds", name := "labelled", desc := "(II)J" } : Jvm.MethodName)) ∈ gT := gT_in (List.mem_of_getElem? (i := 1178) (by decide +kernel)) (by decide +kernel)
theorem wm_1179 : (Jvm.Cond.instanceMethod ({ cls := "GrownKinds", name := "labelled", desc := "(II)J" } : Jvm.MethodName)) ∈ gT := gT_in (List.mem_of_getElem? (i := 1179) (by decide +kernel)) (by decide +kernel)
theorem wm_1180 : (Jvm.Cond.selects "GrownKinds" ({ cls := "GrownKinds", name := "labelled", desc := "(II)J" } : Jvm.MethodName) ({ cls := "GrownKinds", name := "labelled", desc := "(II)J" } : Jvm.MethodName)) ∈ gT := gT_in (List.mem_of_getElem? (i := 1180) (by decide +kernel)) (by decide +kernel)
theorem wm_1181 : (Jvm.Cond.code ({ cls := "GrownKinds", name := "labelled", desc := "(II)J" } : Jvm.MethodName) prog_1_method_25_code (3 : Nat) (Option.some Jvm.ClassFile.FieldType.long)) ∈ gT := gT_in (List.mem_of_getElem? (i := 1181) (by decide +kernel)) (by decide +kernel)
theorem dL_law_660 : decode cL_law 660 = .ok (.aload_n 2, 1) := by decide +kernel
theorem dL_law_661 : decode cL_law 661 = .ok (.aload_n 0, 1) := by decide +kernel
theorem dL_law_662 : decode cL_law 662 = .ok (.iload_n 3, 1) := by decide +kernel
theorem dL_law_663 : decode cL_law 663 = .ok (.iconst 1, 1) := by decide +kernel
theorem dL_law_664 : decode cL_law 664 = .ok (.iadd, 1) := by decide +kernel
theorem dL_law_665 : decode cL_law 665 = .ok (.iaload, 1) := by decide +kernel
theorem dL_law_666 : decode cL_law 666 = .ok (.aload_n 0, 1) := by decide +kernel
theorem dL_law_667 : decode cL_law 667 = .ok (.iload_n 3, 1) := by decide +kernel
theorem dL_law_668 : decode cL_law 668 = .ok (.iconst 2, 1) := by decide +kernel
theorem dL_law_669 : decode cL_law 669 = .ok (.iadd, 1) := by decide +kernel
theorem dL_law_670 : decode cL_law 670 = .ok (.iaload, 1) := by decide +kernel
theorem dL_law_671 : decode cL_law 671 = .ok (.invokevirtual 84, 3) := by decide +kernel
theorem wm_2144 : (Jvm.Cond.methodLink "GrownKindsLaw" (84 : Nat) ({ cls := "GrownKindsModel", name := "labelled", desc := "(II)J" } : Jvm.MethodName)) ∈ gT := gT_in (List.mem_of_getElem? (i := 2144) (by decide +kernel)) (by decide +kernel)
theorem wm_2145 : (Jvm.Cond.instanceMethod ({ cls := "GrownKindsModel", name := "labelled", desc := "(II)J" } : Jvm.MethodName)) ∈ gT := gT_in (List.mem_of_getElem? (i := 2145) (by decide +kernel)) (by decide +kernel)
theorem wm_2146 : (Jvm.Cond.selects "GrownKindsModel" ({ cls := "GrownKindsModel", name := "labelled", desc := "(II)J" } : Jvm.MethodName) ({ cls := "GrownKindsModel", name := "labelled", desc := "(II)J" } : Jvm.MethodName)) ∈ gT := gT_in (List.mem_of_getElem? (i := 2146) (by decide +kernel)) (by decide +kernel)
theorem wm_2147 : (Jvm.Cond.code ({ cls := "GrownKindsModel", name := "labelled", desc := "(II)J" } : Jvm.MethodName) prog_14_method_85_code (3 : Nat) (Option.some Jvm.ClassFile.FieldType.long)) ∈ gT := gT_in (List.mem_of_getElem? (i := 2147) (by decide +kernel)) (by decide +kernel)
theorem dL_law_674 : decode cL_law 674 = .ok (.lcmp, 1) := by decide +kernel
theorem dL_law_675 : decode cL_law 675 = .ok (.ifCond .eq 1179, 3) := by decide +kernel
theorem dL_law_680 : decode cL_law 680 = .ok (.aload_n 1, 1) := by decide +kernel
theorem dL_law_681 : decode cL_law 681 = .ok (.aload_n 0, 1) := by decide +kernel
theorem dL_law_682 : decode cL_law 682 = .ok (.iload_n 3, 1) := by decide +kernel
theorem dL_law_683 : decode cL_law 683 = .ok (.iconst 1, 1) := by decide +kernel
theorem dL_law_684 : decode cL_law 684 = .ok (.iadd, 1) := by decide +kernel
theorem dL_law_685 : decode cL_law 685 = .ok (.iaload, 1) := by decide +kernel
theorem dL_law_686 : decode cL_law 686 = .ok (.aload_n 0, 1) := by decide +kernel
theorem dL_law_687 : decode cL_law 687 = .ok (.iload_n 3, 1) := by decide +kernel
theorem dL_law_688 : decode cL_law 688 = .ok (.iconst 2, 1) := by decide +kernel
theorem dL_law_689 : decode cL_law 689 = .ok (.iadd, 1) := by decide +kernel
theorem dL_law_690 : decode cL_law 690 = .ok (.iaload, 1) := by decide +kernel
theorem dL_law_691 : decode cL_law 691 = .ok (.i2l, 1) := by decide +kernel
theorem dL_law_692 : decode cL_law 692 = .ok (.bipush 32, 2) := by decide +kernel
theorem dL_law_694 : decode cL_law 694 = .ok (.lshl, 1) := by decide +kernel
theorem dL_law_695 : decode cL_law 695 = .ok (.aload_n 0, 1) := by decide +kernel
theorem dL_law_696 : decode cL_law 696 = .ok (.iload_n 3, 1) := by decide +kernel
theorem dL_law_697 : decode cL_law 697 = .ok (.iconst 3, 1) := by decide +kernel
theorem dL_law_698 : decode cL_law 698 = .ok (.iadd, 1) := by decide +kernel
theorem dL_law_699 : decode cL_law 699 = .ok (.iaload, 1) := by decide +kernel
theorem dL_law_700 : decode cL_law 700 = .ok (.i2l, 1) := by decide +kernel
theorem dL_law_701 : decode cL_law 701 = .ok (.ldc2_w 85, 3) := by decide +kernel
theorem wm_2449 : (Jvm.Cond.constantLong "GrownKindsLaw" (85 : Nat) (4294967295 : Int64)) ∈ gT := gT_in (List.mem_of_getElem? (i := 2449) (by decide +kernel)) (by decide +kernel)
theorem dL_law_704 : decode cL_law 704 = .ok (.land, 1) := by decide +kernel
theorem dL_law_705 : decode cL_law 705 = .ok (.lor, 1) := by decide +kernel
theorem dL_law_706 : decode cL_law 706 = .ok (.invokevirtual 87, 3) := by decide +kernel
theorem wm_1192 : (Jvm.Cond.methodLink "GrownKindsLaw" (87 : Nat) ({ cls := "GrownKinds", name := "first", desc := "(IJ)I" } : Jvm.MethodName)) ∈ gT := gT_in (List.mem_of_getElem? (i := 1192) (by decide +kernel)) (by decide +kernel)
theorem dL_law_709 : decode cL_law 709 = .ok (.aload_n 2, 1) := by decide +kernel
theorem dL_law_710 : decode cL_law 710 = .ok (.aload_n 0, 1) := by decide +kernel
theorem dL_law_711 : decode cL_law 711 = .ok (.iload_n 3, 1) := by decide +kernel
theorem dL_law_712 : decode cL_law 712 = .ok (.iconst 1, 1) := by decide +kernel
theorem dL_law_713 : decode cL_law 713 = .ok (.iadd, 1) := by decide +kernel
theorem dL_law_714 : decode cL_law 714 = .ok (.iaload, 1) := by decide +kernel
theorem dL_law_715 : decode cL_law 715 = .ok (.aload_n 0, 1) := by decide +kernel
theorem dL_law_716 : decode cL_law 716 = .ok (.iload_n 3, 1) := by decide +kernel
theorem dL_law_717 : decode cL_law 717 = .ok (.iconst 2, 1) := by decide +kernel
theorem dL_law_718 : decode cL_law 718 = .ok (.iadd, 1) := by decide +kernel
theorem dL_law_719 : decode cL_law 719 = .ok (.iaload, 1) := by decide +kernel
theorem dL_law_720 : decode cL_law 720 = .ok (.i2l, 1) := by decide +kernel
theorem dL_law_721 : decode cL_law 721 = .ok (.bipush 32, 2) := by decide +kernel
theorem dL_law_723 : decode cL_law 723 = .ok (.lshl, 1) := by decide +kernel
theorem dL_law_724 : decode cL_law 724 = .ok (.aload_n 0, 1) := by decide +kernel
theorem dL_law_725 : decode cL_law 725 = .ok (.iload_n 3, 1) := by decide +kernel
theorem dL_law_726 : decode cL_law 726 = .ok (.iconst 3, 1) := by decide +kernel
theorem dL_law_727 : decode cL_law 727 = .ok (.iadd, 1) := by decide +kernel
theorem dL_law_728 : decode cL_law 728 = .ok (.iaload, 1) := by decide +kernel
theorem dL_law_729 : decode cL_law 729 = .ok (.i2l, 1) := by decide +kernel
theorem dL_law_730 : decode cL_law 730 = .ok (.ldc2_w 85, 3) := by decide +kernel
theorem dL_law_733 : decode cL_law 733 = .ok (.land, 1) := by decide +kernel
theorem dL_law_734 : decode cL_law 734 = .ok (.lor, 1) := by decide +kernel
theorem dL_law_735 : decode cL_law 735 = .ok (.invokevirtual 91, 3) := by decide +kernel
theorem wm_2106 : (Jvm.Cond.methodLink "GrownKindsLaw" (91 : Nat) ({ cls := "GrownKindsModel", name := "first", desc := "(IJ)I" } : Jvm.MethodName)) ∈ gT := gT_in (List.mem_of_getElem? (i := 2106) (by decide +kernel)) (by decide +kernel)
theorem dL_law_738 : decode cL_law 738 = .ok (.if_icmp .eq 1116, 3) := by decide +kernel
theorem dL_law_743 : decode cL_law 743 = .ok (.aload_n 1, 1) := by decide +kernel
theorem dL_law_744 : decode cL_law 744 = .ok (.aload_n 0, 1) := by decide +kernel
theorem dL_law_745 : decode cL_law 745 = .ok (.iload_n 3, 1) := by decide +kernel
theorem dL_law_746 : decode cL_law 746 = .ok (.iconst 1, 1) := by decide +kernel
theorem dL_law_747 : decode cL_law 747 = .ok (.iadd, 1) := by decide +kernel
theorem dL_law_748 : decode cL_law 748 = .ok (.iaload, 1) := by decide +kernel
theorem dL_law_749 : decode cL_law 749 = .ok (.aload_n 0, 1) := by decide +kernel
theorem dL_law_750 : decode cL_law 750 = .ok (.iload_n 3, 1) := by decide +kernel
theorem dL_law_751 : decode cL_law 751 = .ok (.iconst 2, 1) := by decide +kernel
theorem dL_law_752 : decode cL_law 752 = .ok (.iadd, 1) := by decide +kernel
theorem dL_law_753 : decode cL_law 753 = .ok (.iaload, 1) := by decide +kernel
theorem dL_law_754 : decode cL_law 754 = .ok (.aload_n 0, 1) := by decide +kernel
theorem dL_law_755 : decode cL_law 755 = .ok (.iload_n 3, 1) := by decide +kernel
theorem dL_law_756 : decode cL_law 756 = .ok (.iconst 3, 1) := by decide +kernel
theorem dL_law_757 : decode cL_law 757 = .ok (.iadd, 1) := by decide +kernel
theorem dL_law_758 : decode cL_law 758 = .ok (.iaload, 1) := by decide +kernel
theorem dL_law_759 : decode cL_law 759 = .ok (.aload_n 0, 1) := by decide +kernel
theorem dL_law_760 : decode cL_law 760 = .ok (.iload_n 3, 1) := by decide +kernel
theorem dL_law_761 : decode cL_law 761 = .ok (.iconst 4, 1) := by decide +kernel
theorem dL_law_762 : decode cL_law 762 = .ok (.iadd, 1) := by decide +kernel
theorem dL_law_763 : decode cL_law 763 = .ok (.iaload, 1) := by decide +kernel
theorem dL_law_764 : decode cL_law 764 = .ok (.invokevirtual 92, 3) := by decide +kernel
theorem wm_1193 : (Jvm.Cond.methodLink "GrownKindsLaw" (92 : Nat) ({ cls := "GrownKinds", name := "marked", desc := "(IIII)J" } : Jvm.MethodName)) ∈ gT := gT_in (List.mem_of_getElem? (i := 1193) (by decide +kernel)) (by decide +kernel)
theorem wm_1194 : (Jvm.Cond.instanceMethod ({ cls := "GrownKinds", name := "marked", desc := "(IIII)J" } : Jvm.MethodName)) ∈ gT := gT_in (List.mem_of_getElem? (i := 1194) (by decide +kernel)) (by decide +kernel)
theorem wm_1195 : (Jvm.Cond.selects "GrownKinds" ({ cls := "GrownKinds", name := "marked", desc := "(IIII)J" } : Jvm.MethodName) ({ cls := "GrownKinds", name := "marked", desc := "(IIII)J" } : Jvm.MethodName)) ∈ gT := gT_in (List.mem_of_getElem? (i := 1195) (by decide +kernel)) (by decide +kernel)
theorem wm_1196 : (Jvm.Cond.code ({ cls := "GrownKinds", name := "marked", desc := "(IIII)J" } : Jvm.MethodName) prog_1_method_27_code (5 : Nat) (Option.some Jvm.ClassFile.FieldType.long)) ∈ gT := gT_in (List.mem_of_getElem? (i := 1196) (by decide +kernel)) (by decide +kernel)
theorem dL_law_767 : decode cL_law 767 = .ok (.aload_n 2, 1) := by decide +kernel
theorem dL_law_768 : decode cL_law 768 = .ok (.aload_n 0, 1) := by decide +kernel
theorem dL_law_769 : decode cL_law 769 = .ok (.iload_n 3, 1) := by decide +kernel
theorem dL_law_770 : decode cL_law 770 = .ok (.iconst 1, 1) := by decide +kernel
theorem dL_law_771 : decode cL_law 771 = .ok (.iadd, 1) := by decide +kernel
theorem dL_law_772 : decode cL_law 772 = .ok (.iaload, 1) := by decide +kernel
theorem dL_law_773 : decode cL_law 773 = .ok (.aload_n 0, 1) := by decide +kernel
theorem dL_law_774 : decode cL_law 774 = .ok (.iload_n 3, 1) := by decide +kernel
theorem dL_law_775 : decode cL_law 775 = .ok (.iconst 2, 1) := by decide +kernel
theorem dL_law_776 : decode cL_law 776 = .ok (.iadd, 1) := by decide +kernel
theorem dL_law_777 : decode cL_law 777 = .ok (.iaload, 1) := by decide +kernel
theorem dL_law_778 : decode cL_law 778 = .ok (.aload_n 0, 1) := by decide +kernel
theorem dL_law_779 : decode cL_law 779 = .ok (.iload_n 3, 1) := by decide +kernel
theorem dL_law_780 : decode cL_law 780 = .ok (.iconst 3, 1) := by decide +kernel
theorem dL_law_781 : decode cL_law 781 = .ok (.iadd, 1) := by decide +kernel
theorem dL_law_782 : decode cL_law 782 = .ok (.iaload, 1) := by decide +kernel
theorem dL_law_783 : decode cL_law 783 = .ok (.aload_n 0, 1) := by decide +kernel
theorem dL_law_784 : decode cL_law 784 = .ok (.iload_n 3, 1) := by decide +kernel
theorem dL_law_785 : decode cL_law 785 = .ok (.iconst 4, 1) := by decide +kernel
theorem dL_law_786 : decode cL_law 786 = .ok (.iadd, 1) := by decide +kernel
theorem dL_law_787 : decode cL_law 787 = .ok (.iaload, 1) := by decide +kernel
theorem dL_law_788 : decode cL_law 788 = .ok (.invokevirtual 96, 3) := by decide +kernel
theorem wm_2107 : (Jvm.Cond.methodLink "GrownKindsLaw" (96 : Nat) ({ cls := "GrownKindsModel", name := "marked", desc := "(IIII)J" } : Jvm.MethodName)) ∈ gT := gT_in (List.mem_of_getElem? (i := 2107) (by decide +kernel)) (by decide +kernel)
theorem wm_2108 : (Jvm.Cond.instanceMethod ({ cls := "GrownKindsModel", name := "marked", desc := "(IIII)J" } : Jvm.MethodName)) ∈ gT := gT_in (List.mem_of_getElem? (i := 2108) (by decide +kernel)) (by decide +kernel)
theorem wm_2109 : (Jvm.Cond.selects "GrownKindsModel" ({ cls := "GrownKindsModel", name := "marked", desc := "(IIII)J" } : Jvm.MethodName) ({ cls := "GrownKindsModel", name := "marked", desc := "(IIII)J" } : Jvm.MethodName)) ∈ gT := gT_in (List.mem_of_getElem? (i := 2109) (by decide +kernel)) (by decide +kernel)
theorem wm_2110 : (Jvm.Cond.code ({ cls := "GrownKindsModel", name := "marked", desc := "(IIII)J" } : Jvm.MethodName) prog_14_method_70_code (5 : Nat) (Option.some Jvm.ClassFile.FieldType.long)) ∈ gT := gT_in (List.mem_of_getElem? (i := 2110) (by decide +kernel)) (by decide +kernel)
theorem dL_law_791 : decode cL_law 791 = .ok (.lcmp, 1) := by decide +kernel
theorem dL_law_792 : decode cL_law 792 = .ok (.ifCond .eq 1062, 3) := by decide +kernel
theorem dL_law_797 : decode cL_law 797 = .ok (.aload_n 1, 1) := by decide +kernel
theorem dL_law_798 : decode cL_law 798 = .ok (.aload_n 0, 1) := by decide +kernel
theorem dL_law_799 : decode cL_law 799 = .ok (.iload_n 3, 1) := by decide +kernel
theorem dL_law_800 : decode cL_law 800 = .ok (.iconst 1, 1) := by decide +kernel
theorem dL_law_801 : decode cL_law 801 = .ok (.iadd, 1) := by decide +kernel
theorem dL_law_802 : decode cL_law 802 = .ok (.iaload, 1) := by decide +kernel
theorem dL_law_803 : decode cL_law 803 = .ok (.aload_n 0, 1) := by decide +kernel
theorem dL_law_804 : decode cL_law 804 = .ok (.iload_n 3, 1) := by decide +kernel
theorem dL_law_805 : decode cL_law 805 = .ok (.iconst 2, 1) := by decide +kernel
theorem dL_law_806 : decode cL_law 806 = .ok (.iadd, 1) := by decide +kernel
theorem dL_law_807 : decode cL_law 807 = .ok (.iaload, 1) := by decide +kernel
theorem dL_law_808 : decode cL_law 808 = .ok (.aload_n 0, 1) := by decide +kernel
theorem dL_law_809 : decode cL_law 809 = .ok (.iload_n 3, 1) := by decide +kernel
theorem dL_law_810 : decode cL_law 810 = .ok (.iconst 3, 1) := by decide +kernel
theorem dL_law_811 : decode cL_law 811 = .ok (.iadd, 1) := by decide +kernel
theorem dL_law_812 : decode cL_law 812 = .ok (.iaload, 1) := by decide +kernel
theorem dL_law_813 : decode cL_law 813 = .ok (.invokevirtual 97, 3) := by decide +kernel
theorem wm_1212 : (Jvm.Cond.methodLink "GrownKindsLaw" (97 : Nat) ({ cls := "GrownKinds", name := "by", desc := "(III)J" } : Jvm.MethodName)) ∈ gT := gT_in (List.mem_of_getElem? (i := 1212) (by decide +kernel)) (by decide +kernel)
theorem wm_1213 : (Jvm.Cond.instanceMethod ({ cls := "GrownKinds", name := "by", desc := "(III)J" } : Jvm.MethodName)) ∈ gT := gT_in (List.mem_of_getElem? (i := 1213) (by decide +kernel)) (by decide +kernel)
theorem wm_1214 : (Jvm.Cond.selects "GrownKinds" ({ cls := "GrownKinds", name := "by", desc := "(III)J" } : Jvm.MethodName) ({ cls := "GrownKinds", name := "by", desc := "(III)J" } : Jvm.MethodName)) ∈ gT := gT_in (List.mem_of_getElem? (i := 1214) (by decide +kernel)) (by decide +kernel)
theorem wm_1215 : (Jvm.Cond.code ({ cls := "GrownKinds", name := "by", desc := "(III)J" } : Jvm.MethodName) prog_1_method_28_code (4 : Nat) (Option.some Jvm.ClassFile.FieldType.long)) ∈ gT := gT_in (List.mem_of_getElem? (i := 1215) (by decide +kernel)) (by decide +kernel)
theorem dL_law_816 : decode cL_law 816 = .ok (.aload_n 2, 1) := by decide +kernel
theorem dL_law_817 : decode cL_law 817 = .ok (.aload_n 0, 1) := by decide +kernel
theorem dL_law_818 : decode cL_law 818 = .ok (.iload_n 3, 1) := by decide +kernel
theorem dL_law_819 : decode cL_law 819 = .ok (.iconst 1, 1) := by decide +kernel
theorem dL_law_820 : decode cL_law 820 = .ok (.iadd, 1) := by decide +kernel
theorem dL_law_821 : decode cL_law 821 = .ok (.iaload, 1) := by decide +kernel
theorem dL_law_822 : decode cL_law 822 = .ok (.aload_n 0, 1) := by decide +kernel
theorem dL_law_823 : decode cL_law 823 = .ok (.iload_n 3, 1) := by decide +kernel
theorem dL_law_824 : decode cL_law 824 = .ok (.iconst 2, 1) := by decide +kernel
theorem dL_law_825 : decode cL_law 825 = .ok (.iadd, 1) := by decide +kernel
theorem dL_law_826 : decode cL_law 826 = .ok (.iaload, 1) := by decide +kernel
theorem dL_law_827 : decode cL_law 827 = .ok (.aload_n 0, 1) := by decide +kernel
theorem dL_law_828 : decode cL_law 828 = .ok (.iload_n 3, 1) := by decide +kernel
theorem dL_law_829 : decode cL_law 829 = .ok (.iconst 3, 1) := by decide +kernel
theorem dL_law_830 : decode cL_law 830 = .ok (.iadd, 1) := by decide +kernel
theorem dL_law_831 : decode cL_law 831 = .ok (.iaload, 1) := by decide +kernel
theorem dL_law_832 : decode cL_law 832 = .ok (.invokevirtual 101, 3) := by decide +kernel
theorem wm_2112 : (Jvm.Cond.methodLink "GrownKindsLaw" (101 : Nat) ({ cls := "GrownKindsModel", name := "by", desc := "(III)J" } : Jvm.MethodName)) ∈ gT := gT_in (List.mem_of_getElem? (i := 2112) (by decide +kernel)) (by decide +kernel)
theorem wm_2113 : (Jvm.Cond.instanceMethod ({ cls := "GrownKindsModel", name := "by", desc := "(III)J" } : Jvm.MethodName)) ∈ gT := gT_in (List.mem_of_getElem? (i := 2113) (by decide +kernel)) (by decide +kernel)
theorem wm_2114 : (Jvm.Cond.selects "GrownKindsModel" ({ cls := "GrownKindsModel", name := "by", desc := "(III)J" } : Jvm.MethodName) ({ cls := "GrownKindsModel", name := "by", desc := "(III)J" } : Jvm.MethodName)) ∈ gT := gT_in (List.mem_of_getElem? (i := 2114) (by decide +kernel)) (by decide +kernel)
theorem wm_2115 : (Jvm.Cond.code ({ cls := "GrownKindsModel", name := "by", desc := "(III)J" } : Jvm.MethodName) prog_14_method_73_code (4 : Nat) (Option.some Jvm.ClassFile.FieldType.long)) ∈ gT := gT_in (List.mem_of_getElem? (i := 2115) (by decide +kernel)) (by decide +kernel)
theorem dL_law_835 : decode cL_law 835 = .ok (.lcmp, 1) := by decide +kernel
theorem dL_law_836 : decode cL_law 836 = .ok (.ifCond .eq 1018, 3) := by decide +kernel
theorem dL_law_841 : decode cL_law 841 = .ok (.aload_n 1, 1) := by decide +kernel
theorem dL_law_842 : decode cL_law 842 = .ok (.aload_n 0, 1) := by decide +kernel
theorem dL_law_843 : decode cL_law 843 = .ok (.iload_n 3, 1) := by decide +kernel
theorem dL_law_844 : decode cL_law 844 = .ok (.iconst 1, 1) := by decide +kernel
theorem dL_law_845 : decode cL_law 845 = .ok (.iadd, 1) := by decide +kernel
theorem dL_law_846 : decode cL_law 846 = .ok (.iaload, 1) := by decide +kernel
theorem dL_law_847 : decode cL_law 847 = .ok (.aload_n 0, 1) := by decide +kernel
theorem dL_law_848 : decode cL_law 848 = .ok (.iload_n 3, 1) := by decide +kernel
theorem dL_law_849 : decode cL_law 849 = .ok (.iconst 2, 1) := by decide +kernel
theorem dL_law_850 : decode cL_law 850 = .ok (.iadd, 1) := by decide +kernel
theorem dL_law_851 : decode cL_law 851 = .ok (.iaload, 1) := by decide +kernel
theorem dL_law_852 : decode cL_law 852 = .ok (.aload_n 0, 1) := by decide +kernel
theorem dL_law_853 : decode cL_law 853 = .ok (.iload_n 3, 1) := by decide +kernel
theorem dL_law_854 : decode cL_law 854 = .ok (.iconst 3, 1) := by decide +kernel
theorem dL_law_855 : decode cL_law 855 = .ok (.iadd, 1) := by decide +kernel
theorem dL_law_856 : decode cL_law 856 = .ok (.iaload, 1) := by decide +kernel
theorem dL_law_857 : decode cL_law 857 = .ok (.aload_n 0, 1) := by decide +kernel
theorem dL_law_858 : decode cL_law 858 = .ok (.iload_n 3, 1) := by decide +kernel
theorem dL_law_859 : decode cL_law 859 = .ok (.iconst 4, 1) := by decide +kernel
theorem dL_law_860 : decode cL_law 860 = .ok (.iadd, 1) := by decide +kernel
theorem dL_law_861 : decode cL_law 861 = .ok (.iaload, 1) := by decide +kernel
theorem dL_law_862 : decode cL_law 862 = .ok (.invokevirtual 102, 3) := by decide +kernel
theorem wm_1229 : (Jvm.Cond.methodLink "GrownKindsLaw" (102 : Nat) ({ cls := "GrownKinds", name := "without", desc := "(IIII)J" } : Jvm.MethodName)) ∈ gT := gT_in (List.mem_of_getElem? (i := 1229) (by decide +kernel)) (by decide +kernel)
theorem wm_1230 : (Jvm.Cond.instanceMethod ({ cls := "GrownKinds", name := "without", desc := "(IIII)J" } : Jvm.MethodName)) ∈ gT := gT_in (List.mem_of_getElem? (i := 1230) (by decide +kernel)) (by decide +kernel)
theorem wm_1231 : (Jvm.Cond.selects "GrownKinds" ({ cls := "GrownKinds", name := "without", desc := "(IIII)J" } : Jvm.MethodName) ({ cls := "GrownKinds", name := "without", desc := "(IIII)J" } : Jvm.MethodName)) ∈ gT := gT_in (List.mem_of_getElem? (i := 1231) (by decide +kernel)) (by decide +kernel)
theorem wm_1232 : (Jvm.Cond.code ({ cls := "GrownKinds", name := "without", desc := "(IIII)J" } : Jvm.MethodName) prog_1_method_29_code (5 : Nat) (Option.some Jvm.ClassFile.FieldType.long)) ∈ gT := gT_in (List.mem_of_getElem? (i := 1232) (by decide +kernel)) (by decide +kernel)
theorem dL_law_865 : decode cL_law 865 = .ok (.aload_n 2, 1) := by decide +kernel
theorem dL_law_866 : decode cL_law 866 = .ok (.aload_n 0, 1) := by decide +kernel
theorem dL_law_867 : decode cL_law 867 = .ok (.iload_n 3, 1) := by decide +kernel
theorem dL_law_868 : decode cL_law 868 = .ok (.iconst 1, 1) := by decide +kernel
theorem dL_law_869 : decode cL_law 869 = .ok (.iadd, 1) := by decide +kernel
theorem dL_law_870 : decode cL_law 870 = .ok (.iaload, 1) := by decide +kernel
theorem dL_law_871 : decode cL_law 871 = .ok (.aload_n 0, 1) := by decide +kernel
theorem dL_law_872 : decode cL_law 872 = .ok (.iload_n 3, 1) := by decide +kernel
theorem dL_law_873 : decode cL_law 873 = .ok (.iconst 2, 1) := by decide +kernel
theorem dL_law_874 : decode cL_law 874 = .ok (.iadd, 1) := by decide +kernel
theorem dL_law_875 : decode cL_law 875 = .ok (.iaload, 1) := by decide +kernel
theorem dL_law_876 : decode cL_law 876 = .ok (.aload_n 0, 1) := by decide +kernel
theorem dL_law_877 : decode cL_law 877 = .ok (.iload_n 3, 1) := by decide +kernel
theorem dL_law_878 : decode cL_law 878 = .ok (.iconst 3, 1) := by decide +kernel
theorem dL_law_879 : decode cL_law 879 = .ok (.iadd, 1) := by decide +kernel
theorem dL_law_880 : decode cL_law 880 = .ok (.iaload, 1) := by decide +kernel
theorem dL_law_881 : decode cL_law 881 = .ok (.aload_n 0, 1) := by decide +kernel
theorem dL_law_882 : decode cL_law 882 = .ok (.iload_n 3, 1) := by decide +kernel
theorem dL_law_883 : decode cL_law 883 = .ok (.iconst 4, 1) := by decide +kernel
theorem dL_law_884 : decode cL_law 884 = .ok (.iadd, 1) := by decide +kernel
theorem dL_law_885 : decode cL_law 885 = .ok (.iaload, 1) := by decide +kernel
theorem dL_law_886 : decode cL_law 886 = .ok (.invokevirtual 105, 3) := by decide +kernel
theorem wm_2128 : (Jvm.Cond.methodLink "GrownKindsLaw" (105 : Nat) ({ cls := "GrownKindsModel", name := "without", desc := "(IIII)J" } : Jvm.MethodName)) ∈ gT := gT_in (List.mem_of_getElem? (i := 2128) (by decide +kernel)) (by decide +kernel)
theorem wm_2129 : (Jvm.Cond.instanceMethod ({ cls := "GrownKindsModel", name := "without", desc := "(IIII)J" } : Jvm.MethodName)) ∈ gT := gT_in (List.mem_of_getElem? (i := 2129) (by decide +kernel)) (by decide +kernel)
theorem wm_2130 : (Jvm.Cond.selects "GrownKindsModel" ({ cls := "GrownKindsModel", name := "without", desc := "(IIII)J" } : Jvm.MethodName) ({ cls := "GrownKindsModel", name := "without", desc := "(IIII)J" } : Jvm.MethodName)) ∈ gT := gT_in (List.mem_of_getElem? (i := 2130) (by decide +kernel)) (by decide +kernel)
theorem wm_2131 : (Jvm.Cond.code ({ cls := "GrownKindsModel", name := "without", desc := "(IIII)J" } : Jvm.MethodName) prog_14_method_75_code (5 : Nat) (Option.some Jvm.ClassFile.FieldType.long)) ∈ gT := gT_in (List.mem_of_getElem? (i := 2131) (by decide +kernel)) (by decide +kernel)
theorem dL_law_889 : decode cL_law 889 = .ok (.lcmp, 1) := by decide +kernel
theorem dL_law_890 : decode cL_law 890 = .ok (.ifCond .eq 964, 3) := by decide +kernel
theorem dL_law_895 : decode cL_law 895 = .ok (.aload_n 1, 1) := by decide +kernel
theorem dL_law_896 : decode cL_law 896 = .ok (.aload_n 0, 1) := by decide +kernel
theorem dL_law_897 : decode cL_law 897 = .ok (.iload_n 3, 1) := by decide +kernel
theorem dL_law_898 : decode cL_law 898 = .ok (.iconst 1, 1) := by decide +kernel
theorem dL_law_899 : decode cL_law 899 = .ok (.iadd, 1) := by decide +kernel
theorem dL_law_900 : decode cL_law 900 = .ok (.iaload, 1) := by decide +kernel
theorem dL_law_901 : decode cL_law 901 = .ok (.aload_n 0, 1) := by decide +kernel
theorem dL_law_902 : decode cL_law 902 = .ok (.iload_n 3, 1) := by decide +kernel
theorem dL_law_903 : decode cL_law 903 = .ok (.iconst 2, 1) := by decide +kernel
theorem dL_law_904 : decode cL_law 904 = .ok (.iadd, 1) := by decide +kernel
theorem dL_law_905 : decode cL_law 905 = .ok (.iaload, 1) := by decide +kernel
theorem dL_law_906 : decode cL_law 906 = .ok (.invokevirtual 106, 3) := by decide +kernel
theorem wm_1242 : (Jvm.Cond.methodLink "GrownKindsLaw" (106 : Nat) ({ cls := "GrownKinds", name := "hangs", desc := "(II)I" } : Jvm.MethodName)) ∈ gT := gT_in (List.mem_of_getElem? (i := 1242) (by decide +kernel)) (by decide +kernel)
theorem wm_1243 : (Jvm.Cond.instanceMethod ({ cls := "GrownKinds", name := "hangs", desc := "(II)I" } : Jvm.MethodName)) ∈ gT := gT_in (List.mem_of_getElem? (i := 1243) (by decide +kernel)) (by decide +kernel)
theorem wm_1244 : (Jvm.Cond.selects "GrownKinds" ({ cls := "GrownKinds", name := "hangs", desc := "(II)I" } : Jvm.MethodName) ({ cls := "GrownKinds", name := "hangs", desc := "(II)I" } : Jvm.MethodName)) ∈ gT := gT_in (List.mem_of_getElem? (i := 1244) (by decide +kernel)) (by decide +kernel)
theorem wm_1245 : (Jvm.Cond.code ({ cls := "GrownKinds", name := "hangs", desc := "(II)I" } : Jvm.MethodName) prog_1_method_30_code (11 : Nat) (Option.some Jvm.ClassFile.FieldType.int)) ∈ gT := gT_in (List.mem_of_getElem? (i := 1245) (by decide +kernel)) (by decide +kernel)
theorem dL_law_909 : decode cL_law 909 = .ok (.aload_n 2, 1) := by decide +kernel
theorem dL_law_910 : decode cL_law 910 = .ok (.aload_n 0, 1) := by decide +kernel
theorem dL_law_911 : decode cL_law 911 = .ok (.iload_n 3, 1) := by decide +kernel
theorem dL_law_912 : decode cL_law 912 = .ok (.iconst 1, 1) := by decide +kernel
theorem dL_law_913 : decode cL_law 913 = .ok (.iadd, 1) := by decide +kernel
theorem dL_law_914 : decode cL_law 914 = .ok (.iaload, 1) := by decide +kernel
theorem dL_law_915 : decode cL_law 915 = .ok (.aload_n 0, 1) := by decide +kernel
theorem dL_law_916 : decode cL_law 916 = .ok (.iload_n 3, 1) := by decide +kernel
theorem dL_law_917 : decode cL_law 917 = .ok (.iconst 2, 1) := by decide +kernel
theorem dL_law_918 : decode cL_law 918 = .ok (.iadd, 1) := by decide +kernel
theorem dL_law_919 : decode cL_law 919 = .ok (.iaload, 1) := by decide +kernel
theorem dL_law_920 : decode cL_law 920 = .ok (.invokevirtual 110, 3) := by decide +kernel
theorem wm_2136 : (Jvm.Cond.methodLink "GrownKindsLaw" (110 : Nat) ({ cls := "GrownKindsModel", name := "hangs", desc := "(II)I" } : Jvm.MethodName)) ∈ gT := gT_in (List.mem_of_getElem? (i := 2136) (by decide +kernel)) (by decide +kernel)
theorem wm_2137 : (Jvm.Cond.instanceMethod ({ cls := "GrownKindsModel", name := "hangs", desc := "(II)I" } : Jvm.MethodName)) ∈ gT := gT_in (List.mem_of_getElem? (i := 2137) (by decide +kernel)) (by decide +kernel)
theorem wm_2138 : (Jvm.Cond.selects "GrownKindsModel" ({ cls := "GrownKindsModel", name := "hangs", desc := "(II)I" } : Jvm.MethodName) ({ cls := "GrownKindsModel", name := "hangs", desc := "(II)I" } : Jvm.MethodName)) ∈ gT := gT_in (List.mem_of_getElem? (i := 2138) (by decide +kernel)) (by decide +kernel)
theorem wm_2139 : (Jvm.Cond.code ({ cls := "GrownKindsModel", name := "hangs", desc := "(II)I" } : Jvm.MethodName) prog_14_method_76_code (9 : Nat) (Option.some Jvm.ClassFile.FieldType.int)) ∈ gT := gT_in (List.mem_of_getElem? (i := 2139) (by decide +kernel)) (by decide +kernel)
theorem dL_law_923 : decode cL_law 923 = .ok (.if_icmp .eq 931, 3) := by decide +kernel
theorem dL_law_928 : decode cL_law 928 = .ok (.aload_n 1, 1) := by decide +kernel
theorem dL_law_929 : decode cL_law 929 = .ok (.invokevirtual 111, 3) := by decide +kernel
theorem wm_1247 : (Jvm.Cond.methodLink "GrownKindsLaw" (111 : Nat) ({ cls := "GrownKinds", name := "idle", desc := "()I" } : Jvm.MethodName)) ∈ gT := gT_in (List.mem_of_getElem? (i := 1247) (by decide +kernel)) (by decide +kernel)
theorem wm_1248 : (Jvm.Cond.instanceMethod ({ cls := "GrownKinds", name := "idle", desc := "()I" } : Jvm.MethodName)) ∈ gT := gT_in (List.mem_of_getElem? (i := 1248) (by decide +kernel)) (by decide +kernel)
theorem wm_1249 : (Jvm.Cond.selects "GrownKinds" ({ cls := "GrownKinds", name := "idle", desc := "()I" } : Jvm.MethodName) ({ cls := "GrownKinds", name := "idle", desc := "()I" } : Jvm.MethodName)) ∈ gT := gT_in (List.mem_of_getElem? (i := 1249) (by decide +kernel)) (by decide +kernel)
theorem wm_1250 : (Jvm.Cond.code ({ cls := "GrownKinds", name := "idle", desc := "()I" } : Jvm.MethodName) prog_1_method_31_code (4 : Nat) (Option.some Jvm.ClassFile.FieldType.int)) ∈ gT := gT_in (List.mem_of_getElem? (i := 1250) (by decide +kernel)) (by decide +kernel)
theorem dL_law_932 : decode cL_law 932 = .ok (.aload_n 2, 1) := by decide +kernel
theorem dL_law_933 : decode cL_law 933 = .ok (.invokevirtual 114, 3) := by decide +kernel
theorem wm_2140 : (Jvm.Cond.methodLink "GrownKindsLaw" (114 : Nat) ({ cls := "GrownKindsModel", name := "idle", desc := "()I" } : Jvm.MethodName)) ∈ gT := gT_in (List.mem_of_getElem? (i := 2140) (by decide +kernel)) (by decide +kernel)
theorem wm_2141 : (Jvm.Cond.instanceMethod ({ cls := "GrownKindsModel", name := "idle", desc := "()I" } : Jvm.MethodName)) ∈ gT := gT_in (List.mem_of_getElem? (i := 2141) (by decide +kernel)) (by decide +kernel)
theorem wm_2142 : (Jvm.Cond.selects "GrownKindsModel" ({ cls := "GrownKindsModel", name := "idle", desc := "()I" } : Jvm.MethodName) ({ cls := "GrownKindsModel", name := "idle", desc := "()I" } : Jvm.MethodName)) ∈ gT := gT_in (List.mem_of_getElem? (i := 2142) (by decide +kernel)) (by decide +kernel)
theorem wm_2143 : (Jvm.Cond.code ({ cls := "GrownKindsModel", name := "idle", desc := "()I" } : Jvm.MethodName) prog_14_method_77_code (7 : Nat) (Option.some Jvm.ClassFile.FieldType.int)) ∈ gT := gT_in (List.mem_of_getElem? (i := 2143) (by decide +kernel)) (by decide +kernel)
theorem dL_law_936 : decode cL_law 936 = .ok (.if_icmp .eq 918, 3) := by decide +kernel
theorem dL_law_941 : decode cL_law 941 = .ok (.aload_n 1, 1) := by decide +kernel
theorem dL_law_942 : decode cL_law 942 = .ok (.aload_n 0, 1) := by decide +kernel
theorem dL_law_943 : decode cL_law 943 = .ok (.iload_n 3, 1) := by decide +kernel
theorem dL_law_944 : decode cL_law 944 = .ok (.iconst 1, 1) := by decide +kernel
theorem dL_law_945 : decode cL_law 945 = .ok (.iadd, 1) := by decide +kernel
theorem dL_law_946 : decode cL_law 946 = .ok (.iaload, 1) := by decide +kernel
theorem dL_law_947 : decode cL_law 947 = .ok (.aload_n 0, 1) := by decide +kernel
theorem dL_law_948 : decode cL_law 948 = .ok (.iload_n 3, 1) := by decide +kernel
theorem dL_law_949 : decode cL_law 949 = .ok (.iconst 2, 1) := by decide +kernel
theorem dL_law_950 : decode cL_law 950 = .ok (.iadd, 1) := by decide +kernel
theorem dL_law_951 : decode cL_law 951 = .ok (.iaload, 1) := by decide +kernel
theorem dL_law_952 : decode cL_law 952 = .ok (.aload_n 0, 1) := by decide +kernel
theorem dL_law_953 : decode cL_law 953 = .ok (.iload_n 3, 1) := by decide +kernel
theorem dL_law_954 : decode cL_law 954 = .ok (.iconst 3, 1) := by decide +kernel
theorem dL_law_955 : decode cL_law 955 = .ok (.iadd, 1) := by decide +kernel
theorem dL_law_956 : decode cL_law 956 = .ok (.iaload, 1) := by decide +kernel
theorem dL_law_957 : decode cL_law 957 = .ok (.invokevirtual 115, 3) := by decide +kernel
theorem wm_1256 : (Jvm.Cond.methodLink "GrownKindsLaw" (115 : Nat) ({ cls := "GrownKinds", name := "length", desc := "(III)I" } : Jvm.MethodName)) ∈ gT := gT_in (List.mem_of_getElem? (i := 1256) (by decide +kernel)) (by decide +kernel)
theorem wm_1257 : (Jvm.Cond.instanceMethod ({ cls := "GrownKinds", name := "length", desc := "(III)I" } : Jvm.MethodName)) ∈ gT := gT_in (List.mem_of_getElem? (i := 1257) (by decide +kernel)) (by decide +kernel)
theorem wm_1258 : (Jvm.Cond.selects "GrownKinds" ({ cls := "GrownKinds", name := "length", desc := "(III)I" } : Jvm.MethodName) ({ cls := "GrownKinds", name := "length", desc := "(III)I" } : Jvm.MethodName)) ∈ gT := gT_in (List.mem_of_getElem? (i := 1258) (by decide +kernel)) (by decide +kernel)
theorem wm_1259 : (Jvm.Cond.code ({ cls := "GrownKinds", name := "length", desc := "(III)I" } : Jvm.MethodName) prog_1_method_34_code (5 : Nat) (Option.some Jvm.ClassFile.FieldType.int)) ∈ gT := gT_in (List.mem_of_getElem? (i := 1259) (by decide +kernel)) (by decide +kernel)
theorem dL_law_960 : decode cL_law 960 = .ok (.aload_n 2, 1) := by decide +kernel
theorem dL_law_961 : decode cL_law 961 = .ok (.aload_n 0, 1) := by decide +kernel
theorem dL_law_962 : decode cL_law 962 = .ok (.iload_n 3, 1) := by decide +kernel
theorem dL_law_963 : decode cL_law 963 = .ok (.iconst 1, 1) := by decide +kernel
theorem dL_law_964 : decode cL_law 964 = .ok (.iadd, 1) := by decide +kernel
theorem dL_law_965 : decode cL_law 965 = .ok (.iaload, 1) := by decide +kernel
theorem dL_law_966 : decode cL_law 966 = .ok (.aload_n 0, 1) := by decide +kernel
theorem dL_law_967 : decode cL_law 967 = .ok (.iload_n 3, 1) := by decide +kernel
theorem dL_law_968 : decode cL_law 968 = .ok (.iconst 2, 1) := by decide +kernel
theorem dL_law_969 : decode cL_law 969 = .ok (.iadd, 1) := by decide +kernel
theorem dL_law_970 : decode cL_law 970 = .ok (.iaload, 1) := by decide +kernel
theorem dL_law_971 : decode cL_law 971 = .ok (.aload_n 0, 1) := by decide +kernel
theorem dL_law_972 : decode cL_law 972 = .ok (.iload_n 3, 1) := by decide +kernel
theorem dL_law_973 : decode cL_law 973 = .ok (.iconst 3, 1) := by decide +kernel
theorem dL_law_974 : decode cL_law 974 = .ok (.iadd, 1) := by decide +kernel
theorem dL_law_975 : decode cL_law 975 = .ok (.iaload, 1) := by decide +kernel
theorem dL_law_976 : decode cL_law 976 = .ok (.invokevirtual 119, 3) := by decide +kernel
theorem wm_2174 : (Jvm.Cond.methodLink "GrownKindsLaw" (119 : Nat) ({ cls := "GrownKindsModel", name := "length", desc := "(III)I" } : Jvm.MethodName)) ∈ gT := gT_in (List.mem_of_getElem? (i := 2174) (by decide +kernel)) (by decide +kernel)
theorem wm_2175 : (Jvm.Cond.instanceMethod ({ cls := "GrownKindsModel", name := "length", desc := "(III)I" } : Jvm.MethodName)) ∈ gT := gT_in (List.mem_of_getElem? (i := 2175) (by decide +kernel)) (by decide +kernel)
theorem wm_2176 : (Jvm.Cond.selects "GrownKindsModel" ({ cls := "GrownKindsModel", name := "length", desc := "(III)I" } : Jvm.MethodName) ({ cls := "GrownKindsModel", name := "length", desc := "(III)I" } : Jvm.MethodName)) ∈ gT := gT_in (List.mem_of_getElem? (i := 2176) (by decide +kernel)) (by decide +kernel)
theorem wm_2177 : (Jvm.Cond.code ({ cls := "GrownKindsModel", name := "length", desc := "(III)I" } : Jvm.MethodName) prog_14_method_106_code (5 : Nat) (Option.some Jvm.ClassFile.FieldType.int)) ∈ gT := gT_in (List.mem_of_getElem? (i := 2177) (by decide +kernel)) (by decide +kernel)
theorem dL_law_979 : decode cL_law 979 = .ok (.if_icmp .eq 875, 3) := by decide +kernel
theorem dL_law_984 : decode cL_law 984 = .ok (.aload_n 1, 1) := by decide +kernel
theorem dL_law_985 : decode cL_law 985 = .ok (.aload_n 0, 1) := by decide +kernel
theorem dL_law_986 : decode cL_law 986 = .ok (.iload_n 3, 1) := by decide +kernel
theorem dL_law_987 : decode cL_law 987 = .ok (.iconst 1, 1) := by decide +kernel
theorem dL_law_988 : decode cL_law 988 = .ok (.iadd, 1) := by decide +kernel
theorem dL_law_989 : decode cL_law 989 = .ok (.iaload, 1) := by decide +kernel
theorem dL_law_990 : decode cL_law 990 = .ok (.aload_n 0, 1) := by decide +kernel
theorem dL_law_991 : decode cL_law 991 = .ok (.iload_n 3, 1) := by decide +kernel
theorem dL_law_992 : decode cL_law 992 = .ok (.iconst 2, 1) := by decide +kernel
theorem dL_law_993 : decode cL_law 993 = .ok (.iadd, 1) := by decide +kernel
theorem dL_law_994 : decode cL_law 994 = .ok (.iaload, 1) := by decide +kernel
theorem dL_law_995 : decode cL_law 995 = .ok (.aload_n 0, 1) := by decide +kernel
theorem dL_law_996 : decode cL_law 996 = .ok (.iload_n 3, 1) := by decide +kernel
theorem dL_law_997 : decode cL_law 997 = .ok (.iconst 3, 1) := by decide +kernel
theorem dL_law_998 : decode cL_law 998 = .ok (.iadd, 1) := by decide +kernel
theorem dL_law_999 : decode cL_law 999 = .ok (.iaload, 1) := by decide +kernel
theorem dL_law_1000 : decode cL_law 1000 = .ok (.aload_n 0, 1) := by decide +kernel
theorem dL_law_1001 : decode cL_law 1001 = .ok (.iload_n 3, 1) := by decide +kernel
theorem dL_law_1002 : decode cL_law 1002 = .ok (.iconst 4, 1) := by decide +kernel
theorem dL_law_1003 : decode cL_law 1003 = .ok (.iadd, 1) := by decide +kernel
theorem dL_law_1004 : decode cL_law 1004 = .ok (.iaload, 1) := by decide +kernel
theorem dL_law_1005 : decode cL_law 1005 = .ok (.invokevirtual 120, 3) := by decide +kernel
theorem wm_1421 : (Jvm.Cond.methodLink "GrownKindsLaw" (120 : Nat) ({ cls := "GrownKinds", name := "sign", desc := "(IIII)I" } : Jvm.MethodName)) ∈ gT := gT_in (List.mem_of_getElem? (i := 1421) (by decide +kernel)) (by decide +kernel)
theorem wm_1422 : (Jvm.Cond.instanceMethod ({ cls := "GrownKinds", name := "sign", desc := "(IIII)I" } : Jvm.MethodName)) ∈ gT := gT_in (List.mem_of_getElem? (i := 1422) (by decide +kernel)) (by decide +kernel)
theorem wm_1423 : (Jvm.Cond.selects "GrownKinds" ({ cls := "GrownKinds", name := "sign", desc := "(IIII)I" } : Jvm.MethodName) ({ cls := "GrownKinds", name := "sign", desc := "(IIII)I" } : Jvm.MethodName)) ∈ gT := gT_in (List.mem_of_getElem? (i := 1423) (by decide +kernel)) (by decide +kernel)
theorem wm_1424 : (Jvm.Cond.code ({ cls := "GrownKinds", name := "sign", desc := "(IIII)I" } : Jvm.MethodName) prog_1_method_35_code (6 : Nat) (Option.some Jvm.ClassFile.FieldType.int)) ∈ gT := gT_in (List.mem_of_getElem? (i := 1424) (by decide +kernel)) (by decide +kernel)
theorem dL_law_1008 : decode cL_law 1008 = .ok (.aload_n 2, 1) := by decide +kernel
theorem dL_law_1009 : decode cL_law 1009 = .ok (.aload_n 0, 1) := by decide +kernel
theorem dL_law_1010 : decode cL_law 1010 = .ok (.iload_n 3, 1) := by decide +kernel
theorem dL_law_1011 : decode cL_law 1011 = .ok (.iconst 1, 1) := by decide +kernel
theorem dL_law_1012 : decode cL_law 1012 = .ok (.iadd, 1) := by decide +kernel
theorem dL_law_1013 : decode cL_law 1013 = .ok (.iaload, 1) := by decide +kernel
theorem dL_law_1014 : decode cL_law 1014 = .ok (.aload_n 0, 1) := by decide +kernel
theorem dL_law_1015 : decode cL_law 1015 = .ok (.iload_n 3, 1) := by decide +kernel
theorem dL_law_1016 : decode cL_law 1016 = .ok (.iconst 2, 1) := by decide +kernel
theorem dL_law_1017 : decode cL_law 1017 = .ok (.iadd, 1) := by decide +kernel
theorem dL_law_1018 : decode cL_law 1018 = .ok (.iaload, 1) := by decide +kernel
theorem dL_law_1019 : decode cL_law 1019 = .ok (.aload_n 0, 1) := by decide +kernel
theorem dL_law_1020 : decode cL_law 1020 = .ok (.iload_n 3, 1) := by decide +kernel
theorem dL_law_1021 : decode cL_law 1021 = .ok (.iconst 3, 1) := by decide +kernel
theorem dL_law_1022 : decode cL_law 1022 = .ok (.iadd, 1) := by decide +kernel
theorem dL_law_1023 : decode cL_law 1023 = .ok (.iaload, 1) := by decide +kernel
theorem dL_law_1024 : decode cL_law 1024 = .ok (.aload_n 0, 1) := by decide +kernel
theorem dL_law_1025 : decode cL_law 1025 = .ok (.iload_n 3, 1) := by decide +kernel
theorem dL_law_1026 : decode cL_law 1026 = .ok (.iconst 4, 1) := by decide +kernel
theorem dL_law_1027 : decode cL_law 1027 = .ok (.iadd, 1) := by decide +kernel
theorem dL_law_1028 : decode cL_law 1028 = .ok (.iaload, 1) := by decide +kernel
theorem dL_law_1029 : decode cL_law 1029 = .ok (.invokevirtual 124, 3) := by decide +kernel
theorem wm_2261 : (Jvm.Cond.methodLink "GrownKindsLaw" (124 : Nat) ({ cls := "GrownKindsModel", name := "sign", desc := "(IIII)I" } : Jvm.MethodName)) ∈ gT := gT_in (List.mem_of_getElem? (i := 2261) (by decide +kernel)) (by decide +kernel)
theorem wm_2262 : (Jvm.Cond.instanceMethod ({ cls := "GrownKindsModel", name := "sign", desc := "(IIII)I" } : Jvm.MethodName)) ∈ gT := gT_in (List.mem_of_getElem? (i := 2262) (by decide +kernel)) (by decide +kernel)
theorem wm_2263 : (Jvm.Cond.selects "GrownKindsModel" ({ cls := "GrownKindsModel", name := "sign", desc := "(IIII)I" } : Jvm.MethodName) ({ cls := "GrownKindsModel", name := "sign", desc := "(IIII)I" } : Jvm.MethodName)) ∈ gT := gT_in (List.mem_of_getElem? (i := 2263) (by decide +kernel)) (by decide +kernel)
theorem wm_2264 : (Jvm.Cond.code ({ cls := "GrownKindsModel", name := "sign", desc := "(IIII)I" } : Jvm.MethodName) prog_14_method_107_code (6 : Nat) (Option.some Jvm.ClassFile.FieldType.int)) ∈ gT := gT_in (List.mem_of_getElem? (i := 2264) (by decide +kernel)) (by decide +kernel)
theorem dL_law_1032 : decode cL_law 1032 = .ok (.if_icmp .eq 822, 3) := by decide +kernel
theorem dL_law_1037 : decode cL_law 1037 = .ok (.aload_n 1, 1) := by decide +kernel
theorem dL_law_1038 : decode cL_law 1038 = .ok (.aload_n 0, 1) := by decide +kernel
theorem dL_law_1039 : decode cL_law 1039 = .ok (.iload_n 3, 1) := by decide +kernel
theorem dL_law_1040 : decode cL_law 1040 = .ok (.iconst 1, 1) := by decide +kernel
theorem dL_law_1041 : decode cL_law 1041 = .ok (.iadd, 1) := by decide +kernel
theorem dL_law_1042 : decode cL_law 1042 = .ok (.iaload, 1) := by decide +kernel
theorem dL_law_1043 : decode cL_law 1043 = .ok (.aload_n 0, 1) := by decide +kernel
theorem dL_law_1044 : decode cL_law 1044 = .ok (.iload_n 3, 1) := by decide +kernel
theorem dL_law_1045 : decode cL_law 1045 = .ok (.iconst 2, 1) := by decide +kernel
theorem dL_law_1046 : decode cL_law 1046 = .ok (.iadd, 1) := by decide +kernel
theorem dL_law_1047 : decode cL_law 1047 = .ok (.iaload, 1) := by decide +kernel
theorem dL_law_1048 : decode cL_law 1048 = .ok (.aload_n 0, 1) := by decide +kernel
theorem dL_law_1049 : decode cL_law 1049 = .ok (.iload_n 3, 1) := by decide +kernel
theorem dL_law_1050 : decode cL_law 1050 = .ok (.iconst 3, 1) := by decide +kernel
theorem dL_law_1051 : decode cL_law 1051 = .ok (.iadd, 1) := by decide +kernel
theorem dL_law_1052 : decode cL_law 1052 = .ok (.iaload, 1) := by decide +kernel
theorem dL_law_1053 : decode cL_law 1053 = .ok (.invokevirtual 125, 3) := by decide +kernel
theorem wm_1429 : (Jvm.Cond.methodLink "GrownKindsLaw" (125 : Nat) ({ cls := "GrownKinds", name := "deep", desc := "(III)I" } : Jvm.MethodName)) ∈ gT := gT_in (List.mem_of_getElem? (i := 1429) (by decide +kernel)) (by decide +kernel)
theorem wm_1430 : (Jvm.Cond.instanceMethod ({ cls := "GrownKinds", name := "deep", desc := "(III)I" } : Jvm.MethodName)) ∈ gT := gT_in (List.mem_of_getElem? (i := 1430) (by decide +kernel)) (by decide +kernel)
theorem wm_1431 : (Jvm.Cond.selects "GrownKinds" ({ cls := "GrownKinds", name := "deep", desc := "(III)I" } : Jvm.MethodName) ({ cls := "GrownKinds", name := "deep", desc := "(III)I" } : Jvm.MethodName)) ∈ gT := gT_in (List.mem_of_getElem? (i := 1431) (by decide +kernel)) (by decide +kernel)
theorem wm_1432 : (Jvm.Cond.code ({ cls := "GrownKinds", name := "deep", desc := "(III)I" } : Jvm.MethodName) prog_1_method_36_code (5 : Nat) (Option.some Jvm.ClassFile.FieldType.int)) ∈ gT := gT_in (List.mem_of_getElem? (i := 1432) (by decide +kernel)) (by decide +kernel)
theorem dL_law_1056 : decode cL_law 1056 = .ok (.aload_n 2, 1) := by decide +kernel
theorem dL_law_1057 : decode cL_law 1057 = .ok (.aload_n 0, 1) := by decide +kernel
theorem dL_law_1058 : decode cL_law 1058 = .ok (.iload_n 3, 1) := by decide +kernel
theorem dL_law_1059 : decode cL_law 1059 = .ok (.iconst 1, 1) := by decide +kernel
theorem dL_law_1060 : decode cL_law 1060 = .ok (.iadd, 1) := by decide +kernel
theorem dL_law_1061 : decode cL_law 1061 = .ok (.iaload, 1) := by decide +kernel
theorem dL_law_1062 : decode cL_law 1062 = .ok (.aload_n 0, 1) := by decide +kernel
theorem dL_law_1063 : decode cL_law 1063 = .ok (.iload_n 3, 1) := by decide +kernel
theorem dL_law_1064 : decode cL_law 1064 = .ok (.iconst 2, 1) := by decide +kernel
theorem dL_law_1065 : decode cL_law 1065 = .ok (.iadd, 1) := by decide +kernel
theorem dL_law_1066 : decode cL_law 1066 = .ok (.iaload, 1) := by decide +kernel
theorem dL_law_1067 : decode cL_law 1067 = .ok (.aload_n 0, 1) := by decide +kernel
theorem dL_law_1068 : decode cL_law 1068 = .ok (.iload_n 3, 1) := by decide +kernel
theorem dL_law_1069 : decode cL_law 1069 = .ok (.iconst 3, 1) := by decide +kernel
theorem dL_law_1070 : decode cL_law 1070 = .ok (.iadd, 1) := by decide +kernel
theorem dL_law_1071 : decode cL_law 1071 = .ok (.iaload, 1) := by decide +kernel
theorem dL_law_1072 : decode cL_law 1072 = .ok (.invokevirtual 128, 3) := by decide +kernel
theorem wm_2265 : (Jvm.Cond.methodLink "GrownKindsLaw" (128 : Nat) ({ cls := "GrownKindsModel", name := "deep", desc := "(III)I" } : Jvm.MethodName)) ∈ gT := gT_in (List.mem_of_getElem? (i := 2265) (by decide +kernel)) (by decide +kernel)
theorem wm_2266 : (Jvm.Cond.instanceMethod ({ cls := "GrownKindsModel", name := "deep", desc := "(III)I" } : Jvm.MethodName)) ∈ gT := gT_in (List.mem_of_getElem? (i := 2266) (by decide +kernel)) (by decide +kernel)
theorem wm_2267 : (Jvm.Cond.selects "GrownKindsModel" ({ cls := "GrownKindsModel", name := "deep", desc := "(III)I" } : Jvm.MethodName) ({ cls := "GrownKindsModel", name := "deep", desc := "(III)I" } : Jvm.MethodName)) ∈ gT := gT_in (List.mem_of_getElem? (i := 2267) (by decide +kernel)) (by decide +kernel)
theorem wm_2268 : (Jvm.Cond.code ({ cls := "GrownKindsModel", name := "deep", desc := "(III)I" } : Jvm.MethodName) prog_14_method_108_code (5 : Nat) (Option.some Jvm.ClassFile.FieldType.int)) ∈ gT := gT_in (List.mem_of_getElem? (i := 2268) (by decide +kernel)) (by decide +kernel)
theorem dL_law_1075 : decode cL_law 1075 = .ok (.if_icmp .eq 779, 3) := by decide +kernel
theorem dL_law_1080 : decode cL_law 1080 = .ok (.aload_n 1, 1) := by decide +kernel
theorem dL_law_1081 : decode cL_law 1081 = .ok (.aload_n 0, 1) := by decide +kernel
theorem dL_law_1082 : decode cL_law 1082 = .ok (.iload_n 3, 1) := by decide +kernel
theorem dL_law_1083 : decode cL_law 1083 = .ok (.iconst 1, 1) := by decide +kernel
theorem dL_law_1084 : decode cL_law 1084 = .ok (.iadd, 1) := by decide +kernel
theorem dL_law_1085 : decode cL_law 1085 = .ok (.iaload, 1) := by decide +kernel
theorem dL_law_1086 : decode cL_law 1086 = .ok (.aload_n 0, 1) := by decide +kernel
theorem dL_law_1087 : decode cL_law 1087 = .ok (.iload_n 3, 1) := by decide +kernel
theorem dL_law_1088 : decode cL_law 1088 = .ok (.iconst 2, 1) := by decide +kernel
theorem dL_law_1089 : decode cL_law 1089 = .ok (.iadd, 1) := by decide +kernel
theorem dL_law_1090 : decode cL_law 1090 = .ok (.iaload, 1) := by decide +kernel
theorem dL_law_1091 : decode cL_law 1091 = .ok (.aload_n 0, 1) := by decide +kernel
theorem dL_law_1092 : decode cL_law 1092 = .ok (.iload_n 3, 1) := by decide +kernel
theorem dL_law_1093 : decode cL_law 1093 = .ok (.iconst 3, 1) := by decide +kernel
theorem dL_law_1094 : decode cL_law 1094 = .ok (.iadd, 1) := by decide +kernel
theorem dL_law_1095 : decode cL_law 1095 = .ok (.iaload, 1) := by decide +kernel
theorem dL_law_1096 : decode cL_law 1096 = .ok (.aload_n 0, 1) := by decide +kernel
theorem dL_law_1097 : decode cL_law 1097 = .ok (.iload_n 3, 1) := by decide +kernel
theorem dL_law_1098 : decode cL_law 1098 = .ok (.iconst 4, 1) := by decide +kernel
theorem dL_law_1099 : decode cL_law 1099 = .ok (.iadd, 1) := by decide +kernel
theorem dL_law_1100 : decode cL_law 1100 = .ok (.iaload, 1) := by decide +kernel
theorem dL_law_1101 : decode cL_law 1101 = .ok (.invokevirtual 129, 3) := by decide +kernel
theorem wm_1433 : (Jvm.Cond.methodLink "GrownKindsLaw" (129 : Nat) ({ cls := "GrownKinds", name := "atoms", desc := "(IIII)I" } : Jvm.MethodName)) ∈ gT := gT_in (List.mem_of_getElem? (i := 1433) (by decide +kernel)) (by decide +kernel)
theorem wm_1434 : (Jvm.Cond.instanceMethod ({ cls := "GrownKinds", name := "atoms", desc := "(IIII)I" } : Jvm.MethodName)) ∈ gT := gT_in (List.mem_of_getElem? (i := 1434) (by decide +kernel)) (by decide +kernel)
theorem wm_1435 : (Jvm.Cond.selects "GrownKinds" ({ cls := "GrownKinds", name := "atoms", desc := "(IIII)I" } : Jvm.MethodName) ({ cls := "GrownKinds", name := "atoms", desc := "(IIII)I" } : Jvm.MethodName)) ∈ gT := gT_in (List.mem_of_getElem? (i := 1435) (by decide +kernel)) (by decide +kernel)
theorem wm_1436 : (Jvm.Cond.code ({ cls := "GrownKinds", name := "atoms", desc := "(IIII)I" } : Jvm.MethodName) prog_1_method_37_code (6 : Nat) (Option.some Jvm.ClassFile.FieldType.int)) ∈ gT := gT_in (List.mem_of_getElem? (i := 1436) (by decide +kernel)) (by decide +kernel)
theorem dL_law_1104 : decode cL_law 1104 = .ok (.aload_n 2, 1) := by decide +kernel
theorem dL_law_1105 : decode cL_law 1105 = .ok (.aload_n 0, 1) := by decide +kernel
theorem dL_law_1106 : decode cL_law 1106 = .ok (.iload_n 3, 1) := by decide +kernel
theorem dL_law_1107 : decode cL_law 1107 = .ok (.iconst 1, 1) := by decide +kernel
theorem dL_law_1108 : decode cL_law 1108 = .ok (.iadd, 1) := by decide +kernel
theorem dL_law_1109 : decode cL_law 1109 = .ok (.iaload, 1) := by decide +kernel
theorem dL_law_1110 : decode cL_law 1110 = .ok (.aload_n 0, 1) := by decide +kernel
theorem dL_law_1111 : decode cL_law 1111 = .ok (.iload_n 3, 1) := by decide +kernel
theorem dL_law_1112 : decode cL_law 1112 = .ok (.iconst 2, 1) := by decide +kernel
theorem dL_law_1113 : decode cL_law 1113 = .ok (.iadd, 1) := by decide +kernel
theorem dL_law_1114 : decode cL_law 1114 = .ok (.iaload, 1) := by decide +kernel
theorem dL_law_1115 : decode cL_law 1115 = .ok (.aload_n 0, 1) := by decide +kernel
theorem dL_law_1116 : decode cL_law 1116 = .ok (.iload_n 3, 1) := by decide +kernel
theorem dL_law_1117 : decode cL_law 1117 = .ok (.iconst 3, 1) := by decide +kernel
theorem dL_law_1118 : decode cL_law 1118 = .ok (.iadd, 1) := by decide +kernel
theorem dL_law_1119 : decode cL_law 1119 = .ok (.iaload, 1) := by decide +kernel
theorem dL_law_1120 : decode cL_law 1120 = .ok (.aload_n 0, 1) := by decide +kernel
theorem dL_law_1121 : decode cL_law 1121 = .ok (.iload_n 3, 1) := by decide +kernel
theorem dL_law_1122 : decode cL_law 1122 = .ok (.iconst 4, 1) := by decide +kernel
theorem dL_law_1123 : decode cL_law 1123 = .ok (.iadd, 1) := by decide +kernel
theorem dL_law_1124 : decode cL_law 1124 = .ok (.iaload, 1) := by decide +kernel
theorem dL_law_1125 : decode cL_law 1125 = .ok (.invokevirtual 132, 3) := by decide +kernel
theorem wm_2269 : (Jvm.Cond.methodLink "GrownKindsLaw" (132 : Nat) ({ cls := "GrownKindsModel", name := "atoms", desc := "(IIII)I" } : Jvm.MethodName)) ∈ gT := gT_in (List.mem_of_getElem? (i := 2269) (by decide +kernel)) (by decide +kernel)
theorem wm_2270 : (Jvm.Cond.instanceMethod ({ cls := "GrownKindsModel", name := "atoms", desc := "(IIII)I" } : Jvm.MethodName)) ∈ gT := gT_in (List.mem_of_getElem? (i := 2270) (by decide +kernel)) (by decide +kernel)
theorem wm_2271 : (Jvm.Cond.selects "GrownKindsModel" ({ cls := "GrownKindsModel", name := "atoms", desc := "(IIII)I" } : Jvm.MethodName) ({ cls := "GrownKindsModel", name := "atoms", desc := "(IIII)I" } : Jvm.MethodName)) ∈ gT := gT_in (List.mem_of_getElem? (i := 2271) (by decide +kernel)) (by decide +kernel)
theorem wm_2272 : (Jvm.Cond.code ({ cls := "GrownKindsModel", name := "atoms", desc := "(IIII)I" } : Jvm.MethodName) prog_14_method_109_code (6 : Nat) (Option.some Jvm.ClassFile.FieldType.int)) ∈ gT := gT_in (List.mem_of_getElem? (i := 2272) (by decide +kernel)) (by decide +kernel)
theorem dL_law_1128 : decode cL_law 1128 = .ok (.if_icmp .eq 726, 3) := by decide +kernel
theorem dL_law_1133 : decode cL_law 1133 = .ok (.aload_n 1, 1) := by decide +kernel
theorem dL_law_1134 : decode cL_law 1134 = .ok (.aload_n 0, 1) := by decide +kernel
theorem dL_law_1135 : decode cL_law 1135 = .ok (.iload_n 3, 1) := by decide +kernel
theorem dL_law_1136 : decode cL_law 1136 = .ok (.iconst 1, 1) := by decide +kernel
theorem dL_law_1137 : decode cL_law 1137 = .ok (.iadd, 1) := by decide +kernel
theorem dL_law_1138 : decode cL_law 1138 = .ok (.iaload, 1) := by decide +kernel
theorem dL_law_1139 : decode cL_law 1139 = .ok (.aload_n 0, 1) := by decide +kernel
theorem dL_law_1140 : decode cL_law 1140 = .ok (.iload_n 3, 1) := by decide +kernel
theorem dL_law_1141 : decode cL_law 1141 = .ok (.iconst 2, 1) := by decide +kernel
theorem dL_law_1142 : decode cL_law 1142 = .ok (.iadd, 1) := by decide +kernel
theorem dL_law_1143 : decode cL_law 1143 = .ok (.iaload, 1) := by decide +kernel
theorem dL_law_1144 : decode cL_law 1144 = .ok (.aload_n 0, 1) := by decide +kernel
theorem dL_law_1145 : decode cL_law 1145 = .ok (.iload_n 3, 1) := by decide +kernel
theorem dL_law_1146 : decode cL_law 1146 = .ok (.iconst 3, 1) := by decide +kernel
theorem dL_law_1147 : decode cL_law 1147 = .ok (.iadd, 1) := by decide +kernel
theorem dL_law_1148 : decode cL_law 1148 = .ok (.iaload, 1) := by decide +kernel
theorem dL_law_1149 : decode cL_law 1149 = .ok (.invokevirtual 133, 3) := by decide +kernel
theorem wm_1437 : (Jvm.Cond.methodLink "GrownKindsLaw" (133 : Nat) ({ cls := "GrownKinds", name := "term", desc := "(III)I" } : Jvm.MethodName)) ∈ gT := gT_in (List.mem_of_getElem? (i := 1437) (by decide +kernel)) (by decide +kernel)
theorem wm_1438 : (Jvm.Cond.instanceMethod ({ cls := "GrownKinds", name := "term", desc := "(III)I" } : Jvm.MethodName)) ∈ gT := gT_in (List.mem_of_getElem? (i := 1438) (by decide +kernel)) (by decide +kernel)
theorem wm_1439 : (Jvm.Cond.selects "GrownKinds" ({ cls := "GrownKinds", name := "term", desc := "(III)I" } : Jvm.MethodName) ({ cls := "GrownKinds", name := "term", desc := "(III)I" } : Jvm.MethodName)) ∈ gT := gT_in (List.mem_of_getElem? (i := 1439) (by decide +kernel)) (by decide +kernel)
theorem wm_1440 : (Jvm.Cond.code ({ cls := "GrownKinds", name := "term", desc := "(III)I" } : Jvm.MethodName) prog_1_method_38_code (5 : Nat) (Option.some Jvm.ClassFile.FieldType.int)) ∈ gT := gT_in (List.mem_of_getElem? (i := 1440) (by decide +kernel)) (by decide +kernel)
theorem dL_law_1152 : decode cL_law 1152 = .ok (.aload_n 2, 1) := by decide +kernel
theorem dL_law_1153 : decode cL_law 1153 = .ok (.aload_n 0, 1) := by decide +kernel
theorem dL_law_1154 : decode cL_law 1154 = .ok (.iload_n 3, 1) := by decide +kernel
theorem dL_law_1155 : decode cL_law 1155 = .ok (.iconst 1, 1) := by decide +kernel
theorem dL_law_1156 : decode cL_law 1156 = .ok (.iadd, 1) := by decide +kernel
theorem dL_law_1157 : decode cL_law 1157 = .ok (.iaload, 1) := by decide +kernel
theorem dL_law_1158 : decode cL_law 1158 = .ok (.aload_n 0, 1) := by decide +kernel
theorem dL_law_1159 : decode cL_law 1159 = .ok (.iload_n 3, 1) := by decide +kernel
theorem dL_law_1160 : decode cL_law 1160 = .ok (.iconst 2, 1) := by decide +kernel
theorem dL_law_1161 : decode cL_law 1161 = .ok (.iadd, 1) := by decide +kernel
theorem dL_law_1162 : decode cL_law 1162 = .ok (.iaload, 1) := by decide +kernel
theorem dL_law_1163 : decode cL_law 1163 = .ok (.aload_n 0, 1) := by decide +kernel
theorem dL_law_1164 : decode cL_law 1164 = .ok (.iload_n 3, 1) := by decide +kernel
theorem dL_law_1165 : decode cL_law 1165 = .ok (.iconst 3, 1) := by decide +kernel
theorem dL_law_1166 : decode cL_law 1166 = .ok (.iadd, 1) := by decide +kernel
theorem dL_law_1167 : decode cL_law 1167 = .ok (.iaload, 1) := by decide +kernel
theorem dL_law_1168 : decode cL_law 1168 = .ok (.invokevirtual 136, 3) := by decide +kernel
theorem wm_2273 : (Jvm.Cond.methodLink "GrownKindsLaw" (136 : Nat) ({ cls := "GrownKindsModel", name := "term", desc := "(III)I" } : Jvm.MethodName)) ∈ gT := gT_in (List.mem_of_getElem? (i := 2273) (by decide +kernel)) (by decide +kernel)
theorem wm_2274 : (Jvm.Cond.instanceMethod ({ cls := "GrownKindsModel", name := "term", desc := "(III)I" } : Jvm.MethodName)) ∈ gT := gT_in (List.mem_of_getElem? (i := 2274) (by decide +kernel)) (by decide +kernel)
theorem wm_2275 : (Jvm.Cond.selects "GrownKindsModel" ({ cls := "GrownKindsModel", name := "term", desc := "(III)I" } : Jvm.MethodName) ({ cls := "GrownKindsModel", name := "term", desc := "(III)I" } : Jvm.MethodName)) ∈ gT := gT_in (List.mem_of_getElem? (i := 2275) (by decide +kernel)) (by decide +kernel)
theorem wm_2276 : (Jvm.Cond.code ({ cls := "GrownKindsModel", name := "term", desc := "(III)I" } : Jvm.MethodName) prog_14_method_110_code (5 : Nat) (Option.some Jvm.ClassFile.FieldType.int)) ∈ gT := gT_in (List.mem_of_getElem? (i := 2276) (by decide +kernel)) (by decide +kernel)
theorem dL_law_1171 : decode cL_law 1171 = .ok (.if_icmp .eq 683, 3) := by decide +kernel
theorem dL_law_1176 : decode cL_law 1176 = .ok (.aload_n 1, 1) := by decide +kernel
theorem dL_law_1177 : decode cL_law 1177 = .ok (.aload_n 0, 1) := by decide +kernel
theorem dL_law_1178 : decode cL_law 1178 = .ok (.iload_n 3, 1) := by decide +kernel
theorem dL_law_1179 : decode cL_law 1179 = .ok (.iconst 1, 1) := by decide +kernel
theorem dL_law_1180 : decode cL_law 1180 = .ok (.iadd, 1) := by decide +kernel
theorem dL_law_1181 : decode cL_law 1181 = .ok (.iaload, 1) := by decide +kernel
theorem dL_law_1182 : decode cL_law 1182 = .ok (.aload_n 0, 1) := by decide +kernel
theorem dL_law_1183 : decode cL_law 1183 = .ok (.iload_n 3, 1) := by decide +kernel
theorem dL_law_1184 : decode cL_law 1184 = .ok (.iconst 2, 1) := by decide +kernel
theorem dL_law_1185 : decode cL_law 1185 = .ok (.iadd, 1) := by decide +kernel
theorem dL_law_1186 : decode cL_law 1186 = .ok (.iaload, 1) := by decide +kernel
theorem dL_law_1187 : decode cL_law 1187 = .ok (.aload_n 0, 1) := by decide +kernel
theorem dL_law_1188 : decode cL_law 1188 = .ok (.iload_n 3, 1) := by decide +kernel
theorem dL_law_1189 : decode cL_law 1189 = .ok (.iconst 3, 1) := by decide +kernel
theorem dL_law_1190 : decode cL_law 1190 = .ok (.iadd, 1) := by decide +kernel
theorem dL_law_1191 : decode cL_law 1191 = .ok (.iaload, 1) := by decide +kernel
theorem dL_law_1192 : decode cL_law 1192 = .ok (.invokevirtual 137, 3) := by decide +kernel
theorem wm_1441 : (Jvm.Cond.methodLink "GrownKindsLaw" (137 : Nat) ({ cls := "GrownKinds", name := "symmetries", desc := "(III)I" } : Jvm.MethodName)) ∈ gT := gT_in (List.mem_of_getElem? (i := 1441) (by decide +kernel)) (by decide +kernel)
theorem wm_1442 : (Jvm.Cond.instanceMethod ({ cls := "GrownKinds", name := "symmetries", desc := "(III)I" } : Jvm.MethodName)) ∈ gT := gT_in (List.mem_of_getElem? (i := 1442) (by decide +kernel)) (by decide +kernel)
theorem wm_1443 : (Jvm.Cond.selects "GrownKinds" ({ cls := "GrownKinds", name := "symmetries", desc := "(III)I" } : Jvm.MethodName) ({ cls := "GrownKinds", name := "symmetries", desc := "(III)I" } : Jvm.MethodName)) ∈ gT := gT_in (List.mem_of_getElem? (i := 1443) (by decide +kernel)) (by decide +kernel)
theorem wm_1444 : (Jvm.Cond.code ({ cls := "GrownKinds", name := "symmetries", desc := "(III)I" } : Jvm.MethodName) prog_1_method_39_code (5 : Nat) (Option.some Jvm.ClassFile.FieldType.int)) ∈ gT := gT_in (List.mem_of_getElem? (i := 1444) (by decide +kernel)) (by decide +kernel)
theorem dL_law_1195 : decode cL_law 1195 = .ok (.aload_n 2, 1) := by decide +kernel
theorem dL_law_1196 : decode cL_law 1196 = .ok (.aload_n 0, 1) := by decide +kernel
theorem dL_law_1197 : decode cL_law 1197 = .ok (.iload_n 3, 1) := by decide +kernel
theorem dL_law_1198 : decode cL_law 1198 = .ok (.iconst 1, 1) := by decide +kernel
theorem dL_law_1199 : decode cL_law 1199 = .ok (.iadd, 1) := by decide +kernel
theorem dL_law_1200 : decode cL_law 1200 = .ok (.iaload, 1) := by decide +kernel
theorem dL_law_1201 : decode cL_law 1201 = .ok (.aload_n 0, 1) := by decide +kernel
theorem dL_law_1202 : decode cL_law 1202 = .ok (.iload_n 3, 1) := by decide +kernel
theorem dL_law_1203 : decode cL_law 1203 = .ok (.iconst 2, 1) := by decide +kernel
theorem dL_law_1204 : decode cL_law 1204 = .ok (.iadd, 1) := by decide +kernel
theorem dL_law_1205 : decode cL_law 1205 = .ok (.iaload, 1) := by decide +kernel
theorem dL_law_1206 : decode cL_law 1206 = .ok (.aload_n 0, 1) := by decide +kernel
theorem dL_law_1207 : decode cL_law 1207 = .ok (.iload_n 3, 1) := by decide +kernel
theorem dL_law_1208 : decode cL_law 1208 = .ok (.iconst 3, 1) := by decide +kernel
theorem dL_law_1209 : decode cL_law 1209 = .ok (.iadd, 1) := by decide +kernel
theorem dL_law_1210 : decode cL_law 1210 = .ok (.iaload, 1) := by decide +kernel
theorem dL_law_1211 : decode cL_law 1211 = .ok (.invokevirtual 140, 3) := by decide +kernel
theorem wm_2277 : (Jvm.Cond.methodLink "GrownKindsLaw" (140 : Nat) ({ cls := "GrownKindsModel", name := "symmetries", desc := "(III)I" } : Jvm.MethodName)) ∈ gT := gT_in (List.mem_of_getElem? (i := 2277) (by decide +kernel)) (by decide +kernel)
theorem dL_law_1214 : decode cL_law 1214 = .ok (.if_icmp .eq 640, 3) := by decide +kernel
theorem dL_law_1219 : decode cL_law 1219 = .ok (.aload_n 1, 1) := by decide +kernel
theorem dL_law_1220 : decode cL_law 1220 = .ok (.aload_n 0, 1) := by decide +kernel
theorem dL_law_1221 : decode cL_law 1221 = .ok (.iload_n 3, 1) := by decide +kernel
theorem dL_law_1222 : decode cL_law 1222 = .ok (.iconst 1, 1) := by decide +kernel
theorem dL_law_1223 : decode cL_law 1223 = .ok (.iadd, 1) := by decide +kernel
theorem dL_law_1224 : decode cL_law 1224 = .ok (.iaload, 1) := by decide +kernel
theorem dL_law_1225 : decode cL_law 1225 = .ok (.aload_n 0, 1) := by decide +kernel
theorem dL_law_1226 : decode cL_law 1226 = .ok (.iload_n 3, 1) := by decide +kernel
theorem dL_law_1227 : decode cL_law 1227 = .ok (.iconst 2, 1) := by decide +kernel
theorem dL_law_1228 : decode cL_law 1228 = .ok (.iadd, 1) := by decide +kernel
theorem dL_law_1229 : decode cL_law 1229 = .ok (.iaload, 1) := by decide +kernel
theorem dL_law_1230 : decode cL_law 1230 = .ok (.aload_n 0, 1) := by decide +kernel
theorem dL_law_1231 : decode cL_law 1231 = .ok (.iload_n 3, 1) := by decide +kernel
theorem dL_law_1232 : decode cL_law 1232 = .ok (.iconst 3, 1) := by decide +kernel
theorem dL_law_1233 : decode cL_law 1233 = .ok (.iadd, 1) := by decide +kernel
theorem dL_law_1234 : decode cL_law 1234 = .ok (.iaload, 1) := by decide +kernel
theorem dL_law_1235 : decode cL_law 1235 = .ok (.invokevirtual 141, 3) := by decide +kernel
theorem wm_1445 : (Jvm.Cond.methodLink "GrownKindsLaw" (141 : Nat) ({ cls := "GrownKinds", name := "labels", desc := "(III)I" } : Jvm.MethodName)) ∈ gT := gT_in (List.mem_of_getElem? (i := 1445) (by decide +kernel)) (by decide +kernel)
theorem wm_1446 : (Jvm.Cond.instanceMethod ({ cls := "GrownKinds", name := "labels", desc := "(III)I" } : Jvm.MethodName)) ∈ gT := gT_in (List.mem_of_getElem? (i := 1446) (by decide +kernel)) (by decide +kernel)
theorem wm_1447 : (Jvm.Cond.selects "GrownKinds" ({ cls := "GrownKinds", name := "labels", desc := "(III)I" } : Jvm.MethodName) ({ cls := "GrownKinds", name := "labels", desc := "(III)I" } : Jvm.MethodName)) ∈ gT := gT_in (List.mem_of_getElem? (i := 1447) (by decide +kernel)) (by decide +kernel)
theorem wm_1448 : (Jvm.Cond.code ({ cls := "GrownKinds", name := "labels", desc := "(III)I" } : Jvm.MethodName) prog_1_method_40_code (5 : Nat) (Option.some Jvm.ClassFile.FieldType.int)) ∈ gT := gT_in (List.mem_of_getElem? (i := 1448) (by decide +kernel)) (by decide +kernel)
theorem dL_law_1238 : decode cL_law 1238 = .ok (.aload_n 2, 1) := by decide +kernel
theorem dL_law_1239 : decode cL_law 1239 = .ok (.aload_n 0, 1) := by decide +kernel
theorem dL_law_1240 : decode cL_law 1240 = .ok (.iload_n 3, 1) := by decide +kernel
theorem dL_law_1241 : decode cL_law 1241 = .ok (.iconst 1, 1) := by decide +kernel
theorem dL_law_1242 : decode cL_law 1242 = .ok (.iadd, 1) := by decide +kernel
theorem dL_law_1243 : decode cL_law 1243 = .ok (.iaload, 1) := by decide +kernel
theorem dL_law_1244 : decode cL_law 1244 = .ok (.aload_n 0, 1) := by decide +kernel
theorem dL_law_1245 : decode cL_law 1245 = .ok (.iload_n 3, 1) := by decide +kernel
theorem dL_law_1246 : decode cL_law 1246 = .ok (.iconst 2, 1) := by decide +kernel
theorem dL_law_1247 : decode cL_law 1247 = .ok (.iadd, 1) := by decide +kernel
theorem dL_law_1248 : decode cL_law 1248 = .ok (.iaload, 1) := by decide +kernel
theorem dL_law_1249 : decode cL_law 1249 = .ok (.aload_n 0, 1) := by decide +kernel
theorem dL_law_1250 : decode cL_law 1250 = .ok (.iload_n 3, 1) := by decide +kernel
theorem dL_law_1251 : decode cL_law 1251 = .ok (.iconst 3, 1) := by decide +kernel
theorem dL_law_1252 : decode cL_law 1252 = .ok (.iadd, 1) := by decide +kernel
theorem dL_law_1253 : decode cL_law 1253 = .ok (.iaload, 1) := by decide +kernel
theorem dL_law_1254 : decode cL_law 1254 = .ok (.invokevirtual 144, 3) := by decide +kernel
theorem wm_2281 : (Jvm.Cond.methodLink "GrownKindsLaw" (144 : Nat) ({ cls := "GrownKindsModel", name := "labels", desc := "(III)I" } : Jvm.MethodName)) ∈ gT := gT_in (List.mem_of_getElem? (i := 2281) (by decide +kernel)) (by decide +kernel)
theorem wm_2282 : (Jvm.Cond.instanceMethod ({ cls := "GrownKindsModel", name := "labels", desc := "(III)I" } : Jvm.MethodName)) ∈ gT := gT_in (List.mem_of_getElem? (i := 2282) (by decide +kernel)) (by decide +kernel)
theorem wm_2283 : (Jvm.Cond.selects "GrownKindsModel" ({ cls := "GrownKindsModel", name := "labels", desc := "(III)I" } : Jvm.MethodName) ({ cls := "GrownKindsModel", name := "labels", desc := "(III)I" } : Jvm.MethodName)) ∈ gT := gT_in (List.mem_of_getElem? (i := 2283) (by decide +kernel)) (by decide +kernel)
theorem wm_2284 : (Jvm.Cond.code ({ cls := "GrownKindsModel", name := "labels", desc := "(III)I" } : Jvm.MethodName) prog_14_method_112_code (5 : Nat) (Option.some Jvm.ClassFile.FieldType.int)) ∈ gT := gT_in (List.mem_of_getElem? (i := 2284) (by decide +kernel)) (by decide +kernel)
theorem dL_law_1257 : decode cL_law 1257 = .ok (.if_icmp .eq 597, 3) := by decide +kernel
theorem dL_law_1262 : decode cL_law 1262 = .ok (.aload_n 1, 1) := by decide +kernel
theorem dL_law_1263 : decode cL_law 1263 = .ok (.aload_n 0, 1) := by decide +kernel
theorem dL_law_1264 : decode cL_law 1264 = .ok (.iload_n 3, 1) := by decide +kernel
theorem dL_law_1265 : decode cL_law 1265 = .ok (.iconst 1, 1) := by decide +kernel
theorem dL_law_1266 : decode cL_law 1266 = .ok (.iadd, 1) := by decide +kernel
theorem dL_law_1267 : decode cL_law 1267 = .ok (.iaload, 1) := by decide +kernel
theorem dL_law_1268 : decode cL_law 1268 = .ok (.invokevirtual 145, 3) := by decide +kernel
theorem wm_1450 : (Jvm.Cond.methodLink "GrownKindsLaw" (145 : Nat) ({ cls := "GrownKinds", name := "tells", desc := "(I)I" } : Jvm.MethodName)) ∈ gT := gT_in (List.mem_of_getElem? (i := 1450) (by decide +kernel)) (by decide +kernel)
theorem wm_1451 : (Jvm.Cond.instanceMethod ({ cls := "GrownKinds", name := "tells", desc := "(I)I" } : Jvm.MethodName)) ∈ gT := gT_in (List.mem_of_getElem? (i := 1451) (by decide +kernel)) (by decide +kernel)
theorem wm_1452 : (Jvm.Cond.selects "GrownKinds" ({ cls := "GrownKinds", name := "tells", desc := "(I)I" } : Jvm.MethodName) ({ cls := "GrownKinds", name := "tells", desc := "(I)I" } : Jvm.MethodName)) ∈ gT := gT_in (List.mem_of_getElem? (i := 1452) (by decide +kernel)) (by decide +kernel)
theorem wm_1453 : (Jvm.Cond.code ({ cls := "GrownKinds", name := "tells", desc := "(I)I" } : Jvm.MethodName) prog_1_method_41_code (5 : Nat) (Option.some Jvm.ClassFile.FieldType.int)) ∈ gT := gT_in (List.mem_of_getElem? (i := 1453) (by decide +kernel)) (by decide +kernel)
theorem dL_law_1271 : decode cL_law 1271 = .ok (.aload_n 2, 1) := by decide +kernel
theorem dL_law_1272 : decode cL_law 1272 = .ok (.aload_n 0, 1) := by decide +kernel
theorem dL_law_1273 : decode cL_law 1273 = .ok (.iload_n 3, 1) := by decide +kernel
theorem dL_law_1274 : decode cL_law 1274 = .ok (.iconst 1, 1) := by decide +kernel
theorem dL_law_1275 : decode cL_law 1275 = .ok (.iadd, 1) := by decide +kernel
theorem dL_law_1276 : decode cL_law 1276 = .ok (.iaload, 1) := by decide +kernel
theorem dL_law_1277 : decode cL_law 1277 = .ok (.invokevirtual 148, 3) := by decide +kernel
theorem wm_2286 : (Jvm.Cond.methodLink "GrownKindsLaw" (148 : Nat) ({ cls := "GrownKindsModel", name := "tells", desc := "(I)I" } : Jvm.MethodName)) ∈ gT := gT_in (List.mem_of_getElem? (i := 2286) (by decide +kernel)) (by decide +kernel)
theorem wm_2287 : (Jvm.Cond.instanceMethod ({ cls := "GrownKindsModel", name := "tells", desc := "(I)I" } : Jvm.MethodName)) ∈ gT := gT_in (List.mem_of_getElem? (i := 2287) (by decide +kernel)) (by decide +kernel)
theorem wm_2288 : (Jvm.Cond.selects "GrownKindsModel" ({ cls := "GrownKindsModel", name := "tells", desc := "(I)I" } : Jvm.MethodName) ({ cls := "GrownKindsModel", name := "tells", desc := "(I)I" } : Jvm.MethodName)) ∈ gT := gT_in (List.mem_of_getElem? (i := 2288) (by decide +kernel)) (by decide +kernel)
theorem wm_2289 : (Jvm.Cond.code ({ cls := "GrownKindsModel", name := "tells", desc := "(I)I" } : Jvm.MethodName) prog_14_method_127_code (7 : Nat) (Option.some Jvm.ClassFile.FieldType.int)) ∈ gT := gT_in (List.mem_of_getElem? (i := 2289) (by decide +kernel)) (by decide +kernel)
theorem dL_law_1280 : decode cL_law 1280 = .ok (.if_icmp .eq 574, 3) := by decide +kernel
theorem dL_law_1285 : decode cL_law 1285 = .ok (.aload_n 1, 1) := by decide +kernel
theorem dL_law_1286 : decode cL_law 1286 = .ok (.aload_n 0, 1) := by decide +kernel
theorem dL_law_1287 : decode cL_law 1287 = .ok (.iload_n 3, 1) := by decide +kernel
theorem dL_law_1288 : decode cL_law 1288 = .ok (.iconst 1, 1) := by decide +kernel
theorem dL_law_1289 : decode cL_law 1289 = .ok (.iadd, 1) := by decide +kernel
theorem dL_law_1290 : decode cL_law 1290 = .ok (.iaload, 1) := by decide +kernel
theorem dL_law_1291 : decode cL_law 1291 = .ok (.invokevirtual 149, 3) := by decide +kernel
theorem wm_1526 : (Jvm.Cond.methodLink "GrownKindsLaw" (149 : Nat) ({ cls := "GrownKinds", name := "told", desc := "(I)I" } : Jvm.MethodName)) ∈ gT := gT_in (List.mem_of_getElem? (i := 1526) (by decide +kernel)) (by decide +kernel)
theorem wm_1527 : (Jvm.Cond.instanceMethod ({ cls := "GrownKinds", name := "told", desc := "(I)I" } : Jvm.MethodName)) ∈ gT := gT_in (List.mem_of_getElem? (i := 1527) (by decide +kernel)) (by decide +kernel)
theorem wm_1528 : (Jvm.Cond.selects "GrownKinds" ({ cls := "GrownKinds", name := "told", desc := "(I)I" } : Jvm.MethodName) ({ cls := "GrownKinds", name := "told", desc := "(I)I" } : Jvm.MethodName)) ∈ gT := gT_in (List.mem_of_getElem? (i := 1528) (by decide +kernel)) (by decide +kernel)
theorem wm_1529 : (Jvm.Cond.code ({ cls := "GrownKinds", name := "told", desc := "(I)I" } : Jvm.MethodName) prog_1_method_43_code (2 : Nat) (Option.some Jvm.ClassFile.FieldType.int)) ∈ gT := gT_in (List.mem_of_getElem? (i := 1529) (by decide +kernel)) (by decide +kernel)
theorem dL_law_1294 : decode cL_law 1294 = .ok (.aload_n 2, 1) := by decide +kernel
theorem dL_law_1295 : decode cL_law 1295 = .ok (.aload_n 0, 1) := by decide +kernel
theorem dL_law_1296 : decode cL_law 1296 = .ok (.iload_n 3, 1) := by decide +kernel
theorem dL_law_1297 : decode cL_law 1297 = .ok (.iconst 1, 1) := by decide +kernel
theorem dL_law_1298 : decode cL_law 1298 = .ok (.iadd, 1) := by decide +kernel
theorem dL_law_1299 : decode cL_law 1299 = .ok (.iaload, 1) := by decide +kernel
theorem dL_law_1300 : decode cL_law 1300 = .ok (.invokevirtual 152, 3) := by decide +kernel
theorem wm_2346 : (Jvm.Cond.methodLink "GrownKindsLaw" (152 : Nat) ({ cls := "GrownKindsModel", name := "told", desc := "(I)I" } : Jvm.MethodName)) ∈ gT := gT_in (List.mem_of_getElem? (i := 2346) (by decide +kernel)) (by decide +kernel)
theorem wm_2347 : (Jvm.Cond.instanceMethod ({ cls := "GrownKindsModel", name := "told", desc := "(I)I" } : Jvm.MethodName)) ∈ gT := gT_in (List.mem_of_getElem? (i := 2347) (by decide +kernel)) (by decide +kernel)
theorem wm_2348 : (Jvm.Cond.selects "GrownKindsModel" ({ cls := "GrownKindsModel", name := "told", desc := "(I)I" } : Jvm.MethodName) ({ cls := "GrownKindsModel", name := "told", desc := "(I)I" } : Jvm.MethodName)) ∈ gT := gT_in (List.mem_of_getElem? (i := 2348) (by decide +kernel)) (by decide +kernel)
theorem wm_2349 : (Jvm.Cond.code ({ cls := "GrownKindsModel", name := "told", desc := "(I)I" } : Jvm.MethodName) prog_14_method_128_code (2 : Nat) (Option.some Jvm.ClassFile.FieldType.int)) ∈ gT := gT_in (List.mem_of_getElem? (i := 2349) (by decide +kernel)) (by decide +kernel)
theorem dL_law_1303 : decode cL_law 1303 = .ok (.if_icmp .eq 551, 3) := by decide +kernel
theorem wV_GrownKindsLaw_81 : gWV "GrownKindsLaw" 81 yX11_labelled cX11_labelled 3 (some .long) := ⟨wm_1178, wm_1179, wm_1180, wm_177, wm_1181, by decide +kernel, by decide +kernel⟩
theorem wV_GrownKindsLaw_84 : gWV "GrownKindsLaw" 84 yX12_labelled cX12_labelled 3 (some .long) := ⟨wm_2144, wm_2145, wm_2146, wm_188, wm_2147, by decide +kernel, by decide +kernel⟩
def mL_16 (x1 x2 x3 x4 x5 : Int) (S0 : St) : Option St := bd2 (mX11_labelled S0 x1 x2) fun r_2 S_3 => nx (msk S_3 S0) fun S_4 => bd2 (mX12_labelled S_4 x1 x2) fun r_6 S_7 => nx (msk S_7 S_4) fun S_8 => gd ((inL r_2) ∧ (inL r_6)) <| if r_2 = r_6 then (some (S_8)) else (none)
set_option maxHeartbeats 4000000 in
set_option maxRecDepth 100000 in
theorem lc_16 {p : Program} {l : Launch} {e : Env} {s : State} {m : MethodId} {below : List Frame} {meth : Method} {c : Code} {q0 : Nat} {xs : Nat → Int32} {D : va_G} {cy : Nat → ClassId} {b : Nat} {L : Nat} (hL : L ≤ 3072) (C0 : lw_At p s m meth c q0 L xs) (hbA : ¬ gA b q0) {i : Int} (hi : 0 ≤ i ∧ i + 6 ≤ L) {x1 x2 x3 x4 x5 : Int} (hx1 : (xs (i + 1).toNat).toInt = x1) (hx2 : (xs (i + 2).toNat).toInt = x2) (hx3 : (xs (i + 3).toNat).toInt = x3) (hx4 : (xs (i + 4).toNat).toInt = x4) (hx5 : (xs (i + 5).toNat).toInt = x5) {S0 S1 : St} (hM : mL_16 x1 x2 x3 x4 x5 S0 = some S1) (hOM : gle S1 OM) {ce sl : Nat} {H : Heap} {locs : List Loc} (hG : gX D cy b s H locs S0 ce sl OZ OM) {ls : Array Slot} (hl : lv_has ls 4 [(3, .int (iI i)), (2, .ref (b + 80)), (1, .ref (b + 0)), (0, .ref q0)]) (kk : ∀ (ce sl : Nat) (H : Heap) (locs : List Loc) (ls : Array Slot), gX D cy b s H locs S1 ce sl OZ OM → lv_has ls 4 [(3, .int (iI i)), (2, .ref (b + 80)), (1, .ref (b + 0)), (0, .ref q0)] → W p l e room_1 s m #[Value.ref q0] below meth c H locs ce sl (lw_Z below #[Value.ref q0] s) (F0 m 1854 ls [])) : W p l e room_1 s m #[Value.ref q0] below meth c H locs ce sl (lw_Z below #[Value.ref q0] s) (F0 m 646 ls []) := by
  have hx := C0.1
  have hb := C0.2.1
  have S := lw_S C0
  unfold mL_16 at hM
  refine lv_aload_n hx hb dL_law_646 rfl (lv_at hl 2 rfl) ?_
  refine lv_aload_n hx hb dL_law_647 rfl (lv_at hl 3 rfl) ?_
  refine lv_iload_n hx hb dL_law_648 rfl (lv_at hl 0 rfl) ?_
  refine lv_iconst (v := iI 1) hx hb dL_law_649 (by decide) ?_
  refine gi_add hx hb dL_law_650 ?_
  refine n_sld C0 hbA hG (by omega) hx1 dL_law_651 ?_
  refine lv_aload_n hx hb dL_law_652 rfl (lv_at hl 3 rfl) ?_
  refine lv_iload_n hx hb dL_law_653 rfl (lv_at hl 0 rfl) ?_
  refine lv_iconst (v := iI 2) hx hb dL_law_654 (by decide) ?_
  refine gi_add hx hb dL_law_655 ?_
  refine n_sld C0 hbA hG (by omega) hx2 dL_law_656 ?_
  obtain ⟨r_2, S_3, hc_1, hM⟩ := bd2_some hM
  refine g_vl (As := [.int (iI x1), .int (iI x2)]) (rest := []) S hG.1 hG.2.1 (vX11_labelled l hG.2.2.2.1 x1 x2 hc_1) wV_GrownKindsLaw_81 (ec_0 (b := b) (cy := cy) (X := XD b cy S0) _) cpX11 (Nat.lt_of_lt_of_le (Nat.le_of_ble_eq_true rfl) hG.2.2.2.1) dL_law_657 rfl hl.1 (ar := 2) (by decide +kernel) rfl ⟨Nat.le_of_ble_eq_true rfl, Nat.le_of_ble_eq_true rfl, hG.rcL, hG.rsL⟩ (Nat.le_of_ble_eq_true rfl) (fun rv uu H locs hp hGc => ?_)
  obtain ⟨rfl, rfl⟩ := hp
  refine wz ?_
  replace hG := hG.back hGc
  clear hGc
  obtain ⟨S_4, eS_4⟩ : ∃ q, q = msk S_3 S0 := ⟨_, rfl⟩
  rw [← eS_4] at hG
  replace hM := nx_at hM eS_4
  clear eS_4
  refine lv_aload_n hx hb dL_law_660 rfl (lv_at hl 1 rfl) ?_
  refine lv_aload_n hx hb dL_law_661 rfl (lv_at hl 3 rfl) ?_
  refine lv_iload_n hx hb dL_law_662 rfl (lv_at hl 0 rfl) ?_
  refine lv_iconst (v := iI 1) hx hb dL_law_663 (by decide) ?_
  refine gi_add hx hb dL_law_664 ?_
  refine n_sld C0 hbA hG (by omega) hx1 dL_law_665 ?_
  refine lv_aload_n hx hb dL_law_666 rfl (lv_at hl 3 rfl) ?_
  refine lv_iload_n hx hb dL_law_667 rfl (lv_at hl 0 rfl) ?_
  refine lv_iconst (v := iI 2) hx hb dL_law_668 (by decide) ?_
  refine gi_add hx hb dL_law_669 ?_
  refine n_sld C0 hbA hG (by omega) hx2 dL_law_670 ?_
  obtain ⟨r_6, S_7, hc_5, hM⟩ := bd2_some hM
  refine g_vl (As := [.int (iI x1), .int (iI x2)]) (rest := [.long (jJ r_2)]) S hG.1 hG.2.1 (vX12_labelled l hG.2.2.2.1 x1 x2 hc_5) wV_GrownKindsLaw_84 (ec_83 (b := b) (cy := cy) (X := XD b cy S_4) _) cpX12 (Nat.lt_of_lt_of_le (Nat.le_of_ble_eq_true rfl) hG.2.2.2.1) dL_law_671 rfl hl.1 (ar := 2) (by decide +kernel) rfl ⟨Nat.le_of_ble_eq_true rfl, Nat.le_of_ble_eq_true rfl, hG.rcL, hG.rsL⟩ (Nat.le_of_ble_eq_true rfl) (fun rv uu H locs hp hGc => ?_)
  obtain ⟨rfl, rfl⟩ := hp
  refine wz ?_
  replace hG := hG.back hGc
  clear hGc
  obtain ⟨S_8, eS_8⟩ : ∃ q, q = msk S_7 S_4 := ⟨_, rfl⟩
  rw [← eS_8] at hG
  replace hM := nx_at hM eS_8
  clear eS_8
  obtain ⟨hg_9, hM⟩ := gd_some hM
  refine gj_cmp_eq (tgt := 1854) hx hb dL_law_674 dL_law_675 (by decide) hg_9.1 hg_9.2 (fun c_10 => ?_) (fun c_10 => ?_)
  · replace hM := ifp hM c_10
    cases hM
    exact kk _ _ H locs ls hG hl
  · replace hM := ifn hM c_10
    cases hM
theorem wV_GrownKindsLaw_87 : gWV "GrownKindsLaw" 87 yX11_first cX11_first 5 (some .int) := ⟨wm_1192, wm_1139, wm_1140, wm_177, wm_1141, by decide +kernel, by decide +kernel⟩
theorem wV_GrownKindsLaw_91 : gWV "GrownKindsLaw" 91 yX12_first cX12_first 5 (some .int) := ⟨wm_2106, wm_2090, wm_2091, wm_188, wm_2092, by decide +kernel, by decide +kernel⟩
def mL_17 (x1 x2 x3 x4 x5 : Int) (S0 : St) : Option St := gd (inI x2) <| gd (inI x3) <| bd1 (mX11_first S0 x1 (lor (lsh x2 32) (lan x3 4294967295))) fun r_4 => bd2 (mX12_first S0 x1 (lor (lsh x2 32) (lan x3 4294967295))) fun r_6 S_7 => nx (msk S_7 S0) fun S_8 => gd ((inI r_4) ∧ (inI r_6)) <| if r_4 = r_6 then (some (S_8)) else (none)
set_option maxHeartbeats 4000000 in
set_option maxRecDepth 100000 in
theorem lc_17 {p : Program} {l : Launch} {e : Env} {s : State} {m : MethodId} {below : List Frame} {meth : Method} {c : Code} {q0 : Nat} {xs : Nat → Int32} {D : va_G} {cy : Nat → ClassId} {b : Nat} {L : Nat} (hL : L ≤ 3072) (C0 : lw_At p s m meth c q0 L xs) (hbA : ¬ gA b q0) {i : Int} (hi : 0 ≤ i ∧ i + 6 ≤ L) {x1 x2 x3 x4 x5 : Int} (hx1 : (xs (i + 1).toNat).toInt = x1) (hx2 : (xs (i + 2).toNat).toInt = x2) (hx3 : (xs (i + 3).toNat).toInt = x3) (hx4 : (xs (i + 4).toNat).toInt = x4) (hx5 : (xs (i + 5).toNat).toInt = x5) {S0 S1 : St} (hM : mL_17 x1 x2 x3 x4 x5 S0 = some S1) (hOM : gle S1 OM) {ce sl : Nat} {H : Heap} {locs : List Loc} (hG : gX D cy b s H locs S0 ce sl OZ OM) {ls : Array Slot} (hl : lv_has ls 4 [(3, .int (iI i)), (2, .ref (b + 80)), (1, .ref (b + 0)), (0, .ref q0)]) (kk : ∀ (ce sl : Nat) (H : Heap) (locs : List Loc) (ls : Array Slot), gX D cy b s H locs S1 ce sl OZ OM → lv_has ls 4 [(3, .int (iI i)), (2, .ref (b + 80)), (1, .ref (b + 0)), (0, .ref q0)] → W p l e room_1 s m #[Value.ref q0] below meth c H locs ce sl (lw_Z below #[Value.ref q0] s) (F0 m 1854 ls [])) : W p l e room_1 s m #[Value.ref q0] below meth c H locs ce sl (lw_Z below #[Value.ref q0] s) (F0 m 680 ls []) := by
  have hx := C0.1
  have hb := C0.2.1
  have S := lw_S C0
  unfold mL_17 at hM
  refine lv_aload_n hx hb dL_law_680 rfl (lv_at hl 2 rfl) ?_
  refine lv_aload_n hx hb dL_law_681 rfl (lv_at hl 3 rfl) ?_
  refine lv_iload_n hx hb dL_law_682 rfl (lv_at hl 0 rfl) ?_
  refine lv_iconst (v := iI 1) hx hb dL_law_683 (by decide) ?_
  refine gi_add hx hb dL_law_684 ?_
  refine n_sld C0 hbA hG (by omega) hx1 dL_law_685 ?_
  refine lv_aload_n hx hb dL_law_686 rfl (lv_at hl 3 rfl) ?_
  refine lv_iload_n hx hb dL_law_687 rfl (lv_at hl 0 rfl) ?_
  refine lv_iconst (v := iI 2) hx hb dL_law_688 (by decide) ?_
  refine gi_add hx hb dL_law_689 ?_
  refine n_sld C0 hbA hG (by omega) hx2 dL_law_690 ?_
  obtain ⟨hg_1, hM⟩ := gd_some hM
  refine gi_i2l hx hb dL_law_691 hg_1 ?_
  refine lv_bipush (v := iI 32) hx hb dL_law_692 (by decide) ?_
  refine gj_shl hx hb dL_law_694 ?_
  refine lv_aload_n hx hb dL_law_695 rfl (lv_at hl 3 rfl) ?_
  refine lv_iload_n hx hb dL_law_696 rfl (lv_at hl 0 rfl) ?_
  refine lv_iconst (v := iI 3) hx hb dL_law_697 (by decide) ?_
  refine gi_add hx hb dL_law_698 ?_
  refine n_sld C0 hbA hG (by omega) hx3 dL_law_699 ?_
  obtain ⟨hg_2, hM⟩ := gd_some hM
  refine gi_i2l hx hb dL_law_700 hg_2 ?_
  refine lv_ldc2 (v := 4294967295) hx hb S.2.2.2.1 (S.2.2.2.2 _ wm_2449) dL_law_701 ?_
  refine gj_as 4294967295 (by decide) ?_
  refine gj_and hx hb dL_law_704 ?_
  refine gj_or hx hb dL_law_705 ?_
  obtain ⟨r_4, hc_3, hM⟩ := bd1_some hM
  refine g_vi (As := [.int (iI x1), .long (jJ (lor (lsh x2 32) (lan x3 4294967295)))]) (rest := []) S hG.1 hG.2.1 (vX11_first l hG.2.2.2.1 x1 (lor (lsh x2 32) (lan x3 4294967295)) hc_3) wV_GrownKindsLaw_87 (ec_0 (b := b) (cy := cy) (X := XD b cy S0) _) cpX11 (Nat.lt_of_lt_of_le (Nat.le_of_ble_eq_true rfl) hG.2.2.2.1) dL_law_706 rfl hl.1 (ar := 2) (by decide +kernel) rfl ⟨Nat.le_of_ble_eq_true rfl, Nat.le_of_ble_eq_true rfl, hG.rcL, hG.rsL⟩ (Nat.le_of_ble_eq_true rfl) (fun rv uu H locs hp hGc => ?_)
  obtain ⟨rfl, rfl⟩ := hp
  refine wz ?_
  replace hG := hG.same hGc
  clear hGc
  refine lv_aload_n hx hb dL_law_709 rfl (lv_at hl 1 rfl) ?_
  refine lv_aload_n hx hb dL_law_710 rfl (lv_at hl 3 rfl) ?_
  refine lv_iload_n hx hb dL_law_711 rfl (lv_at hl 0 rfl) ?_
  refine lv_iconst (v := iI 1) hx hb dL_law_712 (by decide) ?_
  refine gi_add hx hb dL_law_713 ?_
  refine n_sld C0 hbA hG (by omega) hx1 dL_law_714 ?_
  refine lv_aload_n hx hb dL_law_715 rfl (lv_at hl 3 rfl) ?_
  refine lv_iload_n hx hb dL_law_716 rfl (lv_at hl 0 rfl) ?_
  refine lv_iconst (v := iI 2) hx hb dL_law_717 (by decide) ?_
  refine gi_add hx hb dL_law_718 ?_
  refine n_sld C0 hbA hG (by omega) hx2 dL_law_719 ?_
  refine gi_i2l hx hb dL_law_720 hg_1 ?_
  refine lv_bipush (v := iI 32) hx hb dL_law_721 (by decide) ?_
  refine gj_shl hx hb dL_law_723 ?_
  refine lv_aload_n hx hb dL_law_724 rfl (lv_at hl 3 rfl) ?_
  refine lv_iload_n hx hb dL_law_725 rfl (lv_at hl 0 rfl) ?_
  refine lv_iconst (v := iI 3) hx hb dL_law_726 (by decide) ?_
  refine gi_add hx hb dL_law_727 ?_
  refine n_sld C0 hbA hG (by omega) hx3 dL_law_728 ?_
  refine gi_i2l hx hb dL_law_729 hg_2 ?_
  refine lv_ldc2 (v := 4294967295) hx hb S.2.2.2.1 (S.2.2.2.2 _ wm_2449) dL_law_730 ?_
  refine gj_as 4294967295 (by decide) ?_
  refine gj_and hx hb dL_law_733 ?_
  refine gj_or hx hb dL_law_734 ?_
  obtain ⟨r_6, S_7, hc_5, hM⟩ := bd2_some hM
  refine g_vi (As := [.int (iI x1), .long (jJ (lor (lsh x2 32) (lan x3 4294967295)))]) (rest := [.int (iI r_4)]) S hG.1 hG.2.1 (vX12_first l hG.2.2.2.1 x1 (lor (lsh x2 32) (lan x3 4294967295)) hc_5) wV_GrownKindsLaw_91 (ec_83 (b := b) (cy := cy) (X := XD b cy S0) _) cpX12 (Nat.lt_of_lt_of_le (Nat.le_of_ble_eq_true rfl) hG.2.2.2.1) dL_law_735 rfl hl.1 (ar := 2) (by decide +kernel) rfl ⟨Nat.le_of_ble_eq_true rfl, Nat.le_of_ble_eq_true rfl, hG.rcL, hG.rsL⟩ (Nat.le_of_ble_eq_true rfl) (fun rv uu H locs hp hGc => ?_)
  obtain ⟨rfl, rfl⟩ := hp
  refine wz ?_
  replace hG := hG.back hGc
  clear hGc
  obtain ⟨S_8, eS_8⟩ : ∃ q, q = msk S_7 S0 := ⟨_, rfl⟩
  rw [← eS_8] at hG
  replace hM := nx_at hM eS_8
  clear eS_8
  obtain ⟨hg_9, hM⟩ := gd_some hM
  refine gi_icmp_eq (tgt := 1854) hx hb dL_law_738 (by decide) hg_9.1 hg_9.2 (fun c_10 => ?_) (fun c_10 => ?_)
  · replace hM := ifp hM c_10
    cases hM
    exact kk _ _ H locs ls hG hl
  · replace hM := ifn hM c_10
    cases hM
theorem wV_GrownKindsLaw_92 : gWV "GrownKindsLaw" 92 yX11_marked cX11_marked 5 (some .long) := ⟨wm_1193, wm_1194, wm_1195, wm_177, wm_1196, by decide +kernel, by decide +kernel⟩
theorem wV_GrownKindsLaw_96 : gWV "GrownKindsLaw" 96 yX12_marked cX12_marked 5 (some .long) := ⟨wm_2107, wm_2108, wm_2109, wm_188, wm_2110, by decide +kernel, by decide +kernel⟩
def mL_18 (x1 x2 x3 x4 x5 : Int) (S0 : St) : Option St := bd2 (mX11_marked S0 x1 x2 x3 x4) fun r_2 S_3 => nx (msk S_3 S0) fun S_4 => bd2 (mX12_marked S_4 x1 x2 x3 x4) fun r_6 S_7 => nx (msk S_7 S_4) fun S_8 => gd ((inL r_2) ∧ (inL r_6)) <| if r_2 = r_6 then (some (S_8)) else (none)
set_option maxHeartbeats 4000000 in
set_option maxRecDepth 100000 in
theorem lc_18 {p : Program} {l : Launch} {e : Env} {s : State} {m : MethodId} {below : List Frame} {meth : Method} {c : Code} {q0 : Nat} {xs : Nat → Int32} {D : va_G} {cy : Nat → ClassId} {b : Nat} {L : Nat} (hL : L ≤ 3072) (C0 : lw_At p s m meth c q0 L xs) (hbA : ¬ gA b q0) {i : Int} (hi : 0 ≤ i ∧ i + 6 ≤ L) {x1 x2 x3 x4 x5 : Int} (hx1 : (xs (i + 1).toNat).toInt = x1) (hx2 : (xs (i + 2).toNat).toInt = x2) (hx3 : (xs (i + 3).toNat).toInt = x3) (hx4 : (xs (i + 4).toNat).toInt = x4) (hx5 : (xs (i + 5).toNat).toInt = x5) {S0 S1 : St} (hM : mL_18 x1 x2 x3 x4 x5 S0 = some S1) (hOM : gle S1 OM) {ce sl : Nat} {H : Heap} {locs : List Loc} (hG : gX D cy b s H locs S0 ce sl OZ OM) {ls : Array Slot} (hl : lv_has ls 4 [(3, .int (iI i)), (2, .ref (b + 80)), (1, .ref (b + 0)), (0, .ref q0)]) (kk : ∀ (ce sl : Nat) (H : Heap) (locs : List Loc) (ls : Array Slot), gX D cy b s H locs S1 ce sl OZ OM → lv_has ls 4 [(3, .int (iI i)), (2, .ref (b + 80)), (1, .ref (b + 0)), (0, .ref q0)] → W p l e room_1 s m #[Value.ref q0] below meth c H locs ce sl (lw_Z below #[Value.ref q0] s) (F0 m 1854 ls [])) : W p l e room_1 s m #[Value.ref q0] below meth c H locs ce sl (lw_Z below #[Value.ref q0] s) (F0 m 743 ls []) := by
  have hx := C0.1
  have hb := C0.2.1
  have S := lw_S C0
  unfold mL_18 at hM
  refine lv_aload_n hx hb dL_law_743 rfl (lv_at hl 2 rfl) ?_
  refine lv_aload_n hx hb dL_law_744 rfl (lv_at hl 3 rfl) ?_
  refine lv_iload_n hx hb dL_law_745 rfl (lv_at hl 0 rfl) ?_
  refine lv_iconst (v := iI 1) hx hb dL_law_746 (by decide) ?_
  refine gi_add hx hb dL_law_747 ?_
  refine n_sld C0 hbA hG (by omega) hx1 dL_law_748 ?_
  refine lv_aload_n hx hb dL_law_749 rfl (lv_at hl 3 rfl) ?_
  refine lv_iload_n hx hb dL_law_750 rfl (lv_at hl 0 rfl) ?_
  refine lv_iconst (v := iI 2) hx hb dL_law_751 (by decide) ?_
  refine gi_add hx hb dL_law_752 ?_
  refine n_sld C0 hbA hG (by omega) hx2 dL_law_753 ?_
  refine lv_aload_n hx hb dL_law_754 rfl (lv_at hl 3 rfl) ?_
  refine lv_iload_n hx hb dL_law_755 rfl (lv_at hl 0 rfl) ?_
  refine lv_iconst (v := iI 3) hx hb dL_law_756 (by decide) ?_
  refine gi_add hx hb dL_law_757 ?_
  refine n_sld C0 hbA hG (by omega) hx3 dL_law_758 ?_
  refine lv_aload_n hx hb dL_law_759 rfl (lv_at hl 3 rfl) ?_
  refine lv_iload_n hx hb dL_law_760 rfl (lv_at hl 0 rfl) ?_
  refine lv_iconst (v := iI 4) hx hb dL_law_761 (by decide) ?_
  refine gi_add hx hb dL_law_762 ?_
  refine n_sld C0 hbA hG (by omega) hx4 dL_law_763 ?_
  obtain ⟨r_2, S_3, hc_1, hM⟩ := bd2_some hM
  refine g_vl (As := [.int (iI x1), .int (iI x2), .int (iI x3), .int (iI x4)]) (rest := []) S hG.1 hG.2.1 (vX11_marked l hG.2.2.2.1 x1 x2 x3 x4 hc_1) wV_GrownKindsLaw_92 (ec_0 (b := b) (cy := cy) (X := XD b cy S0) _) cpX11 (Nat.lt_of_lt_of_le (Nat.le_of_ble_eq_true rfl) hG.2.2.2.1) dL_law_764 rfl hl.1 (ar := 4) (by decide +kernel) rfl ⟨Nat.le_of_ble_eq_true rfl, Nat.le_of_ble_eq_true rfl, hG.rcL, hG.rsL⟩ (Nat.le_of_ble_eq_true rfl) (fun rv uu H locs hp hGc => ?_)
  obtain ⟨rfl, rfl⟩ := hp
  refine wz ?_
  replace hG := hG.back hGc
  clear hGc
  obtain ⟨S_4, eS_4⟩ : ∃ q, q = msk S_3 S0 := ⟨_, rfl⟩
  rw [← eS_4] at hG
  replace hM := nx_at hM eS_4
  clear eS_4
  refine lv_aload_n hx hb dL_law_767 rfl (lv_at hl 1 rfl) ?_
  refine lv_aload_n hx hb dL_law_768 rfl (lv_at hl 3 rfl) ?_
  refine lv_iload_n hx hb dL_law_769 rfl (lv_at hl 0 rfl) ?_
  refine lv_iconst (v := iI 1) hx hb dL_law_770 (by decide) ?_
  refine gi_add hx hb dL_law_771 ?_
  refine n_sld C0 hbA hG (by omega) hx1 dL_law_772 ?_
  refine lv_aload_n hx hb dL_law_773 rfl (lv_at hl 3 rfl) ?_
  refine lv_iload_n hx hb dL_law_774 rfl (lv_at hl 0 rfl) ?_
  refine lv_iconst (v := iI 2) hx hb dL_law_775 (by decide) ?_
  refine gi_add hx hb dL_law_776 ?_
  refine n_sld C0 hbA hG (by omega) hx2 dL_law_777 ?_
  refine lv_aload_n hx hb dL_law_778 rfl (lv_at hl 3 rfl) ?_
  refine lv_iload_n hx hb dL_law_779 rfl (lv_at hl 0 rfl) ?_
  refine lv_iconst (v := iI 3) hx hb dL_law_780 (by decide) ?_
  refine gi_add hx hb dL_law_781 ?_
  refine n_sld C0 hbA hG (by omega) hx3 dL_law_782 ?_
  refine lv_aload_n hx hb dL_law_783 rfl (lv_at hl 3 rfl) ?_
  refine lv_iload_n hx hb dL_law_784 rfl (lv_at hl 0 rfl) ?_
  refine lv_iconst (v := iI 4) hx hb dL_law_785 (by decide) ?_
  refine gi_add hx hb dL_law_786 ?_
  refine n_sld C0 hbA hG (by omega) hx4 dL_law_787 ?_
  obtain ⟨r_6, S_7, hc_5, hM⟩ := bd2_some hM
  refine g_vl (As := [.int (iI x1), .int (iI x2), .int (iI x3), .int (iI x4)]) (rest := [.long (jJ r_2)]) S hG.1 hG.2.1 (vX12_marked l hG.2.2.2.1 x1 x2 x3 x4 hc_5) wV_GrownKindsLaw_96 (ec_83 (b := b) (cy := cy) (X := XD b cy S_4) _) cpX12 (Nat.lt_of_lt_of_le (Nat.le_of_ble_eq_true rfl) hG.2.2.2.1) dL_law_788 rfl hl.1 (ar := 4) (by decide +kernel) rfl ⟨Nat.le_of_ble_eq_true rfl, Nat.le_of_ble_eq_true rfl, hG.rcL, hG.rsL⟩ (Nat.le_of_ble_eq_true rfl) (fun rv uu H locs hp hGc => ?_)
  obtain ⟨rfl, rfl⟩ := hp
  refine wz ?_
  replace hG := hG.back hGc
  clear hGc
  obtain ⟨S_8, eS_8⟩ : ∃ q, q = msk S_7 S_4 := ⟨_, rfl⟩
  rw [← eS_8] at hG
  replace hM := nx_at hM eS_8
  clear eS_8
  obtain ⟨hg_9, hM⟩ := gd_some hM
  refine gj_cmp_eq (tgt := 1854) hx hb dL_law_791 dL_law_792 (by decide) hg_9.1 hg_9.2 (fun c_10 => ?_) (fun c_10 => ?_)
  · replace hM := ifp hM c_10
    cases hM
    exact kk _ _ H locs ls hG hl
  · replace hM := ifn hM c_10
    cases hM
theorem wV_GrownKindsLaw_97 : gWV "GrownKindsLaw" 97 yX11_by cX11_by 4 (some .long) := ⟨wm_1212, wm_1213, wm_1214, wm_177, wm_1215, by decide +kernel, by decide +kernel⟩
theorem wV_GrownKindsLaw_101 : gWV "GrownKindsLaw" 101 yX12_by cX12_by 4 (some .long) := ⟨wm_2112, wm_2113, wm_2114, wm_188, wm_2115, by decide +kernel, by decide +kernel⟩
def mL_19 (x1 x2 x3 x4 x5 : Int) (S0 : St) : Option St := bd1 (mX11_by S0 x1 x2 x3) fun r_2 => bd2 (mX12_by S0 x1 x2 x3) fun r_4 S_5 => nx (msk S_5 S0) fun S_6 => gd ((inL r_2) ∧ (inL r_4)) <| if r_2 = r_4 then (some (S_6)) else (none)
set_option maxHeartbeats 4000000 in
set_option maxRecDepth 100000 in
theorem lc_19 {p : Program} {l : Launch} {e : Env} {s : State} {m : MethodId} {below : List Frame} {meth : Method} {c : Code} {q0 : Nat} {xs : Nat → Int32} {D : va_G} {cy : Nat → ClassId} {b : Nat} {L : Nat} (hL : L ≤ 3072) (C0 : lw_At p s m meth c q0 L xs) (hbA : ¬ gA b q0) {i : Int} (hi : 0 ≤ i ∧ i + 6 ≤ L) {x1 x2 x3 x4 x5 : Int} (hx1 : (xs (i + 1).toNat).toInt = x1) (hx2 : (xs (i + 2).toNat).toInt = x2) (hx3 : (xs (i + 3).toNat).toInt = x3) (hx4 : (xs (i + 4).toNat).toInt = x4) (hx5 : (xs (i + 5).toNat).toInt = x5) {S0 S1 : St} (hM : mL_19 x1 x2 x3 x4 x5 S0 = some S1) (hOM : gle S1 OM) {ce sl : Nat} {H : Heap} {locs : List Loc} (hG : gX D cy b s H locs S0 ce sl OZ OM) {ls : Array Slot} (hl : lv_has ls 4 [(3, .int (iI i)), (2, .ref (b + 80)), (1, .ref (b + 0)), (0, .ref q0)]) (kk : ∀ (ce sl : Nat) (H : Heap) (locs : List Loc) (ls : Array Slot), gX D cy b s H locs S1 ce sl OZ OM → lv_has ls 4 [(3, .int (iI i)), (2, .ref (b + 80)), (1, .ref (b + 0)), (0, .ref q0)] → W p l e room_1 s m #[Value.ref q0] below meth c H locs ce sl (lw_Z below #[Value.ref q0] s) (F0 m 1854 ls [])) : W p l e room_1 s m #[Value.ref q0] below meth c H locs ce sl (lw_Z below #[Value.ref q0] s) (F0 m 797 ls []) := by
  have hx := C0.1
  have hb := C0.2.1
  have S := lw_S C0
  unfold mL_19 at hM
  refine lv_aload_n hx hb dL_law_797 rfl (lv_at hl 2 rfl) ?_
  refine lv_aload_n hx hb dL_law_798 rfl (lv_at hl 3 rfl) ?_
  refine lv_iload_n hx hb dL_law_799 rfl (lv_at hl 0 rfl) ?_
  refine lv_iconst (v := iI 1) hx hb dL_law_800 (by decide) ?_
  refine gi_add hx hb dL_law_801 ?_
  refine n_sld C0 hbA hG (by omega) hx1 dL_law_802 ?_
  refine lv_aload_n hx hb dL_law_803 rfl (lv_at hl 3 rfl) ?_
  refine lv_iload_n hx hb dL_law_804 rfl (lv_at hl 0 rfl) ?_
  refine lv_iconst (v := iI 2) hx hb dL_law_805 (by decide) ?_
  refine gi_add hx hb dL_law_806 ?_
  refine n_sld C0 hbA hG (by omega) hx2 dL_law_807 ?_
  refine lv_aload_n hx hb dL_law_808 rfl (lv_at hl 3 rfl) ?_
  refine lv_iload_n hx hb dL_law_809 rfl (lv_at hl 0 rfl) ?_
  refine lv_iconst (v := iI 3) hx hb dL_law_810 (by decide) ?_
  refine gi_add hx hb dL_law_811 ?_
  refine n_sld C0 hbA hG (by omega) hx3 dL_law_812 ?_
  obtain ⟨r_2, hc_1, hM⟩ := bd1_some hM
  refine g_vl (As := [.int (iI x1), .int (iI x2), .int (iI x3)]) (rest := []) S hG.1 hG.2.1 (vX11_by l hG.2.2.2.1 x1 x2 x3 hc_1) wV_GrownKindsLaw_97 (ec_0 (b := b) (cy := cy) (X := XD b cy S0) _) cpX11 (Nat.lt_of_lt_of_le (Nat.le_of_ble_eq_true rfl) hG.2.2.2.1) dL_law_813 rfl hl.1 (ar := 3) (by decide +kernel) rfl ⟨Nat.le_of_ble_eq_true rfl, Nat.le_of_ble_eq_true rfl, hG.rcL, hG.rsL⟩ (Nat.le_of_ble_eq_true rfl) (fun rv uu H locs hp hGc => ?_)
  obtain ⟨rfl, rfl⟩ := hp
  refine wz ?_
  replace hG := hG.same hGc
  clear hGc
  refine lv_aload_n hx hb dL_law_816 rfl (lv_at hl 1 rfl) ?_
  refine lv_aload_n hx hb dL_law_817 rfl (lv_at hl 3 rfl) ?_
  refine lv_iload_n hx hb dL_law_818 rfl (lv_at hl 0 rfl) ?_
  refine lv_iconst (v := iI 1) hx hb dL_law_819 (by decide) ?_
  refine gi_add hx hb dL_law_820 ?_
  refine n_sld C0 hbA hG (by omega) hx1 dL_law_821 ?_
  refine lv_aload_n hx hb dL_law_822 rfl (lv_at hl 3 rfl) ?_
  refine lv_iload_n hx hb dL_law_823 rfl (lv_at hl 0 rfl) ?_
  refine lv_iconst (v := iI 2) hx hb dL_law_824 (by decide) ?_
  refine gi_add hx hb dL_law_825 ?_
  refine n_sld C0 hbA hG (by omega) hx2 dL_law_826 ?_
  refine lv_aload_n hx hb dL_law_827 rfl (lv_at hl 3 rfl) ?_
  refine lv_iload_n hx hb dL_law_828 rfl (lv_at hl 0 rfl) ?_
  refine lv_iconst (v := iI 3) hx hb dL_law_829 (by decide) ?_
  refine gi_add hx hb dL_law_830 ?_
  refine n_sld C0 hbA hG (by omega) hx3 dL_law_831 ?_
  obtain ⟨r_4, S_5, hc_3, hM⟩ := bd2_some hM
  refine g_vl (As := [.int (iI x1), .int (iI x2), .int (iI x3)]) (rest := [.long (jJ r_2)]) S hG.1 hG.2.1 (vX12_by l hG.2.2.2.1 x1 x2 x3 hc_3) wV_GrownKindsLaw_101 (ec_83 (b := b) (cy := cy) (X := XD b cy S0) _) cpX12 (Nat.lt_of_lt_of_le (Nat.le_of_ble_eq_true rfl) hG.2.2.2.1) dL_law_832 rfl hl.1 (ar := 3) (by decide +kernel) rfl ⟨Nat.le_of_ble_eq_true rfl, Nat.le_of_ble_eq_true rfl, hG.rcL, hG.rsL⟩ (Nat.le_of_ble_eq_true rfl) (fun rv uu H locs hp hGc => ?_)
  obtain ⟨rfl, rfl⟩ := hp
  refine wz ?_
  replace hG := hG.back hGc
  clear hGc
  obtain ⟨S_6, eS_6⟩ : ∃ q, q = msk S_5 S0 := ⟨_, rfl⟩
  rw [← eS_6] at hG
  replace hM := nx_at hM eS_6
  clear eS_6
  obtain ⟨hg_7, hM⟩ := gd_some hM
  refine gj_cmp_eq (tgt := 1854) hx hb dL_law_835 dL_law_836 (by decide) hg_7.1 hg_7.2 (fun c_8 => ?_) (fun c_8 => ?_)
  · replace hM := ifp hM c_8
    cases hM
    exact kk _ _ H locs ls hG hl
  · replace hM := ifn hM c_8
    cases hM
theorem wV_GrownKindsLaw_102 : gWV "GrownKindsLaw" 102 yX11_without cX11_without 5 (some .long) := ⟨wm_1229, wm_1230, wm_1231, wm_177, wm_1232, by decide +kernel, by decide +kernel⟩
theorem wV_GrownKindsLaw_105 : gWV "GrownKindsLaw" 105 yX12_without cX12_without 5 (some .long) := ⟨wm_2128, wm_2129, wm_2130, wm_188, wm_2131, by decide +kernel, by decide +kernel⟩
def mL_20 (x1 x2 x3 x4 x5 : Int) (S0 : St) : Option St := bd2 (mX11_without S0 x1 x2 x3 x4) fun r_2 S_3 => nx (msk S_3 S0) fun S_4 => bd2 (mX12_without S_4 x1 x2 x3 x4) fun r_6 S_7 => nx (msk S_7 S_4) fun S_8 => gd ((inL r_2) ∧ (inL r_6)) <| if r_2 = r_6 then (some (S_8)) else (none)
set_option maxHeartbeats 4000000 in
set_option maxRecDepth 100000 in
theorem lc_20 {p : Program} {l : Launch} {e : Env} {s : State} {m : MethodId} {below : List Frame} {meth : Method} {c : Code} {q0 : Nat} {xs : Nat → Int32} {D : va_G} {cy : Nat → ClassId} {b : Nat} {L : Nat} (hL : L ≤ 3072) (C0 : lw_At p s m meth c q0 L xs) (hbA : ¬ gA b q0) {i : Int} (hi : 0 ≤ i ∧ i + 6 ≤ L) {x1 x2 x3 x4 x5 : Int} (hx1 : (xs (i + 1).toNat).toInt = x1) (hx2 : (xs (i + 2).toNat).toInt = x2) (hx3 : (xs (i + 3).toNat).toInt = x3) (hx4 : (xs (i + 4).toNat).toInt = x4) (hx5 : (xs (i + 5).toNat).toInt = x5) {S0 S1 : St} (hM : mL_20 x1 x2 x3 x4 x5 S0 = some S1) (hOM : gle S1 OM) {ce sl : Nat} {H : Heap} {locs : List Loc} (hG : gX D cy b s H locs S0 ce sl OZ OM) {ls : Array Slot} (hl : lv_has ls 4 [(3, .int (iI i)), (2, .ref (b + 80)), (1, .ref (b + 0)), (0, .ref q0)]) (kk : ∀ (ce sl : Nat) (H : Heap) (locs : List Loc) (ls : Array Slot), gX D cy b s H locs S1 ce sl OZ OM → lv_has ls 4 [(3, .int (iI i)), (2, .ref (b + 80)), (1, .ref (b + 0)), (0, .ref q0)] → W p l e room_1 s m #[Value.ref q0] below meth c H locs ce sl (lw_Z below #[Value.ref q0] s) (F0 m 1854 ls [])) : W p l e room_1 s m #[Value.ref q0] below meth c H locs ce sl (lw_Z below #[Value.ref q0] s) (F0 m 841 ls []) := by
  have hx := C0.1
  have hb := C0.2.1
  have S := lw_S C0
  unfold mL_20 at hM
  refine lv_aload_n hx hb dL_law_841 rfl (lv_at hl 2 rfl) ?_
  refine lv_aload_n hx hb dL_law_842 rfl (lv_at hl 3 rfl) ?_
  refine lv_iload_n hx hb dL_law_843 rfl (lv_at hl 0 rfl) ?_
  refine lv_iconst (v := iI 1) hx hb dL_law_844 (by decide) ?_
  refine gi_add hx hb dL_law_845 ?_
  refine n_sld C0 hbA hG (by omega) hx1 dL_law_846 ?_
  refine lv_aload_n hx hb dL_law_847 rfl (lv_at hl 3 rfl) ?_
  refine lv_iload_n hx hb dL_law_848 rfl (lv_at hl 0 rfl) ?_
  refine lv_iconst (v := iI 2) hx hb dL_law_849 (by decide) ?_
  refine gi_add hx hb dL_law_850 ?_
  refine n_sld C0 hbA hG (by omega) hx2 dL_law_851 ?_
  refine lv_aload_n hx hb dL_law_852 rfl (lv_at hl 3 rfl) ?_
  refine lv_iload_n hx hb dL_law_853 rfl (lv_at hl 0 rfl) ?_
  refine lv_iconst (v := iI 3) hx hb dL_law_854 (by decide) ?_
  refine gi_add hx hb dL_law_855 ?_
  refine n_sld C0 hbA hG (by omega) hx3 dL_law_856 ?_
  refine lv_aload_n hx hb dL_law_857 rfl (lv_at hl 3 rfl) ?_
  refine lv_iload_n hx hb dL_law_858 rfl (lv_at hl 0 rfl) ?_
  refine lv_iconst (v := iI 4) hx hb dL_law_859 (by decide) ?_
  refine gi_add hx hb dL_law_860 ?_
  refine n_sld C0 hbA hG (by omega) hx4 dL_law_861 ?_
  obtain ⟨r_2, S_3, hc_1, hM⟩ := bd2_some hM
  refine g_vl (As := [.int (iI x1), .int (iI x2), .int (iI x3), .int (iI x4)]) (rest := []) S hG.1 hG.2.1 (vX11_without l hG.2.2.2.1 x1 x2 x3 x4 hc_1) wV_GrownKindsLaw_102 (ec_0 (b := b) (cy := cy) (X := XD b cy S0) _) cpX11 (Nat.lt_of_lt_of_le (Nat.le_of_ble_eq_true rfl) hG.2.2.2.1) dL_law_862 rfl hl.1 (ar := 4) (by decide +kernel) rfl ⟨Nat.le_of_ble_eq_true rfl, Nat.le_of_ble_eq_true rfl, hG.rcL, hG.rsL⟩ (Nat.le_of_ble_eq_true rfl) (fun rv uu H locs hp hGc => ?_)
  obtain ⟨rfl, rfl⟩ := hp
  refine wz ?_
  replace hG := hG.back hGc
  clear hGc
  obtain ⟨S_4, eS_4⟩ : ∃ q, q = msk S_3 S0 := ⟨_, rfl⟩
  rw [← eS_4] at hG
  replace hM := nx_at hM eS_4
  clear eS_4
  refine lv_aload_n hx hb dL_law_865 rfl (lv_at hl 1 rfl) ?_
  refine lv_aload_n hx hb dL_law_866 rfl (lv_at hl 3 rfl) ?_
  refine lv_iload_n hx hb dL_law_867 rfl (lv_at hl 0 rfl) ?_
  refine lv_iconst (v := iI 1) hx hb dL_law_868 (by decide) ?_
  refine gi_add hx hb dL_law_869 ?_
  refine n_sld C0 hbA hG (by omega) hx1 dL_law_870 ?_
  refine lv_aload_n hx hb dL_law_871 rfl (lv_at hl 3 rfl) ?_
  refine lv_iload_n hx hb dL_law_872 rfl (lv_at hl 0 rfl) ?_
  refine lv_iconst (v := iI 2) hx hb dL_law_873 (by decide) ?_
  refine gi_add hx hb dL_law_874 ?_
  refine n_sld C0 hbA hG (by omega) hx2 dL_law_875 ?_
  refine lv_aload_n hx hb dL_law_876 rfl (lv_at hl 3 rfl) ?_
  refine lv_iload_n hx hb dL_law_877 rfl (lv_at hl 0 rfl) ?_
  refine lv_iconst (v := iI 3) hx hb dL_law_878 (by decide) ?_
  refine gi_add hx hb dL_law_879 ?_
  refine n_sld C0 hbA hG (by omega) hx3 dL_law_880 ?_
  refine lv_aload_n hx hb dL_law_881 rfl (lv_at hl 3 rfl) ?_
  refine lv_iload_n hx hb dL_law_882 rfl (lv_at hl 0 rfl) ?_
  refine lv_iconst (v := iI 4) hx hb dL_law_883 (by decide) ?_
  refine gi_add hx hb dL_law_884 ?_
  refine n_sld C0 hbA hG (by omega) hx4 dL_law_885 ?_
  obtain ⟨r_6, S_7, hc_5, hM⟩ := bd2_some hM
  refine g_vl (As := [.int (iI x1), .int (iI x2), .int (iI x3), .int (iI x4)]) (rest := [.long (jJ r_2)]) S hG.1 hG.2.1 (vX12_without l hG.2.2.2.1 x1 x2 x3 x4 hc_5) wV_GrownKindsLaw_105 (ec_83 (b := b) (cy := cy) (X := XD b cy S_4) _) cpX12 (Nat.lt_of_lt_of_le (Nat.le_of_ble_eq_true rfl) hG.2.2.2.1) dL_law_886 rfl hl.1 (ar := 4) (by decide +kernel) rfl ⟨Nat.le_of_ble_eq_true rfl, Nat.le_of_ble_eq_true rfl, hG.rcL, hG.rsL⟩ (Nat.le_of_ble_eq_true rfl) (fun rv uu H locs hp hGc => ?_)
  obtain ⟨rfl, rfl⟩ := hp
  refine wz ?_
  replace hG := hG.back hGc
  clear hGc
  obtain ⟨S_8, eS_8⟩ : ∃ q, q = msk S_7 S_4 := ⟨_, rfl⟩
  rw [← eS_8] at hG
  replace hM := nx_at hM eS_8
  clear eS_8
  obtain ⟨hg_9, hM⟩ := gd_some hM
  refine gj_cmp_eq (tgt := 1854) hx hb dL_law_889 dL_law_890 (by decide) hg_9.1 hg_9.2 (fun c_10 => ?_) (fun c_10 => ?_)
  · replace hM := ifp hM c_10
    cases hM
    exact kk _ _ H locs ls hG hl
  · replace hM := ifn hM c_10
    cases hM
theorem wV_GrownKindsLaw_106 : gWV "GrownKindsLaw" 106 yX11_hangs cX11_hangs 11 (some .int) := ⟨wm_1242, wm_1243, wm_1244, wm_177, wm_1245, by decide +kernel, by decide +kernel⟩
theorem wV_GrownKindsLaw_110 : gWV "GrownKindsLaw" 110 yX12_hangs cX12_hangs 9 (some .int) := ⟨wm_2136, wm_2137, wm_2138, wm_188, wm_2139, by decide +kernel, by decide +kernel⟩
def mL_21 (x1 x2 x3 x4 x5 : Int) (S0 : St) : Option St := bd2 (mX11_hangs S0 x1 x2) fun r_2 S_3 => nx (msk S_3 S0) fun S_4 => bd2 (mX12_hangs S_4 x1 x2) fun r_6 S_7 => nx (msk S_7 S_4) fun S_8 => gd ((inI r_2) ∧ (inI r_6)) <| if r_2 = r_6 then (some (S_8)) else (none)
set_option maxHeartbeats 4000000 in
set_option maxRecDepth 100000 in
theorem lc_21 {p : Program} {l : Launch} {e : Env} {s : State} {m : MethodId} {below : List Frame} {meth : Method} {c : Code} {q0 : Nat} {xs : Nat → Int32} {D : va_G} {cy : Nat → ClassId} {b : Nat} {L : Nat} (hL : L ≤ 3072) (C0 : lw_At p s m meth c q0 L xs) (hbA : ¬ gA b q0) {i : Int} (hi : 0 ≤ i ∧ i + 6 ≤ L) {x1 x2 x3 x4 x5 : Int} (hx1 : (xs (i + 1).toNat).toInt = x1) (hx2 : (xs (i + 2).toNat).toInt = x2) (hx3 : (xs (i + 3).toNat).toInt = x3) (hx4 : (xs (i + 4).toNat).toInt = x4) (hx5 : (xs (i + 5).toNat).toInt = x5) {S0 S1 : St} (hM : mL_21 x1 x2 x3 x4 x5 S0 = some S1) (hOM : gle S1 OM) {ce sl : Nat} {H : Heap} {locs : List Loc} (hG : gX D cy b s H locs S0 ce sl OZ OM) {ls : Array Slot} (hl : lv_has ls 4 [(3, .int (iI i)), (2, .ref (b + 80)), (1, .ref (b + 0)), (0, .ref q0)]) (kk : ∀ (ce sl : Nat) (H : Heap) (locs : List Loc) (ls : Array Slot), gX D cy b s H locs S1 ce sl OZ OM → lv_has ls 4 [(3, .int (iI i)), (2, .ref (b + 80)), (1, .ref (b + 0)), (0, .ref q0)] → W p l e room_1 s m #[Value.ref q0] below meth c H locs ce sl (lw_Z below #[Value.ref q0] s) (F0 m 1854 ls [])) : W p l e room_1 s m #[Value.ref q0] below meth c H locs ce sl (lw_Z below #[Value.ref q0] s) (F0 m 895 ls []) := by
  have hx := C0.1
  have hb := C0.2.1
  have S := lw_S C0
  unfold mL_21 at hM
  refine lv_aload_n hx hb dL_law_895 rfl (lv_at hl 2 rfl) ?_
  refine lv_aload_n hx hb dL_law_896 rfl (lv_at hl 3 rfl) ?_
  refine lv_iload_n hx hb dL_law_897 rfl (lv_at hl 0 rfl) ?_
  refine lv_iconst (v := iI 1) hx hb dL_law_898 (by decide) ?_
  refine gi_add hx hb dL_law_899 ?_
  refine n_sld C0 hbA hG (by omega) hx1 dL_law_900 ?_
  refine lv_aload_n hx hb dL_law_901 rfl (lv_at hl 3 rfl) ?_
  refine lv_iload_n hx hb dL_law_902 rfl (lv_at hl 0 rfl) ?_
  refine lv_iconst (v := iI 2) hx hb dL_law_903 (by decide) ?_
  refine gi_add hx hb dL_law_904 ?_
  refine n_sld C0 hbA hG (by omega) hx2 dL_law_905 ?_
  obtain ⟨r_2, S_3, hc_1, hM⟩ := bd2_some hM
  refine g_vi (As := [.int (iI x1), .int (iI x2)]) (rest := []) S hG.1 hG.2.1 (vX11_hangs l hG.2.2.2.1 x1 x2 hc_1) wV_GrownKindsLaw_106 (ec_0 (b := b) (cy := cy) (X := XD b cy S0) _) cpX11 (Nat.lt_of_lt_of_le (Nat.le_of_ble_eq_true rfl) hG.2.2.2.1) dL_law_906 rfl hl.1 (ar := 2) (by decide +kernel) rfl ⟨Nat.le_of_ble_eq_true rfl, Nat.le_of_ble_eq_true rfl, hG.rcL, hG.rsL⟩ (Nat.le_of_ble_eq_true rfl) (fun rv uu H locs hp hGc => ?_)
  obtain ⟨rfl, rfl⟩ := hp
  refine wz ?_
  replace hG := hG.back hGc
  clear hGc
  obtain ⟨S_4, eS_4⟩ : ∃ q, q = msk S_3 S0 := ⟨_, rfl⟩
  rw [← eS_4] at hG
  replace hM := nx_at hM eS_4
  clear eS_4
  refine lv_aload_n hx hb dL_law_909 rfl (lv_at hl 1 rfl) ?_
  refine lv_aload_n hx hb dL_law_910 rfl (lv_at hl 3 rfl) ?_
  refine lv_iload_n hx hb dL_law_911 rfl (lv_at hl 0 rfl) ?_
  refine lv_iconst (v := iI 1) hx hb dL_law_912 (by decide) ?_
  refine gi_add hx hb dL_law_913 ?_
  refine n_sld C0 hbA hG (by omega) hx1 dL_law_914 ?_
  refine lv_aload_n hx hb dL_law_915 rfl (lv_at hl 3 rfl) ?_
  refine lv_iload_n hx hb dL_law_916 rfl (lv_at hl 0 rfl) ?_
  refine lv_iconst (v := iI 2) hx hb dL_law_917 (by decide) ?_
  refine gi_add hx hb dL_law_918 ?_
  refine n_sld C0 hbA hG (by omega) hx2 dL_law_919 ?_
  obtain ⟨r_6, S_7, hc_5, hM⟩ := bd2_some hM
  refine g_vi (As := [.int (iI x1), .int (iI x2)]) (rest := [.int (iI r_2)]) S hG.1 hG.2.1 (vX12_hangs l hG.2.2.2.1 x1 x2 hc_5) wV_GrownKindsLaw_110 (ec_83 (b := b) (cy := cy) (X := XD b cy S_4) _) cpX12 (Nat.lt_of_lt_of_le (Nat.le_of_ble_eq_true rfl) hG.2.2.2.1) dL_law_920 rfl hl.1 (ar := 2) (by decide +kernel) rfl ⟨Nat.le_of_ble_eq_true rfl, Nat.le_of_ble_eq_true rfl, hG.rcL, hG.rsL⟩ (Nat.le_of_ble_eq_true rfl) (fun rv uu H locs hp hGc => ?_)
  obtain ⟨rfl, rfl⟩ := hp
  refine wz ?_
  replace hG := hG.back hGc
  clear hGc
  obtain ⟨S_8, eS_8⟩ : ∃ q, q = msk S_7 S_4 := ⟨_, rfl⟩
  rw [← eS_8] at hG
  replace hM := nx_at hM eS_8
  clear eS_8
  obtain ⟨hg_9, hM⟩ := gd_some hM
  refine gi_icmp_eq (tgt := 1854) hx hb dL_law_923 (by decide) hg_9.1 hg_9.2 (fun c_10 => ?_) (fun c_10 => ?_)
  · replace hM := ifp hM c_10
    cases hM
    exact kk _ _ H locs ls hG hl
  · replace hM := ifn hM c_10
    cases hM
theorem wV_GrownKindsLaw_111 : gWV "GrownKindsLaw" 111 yX11_idle cX11_idle 4 (some .int) := ⟨wm_1247, wm_1248, wm_1249, wm_177, wm_1250, by decide +kernel, by decide +kernel⟩
theorem wV_GrownKindsLaw_114 : gWV "GrownKindsLaw" 114 yX12_idle cX12_idle 7 (some .int) := ⟨wm_2140, wm_2141, wm_2142, wm_188, wm_2143, by decide +kernel, by decide +kernel⟩
def mL_22 (x1 x2 x3 x4 x5 : Int) (S0 : St) : Option St := bd1 (mX11_idle S0) fun r_2 => bd2 (mX12_idle S0) fun r_4 S_5 => nx (msk S_5 S0) fun S_6 => gd ((inI r_2) ∧ (inI r_4)) <| if r_2 = r_4 then (some (S_6)) else (none)
set_option maxHeartbeats 4000000 in
set_option maxRecDepth 100000 in
theorem lc_22 {p : Program} {l : Launch} {e : Env} {s : State} {m : MethodId} {below : List Frame} {meth : Method} {c : Code} {q0 : Nat} {xs : Nat → Int32} {D : va_G} {cy : Nat → ClassId} {b : Nat} {L : Nat} (hL : L ≤ 3072) (C0 : lw_At p s m meth c q0 L xs) (hbA : ¬ gA b q0) {i : Int} (hi : 0 ≤ i ∧ i + 6 ≤ L) {x1 x2 x3 x4 x5 : Int} (hx1 : (xs (i + 1).toNat).toInt = x1) (hx2 : (xs (i + 2).toNat).toInt = x2) (hx3 : (xs (i + 3).toNat).toInt = x3) (hx4 : (xs (i + 4).toNat).toInt = x4) (hx5 : (xs (i + 5).toNat).toInt = x5) {S0 S1 : St} (hM : mL_22 x1 x2 x3 x4 x5 S0 = some S1) (hOM : gle S1 OM) {ce sl : Nat} {H : Heap} {locs : List Loc} (hG : gX D cy b s H locs S0 ce sl OZ OM) {ls : Array Slot} (hl : lv_has ls 4 [(3, .int (iI i)), (2, .ref (b + 80)), (1, .ref (b + 0)), (0, .ref q0)]) (kk : ∀ (ce sl : Nat) (H : Heap) (locs : List Loc) (ls : Array Slot), gX D cy b s H locs S1 ce sl OZ OM → lv_has ls 4 [(3, .int (iI i)), (2, .ref (b + 80)), (1, .ref (b + 0)), (0, .ref q0)] → W p l e room_1 s m #[Value.ref q0] below meth c H locs ce sl (lw_Z below #[Value.ref q0] s) (F0 m 1854 ls [])) : W p l e room_1 s m #[Value.ref q0] below meth c H locs ce sl (lw_Z below #[Value.ref q0] s) (F0 m 928 ls []) := by
  have hx := C0.1
  have hb := C0.2.1
  have S := lw_S C0
  unfold mL_22 at hM
  refine lv_aload_n hx hb dL_law_928 rfl (lv_at hl 2 rfl) ?_
  obtain ⟨r_2, hc_1, hM⟩ := bd1_some hM
  refine g_vi (As := []) (rest := []) S hG.1 hG.2.1 (vX11_idle l hG.2.2.2.1  hc_1) wV_GrownKindsLaw_111 (ec_0 (b := b) (cy := cy) (X := XD b cy S0) _) cpX11 (Nat.lt_of_lt_of_le (Nat.le_of_ble_eq_true rfl) hG.2.2.2.1) dL_law_929 rfl hl.1 (ar := 0) (by decide +kernel) rfl ⟨Nat.le_of_ble_eq_true rfl, Nat.le_of_ble_eq_true rfl, hG.rcL, hG.rsL⟩ (Nat.le_of_ble_eq_true rfl) (fun rv uu H locs hp hGc => ?_)
  obtain ⟨rfl, rfl⟩ := hp
  refine wz ?_
  replace hG := hG.same hGc
  clear hGc
  refine lv_aload_n hx hb dL_law_932 rfl (lv_at hl 1 rfl) ?_
  obtain ⟨r_4, S_5, hc_3, hM⟩ := bd2_some hM
  refine g_vi (As := []) (rest := [.int (iI r_2)]) S hG.1 hG.2.1 (vX12_idle l hG.2.2.2.1  hc_3) wV_GrownKindsLaw_114 (ec_83 (b := b) (cy := cy) (X := XD b cy S0) _) cpX12 (Nat.lt_of_lt_of_le (Nat.le_of_ble_eq_true rfl) hG.2.2.2.1) dL_law_933 rfl hl.1 (ar := 0) (by decide +kernel) rfl ⟨Nat.le_of_ble_eq_true rfl, Nat.le_of_ble_eq_true rfl, hG.rcL, hG.rsL⟩ (Nat.le_of_ble_eq_true rfl) (fun rv uu H locs hp hGc => ?_)
  obtain ⟨rfl, rfl⟩ := hp
  refine wz ?_
  replace hG := hG.back hGc
  clear hGc
  obtain ⟨S_6, eS_6⟩ : ∃ q, q = msk S_5 S0 := ⟨_, rfl⟩
  rw [← eS_6] at hG
  replace hM := nx_at hM eS_6
  clear eS_6
  obtain ⟨hg_7, hM⟩ := gd_some hM
  refine gi_icmp_eq (tgt := 1854) hx hb dL_law_936 (by decide) hg_7.1 hg_7.2 (fun c_8 => ?_) (fun c_8 => ?_)
  · replace hM := ifp hM c_8
    cases hM
    exact kk _ _ H locs ls hG hl
  · replace hM := ifn hM c_8
    cases hM
theorem wV_GrownKindsLaw_115 : gWV "GrownKindsLaw" 115 yX11_length cX11_length 5 (some .int) := ⟨wm_1256, wm_1257, wm_1258, wm_177, wm_1259, by decide +kernel, by decide +kernel⟩
theorem wV_GrownKindsLaw_119 : gWV "GrownKindsLaw" 119 yX12_length cX12_length 5 (some .int) := ⟨wm_2174, wm_2175, wm_2176, wm_188, wm_2177, by decide +kernel, by decide +kernel⟩
def mL_23 (x1 x2 x3 x4 x5 : Int) (S0 : St) : Option St := bdG2 S0 (fun o : St => o) (mX11_length S0 x1 x2 x3) fun r_2 S_3 => bd2 (mX12_length S_3 x1 x2 x3) fun r_8 S_9 => nx (msk S_9 S_3) fun S_10 => gd ((inI r_2) ∧ (inI r_8)) <| if r_2 = r_8 then (some (S_10)) else (none)
set_option maxHeartbeats 4000000 in
set_option maxRecDepth 100000 in
theorem lc_23 {p : Program} {l : Launch} {e : Env} {s : State} {m : MethodId} {below : List Frame} {meth : Method} {c : Code} {q0 : Nat} {xs : Nat → Int32} {D : va_G} {cy : Nat → ClassId} {b : Nat} {L : Nat} (hL : L ≤ 3072) (C0 : lw_At p s m meth c q0 L xs) (hbA : ¬ gA b q0) {i : Int} (hi : 0 ≤ i ∧ i + 6 ≤ L) {x1 x2 x3 x4 x5 : Int} (hx1 : (xs (i + 1).toNat).toInt = x1) (hx2 : (xs (i + 2).toNat).toInt = x2) (hx3 : (xs (i + 3).toNat).toInt = x3) (hx4 : (xs (i + 4).toNat).toInt = x4) (hx5 : (xs (i + 5).toNat).toInt = x5) {S0 S1 : St} (hM : mL_23 x1 x2 x3 x4 x5 S0 = some S1) (hOM : gle S1 OM) {ce sl : Nat} {H : Heap} {locs : List Loc} (hG : gX D cy b s H locs S0 ce sl OZ OM) {ls : Array Slot} (hl : lv_has ls 4 [(3, .int (iI i)), (2, .ref (b + 80)), (1, .ref (b + 0)), (0, .ref q0)]) (kk : ∀ (ce sl : Nat) (H : Heap) (locs : List Loc) (ls : Array Slot), gX D cy b s H locs S1 ce sl OZ OM → lv_has ls 4 [(3, .int (iI i)), (2, .ref (b + 80)), (1, .ref (b + 0)), (0, .ref q0)] → W p l e room_1 s m #[Value.ref q0] below meth c H locs ce sl (lw_Z below #[Value.ref q0] s) (F0 m 1854 ls [])) : W p l e room_1 s m #[Value.ref q0] below meth c H locs ce sl (lw_Z below #[Value.ref q0] s) (F0 m 941 ls []) := by
  have hx := C0.1
  have hb := C0.2.1
  have S := lw_S C0
  unfold mL_23 at hM
  refine lv_aload_n hx hb dL_law_941 rfl (lv_at hl 2 rfl) ?_
  refine lv_aload_n hx hb dL_law_942 rfl (lv_at hl 3 rfl) ?_
  refine lv_iload_n hx hb dL_law_943 rfl (lv_at hl 0 rfl) ?_
  refine lv_iconst (v := iI 1) hx hb dL_law_944 (by decide) ?_
  refine gi_add hx hb dL_law_945 ?_
  refine n_sld C0 hbA hG (by omega) hx1 dL_law_946 ?_
  refine lv_aload_n hx hb dL_law_947 rfl (lv_at hl 3 rfl) ?_
  refine lv_iload_n hx hb dL_law_948 rfl (lv_at hl 0 rfl) ?_
  refine lv_iconst (v := iI 2) hx hb dL_law_949 (by decide) ?_
  refine gi_add hx hb dL_law_950 ?_
  refine n_sld C0 hbA hG (by omega) hx2 dL_law_951 ?_
  refine lv_aload_n hx hb dL_law_952 rfl (lv_at hl 3 rfl) ?_
  refine lv_iload_n hx hb dL_law_953 rfl (lv_at hl 0 rfl) ?_
  refine lv_iconst (v := iI 3) hx hb dL_law_954 (by decide) ?_
  refine gi_add hx hb dL_law_955 ?_
  refine n_sld C0 hbA hG (by omega) hx3 dL_law_956 ?_
  obtain ⟨r_2, S_3, hc_1, hg_4, hg_5, hM⟩ := bdG2_some hM
  have hg_6 : gle S_3 OM := ⟨Nat.le_trans hg_5.1 hOM.1, Nat.le_trans hg_5.2 hOM.2⟩
  refine g_vi (As := [.int (iI x1), .int (iI x2), .int (iI x3)]) (rest := []) S hG.1 hG.2.1 (vX11_length l hG.2.2.2.1 x1 x2 x3 hc_1) wV_GrownKindsLaw_115 (ec_0 (b := b) (cy := cy) (X := XD b cy S0) _) cpX11 (Nat.lt_of_lt_of_le (Nat.le_of_ble_eq_true rfl) hG.2.2.2.1) dL_law_957 rfl hl.1 (ar := 3) (by decide +kernel) rfl ⟨Nat.le_of_ble_eq_true rfl, Nat.le_of_ble_eq_true rfl, hG.gcL hg_4 hg_6, hG.gsL hg_4 hg_6⟩ (Nat.le_of_ble_eq_true rfl) (fun rv uu H locs hp hGc => ?_)
  obtain ⟨rfl, rfl⟩ := hp
  replace hG := hG.grow hg_4 hg_6 hGc
  clear hGc
  refine lv_aload_n hx hb dL_law_960 rfl (lv_at hl 1 rfl) ?_
  refine lv_aload_n hx hb dL_law_961 rfl (lv_at hl 3 rfl) ?_
  refine lv_iload_n hx hb dL_law_962 rfl (lv_at hl 0 rfl) ?_
  refine lv_iconst (v := iI 1) hx hb dL_law_963 (by decide) ?_
  refine gi_add hx hb dL_law_964 ?_
  refine n_sld C0 hbA hG (by omega) hx1 dL_law_965 ?_
  refine lv_aload_n hx hb dL_law_966 rfl (lv_at hl 3 rfl) ?_
  refine lv_iload_n hx hb dL_law_967 rfl (lv_at hl 0 rfl) ?_
  refine lv_iconst (v := iI 2) hx hb dL_law_968 (by decide) ?_
  refine gi_add hx hb dL_law_969 ?_
  refine n_sld C0 hbA hG (by omega) hx2 dL_law_970 ?_
  refine lv_aload_n hx hb dL_law_971 rfl (lv_at hl 3 rfl) ?_
  refine lv_iload_n hx hb dL_law_972 rfl (lv_at hl 0 rfl) ?_
  refine lv_iconst (v := iI 3) hx hb dL_law_973 (by decide) ?_
  refine gi_add hx hb dL_law_974 ?_
  refine n_sld C0 hbA hG (by omega) hx3 dL_law_975 ?_
  obtain ⟨r_8, S_9, hc_7, hM⟩ := bd2_some hM
  refine g_vi (As := [.int (iI x1), .int (iI x2), .int (iI x3)]) (rest := [.int (iI r_2)]) S hG.1 hG.2.1 (vX12_length l hG.2.2.2.1 x1 x2 x3 hc_7) wV_GrownKindsLaw_119 (ec_83 (b := b) (cy := cy) (X := XD b cy S_3) _) cpX12 (Nat.lt_of_lt_of_le (Nat.le_of_ble_eq_true rfl) hG.2.2.2.1) dL_law_976 rfl hl.1 (ar := 3) (by decide +kernel) rfl ⟨Nat.le_of_ble_eq_true rfl, Nat.le_of_ble_eq_true rfl, hG.rcL, hG.rsL⟩ (Nat.le_of_ble_eq_true rfl) (fun rv uu H locs hp hGc => ?_)
  obtain ⟨rfl, rfl⟩ := hp
  refine wz ?_
  replace hG := hG.back hGc
  clear hGc
  obtain ⟨S_10, eS_10⟩ : ∃ q, q = msk S_9 S_3 := ⟨_, rfl⟩
  rw [← eS_10] at hG
  replace hM := nx_at hM eS_10
  clear eS_10
  obtain ⟨hg_11, hM⟩ := gd_some hM
  refine gi_icmp_eq (tgt := 1854) hx hb dL_law_979 (by decide) hg_11.1 hg_11.2 (fun c_12 => ?_) (fun c_12 => ?_)
  · replace hM := ifp hM c_12
    cases hM
    exact kk _ _ H locs ls hG hl
  · replace hM := ifn hM c_12
    cases hM
theorem wV_GrownKindsLaw_120 : gWV "GrownKindsLaw" 120 yX11_sign cX11_sign 6 (some .int) := ⟨wm_1421, wm_1422, wm_1423, wm_177, wm_1424, by decide +kernel, by decide +kernel⟩
theorem wV_GrownKindsLaw_124 : gWV "GrownKindsLaw" 124 yX12_sign cX12_sign 6 (some .int) := ⟨wm_2261, wm_2262, wm_2263, wm_188, wm_2264, by decide +kernel, by decide +kernel⟩
def mL_24 (x1 x2 x3 x4 x5 : Int) (S0 : St) : Option St := bdG2 S0 (fun o : St => o) (mX11_sign S0 x1 x2 x3 x4) fun r_2 S_3 => bd2 (mX12_sign S_3 x1 x2 x3 x4) fun r_8 S_9 => nx (msk S_9 S_3) fun S_10 => gd ((inI r_2) ∧ (inI r_8)) <| if r_2 = r_8 then (some (S_10)) else (none)
set_option maxHeartbeats 4000000 in
set_option maxRecDepth 100000 in
theorem lc_24 {p : Program} {l : Launch} {e : Env} {s : State} {m : MethodId} {below : List Frame} {meth : Method} {c : Code} {q0 : Nat} {xs : Nat → Int32} {D : va_G} {cy : Nat → ClassId} {b : Nat} {L : Nat} (hL : L ≤ 3072) (C0 : lw_At p s m meth c q0 L xs) (hbA : ¬ gA b q0) {i : Int} (hi : 0 ≤ i ∧ i + 6 ≤ L) {x1 x2 x3 x4 x5 : Int} (hx1 : (xs (i + 1).toNat).toInt = x1) (hx2 : (xs (i + 2).toNat).toInt = x2) (hx3 : (xs (i + 3).toNat).toInt = x3) (hx4 : (xs (i + 4).toNat).toInt = x4) (hx5 : (xs (i + 5).toNat).toInt = x5) {S0 S1 : St} (hM : mL_24 x1 x2 x3 x4 x5 S0 = some S1) (hOM : gle S1 OM) {ce sl : Nat} {H : Heap} {locs : List Loc} (hG : gX D cy b s H locs S0 ce sl OZ OM) {ls : Array Slot} (hl : lv_has ls 4 [(3, .int (iI i)), (2, .ref (b + 80)), (1, .ref (b + 0)), (0, .ref q0)]) (kk : ∀ (ce sl : Nat) (H : Heap) (locs : List Loc) (ls : Array Slot), gX D cy b s H locs S1 ce sl OZ OM → lv_has ls 4 [(3, .int (iI i)), (2, .ref (b + 80)), (1, .ref (b + 0)), (0, .ref q0)] → W p l e room_1 s m #[Value.ref q0] below meth c H locs ce sl (lw_Z below #[Value.ref q0] s) (F0 m 1854 ls [])) : W p l e room_1 s m #[Value.ref q0] below meth c H locs ce sl (lw_Z below #[Value.ref q0] s) (F0 m 984 ls []) := by
  have hx := C0.1
  have hb := C0.2.1
  have S := lw_S C0
  unfold mL_24 at hM
  refine lv_aload_n hx hb dL_law_984 rfl (lv_at hl 2 rfl) ?_
  refine lv_aload_n hx hb dL_law_985 rfl (lv_at hl 3 rfl) ?_
  refine lv_iload_n hx hb dL_law_986 rfl (lv_at hl 0 rfl) ?_
  refine lv_iconst (v := iI 1) hx hb dL_law_987 (by decide) ?_
  refine gi_add hx hb dL_law_988 ?_
  refine n_sld C0 hbA hG (by omega) hx1 dL_law_989 ?_
  refine lv_aload_n hx hb dL_law_990 rfl (lv_at hl 3 rfl) ?_
  refine lv_iload_n hx hb dL_law_991 rfl (lv_at hl 0 rfl) ?_
  refine lv_iconst (v := iI 2) hx hb dL_law_992 (by decide) ?_
  refine gi_add hx hb dL_law_993 ?_
  refine n_sld C0 hbA hG (by omega) hx2 dL_law_994 ?_
  refine lv_aload_n hx hb dL_law_995 rfl (lv_at hl 3 rfl) ?_
  refine lv_iload_n hx hb dL_law_996 rfl (lv_at hl 0 rfl) ?_
  refine lv_iconst (v := iI 3) hx hb dL_law_997 (by decide) ?_
  refine gi_add hx hb dL_law_998 ?_
  refine n_sld C0 hbA hG (by omega) hx3 dL_law_999 ?_
  refine lv_aload_n hx hb dL_law_1000 rfl (lv_at hl 3 rfl) ?_
  refine lv_iload_n hx hb dL_law_1001 rfl (lv_at hl 0 rfl) ?_
  refine lv_iconst (v := iI 4) hx hb dL_law_1002 (by decide) ?_
  refine gi_add hx hb dL_law_1003 ?_
  refine n_sld C0 hbA hG (by omega) hx4 dL_law_1004 ?_
  obtain ⟨r_2, S_3, hc_1, hg_4, hg_5, hM⟩ := bdG2_some hM
  have hg_6 : gle S_3 OM := ⟨Nat.le_trans hg_5.1 hOM.1, Nat.le_trans hg_5.2 hOM.2⟩
  refine g_vi (As := [.int (iI x1), .int (iI x2), .int (iI x3), .int (iI x4)]) (rest := []) S hG.1 hG.2.1 (vX11_sign l hG.2.2.2.1 x1 x2 x3 x4 hc_1) wV_GrownKindsLaw_120 (ec_0 (b := b) (cy := cy) (X := XD b cy S0) _) cpX11 (Nat.lt_of_lt_of_le (Nat.le_of_ble_eq_true rfl) hG.2.2.2.1) dL_law_1005 rfl hl.1 (ar := 4) (by decide +kernel) rfl ⟨Nat.le_of_ble_eq_true rfl, Nat.le_of_ble_eq_true rfl, hG.gcL hg_4 hg_6, hG.gsL hg_4 hg_6⟩ (Nat.le_of_ble_eq_true rfl) (fun rv uu H locs hp hGc => ?_)
  obtain ⟨rfl, rfl⟩ := hp
  replace hG := hG.grow hg_4 hg_6 hGc
  clear hGc
  refine lv_aload_n hx hb dL_law_1008 rfl (lv_at hl 1 rfl) ?_
  refine lv_aload_n hx hb dL_law_1009 rfl (lv_at hl 3 rfl) ?_
  refine lv_iload_n hx hb dL_law_1010 rfl (lv_at hl 0 rfl) ?_
  refine lv_iconst (v := iI 1) hx hb dL_law_1011 (by decide) ?_
  refine gi_add hx hb dL_law_1012 ?_
  refine n_sld C0 hbA hG (by omega) hx1 dL_law_1013 ?_
  refine lv_aload_n hx hb dL_law_1014 rfl (lv_at hl 3 rfl) ?_
  refine lv_iload_n hx hb dL_law_1015 rfl (lv_at hl 0 rfl) ?_
  refine lv_iconst (v := iI 2) hx hb dL_law_1016 (by decide) ?_
  refine gi_add hx hb dL_law_1017 ?_
  refine n_sld C0 hbA hG (by omega) hx2 dL_law_1018 ?_
  refine lv_aload_n hx hb dL_law_1019 rfl (lv_at hl 3 rfl) ?_
  refine lv_iload_n hx hb dL_law_1020 rfl (lv_at hl 0 rfl) ?_
  refine lv_iconst (v := iI 3) hx hb dL_law_1021 (by decide) ?_
  refine gi_add hx hb dL_law_1022 ?_
  refine n_sld C0 hbA hG (by omega) hx3 dL_law_1023 ?_
  refine lv_aload_n hx hb dL_law_1024 rfl (lv_at hl 3 rfl) ?_
  refine lv_iload_n hx hb dL_law_1025 rfl (lv_at hl 0 rfl) ?_
  refine lv_iconst (v := iI 4) hx hb dL_law_1026 (by decide) ?_
  refine gi_add hx hb dL_law_1027 ?_
  refine n_sld C0 hbA hG (by omega) hx4 dL_law_1028 ?_
  obtain ⟨r_8, S_9, hc_7, hM⟩ := bd2_some hM
  refine g_vi (As := [.int (iI x1), .int (iI x2), .int (iI x3), .int (iI x4)]) (rest := [.int (iI r_2)]) S hG.1 hG.2.1 (vX12_sign l hG.2.2.2.1 x1 x2 x3 x4 hc_7) wV_GrownKindsLaw_124 (ec_83 (b := b) (cy := cy) (X := XD b cy S_3) _) cpX12 (Nat.lt_of_lt_of_le (Nat.le_of_ble_eq_true rfl) hG.2.2.2.1) dL_law_1029 rfl hl.1 (ar := 4) (by decide +kernel) rfl ⟨Nat.le_of_ble_eq_true rfl, Nat.le_of_ble_eq_true rfl, hG.rcL, hG.rsL⟩ (Nat.le_of_ble_eq_true rfl) (fun rv uu H locs hp hGc => ?_)
  obtain ⟨rfl, rfl⟩ := hp
  refine wz ?_
  replace hG := hG.back hGc
  clear hGc
  obtain ⟨S_10, eS_10⟩ : ∃ q, q = msk S_9 S_3 := ⟨_, rfl⟩
  rw [← eS_10] at hG
  replace hM := nx_at hM eS_10
  clear eS_10
  obtain ⟨hg_11, hM⟩ := gd_some hM
  refine gi_icmp_eq (tgt := 1854) hx hb dL_law_1032 (by decide) hg_11.1 hg_11.2 (fun c_12 => ?_) (fun c_12 => ?_)
  · replace hM := ifp hM c_12
    cases hM
    exact kk _ _ H locs ls hG hl
  · replace hM := ifn hM c_12
    cases hM
theorem wV_GrownKindsLaw_125 : gWV "GrownKindsLaw" 125 yX11_deep cX11_deep 5 (some .int) := ⟨wm_1429, wm_1430, wm_1431, wm_177, wm_1432, by decide +kernel, by decide +kernel⟩
theorem wV_GrownKindsLaw_128 : gWV "GrownKindsLaw" 128 yX12_deep cX12_deep 5 (some .int) := ⟨wm_2265, wm_2266, wm_2267, wm_188, wm_2268, by decide +kernel, by decide +kernel⟩
def mL_25 (x1 x2 x3 x4 x5 : Int) (S0 : St) : Option St := bdG2 S0 (fun o : St => o) (mX11_deep S0 x1 x2 x3) fun r_2 S_3 => bd2 (mX12_deep S_3 x1 x2 x3) fun r_8 S_9 => nx (msk S_9 S_3) fun S_10 => gd ((inI r_2) ∧ (inI r_8)) <| if r_2 = r_8 then (some (S_10)) else (none)
set_option maxHeartbeats 4000000 in
set_option maxRecDepth 100000 in
theorem lc_25 {p : Program} {l : Launch} {e : Env} {s : State} {m : MethodId} {below : List Frame} {meth : Method} {c : Code} {q0 : Nat} {xs : Nat → Int32} {D : va_G} {cy : Nat → ClassId} {b : Nat} {L : Nat} (hL : L ≤ 3072) (C0 : lw_At p s m meth c q0 L xs) (hbA : ¬ gA b q0) {i : Int} (hi : 0 ≤ i ∧ i + 6 ≤ L) {x1 x2 x3 x4 x5 : Int} (hx1 : (xs (i + 1).toNat).toInt = x1) (hx2 : (xs (i + 2).toNat).toInt = x2) (hx3 : (xs (i + 3).toNat).toInt = x3) (hx4 : (xs (i + 4).toNat).toInt = x4) (hx5 : (xs (i + 5).toNat).toInt = x5) {S0 S1 : St} (hM : mL_25 x1 x2 x3 x4 x5 S0 = some S1) (hOM : gle S1 OM) {ce sl : Nat} {H : Heap} {locs : List Loc} (hG : gX D cy b s H locs S0 ce sl OZ OM) {ls : Array Slot} (hl : lv_has ls 4 [(3, .int (iI i)), (2, .ref (b + 80)), (1, .ref (b + 0)), (0, .ref q0)]) (kk : ∀ (ce sl : Nat) (H : Heap) (locs : List Loc) (ls : Array Slot), gX D cy b s H locs S1 ce sl OZ OM → lv_has ls 4 [(3, .int (iI i)), (2, .ref (b + 80)), (1, .ref (b + 0)), (0, .ref q0)] → W p l e room_1 s m #[Value.ref q0] below meth c H locs ce sl (lw_Z below #[Value.ref q0] s) (F0 m 1854 ls [])) : W p l e room_1 s m #[Value.ref q0] below meth c H locs ce sl (lw_Z below #[Value.ref q0] s) (F0 m 1037 ls []) := by
  have hx := C0.1
  have hb := C0.2.1
  have S := lw_S C0
  unfold mL_25 at hM
  refine lv_aload_n hx hb dL_law_1037 rfl (lv_at hl 2 rfl) ?_
  refine lv_aload_n hx hb dL_law_1038 rfl (lv_at hl 3 rfl) ?_
  refine lv_iload_n hx hb dL_law_1039 rfl (lv_at hl 0 rfl) ?_
  refine lv_iconst (v := iI 1) hx hb dL_law_1040 (by decide) ?_
  refine gi_add hx hb dL_law_1041 ?_
  refine n_sld C0 hbA hG (by omega) hx1 dL_law_1042 ?_
  refine lv_aload_n hx hb dL_law_1043 rfl (lv_at hl 3 rfl) ?_
  refine lv_iload_n hx hb dL_law_1044 rfl (lv_at hl 0 rfl) ?_
  refine lv_iconst (v := iI 2) hx hb dL_law_1045 (by decide) ?_
  refine gi_add hx hb dL_law_1046 ?_
  refine n_sld C0 hbA hG (by omega) hx2 dL_law_1047 ?_
  refine lv_aload_n hx hb dL_law_1048 rfl (lv_at hl 3 rfl) ?_
  refine lv_iload_n hx hb dL_law_1049 rfl (lv_at hl 0 rfl) ?_
  refine lv_iconst (v := iI 3) hx hb dL_law_1050 (by decide) ?_
  refine gi_add hx hb dL_law_1051 ?_
  refine n_sld C0 hbA hG (by omega) hx3 dL_law_1052 ?_
  obtain ⟨r_2, S_3, hc_1, hg_4, hg_5, hM⟩ := bdG2_some hM
  have hg_6 : gle S_3 OM := ⟨Nat.le_trans hg_5.1 hOM.1, Nat.le_trans hg_5.2 hOM.2⟩
  refine g_vi (As := [.int (iI x1), .int (iI x2), .int (iI x3)]) (rest := []) S hG.1 hG.2.1 (vX11_deep l hG.2.2.2.1 x1 x2 x3 hc_1) wV_GrownKindsLaw_125 (ec_0 (b := b) (cy := cy) (X := XD b cy S0) _) cpX11 (Nat.lt_of_lt_of_le (Nat.le_of_ble_eq_true rfl) hG.2.2.2.1) dL_law_1053 rfl hl.1 (ar := 3) (by decide +kernel) rfl ⟨Nat.le_of_ble_eq_true rfl, Nat.le_of_ble_eq_true rfl, hG.gcL hg_4 hg_6, hG.gsL hg_4 hg_6⟩ (Nat.le_of_ble_eq_true rfl) (fun rv uu H locs hp hGc => ?_)
  obtain ⟨rfl, rfl⟩ := hp
  replace hG := hG.grow hg_4 hg_6 hGc
  clear hGc
  refine lv_aload_n hx hb dL_law_1056 rfl (lv_at hl 1 rfl) ?_
  refine lv_aload_n hx hb dL_law_1057 rfl (lv_at hl 3 rfl) ?_
  refine lv_iload_n hx hb dL_law_1058 rfl (lv_at hl 0 rfl) ?_
  refine lv_iconst (v := iI 1) hx hb dL_law_1059 (by decide) ?_
  refine gi_add hx hb dL_law_1060 ?_
  refine n_sld C0 hbA hG (by omega) hx1 dL_law_1061 ?_
  refine lv_aload_n hx hb dL_law_1062 rfl (lv_at hl 3 rfl) ?_
  refine lv_iload_n hx hb dL_law_1063 rfl (lv_at hl 0 rfl) ?_
  refine lv_iconst (v := iI 2) hx hb dL_law_1064 (by decide) ?_
  refine gi_add hx hb dL_law_1065 ?_
  refine n_sld C0 hbA hG (by omega) hx2 dL_law_1066 ?_
  refine lv_aload_n hx hb dL_law_1067 rfl (lv_at hl 3 rfl) ?_
  refine lv_iload_n hx hb dL_law_1068 rfl (lv_at hl 0 rfl) ?_
  refine lv_iconst (v := iI 3) hx hb dL_law_1069 (by decide) ?_
  refine gi_add hx hb dL_law_1070 ?_
  refine n_sld C0 hbA hG (by omega) hx3 dL_law_1071 ?_
  obtain ⟨r_8, S_9, hc_7, hM⟩ := bd2_some hM
  refine g_vi (As := [.int (iI x1), .int (iI x2), .int (iI x3)]) (rest := [.int (iI r_2)]) S hG.1 hG.2.1 (vX12_deep l hG.2.2.2.1 x1 x2 x3 hc_7) wV_GrownKindsLaw_128 (ec_83 (b := b) (cy := cy) (X := XD b cy S_3) _) cpX12 (Nat.lt_of_lt_of_le (Nat.le_of_ble_eq_true rfl) hG.2.2.2.1) dL_law_1072 rfl hl.1 (ar := 3) (by decide +kernel) rfl ⟨Nat.le_of_ble_eq_true rfl, Nat.le_of_ble_eq_true rfl, hG.rcL, hG.rsL⟩ (Nat.le_of_ble_eq_true rfl) (fun rv uu H locs hp hGc => ?_)
  obtain ⟨rfl, rfl⟩ := hp
  refine wz ?_
  replace hG := hG.back hGc
  clear hGc
  obtain ⟨S_10, eS_10⟩ : ∃ q, q = msk S_9 S_3 := ⟨_, rfl⟩
  rw [← eS_10] at hG
  replace hM := nx_at hM eS_10
  clear eS_10
  obtain ⟨hg_11, hM⟩ := gd_some hM
  refine gi_icmp_eq (tgt := 1854) hx hb dL_law_1075 (by decide) hg_11.1 hg_11.2 (fun c_12 => ?_) (fun c_12 => ?_)
  · replace hM := ifp hM c_12
    cases hM
    exact kk _ _ H locs ls hG hl
  · replace hM := ifn hM c_12
    cases hM
theorem wV_GrownKindsLaw_129 : gWV "GrownKindsLaw" 129 yX11_atoms cX11_atoms 6 (some .int) := ⟨wm_1433, wm_1434, wm_1435, wm_177, wm_1436, by decide +kernel, by decide +kernel⟩
theorem wV_GrownKindsLaw_132 : gWV "GrownKindsLaw" 132 yX12_atoms cX12_atoms 6 (some .int) := ⟨wm_2269, wm_2270, wm_2271, wm_188, wm_2272, by decide +kernel, by decide +kernel⟩
def mL_26 (x1 x2 x3 x4 x5 : Int) (S0 : St) : Option St := bdG2 S0 (fun o : St => o) (mX11_atoms S0 x1 x2 x3 x4) fun r_2 S_3 => bd2 (mX12_atoms S_3 x1 x2 x3 x4) fun r_8 S_9 => nx (msk S_9 S_3) fun S_10 => gd ((inI r_2) ∧ (inI r_8)) <| if r_2 = r_8 then (some (S_10)) else (none)
set_option maxHeartbeats 4000000 in
set_option maxRecDepth 100000 in
theorem lc_26 {p : Program} {l : Launch} {e : Env} {s : State} {m : MethodId} {below : List Frame} {meth : Method} {c : Code} {q0 : Nat} {xs : Nat → Int32} {D : va_G} {cy : Nat → ClassId} {b : Nat} {L : Nat} (hL : L ≤ 3072) (C0 : lw_At p s m meth c q0 L xs) (hbA : ¬ gA b q0) {i : Int} (hi : 0 ≤ i ∧ i + 6 ≤ L) {x1 x2 x3 x4 x5 : Int} (hx1 : (xs (i + 1).toNat).toInt = x1) (hx2 : (xs (i + 2).toNat).toInt = x2) (hx3 : (xs (i + 3).toNat).toInt = x3) (hx4 : (xs (i + 4).toNat).toInt = x4) (hx5 : (xs (i + 5).toNat).toInt = x5) {S0 S1 : St} (hM : mL_26 x1 x2 x3 x4 x5 S0 = some S1) (hOM : gle S1 OM) {ce sl : Nat} {H : Heap} {locs : List Loc} (hG : gX D cy b s H locs S0 ce sl OZ OM) {ls : Array Slot} (hl : lv_has ls 4 [(3, .int (iI i)), (2, .ref (b + 80)), (1, .ref (b + 0)), (0, .ref q0)]) (kk : ∀ (ce sl : Nat) (H : Heap) (locs : List Loc) (ls : Array Slot), gX D cy b s H locs S1 ce sl OZ OM → lv_has ls 4 [(3, .int (iI i)), (2, .ref (b + 80)), (1, .ref (b + 0)), (0, .ref q0)] → W p l e room_1 s m #[Value.ref q0] below meth c H locs ce sl (lw_Z below #[Value.ref q0] s) (F0 m 1854 ls [])) : W p l e room_1 s m #[Value.ref q0] below meth c H locs ce sl (lw_Z below #[Value.ref q0] s) (F0 m 1080 ls []) := by
  have hx := C0.1
  have hb := C0.2.1
  have S := lw_S C0
  unfold mL_26 at hM
  refine lv_aload_n hx hb dL_law_1080 rfl (lv_at hl 2 rfl) ?_
  refine lv_aload_n hx hb dL_law_1081 rfl (lv_at hl 3 rfl) ?_
  refine lv_iload_n hx hb dL_law_1082 rfl (lv_at hl 0 rfl) ?_
  refine lv_iconst (v := iI 1) hx hb dL_law_1083 (by decide) ?_
  refine gi_add hx hb dL_law_1084 ?_
  refine n_sld C0 hbA hG (by omega) hx1 dL_law_1085 ?_
  refine lv_aload_n hx hb dL_law_1086 rfl (lv_at hl 3 rfl) ?_
  refine lv_iload_n hx hb dL_law_1087 rfl (lv_at hl 0 rfl) ?_
  refine lv_iconst (v := iI 2) hx hb dL_law_1088 (by decide) ?_
  refine gi_add hx hb dL_law_1089 ?_
  refine n_sld C0 hbA hG (by omega) hx2 dL_law_1090 ?_
  refine lv_aload_n hx hb dL_law_1091 rfl (lv_at hl 3 rfl) ?_
  refine lv_iload_n hx hb dL_law_1092 rfl (lv_at hl 0 rfl) ?_
  refine lv_iconst (v := iI 3) hx hb dL_law_1093 (by decide) ?_
  refine gi_add hx hb dL_law_1094 ?_
  refine n_sld C0 hbA hG (by omega) hx3 dL_law_1095 ?_
  refine lv_aload_n hx hb dL_law_1096 rfl (lv_at hl 3 rfl) ?_
  refine lv_iload_n hx hb dL_law_1097 rfl (lv_at hl 0 rfl) ?_
  refine lv_iconst (v := iI 4) hx hb dL_law_1098 (by decide) ?_
  refine gi_add hx hb dL_law_1099 ?_
  refine n_sld C0 hbA hG (by omega) hx4 dL_law_1100 ?_
  obtain ⟨r_2, S_3, hc_1, hg_4, hg_5, hM⟩ := bdG2_some hM
  have hg_6 : gle S_3 OM := ⟨Nat.le_trans hg_5.1 hOM.1, Nat.le_trans hg_5.2 hOM.2⟩
  refine g_vi (As := [.int (iI x1), .int (iI x2), .int (iI x3), .int (iI x4)]) (rest := []) S hG.1 hG.2.1 (vX11_atoms l hG.2.2.2.1 x1 x2 x3 x4 hc_1) wV_GrownKindsLaw_129 (ec_0 (b := b) (cy := cy) (X := XD b cy S0) _) cpX11 (Nat.lt_of_lt_of_le (Nat.le_of_ble_eq_true rfl) hG.2.2.2.1) dL_law_1101 rfl hl.1 (ar := 4) (by decide +kernel) rfl ⟨Nat.le_of_ble_eq_true rfl, Nat.le_of_ble_eq_true rfl, hG.gcL hg_4 hg_6, hG.gsL hg_4 hg_6⟩ (Nat.le_of_ble_eq_true rfl) (fun rv uu H locs hp hGc => ?_)
  obtain ⟨rfl, rfl⟩ := hp
  replace hG := hG.grow hg_4 hg_6 hGc
  clear hGc
  refine lv_aload_n hx hb dL_law_1104 rfl (lv_at hl 1 rfl) ?_
  refine lv_aload_n hx hb dL_law_1105 rfl (lv_at hl 3 rfl) ?_
  refine lv_iload_n hx hb dL_law_1106 rfl (lv_at hl 0 rfl) ?_
  refine lv_iconst (v := iI 1) hx hb dL_law_1107 (by decide) ?_
  refine gi_add hx hb dL_law_1108 ?_
  refine n_sld C0 hbA hG (by omega) hx1 dL_law_1109 ?_
  refine lv_aload_n hx hb dL_law_1110 rfl (lv_at hl 3 rfl) ?_
  refine lv_iload_n hx hb dL_law_1111 rfl (lv_at hl 0 rfl) ?_
  refine lv_iconst (v := iI 2) hx hb dL_law_1112 (by decide) ?_
  refine gi_add hx hb dL_law_1113 ?_
  refine n_sld C0 hbA hG (by omega) hx2 dL_law_1114 ?_
  refine lv_aload_n hx hb dL_law_1115 rfl (lv_at hl 3 rfl) ?_
  refine lv_iload_n hx hb dL_law_1116 rfl (lv_at hl 0 rfl) ?_
  refine lv_iconst (v := iI 3) hx hb dL_law_1117 (by decide) ?_
  refine gi_add hx hb dL_law_1118 ?_
  refine n_sld C0 hbA hG (by omega) hx3 dL_law_1119 ?_
  refine lv_aload_n hx hb dL_law_1120 rfl (lv_at hl 3 rfl) ?_
  refine lv_iload_n hx hb dL_law_1121 rfl (lv_at hl 0 rfl) ?_
  refine lv_iconst (v := iI 4) hx hb dL_law_1122 (by decide) ?_
  refine gi_add hx hb dL_law_1123 ?_
  refine n_sld C0 hbA hG (by omega) hx4 dL_law_1124 ?_
  obtain ⟨r_8, S_9, hc_7, hM⟩ := bd2_some hM
  refine g_vi (As := [.int (iI x1), .int (iI x2), .int (iI x3), .int (iI x4)]) (rest := [.int (iI r_2)]) S hG.1 hG.2.1 (vX12_atoms l hG.2.2.2.1 x1 x2 x3 x4 hc_7) wV_GrownKindsLaw_132 (ec_83 (b := b) (cy := cy) (X := XD b cy S_3) _) cpX12 (Nat.lt_of_lt_of_le (Nat.le_of_ble_eq_true rfl) hG.2.2.2.1) dL_law_1125 rfl hl.1 (ar := 4) (by decide +kernel) rfl ⟨Nat.le_of_ble_eq_true rfl, Nat.le_of_ble_eq_true rfl, hG.rcL, hG.rsL⟩ (Nat.le_of_ble_eq_true rfl) (fun rv uu H locs hp hGc => ?_)
  obtain ⟨rfl, rfl⟩ := hp
  refine wz ?_
  replace hG := hG.back hGc
  clear hGc
  obtain ⟨S_10, eS_10⟩ : ∃ q, q = msk S_9 S_3 := ⟨_, rfl⟩
  rw [← eS_10] at hG
  replace hM := nx_at hM eS_10
  clear eS_10
  obtain ⟨hg_11, hM⟩ := gd_some hM
  refine gi_icmp_eq (tgt := 1854) hx hb dL_law_1128 (by decide) hg_11.1 hg_11.2 (fun c_12 => ?_) (fun c_12 => ?_)
  · replace hM := ifp hM c_12
    cases hM
    exact kk _ _ H locs ls hG hl
  · replace hM := ifn hM c_12
    cases hM
theorem wV_GrownKindsLaw_133 : gWV "GrownKindsLaw" 133 yX11_term cX11_term 5 (some .int) := ⟨wm_1437, wm_1438, wm_1439, wm_177, wm_1440, by decide +kernel, by decide +kernel⟩
theorem wV_GrownKindsLaw_136 : gWV "GrownKindsLaw" 136 yX12_term cX12_term 5 (some .int) := ⟨wm_2273, wm_2274, wm_2275, wm_188, wm_2276, by decide +kernel, by decide +kernel⟩
def mL_27 (x1 x2 x3 x4 x5 : Int) (S0 : St) : Option St := bdG2 S0 (fun o : St => o) (mX11_term S0 x1 x2 x3) fun r_2 S_3 => bd2 (mX12_term S_3 x1 x2 x3) fun r_8 S_9 => nx (msk S_9 S_3) fun S_10 => gd ((inI r_2) ∧ (inI r_8)) <| if r_2 = r_8 then (some (S_10)) else (none)
set_option maxHeartbeats 4000000 in
set_option maxRecDepth 100000 in
theorem lc_27 {p : Program} {l : Launch} {e : Env} {s : State} {m : MethodId} {below : List Frame} {meth : Method} {c : Code} {q0 : Nat} {xs : Nat → Int32} {D : va_G} {cy : Nat → ClassId} {b : Nat} {L : Nat} (hL : L ≤ 3072) (C0 : lw_At p s m meth c q0 L xs) (hbA : ¬ gA b q0) {i : Int} (hi : 0 ≤ i ∧ i + 6 ≤ L) {x1 x2 x3 x4 x5 : Int} (hx1 : (xs (i + 1).toNat).toInt = x1) (hx2 : (xs (i + 2).toNat).toInt = x2) (hx3 : (xs (i + 3).toNat).toInt = x3) (hx4 : (xs (i + 4).toNat).toInt = x4) (hx5 : (xs (i + 5).toNat).toInt = x5) {S0 S1 : St} (hM : mL_27 x1 x2 x3 x4 x5 S0 = some S1) (hOM : gle S1 OM) {ce sl : Nat} {H : Heap} {locs : List Loc} (hG : gX D cy b s H locs S0 ce sl OZ OM) {ls : Array Slot} (hl : lv_has ls 4 [(3, .int (iI i)), (2, .ref (b + 80)), (1, .ref (b + 0)), (0, .ref q0)]) (kk : ∀ (ce sl : Nat) (H : Heap) (locs : List Loc) (ls : Array Slot), gX D cy b s H locs S1 ce sl OZ OM → lv_has ls 4 [(3, .int (iI i)), (2, .ref (b + 80)), (1, .ref (b + 0)), (0, .ref q0)] → W p l e room_1 s m #[Value.ref q0] below meth c H locs ce sl (lw_Z below #[Value.ref q0] s) (F0 m 1854 ls [])) : W p l e room_1 s m #[Value.ref q0] below meth c H locs ce sl (lw_Z below #[Value.ref q0] s) (F0 m 1133 ls []) := by
  have hx := C0.1
  have hb := C0.2.1
  have S := lw_S C0
  unfold mL_27 at hM
  refine lv_aload_n hx hb dL_law_1133 rfl (lv_at hl 2 rfl) ?_
  refine lv_aload_n hx hb dL_law_1134 rfl (lv_at hl 3 rfl) ?_
  refine lv_iload_n hx hb dL_law_1135 rfl (lv_at hl 0 rfl) ?_
  refine lv_iconst (v := iI 1) hx hb dL_law_1136 (by decide) ?_
  refine gi_add hx hb dL_law_1137 ?_
  refine n_sld C0 hbA hG (by omega) hx1 dL_law_1138 ?_
  refine lv_aload_n hx hb dL_law_1139 rfl (lv_at hl 3 rfl) ?_
  refine lv_iload_n hx hb dL_law_1140 rfl (lv_at hl 0 rfl) ?_
  refine lv_iconst (v := iI 2) hx hb dL_law_1141 (by decide) ?_
  refine gi_add hx hb dL_law_1142 ?_
  refine n_sld C0 hbA hG (by omega) hx2 dL_law_1143 ?_
  refine lv_aload_n hx hb dL_law_1144 rfl (lv_at hl 3 rfl) ?_
  refine lv_iload_n hx hb dL_law_1145 rfl (lv_at hl 0 rfl) ?_
  refine lv_iconst (v := iI 3) hx hb dL_law_1146 (by decide) ?_
  refine gi_add hx hb dL_law_1147 ?_
  refine n_sld C0 hbA hG (by omega) hx3 dL_law_1148 ?_
  obtain ⟨r_2, S_3, hc_1, hg_4, hg_5, hM⟩ := bdG2_some hM
  have hg_6 : gle S_3 OM := ⟨Nat.le_trans hg_5.1 hOM.1, Nat.le_trans hg_5.2 hOM.2⟩
  refine g_vi (As := [.int (iI x1), .int (iI x2), .int (iI x3)]) (rest := []) S hG.1 hG.2.1 (vX11_term l hG.2.2.2.1 x1 x2 x3 hc_1) wV_GrownKindsLaw_133 (ec_0 (b := b) (cy := cy) (X := XD b cy S0) _) cpX11 (Nat.lt_of_lt_of_le (Nat.le_of_ble_eq_true rfl) hG.2.2.2.1) dL_law_1149 rfl hl.1 (ar := 3) (by decide +kernel) rfl ⟨Nat.le_of_ble_eq_true rfl, Nat.le_of_ble_eq_true rfl, hG.gcL hg_4 hg_6, hG.gsL hg_4 hg_6⟩ (Nat.le_of_ble_eq_true rfl) (fun rv uu H locs hp hGc => ?_)
  obtain ⟨rfl, rfl⟩ := hp
  replace hG := hG.grow hg_4 hg_6 hGc
  clear hGc
  refine lv_aload_n hx hb dL_law_1152 rfl (lv_at hl 1 rfl) ?_
  refine lv_aload_n hx hb dL_law_1153 rfl (lv_at hl 3 rfl) ?_
  refine lv_iload_n hx hb dL_law_1154 rfl (lv_at hl 0 rfl) ?_
  refine lv_iconst (v := iI 1) hx hb dL_law_1155 (by decide) ?_
  refine gi_add hx hb dL_law_1156 ?_
  refine n_sld C0 hbA hG (by omega) hx1 dL_law_1157 ?_
  refine lv_aload_n hx hb dL_law_1158 rfl (lv_at hl 3 rfl) ?_
  refine lv_iload_n hx hb dL_law_1159 rfl (lv_at hl 0 rfl) ?_
  refine lv_iconst (v := iI 2) hx hb dL_law_1160 (by decide) ?_
  refine gi_add hx hb dL_law_1161 ?_
  refine n_sld C0 hbA hG (by omega) hx2 dL_law_1162 ?_
  refine lv_aload_n hx hb dL_law_1163 rfl (lv_at hl 3 rfl) ?_
  refine lv_iload_n hx hb dL_law_1164 rfl (lv_at hl 0 rfl) ?_
  refine lv_iconst (v := iI 3) hx hb dL_law_1165 (by decide) ?_
  refine gi_add hx hb dL_law_1166 ?_
  refine n_sld C0 hbA hG (by omega) hx3 dL_law_1167 ?_
  obtain ⟨r_8, S_9, hc_7, hM⟩ := bd2_some hM
  refine g_vi (As := [.int (iI x1), .int (iI x2), .int (iI x3)]) (rest := [.int (iI r_2)]) S hG.1 hG.2.1 (vX12_term l hG.2.2.2.1 x1 x2 x3 hc_7) wV_GrownKindsLaw_136 (ec_83 (b := b) (cy := cy) (X := XD b cy S_3) _) cpX12 (Nat.lt_of_lt_of_le (Nat.le_of_ble_eq_true rfl) hG.2.2.2.1) dL_law_1168 rfl hl.1 (ar := 3) (by decide +kernel) rfl ⟨Nat.le_of_ble_eq_true rfl, Nat.le_of_ble_eq_true rfl, hG.rcL, hG.rsL⟩ (Nat.le_of_ble_eq_true rfl) (fun rv uu H locs hp hGc => ?_)
  obtain ⟨rfl, rfl⟩ := hp
  refine wz ?_
  replace hG := hG.back hGc
  clear hGc
  obtain ⟨S_10, eS_10⟩ : ∃ q, q = msk S_9 S_3 := ⟨_, rfl⟩
  rw [← eS_10] at hG
  replace hM := nx_at hM eS_10
  clear eS_10
  obtain ⟨hg_11, hM⟩ := gd_some hM
  refine gi_icmp_eq (tgt := 1854) hx hb dL_law_1171 (by decide) hg_11.1 hg_11.2 (fun c_12 => ?_) (fun c_12 => ?_)
  · replace hM := ifp hM c_12
    cases hM
    exact kk _ _ H locs ls hG hl
  · replace hM := ifn hM c_12
    cases hM
theorem wV_GrownKindsLaw_137 : gWV "GrownKindsLaw" 137 yX11_symmetries cX11_symmetries 5 (some .int) := ⟨wm_1441, wm_1442, wm_1443, wm_177, wm_1444, by decide +kernel, by decide +kernel⟩
theorem wV_GrownKindsLaw_140 : gWV "GrownKindsLaw" 140 yX12_symmetries cX12_symmetries 5 (some .int) := ⟨wm_2277, wm_2278, wm_2279, wm_188, wm_2280, by decide +kernel, by decide +kernel⟩
def mL_28 (x1 x2 x3 x4 x5 : Int) (S0 : St) : Option St := bdG2 S0 (fun o : St => o) (mX11_symmetries S0 x1 x2 x3) fun r_2 S_3 => bd2 (mX12_symmetries S_3 x1 x2 x3) fun r_8 S_9 => nx (msk S_9 S_3) fun S_10 => gd ((inI r_2) ∧ (inI r_8)) <| if r_2 = r_8 then (some (S_10)) else (none)
set_option maxHeartbeats 4000000 in
set_option maxRecDepth 100000 in
theorem lc_28 {p : Program} {l : Launch} {e : Env} {s : State} {m : MethodId} {below : List Frame} {meth : Method} {c : Code} {q0 : Nat} {xs : Nat → Int32} {D : va_G} {cy : Nat → ClassId} {b : Nat} {L : Nat} (hL : L ≤ 3072) (C0 : lw_At p s m meth c q0 L xs) (hbA : ¬ gA b q0) {i : Int} (hi : 0 ≤ i ∧ i + 6 ≤ L) {x1 x2 x3 x4 x5 : Int} (hx1 : (xs (i + 1).toNat).toInt = x1) (hx2 : (xs (i + 2).toNat).toInt = x2) (hx3 : (xs (i + 3).toNat).toInt = x3) (hx4 : (xs (i + 4).toNat).toInt = x4) (hx5 : (xs (i + 5).toNat).toInt = x5) {S0 S1 : St} (hM : mL_28 x1 x2 x3 x4 x5 S0 = some S1) (hOM : gle S1 OM) {ce sl : Nat} {H : Heap} {locs : List Loc} (hG : gX D cy b s H locs S0 ce sl OZ OM) {ls : Array Slot} (hl : lv_has ls 4 [(3, .int (iI i)), (2, .ref (b + 80)), (1, .ref (b + 0)), (0, .ref q0)]) (kk : ∀ (ce sl : Nat) (H : Heap) (locs : List Loc) (ls : Array Slot), gX D cy b s H locs S1 ce sl OZ OM → lv_has ls 4 [(3, .int (iI i)), (2, .ref (b + 80)), (1, .ref (b + 0)), (0, .ref q0)] → W p l e room_1 s m #[Value.ref q0] below meth c H locs ce sl (lw_Z below #[Value.ref q0] s) (F0 m 1854 ls [])) : W p l e room_1 s m #[Value.ref q0] below meth c H locs ce sl (lw_Z below #[Value.ref q0] s) (F0 m 1176 ls []) := by
  have hx := C0.1
  have hb := C0.2.1
  have S := lw_S C0
  unfold mL_28 at hM
  refine lv_aload_n hx hb dL_law_1176 rfl (lv_at hl 2 rfl) ?_
  refine lv_aload_n hx hb dL_law_1177 rfl (lv_at hl 3 rfl) ?_
  refine lv_iload_n hx hb dL_law_1178 rfl (lv_at hl 0 rfl) ?_
  refine lv_iconst (v := iI 1) hx hb dL_law_1179 (by decide) ?_
  refine gi_add hx hb dL_law_1180 ?_
  refine n_sld C0 hbA hG (by omega) hx1 dL_law_1181 ?_
  refine lv_aload_n hx hb dL_law_1182 rfl (lv_at hl 3 rfl) ?_
  refine lv_iload_n hx hb dL_law_1183 rfl (lv_at hl 0 rfl) ?_
  refine lv_iconst (v := iI 2) hx hb dL_law_1184 (by decide) ?_
  refine gi_add hx hb dL_law_1185 ?_
  refine n_sld C0 hbA hG (by omega) hx2 dL_law_1186 ?_
  refine lv_aload_n hx hb dL_law_1187 rfl (lv_at hl 3 rfl) ?_
  refine lv_iload_n hx hb dL_law_1188 rfl (lv_at hl 0 rfl) ?_
  refine lv_iconst (v := iI 3) hx hb dL_law_1189 (by decide) ?_
  refine gi_add hx hb dL_law_1190 ?_
  refine n_sld C0 hbA hG (by omega) hx3 dL_law_1191 ?_
  obtain ⟨r_2, S_3, hc_1, hg_4, hg_5, hM⟩ := bdG2_some hM
  have hg_6 : gle S_3 OM := ⟨Nat.le_trans hg_5.1 hOM.1, Nat.le_trans hg_5.2 hOM.2⟩
  refine g_vi (As := [.int (iI x1), .int (iI x2), .int (iI x3)]) (rest := []) S hG.1 hG.2.1 (vX11_symmetries l hG.2.2.2.1 x1 x2 x3 hc_1) wV_GrownKindsLaw_137 (ec_0 (b := b) (cy := cy) (X := XD b cy S0) _) cpX11 (Nat.lt_of_lt_of_le (Nat.le_of_ble_eq_true rfl) hG.2.2.2.1) dL_law_1192 rfl hl.1 (ar := 3) (by decide +kernel) rfl ⟨Nat.le_of_ble_eq_true rfl, Nat.le_of_ble_eq_true rfl, hG.gcL hg_4 hg_6, hG.gsL hg_4 hg_6⟩ (Nat.le_of_ble_eq_true rfl) (fun rv uu H locs hp hGc => ?_)
  obtain ⟨rfl, rfl⟩ := hp
  replace hG := hG.grow hg_4 hg_6 hGc
  clear hGc
  refine lv_aload_n hx hb dL_law_1195 rfl (lv_at hl 1 rfl) ?_
  refine lv_aload_n hx hb dL_law_1196 rfl (lv_at hl 3 rfl) ?_
  refine lv_iload_n hx hb dL_law_1197 rfl (lv_at hl 0 rfl) ?_
  refine lv_iconst (v := iI 1) hx hb dL_law_1198 (by decide) ?_
  refine gi_add hx hb dL_law_1199 ?_
  refine n_sld C0 hbA hG (by omega) hx1 dL_law_1200 ?_
  refine lv_aload_n hx hb dL_law_1201 rfl (lv_at hl 3 rfl) ?_
  refine lv_iload_n hx hb dL_law_1202 rfl (lv_at hl 0 rfl) ?_
  refine lv_iconst (v := iI 2) hx hb dL_law_1203 (by decide) ?_
  refine gi_add hx hb dL_law_1204 ?_
  refine n_sld C0 hbA hG (by omega) hx2 dL_law_1205 ?_
  refine lv_aload_n hx hb dL_law_1206 rfl (lv_at hl 3 rfl) ?_
  refine lv_iload_n hx hb dL_law_1207 rfl (lv_at hl 0 rfl) ?_
  refine lv_iconst (v := iI 3) hx hb dL_law_1208 (by decide) ?_
  refine gi_add hx hb dL_law_1209 ?_
  refine n_sld C0 hbA hG (by omega) hx3 dL_law_1210 ?_
  obtain ⟨r_8, S_9, hc_7, hM⟩ := bd2_some hM
  refine g_vi (As := [.int (iI x1), .int (iI x2), .int (iI x3)]) (rest := [.int (iI r_2)]) S hG.1 hG.2.1 (vX12_symmetries l hG.2.2.2.1 x1 x2 x3 hc_7) wV_GrownKindsLaw_140 (ec_83 (b := b) (cy := cy) (X := XD b cy S_3) _) cpX12 (Nat.lt_of_lt_of_le (Nat.le_of_ble_eq_true rfl) hG.2.2.2.1) dL_law_1211 rfl hl.1 (ar := 3) (by decide +kernel) rfl ⟨Nat.le_of_ble_eq_true rfl, Nat.le_of_ble_eq_true rfl, hG.rcL, hG.rsL⟩ (Nat.le_of_ble_eq_true rfl) (fun rv uu H locs hp hGc => ?_)
  obtain ⟨rfl, rfl⟩ := hp
  refine wz ?_
  replace hG := hG.back hGc
  clear hGc
  obtain ⟨S_10, eS_10⟩ : ∃ q, q = msk S_9 S_3 := ⟨_, rfl⟩
  rw [← eS_10] at hG
  replace hM := nx_at hM eS_10
  clear eS_10
  obtain ⟨hg_11, hM⟩ := gd_some hM
  refine gi_icmp_eq (tgt := 1854) hx hb dL_law_1214 (by decide) hg_11.1 hg_11.2 (fun c_12 => ?_) (fun c_12 => ?_)
  · replace hM := ifp hM c_12
    cases hM
    exact kk _ _ H locs ls hG hl
  · replace hM := ifn hM c_12
    cases hM
theorem wV_GrownKindsLaw_141 : gWV "GrownKindsLaw" 141 yX11_labels cX11_labels 5 (some .int) := ⟨wm_1445, wm_1446, wm_1447, wm_177, wm_1448, by decide +kernel, by decide +kernel⟩
theorem wV_GrownKindsLaw_144 : gWV "GrownKindsLaw" 144 yX12_labels cX12_labels 5 (some .int) := ⟨wm_2281, wm_2282, wm_2283, wm_188, wm_2284, by decide +kernel, by decide +kernel⟩
def mL_29 (x1 x2 x3 x4 x5 : Int) (S0 : St) : Option St := bdG2 S0 (fun o : St => o) (mX11_labels S0 x1 x2 x3) fun r_2 S_3 => bd2 (mX12_labels S_3 x1 x2 x3) fun r_8 S_9 => nx (msk S_9 S_3) fun S_10 => gd ((inI r_2) ∧ (inI r_8)) <| if r_2 = r_8 then (some (S_10)) else (none)
set_option maxHeartbeats 4000000 in
set_option maxRecDepth 100000 in
theorem lc_29 {p : Program} {l : Launch} {e : Env} {s : State} {m : MethodId} {below : List Frame} {meth : Method} {c : Code} {q0 : Nat} {xs : Nat → Int32} {D : va_G} {cy : Nat → ClassId} {b : Nat} {L : Nat} (hL : L ≤ 3072) (C0 : lw_At p s m meth c q0 L xs) (hbA : ¬ gA b q0) {i : Int} (hi : 0 ≤ i ∧ i + 6 ≤ L) {x1 x2 x3 x4 x5 : Int} (hx1 : (xs (i + 1).toNat).toInt = x1) (hx2 : (xs (i + 2).toNat).toInt = x2) (hx3 : (xs (i + 3).toNat).toInt = x3) (hx4 : (xs (i + 4).toNat).toInt = x4) (hx5 : (xs (i + 5).toNat).toInt = x5) {S0 S1 : St} (hM : mL_29 x1 x2 x3 x4 x5 S0 = some S1) (hOM : gle S1 OM) {ce sl : Nat} {H : Heap} {locs : List Loc} (hG : gX D cy b s H locs S0 ce sl OZ OM) {ls : Array Slot} (hl : lv_has ls 4 [(3, .int (iI i)), (2, .ref (b + 80)), (1, .ref (b + 0)), (0, .ref q0)]) (kk : ∀ (ce sl : Nat) (H : Heap) (locs : List Loc) (ls : Array Slot), gX D cy b s H locs S1 ce sl OZ OM → lv_has ls 4 [(3, .int (iI i)), (2, .ref (b + 80)), (1, .ref (b + 0)), (0, .ref q0)] → W p l e room_1 s m #[Value.ref q0] below meth c H locs ce sl (lw_Z below #[Value.ref q0] s) (F0 m 1854 ls [])) : W p l e room_1 s m #[Value.ref q0] below meth c H locs ce sl (lw_Z below #[Value.ref q0] s) (F0 m 1219 ls []) := by
  have hx := C0.1
  have hb := C0.2.1
  have S := lw_S C0
  unfold mL_29 at hM
  refine lv_aload_n hx hb dL_law_1219 rfl (lv_at hl 2 rfl) ?_
  refine lv_aload_n hx hb dL_law_1220 rfl (lv_at hl 3 rfl) ?_
  refine lv_iload_n hx hb dL_law_1221 rfl (lv_at hl 0 rfl) ?_
  refine lv_iconst (v := iI 1) hx hb dL_law_1222 (by decide) ?_
  refine gi_add hx hb dL_law_1223 ?_
  refine n_sld C0 hbA hG (by omega) hx1 dL_law_1224 ?_
  refine lv_aload_n hx hb dL_law_1225 rfl (lv_at hl 3 rfl) ?_
  refine lv_iload_n hx hb dL_law_1226 rfl (lv_at hl 0 rfl) ?_
  refine lv_iconst (v := iI 2) hx hb dL_law_1227 (by decide) ?_
  refine gi_add hx hb dL_law_1228 ?_
  refine n_sld C0 hbA hG (by omega) hx2 dL_law_1229 ?_
  refine lv_aload_n hx hb dL_law_1230 rfl (lv_at hl 3 rfl) ?_
  refine lv_iload_n hx hb dL_law_1231 rfl (lv_at hl 0 rfl) ?_
  refine lv_iconst (v := iI 3) hx hb dL_law_1232 (by decide) ?_
  refine gi_add hx hb dL_law_1233 ?_
  refine n_sld C0 hbA hG (by omega) hx3 dL_law_1234 ?_
  obtain ⟨r_2, S_3, hc_1, hg_4, hg_5, hM⟩ := bdG2_some hM
  have hg_6 : gle S_3 OM := ⟨Nat.le_trans hg_5.1 hOM.1, Nat.le_trans hg_5.2 hOM.2⟩
  refine g_vi (As := [.int (iI x1), .int (iI x2), .int (iI x3)]) (rest := []) S hG.1 hG.2.1 (vX11_labels l hG.2.2.2.1 x1 x2 x3 hc_1) wV_GrownKindsLaw_141 (ec_0 (b := b) (cy := cy) (X := XD b cy S0) _) cpX11 (Nat.lt_of_lt_of_le (Nat.le_of_ble_eq_true rfl) hG.2.2.2.1) dL_law_1235 rfl hl.1 (ar := 3) (by decide +kernel) rfl ⟨Nat.le_of_ble_eq_true rfl, Nat.le_of_ble_eq_true rfl, hG.gcL hg_4 hg_6, hG.gsL hg_4 hg_6⟩ (Nat.le_of_ble_eq_true rfl) (fun rv uu H locs hp hGc => ?_)
  obtain ⟨rfl, rfl⟩ := hp
  replace hG := hG.grow hg_4 hg_6 hGc
  clear hGc
  refine lv_aload_n hx hb dL_law_1238 rfl (lv_at hl 1 rfl) ?_
  refine lv_aload_n hx hb dL_law_1239 rfl (lv_at hl 3 rfl) ?_
  refine lv_iload_n hx hb dL_law_1240 rfl (lv_at hl 0 rfl) ?_
  refine lv_iconst (v := iI 1) hx hb dL_law_1241 (by decide) ?_
  refine gi_add hx hb dL_law_1242 ?_
  refine n_sld C0 hbA hG (by omega) hx1 dL_law_1243 ?_
  refine lv_aload_n hx hb dL_law_1244 rfl (lv_at hl 3 rfl) ?_
  refine lv_iload_n hx hb dL_law_1245 rfl (lv_at hl 0 rfl) ?_
  refine lv_iconst (v := iI 2) hx hb dL_law_1246 (by decide) ?_
  refine gi_add hx hb dL_law_1247 ?_
  refine n_sld C0 hbA hG (by omega) hx2 dL_law_1248 ?_
  refine lv_aload_n hx hb dL_law_1249 rfl (lv_at hl 3 rfl) ?_
  refine lv_iload_n hx hb dL_law_1250 rfl (lv_at hl 0 rfl) ?_
  refine lv_iconst (v := iI 3) hx hb dL_law_1251 (by decide) ?_
  refine gi_add hx hb dL_law_1252 ?_
  refine n_sld C0 hbA hG (by omega) hx3 dL_law_1253 ?_
  obtain ⟨r_8, S_9, hc_7, hM⟩ := bd2_some hM
  refine g_vi (As := [.int (iI x1), .int (iI x2), .int (iI x3)]) (rest := [.int (iI r_2)]) S hG.1 hG.2.1 (vX12_labels l hG.2.2.2.1 x1 x2 x3 hc_7) wV_GrownKindsLaw_144 (ec_83 (b := b) (cy := cy) (X := XD b cy S_3) _) cpX12 (Nat.lt_of_lt_of_le (Nat.le_of_ble_eq_true rfl) hG.2.2.2.1) dL_law_1254 rfl hl.1 (ar := 3) (by decide +kernel) rfl ⟨Nat.le_of_ble_eq_true rfl, Nat.le_of_ble_eq_true rfl, hG.rcL, hG.rsL⟩ (Nat.le_of_ble_eq_true rfl) (fun rv uu H locs hp hGc => ?_)
  obtain ⟨rfl, rfl⟩ := hp
  refine wz ?_
  replace hG := hG.back hGc
  clear hGc
  obtain ⟨S_10, eS_10⟩ : ∃ q, q = msk S_9 S_3 := ⟨_, rfl⟩
  rw [← eS_10] at hG
  replace hM := nx_at hM eS_10
  clear eS_10
  obtain ⟨hg_11, hM⟩ := gd_some hM
  refine gi_icmp_eq (tgt := 1854) hx hb dL_law_1257 (by decide) hg_11.1 hg_11.2 (fun c_12 => ?_) (fun c_12 => ?_)
  · replace hM := ifp hM c_12
    cases hM
    exact kk _ _ H locs ls hG hl
  · replace hM := ifn hM c_12
    cases hM
theorem wV_GrownKindsLaw_145 : gWV "GrownKindsLaw" 145 yX11_tells cX11_tells 5 (some .int) := ⟨wm_1450, wm_1451, wm_1452, wm_177, wm_1453, by decide +kernel, by decide +kernel⟩
theorem wV_GrownKindsLaw_148 : gWV "GrownKindsLaw" 148 yX12_tells cX12_tells 7 (some .int) := ⟨wm_2286, wm_2287, wm_2288, wm_188, wm_2289, by decide +kernel, by decide +kernel⟩
def mL_30 (x1 x2 x3 x4 x5 : Int) (S0 : St) : Option St := bdG2 S0 (fun o : St => o) (mX11_tells S0 x1) fun r_2 S_3 => bd2 (mX12_tells S_3 x1) fun r_8 S_9 => nx (msk S_9 S_3) fun S_10 => gd ((inI r_2) ∧ (inI r_8)) <| if r_2 = r_8 then (some (S_10)) else (none)
set_option maxHeartbeats 4000000 in
set_option maxRecDepth 100000 in
theorem lc_30 {p : Program} {l : Launch} {e : Env} {s : State} {m : MethodId} {below : List Frame} {meth : Method} {c : Code} {q0 : Nat} {xs : Nat → Int32} {D : va_G} {cy : Nat → ClassId} {b : Nat} {L : Nat} (hL : L ≤ 3072) (C0 : lw_At p s m meth c q0 L xs) (hbA : ¬ gA b q0) {i : Int} (hi : 0 ≤ i ∧ i + 6 ≤ L) {x1 x2 x3 x4 x5 : Int} (hx1 : (xs (i + 1).toNat).toInt = x1) (hx2 : (xs (i + 2).toNat).toInt = x2) (hx3 : (xs (i + 3).toNat).toInt = x3) (hx4 : (xs (i + 4).toNat).toInt = x4) (hx5 : (xs (i + 5).toNat).toInt = x5) {S0 S1 : St} (hM : mL_30 x1 x2 x3 x4 x5 S0 = some S1) (hOM : gle S1 OM) {ce sl : Nat} {H : Heap} {locs : List Loc} (hG : gX D cy b s H locs S0 ce sl OZ OM) {ls : Array Slot} (hl : lv_has ls 4 [(3, .int (iI i)), (2, .ref (b + 80)), (1, .ref (b + 0)), (0, .ref q0)]) (kk : ∀ (ce sl : Nat) (H : Heap) (locs : List Loc) (ls : Array Slot), gX D cy b s H locs S1 ce sl OZ OM → lv_has ls 4 [(3, .int (iI i)), (2, .ref (b + 80)), (1, .ref (b + 0)), (0, .ref q0)] → W p l e room_1 s m #[Value.ref q0] below meth c H locs ce sl (lw_Z below #[Value.ref q0] s) (F0 m 1854 ls [])) : W p l e room_1 s m #[Value.ref q0] below meth c H locs ce sl (lw_Z below #[Value.ref q0] s) (F0 m 1262 ls []) := by
  have hx := C0.1
  have hb := C0.2.1
  have S := lw_S C0
  unfold mL_30 at hM
  refine lv_aload_n hx hb dL_law_1262 rfl (lv_at hl 2 rfl) ?_
  refine lv_aload_n hx hb dL_law_1263 rfl (lv_at hl 3 rfl) ?_
  refine lv_iload_n hx hb dL_law_1264 rfl (lv_at hl 0 rfl) ?_
  refine lv_iconst (v := iI 1) hx hb dL_law_1265 (by decide) ?_
  refine gi_add hx hb dL_law_1266 ?_
  refine n_sld C0 hbA hG (by omega) hx1 dL_law_1267 ?_
  obtain ⟨r_2, S_3, hc_1, hg_4, hg_5, hM⟩ := bdG2_some hM
  have hg_6 : gle S_3 OM := ⟨Nat.le_trans hg_5.1 hOM.1, Nat.le_trans hg_5.2 hOM.2⟩
  refine g_vi (As := [.int (iI x1)]) (rest := []) S hG.1 hG.2.1 (vX11_tells l hG.2.2.2.1 x1 hc_1) wV_GrownKindsLaw_145 (ec_0 (b := b) (cy := cy) (X := XD b cy S0) _) cpX11 (Nat.lt_of_lt_of_le (Nat.le_of_ble_eq_true rfl) hG.2.2.2.1) dL_law_1268 rfl hl.1 (ar := 1) (by decide +kernel) rfl ⟨Nat.le_of_ble_eq_true rfl, Nat.le_of_ble_eq_true rfl, hG.gcL hg_4 hg_6, hG.gsL hg_4 hg_6⟩ (Nat.le_of_ble_eq_true rfl) (fun rv uu H locs hp hGc => ?_)
  obtain ⟨rfl, rfl⟩ := hp
  replace hG := hG.grow hg_4 hg_6 hGc
  clear hGc
  refine lv_aload_n hx hb dL_law_1271 rfl (lv_at hl 1 rfl) ?_
  refine lv_aload_n hx hb dL_law_1272 rfl (lv_at hl 3 rfl) ?_
  refine lv_iload_n hx hb dL_law_1273 rfl (lv_at hl 0 rfl) ?_
  refine lv_iconst (v := iI 1) hx hb dL_law_1274 (by decide) ?_
  refine gi_add hx hb dL_law_1275 ?_
  refine n_sld C0 hbA hG (by omega) hx1 dL_law_1276 ?_
  obtain ⟨r_8, S_9, hc_7, hM⟩ := bd2_some hM
  refine g_vi (As := [.int (iI x1)]) (rest := [.int (iI r_2)]) S hG.1 hG.2.1 (vX12_tells l hG.2.2.2.1 x1 hc_7) wV_GrownKindsLaw_148 (ec_83 (b := b) (cy := cy) (X := XD b cy S_3) _) cpX12 (Nat.lt_of_lt_of_le (Nat.le_of_ble_eq_true rfl) hG.2.2.2.1) dL_law_1277 rfl hl.1 (ar := 1) (by decide +kernel) rfl ⟨Nat.le_of_ble_eq_true rfl, Nat.le_of_ble_eq_true rfl, hG.rcL, hG.rsL⟩ (Nat.le_of_ble_eq_true rfl) (fun rv uu H locs hp hGc => ?_)
  obtain ⟨rfl, rfl⟩ := hp
  refine wz ?_
  replace hG := hG.back hGc
  clear hGc
  obtain ⟨S_10, eS_10⟩ : ∃ q, q = msk S_9 S_3 := ⟨_, rfl⟩
  rw [← eS_10] at hG
  replace hM := nx_at hM eS_10
  clear eS_10
  obtain ⟨hg_11, hM⟩ := gd_some hM
  refine gi_icmp_eq (tgt := 1854) hx hb dL_law_1280 (by decide) hg_11.1 hg_11.2 (fun c_12 => ?_) (fun c_12 => ?_)
  · replace hM := ifp hM c_12
    cases hM
    exact kk _ _ H locs ls hG hl
  · replace hM := ifn hM c_12
    cases hM
theorem wV_GrownKindsLaw_149 : gWV "GrownKindsLaw" 149 yX11_told cX11_told 2 (some .int) := ⟨wm_1526, wm_1527, wm_1528, wm_177, wm_1529, by decide +kernel, by decide +kernel⟩
theorem wV_GrownKindsLaw_152 : gWV "GrownKindsLaw" 152 yX12_told cX12_told 2 (some .int) := ⟨wm_2346, wm_2347, wm_2348, wm_188, wm_2349, by decide +kernel, by decide +kernel⟩
def mL_31 (x1 x2 x3 x4 x5 : Int) (S0 : St) : Option St := bd1 (mX11_told S0 x1) fun r_2 => bd1 (mX12_told S0 x1) fun r_4 => gd ((inI r_2) ∧ (inI r_4)) <| if r_2 = r_4 then (some (S0)) else (none)
set_option maxHeartbeats 4000000 in
set_option maxRecDepth 100000 in
theorem lc_31 {p : Program} {l : Launch} {e : Env} {s : State} {m : MethodId} {below : List Frame} {meth : Method} {c : Code} {q0 : Nat} {xs : Nat → Int32} {D : va_G} {cy : Nat → ClassId} {b : Nat} {L : Nat} (hL : L ≤ 3072) (C0 : lw_At p s m meth c q0 L xs) (hbA : ¬ gA b q0) {i : Int} (hi : 0 ≤ i ∧ i + 6 ≤ L) {x1 x2 x3 x4 x5 : Int} (hx1 : (xs (i + 1).toNat).toInt = x1) (hx2 : (xs (i + 2).toNat).toInt = x2) (hx3 : (xs (i + 3).toNat).toInt = x3) (hx4 : (xs (i + 4).toNat).toInt = x4) (hx5 : (xs (i + 5).toNat).toInt = x5) {S0 S1 : St} (hM : mL_31 x1 x2 x3 x4 x5 S0 = some S1) (hOM : gle S1 OM) {ce sl : Nat} {H : Heap} {locs : List Loc} (hG : gX D cy b s H locs S0 ce sl OZ OM) {ls : Array Slot} (hl : lv_has ls 4 [(3, .int (iI i)), (2, .ref (b + 80)), (1, .ref (b + 0)), (0, .ref q0)]) (kk : ∀ (ce sl : Nat) (H : Heap) (locs : List Loc) (ls : Array Slot), gX D cy b s H locs S1 ce sl OZ OM → lv_has ls 4 [(3, .int (iI i)), (2, .ref (b + 80)), (1, .ref (b + 0)), (0, .ref q0)] → W p l e room_1 s m #[Value.ref q0] below meth c H locs ce sl (lw_Z below #[Value.ref q0] s) (F0 m 1854 ls [])) : W p l e room_1 s m #[Value.ref q0] below meth c H locs ce sl (lw_Z below #[Value.ref q0] s) (F0 m 1285 ls []) := by
  have hx := C0.1
  have hb := C0.2.1
  have S := lw_S C0
  unfold mL_31 at hM
  refine lv_aload_n hx hb dL_law_1285 rfl (lv_at hl 2 rfl) ?_
  refine lv_aload_n hx hb dL_law_1286 rfl (lv_at hl 3 rfl) ?_
  refine lv_iload_n hx hb dL_law_1287 rfl (lv_at hl 0 rfl) ?_
  refine lv_iconst (v := iI 1) hx hb dL_law_1288 (by decide) ?_
  refine gi_add hx hb dL_law_1289 ?_
  refine n_sld C0 hbA hG (by omega) hx1 dL_law_1290 ?_
  obtain ⟨r_2, hc_1, hM⟩ := bd1_some hM
  refine g_vi (As := [.int (iI x1)]) (rest := []) S hG.1 hG.2.1 (vX11_told l hG.2.2.2.1 x1 hc_1) wV_GrownKindsLaw_149 (ec_0 (b := b) (cy := cy) (X := XD b cy S0) _) cpX11 (Nat.lt_of_lt_of_le (Nat.le_of_ble_eq_true rfl) hG.2.2.2.1) dL_law_1291 rfl hl.1 (ar := 1) (by decide +kernel) rfl ⟨Nat.le_of_ble_eq_true rfl, Nat.le_of_ble_eq_true rfl, hG.rcL, hG.rsL⟩ (Nat.le_of_ble_eq_true rfl) (fun rv uu H locs hp hGc => ?_)
  obtain ⟨rfl, rfl⟩ := hp
  refine wz ?_
  replace hG := hG.same hGc
  clear hGc
  refine lv_aload_n hx hb dL_law_1294 rfl (lv_at hl 1 rfl) ?_
  refine lv_aload_n hx hb dL_law_1295 rfl (lv_at hl 3 rfl) ?_
  refine lv_iload_n hx hb dL_law_1296 rfl (lv_at hl 0 rfl) ?_
  refine lv_iconst (v := iI 1) hx hb dL_law_1297 (by decide) ?_
  refine gi_add hx hb dL_law_1298 ?_
  refine n_sld C0 hbA hG (by omega) hx1 dL_law_1299 ?_
  obtain ⟨r_4, hc_3, hM⟩ := bd1_some hM
  refine g_vi (As := [.int (iI x1)]) (rest := [.int (iI r_2)]) S hG.1 hG.2.1 (vX12_told l hG.2.2.2.1 x1 hc_3) wV_GrownKindsLaw_152 (ec_83 (b := b) (cy := cy) (X := XD b cy S0) _) cpX12 (Nat.lt_of_lt_of_le (Nat.le_of_ble_eq_true rfl) hG.2.2.2.1) dL_law_1300 rfl hl.1 (ar := 1) (by decide +kernel) rfl ⟨Nat.le_of_ble_eq_true rfl, Nat.le_of_ble_eq_true rfl, hG.rcL, hG.rsL⟩ (Nat.le_of_ble_eq_true rfl) (fun rv uu H locs hp hGc => ?_)
  obtain ⟨rfl, rfl⟩ := hp
  refine wz ?_
  replace hG := hG.same hGc
  clear hGc
  obtain ⟨hg_5, hM⟩ := gd_some hM
  refine gi_icmp_eq (tgt := 1854) hx hb dL_law_1303 (by decide) hg_5.1 hg_5.2 (fun c_6 => ?_) (fun c_6 => ?_)
  · replace hM := ifp hM c_6
    cases hM
    exact kk _ _ H locs ls hG hl
  · replace hM := ifn hM c_6
    cases hM

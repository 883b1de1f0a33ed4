theorem tw58 : Cond.initialized "CanvasRoomLaw" ∈ TW := tw_in 58 (by decide +kernel) (by decide +kernel)
theorem tw219 : Cond.codeWith ⟨"CanvasRoomLaw","add","(LCanvasRoom;IIIIII[J)I"⟩ method_3_code 9 (some .int) [(0, 18, 21, 13), (0, 18, 25, 15), (0, 18, 29, 17)] ∈ TW := tw_in 219 (by decide +kernel) (by decide +kernel)
theorem tw220 : Cond.classLink "CanvasRoomLaw" 13 "java/lang/IndexOutOfBoundsException" ∈ TW := tw_in 220 (by decide +kernel) (by decide +kernel)
theorem tw221 : Cond.classLink "CanvasRoomLaw" 15 "java/lang/IllegalArgumentException" ∈ TW := tw_in 221 (by decide +kernel) (by decide +kernel)
theorem tw222 : Cond.classLink "CanvasRoomLaw" 17 "java/lang/IllegalStateException" ∈ TW := tw_in 222 (by decide +kernel) (by decide +kernel)
theorem tw223 : Cond.methodLink "CanvasRoomLaw" 7 ⟨"CanvasRoom","add","(IIIIII)I"⟩ ∈ TW := tw_in 223 (by decide +kernel) (by decide +kernel)
theorem tw224 : Cond.instanceMethod ⟨"CanvasRoom","add","(IIIIII)I"⟩ ∈ TW := tw_in 224 (by decide +kernel) (by decide +kernel)
theorem tw225 : Cond.selects "CanvasRoom" ⟨"CanvasRoom","add","(IIIIII)I"⟩ ⟨"CanvasRoom","add","(IIIIII)I"⟩ ∈ TW := tw_in 225 (by decide +kernel) (by decide +kernel)
theorem tw232 : Cond.castable "java/lang/IndexOutOfBoundsException" "java/lang/IndexOutOfBoundsException" ∈ TW := tw_in 232 (by decide +kernel) (by decide +kernel)
theorem tw306 : Cond.castable "java/lang/IllegalArgumentException" "java/lang/IllegalArgumentException" ∈ TW := tw_in 306 (by decide +kernel) (by decide +kernel)
theorem tw322 : Cond.castable "java/lang/IllegalStateException" "java/lang/IllegalStateException" ∈ TW := tw_in 322 (by decide +kernel) (by decide +kernel)
theorem tw523 : Cond.codeWith ⟨"CanvasRoomLaw","move","(LCanvasRoom;IIII[J)I"⟩ method_4_code 7 (some .int) [(0, 14, 17, 13), (0, 14, 21, 15), (0, 14, 25, 17)] ∈ TW := tw_in 523 (by decide +kernel) (by decide +kernel)
theorem tw524 : Cond.methodLink "CanvasRoomLaw" 19 ⟨"CanvasRoom","move","(IIII)I"⟩ ∈ TW := tw_in 524 (by decide +kernel) (by decide +kernel)
theorem tw525 : Cond.instanceMethod ⟨"CanvasRoom","move","(IIII)I"⟩ ∈ TW := tw_in 525 (by decide +kernel) (by decide +kernel)
theorem tw526 : Cond.selects "CanvasRoom" ⟨"CanvasRoom","move","(IIII)I"⟩ ⟨"CanvasRoom","move","(IIII)I"⟩ ∈ TW := tw_in 526 (by decide +kernel) (by decide +kernel)
theorem tw556 : Cond.codeWith ⟨"CanvasRoomLaw","paint","(LCanvasRoom;III[J)I"⟩ method_5_code 6 (some .int) [(0, 12, 15, 13), (0, 12, 19, 15), (0, 12, 23, 17)] ∈ TW := tw_in 556 (by decide +kernel) (by decide +kernel)
theorem tw557 : Cond.methodLink "CanvasRoomLaw" 23 ⟨"CanvasRoom","paint","(III)I"⟩ ∈ TW := tw_in 557 (by decide +kernel) (by decide +kernel)
theorem tw558 : Cond.instanceMethod ⟨"CanvasRoom","paint","(III)I"⟩ ∈ TW := tw_in 558 (by decide +kernel) (by decide +kernel)
theorem tw559 : Cond.selects "CanvasRoom" ⟨"CanvasRoom","paint","(III)I"⟩ ⟨"CanvasRoom","paint","(III)I"⟩ ∈ TW := tw_in 559 (by decide +kernel) (by decide +kernel)
theorem tw563 : Cond.codeWith ⟨"CanvasRoomLaw","layer","(LCanvasRoom;IIZ[J)I"⟩ method_6_code 6 (some .int) [(0, 12, 15, 13), (0, 12, 19, 17)] ∈ TW := tw_in 563 (by decide +kernel) (by decide +kernel)
theorem tw564 : Cond.methodLink "CanvasRoomLaw" 27 ⟨"CanvasRoom","layer","(IIZ)I"⟩ ∈ TW := tw_in 564 (by decide +kernel) (by decide +kernel)
theorem tw565 : Cond.instanceMethod ⟨"CanvasRoom","layer","(IIZ)I"⟩ ∈ TW := tw_in 565 (by decide +kernel) (by decide +kernel)
theorem tw566 : Cond.selects "CanvasRoom" ⟨"CanvasRoom","layer","(IIZ)I"⟩ ⟨"CanvasRoom","layer","(IIZ)I"⟩ ∈ TW := tw_in 566 (by decide +kernel) (by decide +kernel)
theorem tw571 : Cond.codeWith ⟨"CanvasRoomLaw","join","(LCanvasRoom;III[J)I"⟩ method_7_code 6 (some .int) [(0, 12, 15, 13), (0, 12, 19, 15), (0, 12, 23, 17)] ∈ TW := tw_in 571 (by decide +kernel) (by decide +kernel)
theorem tw572 : Cond.methodLink "CanvasRoomLaw" 31 ⟨"CanvasRoom","join","(III)I"⟩ ∈ TW := tw_in 572 (by decide +kernel) (by decide +kernel)
theorem tw573 : Cond.instanceMethod ⟨"CanvasRoom","join","(III)I"⟩ ∈ TW := tw_in 573 (by decide +kernel) (by decide +kernel)
theorem tw574 : Cond.selects "CanvasRoom" ⟨"CanvasRoom","join","(III)I"⟩ ⟨"CanvasRoom","join","(III)I"⟩ ∈ TW := tw_in 574 (by decide +kernel) (by decide +kernel)
theorem tw579 : Cond.codeWith ⟨"CanvasRoomLaw","part","(LCanvasRoom;II[J)I"⟩ method_8_code 5 (some .int) [(0, 10, 13, 13), (0, 10, 17, 17)] ∈ TW := tw_in 579 (by decide +kernel) (by decide +kernel)
theorem tw580 : Cond.methodLink "CanvasRoomLaw" 34 ⟨"CanvasRoom","part","(II)I"⟩ ∈ TW := tw_in 580 (by decide +kernel) (by decide +kernel)
theorem tw581 : Cond.instanceMethod ⟨"CanvasRoom","part","(II)I"⟩ ∈ TW := tw_in 581 (by decide +kernel) (by decide +kernel)
theorem tw582 : Cond.selects "CanvasRoom" ⟨"CanvasRoom","part","(II)I"⟩ ⟨"CanvasRoom","part","(II)I"⟩ ∈ TW := tw_in 582 (by decide +kernel) (by decide +kernel)
theorem tw586 : Cond.codeWith ⟨"CanvasRoomLaw","drop","(LCanvasRoom;II[J)I"⟩ method_9_code 5 (some .int) [(0, 10, 13, 13), (0, 10, 17, 17)] ∈ TW := tw_in 586 (by decide +kernel) (by decide +kernel)
theorem tw587 : Cond.methodLink "CanvasRoomLaw" 38 ⟨"CanvasRoom","drop","(II)I"⟩ ∈ TW := tw_in 587 (by decide +kernel) (by decide +kernel)
theorem tw588 : Cond.instanceMethod ⟨"CanvasRoom","drop","(II)I"⟩ ∈ TW := tw_in 588 (by decide +kernel) (by decide +kernel)
theorem tw589 : Cond.selects "CanvasRoom" ⟨"CanvasRoom","drop","(II)I"⟩ ⟨"CanvasRoom","drop","(II)I"⟩ ∈ TW := tw_in 589 (by decide +kernel) (by decide +kernel)
theorem tw593 : Cond.codeWith ⟨"CanvasRoomLaw","undo","(LCanvasRoom;I[J)I"⟩ method_10_code 4 (some .int) [(0, 9, 12, 13), (0, 9, 15, 17)] ∈ TW := tw_in 593 (by decide +kernel) (by decide +kernel)
theorem tw594 : Cond.methodLink "CanvasRoomLaw" 41 ⟨"CanvasRoom","undo","(I)I"⟩ ∈ TW := tw_in 594 (by decide +kernel) (by decide +kernel)
theorem tw595 : Cond.instanceMethod ⟨"CanvasRoom","undo","(I)I"⟩ ∈ TW := tw_in 595 (by decide +kernel) (by decide +kernel)
theorem tw596 : Cond.selects "CanvasRoom" ⟨"CanvasRoom","undo","(I)I"⟩ ⟨"CanvasRoom","undo","(I)I"⟩ ∈ TW := tw_in 596 (by decide +kernel) (by decide +kernel)
theorem tw626 : Cond.codeWith ⟨"CanvasRoomLaw","redo","(LCanvasRoom;I[J)I"⟩ method_11_code 4 (some .int) [(0, 9, 12, 13), (0, 9, 15, 17)] ∈ TW := tw_in 626 (by decide +kernel) (by decide +kernel)
theorem tw627 : Cond.methodLink "CanvasRoomLaw" 45 ⟨"CanvasRoom","redo","(I)I"⟩ ∈ TW := tw_in 627 (by decide +kernel) (by decide +kernel)
theorem tw628 : Cond.instanceMethod ⟨"CanvasRoom","redo","(I)I"⟩ ∈ TW := tw_in 628 (by decide +kernel) (by decide +kernel)
theorem tw629 : Cond.selects "CanvasRoom" ⟨"CanvasRoom","redo","(I)I"⟩ ⟨"CanvasRoom","redo","(I)I"⟩ ∈ TW := tw_in 629 (by decide +kernel) (by decide +kernel)
theorem tw638 : Cond.codeWith ⟨"CanvasRoomLaw","isLive","(LCanvasRoom;I[J)I"⟩ method_12_code 4 (some .int) [(0, 16, 19, 13)] ∈ TW := tw_in 638 (by decide +kernel) (by decide +kernel)
theorem tw639 : Cond.methodLink "CanvasRoomLaw" 48 ⟨"CanvasRoom","isLive","(I)Z"⟩ ∈ TW := tw_in 639 (by decide +kernel) (by decide +kernel)
theorem tw640 : Cond.instanceMethod ⟨"CanvasRoom","isLive","(I)Z"⟩ ∈ TW := tw_in 640 (by decide +kernel) (by decide +kernel)
theorem tw641 : Cond.selects "CanvasRoom" ⟨"CanvasRoom","isLive","(I)Z"⟩ ⟨"CanvasRoom","isLive","(I)Z"⟩ ∈ TW := tw_in 641 (by decide +kernel) (by decide +kernel)
theorem tw650 : Cond.codeWith ⟨"CanvasRoomLaw","holder","(LCanvasRoom;I[J)I"⟩ method_13_code 4 (some .int) [(0, 9, 12, 13)] ∈ TW := tw_in 650 (by decide +kernel) (by decide +kernel)
theorem tw651 : Cond.methodLink "CanvasRoomLaw" 52 ⟨"CanvasRoom","holder","(I)I"⟩ ∈ TW := tw_in 651 (by decide +kernel) (by decide +kernel)
theorem tw652 : Cond.instanceMethod ⟨"CanvasRoom","holder","(I)I"⟩ ∈ TW := tw_in 652 (by decide +kernel) (by decide +kernel)
theorem tw653 : Cond.selects "CanvasRoom" ⟨"CanvasRoom","holder","(I)I"⟩ ⟨"CanvasRoom","holder","(I)I"⟩ ∈ TW := tw_in 653 (by decide +kernel) (by decide +kernel)
theorem tw657 : Cond.codeWith ⟨"CanvasRoomLaw","place","(LCanvasRoom;I[J)I"⟩ method_14_code 4 (some .int) [(0, 9, 12, 13), (0, 9, 15, 17)] ∈ TW := tw_in 657 (by decide +kernel) (by decide +kernel)
theorem tw658 : Cond.methodLink "CanvasRoomLaw" 55 ⟨"CanvasRoom","place","(I)I"⟩ ∈ TW := tw_in 658 (by decide +kernel) (by decide +kernel)
theorem tw659 : Cond.instanceMethod ⟨"CanvasRoom","place","(I)I"⟩ ∈ TW := tw_in 659 (by decide +kernel) (by decide +kernel)
theorem tw660 : Cond.selects "CanvasRoom" ⟨"CanvasRoom","place","(I)I"⟩ ⟨"CanvasRoom","place","(I)I"⟩ ∈ TW := tw_in 660 (by decide +kernel) (by decide +kernel)
theorem tw665 : Cond.codeWith ⟨"CanvasRoomLaw","colour","(LCanvasRoom;I[J)I"⟩ method_15_code 4 (some .int) [(0, 9, 12, 13)] ∈ TW := tw_in 665 (by decide +kernel) (by decide +kernel)
theorem tw666 : Cond.methodLink "CanvasRoomLaw" 58 ⟨"CanvasRoom","colour","(I)I"⟩ ∈ TW := tw_in 666 (by decide +kernel) (by decide +kernel)
theorem tw667 : Cond.instanceMethod ⟨"CanvasRoom","colour","(I)I"⟩ ∈ TW := tw_in 667 (by decide +kernel) (by decide +kernel)
theorem tw668 : Cond.selects "CanvasRoom" ⟨"CanvasRoom","colour","(I)I"⟩ ⟨"CanvasRoom","colour","(I)I"⟩ ∈ TW := tw_in 668 (by decide +kernel) (by decide +kernel)
theorem tw672 : Cond.codeWith ⟨"CanvasRoomLaw","above","(LCanvasRoom;I[J)I"⟩ method_16_code 4 (some .int) [(0, 9, 12, 13)] ∈ TW := tw_in 672 (by decide +kernel) (by decide +kernel)
theorem tw673 : Cond.methodLink "CanvasRoomLaw" 61 ⟨"CanvasRoom","above","(I)I"⟩ ∈ TW := tw_in 673 (by decide +kernel) (by decide +kernel)
theorem tw674 : Cond.instanceMethod ⟨"CanvasRoom","above","(I)I"⟩ ∈ TW := tw_in 674 (by decide +kernel) (by decide +kernel)
theorem tw675 : Cond.selects "CanvasRoom" ⟨"CanvasRoom","above","(I)I"⟩ ⟨"CanvasRoom","above","(I)I"⟩ ∈ TW := tw_in 675 (by decide +kernel) (by decide +kernel)
theorem tw683 : Cond.codeWith ⟨"CanvasRoomLaw","group","(LCanvasRoom;I[J)I"⟩ method_17_code 4 (some .int) [(0, 8, 11, 13)] ∈ TW := tw_in 683 (by decide +kernel) (by decide +kernel)
theorem tw684 : Cond.methodLink "CanvasRoomLaw" 64 ⟨"CanvasRoom","group","(I)J"⟩ ∈ TW := tw_in 684 (by decide +kernel) (by decide +kernel)
theorem tw685 : Cond.instanceMethod ⟨"CanvasRoom","group","(I)J"⟩ ∈ TW := tw_in 685 (by decide +kernel) (by decide +kernel)
theorem tw686 : Cond.selects "CanvasRoom" ⟨"CanvasRoom","group","(I)J"⟩ ⟨"CanvasRoom","group","(I)J"⟩ ∈ TW := tw_in 686 (by decide +kernel) (by decide +kernel)
theorem tw690 : Cond.codeWith ⟨"CanvasRoomLaw","seen","(LCanvasRoom;II[J)I"⟩ method_18_code 5 (some .int) [(0, 10, 13, 13)] ∈ TW := tw_in 690 (by decide +kernel) (by decide +kernel)
theorem tw691 : Cond.methodLink "CanvasRoomLaw" 68 ⟨"CanvasRoom","seen","(II)I"⟩ ∈ TW := tw_in 691 (by decide +kernel) (by decide +kernel)
theorem tw692 : Cond.instanceMethod ⟨"CanvasRoom","seen","(II)I"⟩ ∈ TW := tw_in 692 (by decide +kernel) (by decide +kernel)
theorem tw693 : Cond.selects "CanvasRoom" ⟨"CanvasRoom","seen","(II)I"⟩ ⟨"CanvasRoom","seen","(II)I"⟩ ∈ TW := tw_in 693 (by decide +kernel) (by decide +kernel)
theorem tw713 : Cond.codeWith ⟨"CanvasRoomLaw","seenAnew","(LCanvasRoom;II[J)I"⟩ method_19_code 5 (some .int) [(0, 10, 13, 13)] ∈ TW := tw_in 713 (by decide +kernel) (by decide +kernel)
theorem tw714 : Cond.methodLink "CanvasRoomLaw" 71 ⟨"CanvasRoom","seenAnew","(II)I"⟩ ∈ TW := tw_in 714 (by decide +kernel) (by decide +kernel)
theorem tw715 : Cond.instanceMethod ⟨"CanvasRoom","seenAnew","(II)I"⟩ ∈ TW := tw_in 715 (by decide +kernel) (by decide +kernel)
theorem tw716 : Cond.selects "CanvasRoom" ⟨"CanvasRoom","seenAnew","(II)I"⟩ ⟨"CanvasRoom","seenAnew","(II)I"⟩ ∈ TW := tw_in 716 (by decide +kernel) (by decide +kernel)
theorem tw883 : Cond.codeWith ⟨"CanvasRoomLaw","withdraw","(LCanvasRoom;I[J)I"⟩ method_21_code 4 (some .int) [(0, 9, 12, 13), (0, 9, 15, 17)] ∈ TW := tw_in 883 (by decide +kernel) (by decide +kernel)
theorem tw884 : Cond.methodLink "CanvasRoomLaw" 78 ⟨"CanvasRoom","withdraw","(I)I"⟩ ∈ TW := tw_in 884 (by decide +kernel) (by decide +kernel)
theorem tw885 : Cond.instanceMethod ⟨"CanvasRoom","withdraw","(I)I"⟩ ∈ TW := tw_in 885 (by decide +kernel) (by decide +kernel)
theorem tw886 : Cond.selects "CanvasRoom" ⟨"CanvasRoom","withdraw","(I)I"⟩ ⟨"CanvasRoom","withdraw","(I)I"⟩ ∈ TW := tw_in 886 (by decide +kernel) (by decide +kernel)
theorem tw905 : Cond.codeWith ⟨"CanvasRoomLaw","viewed","(LCanvasRoom;III[J)I"⟩ method_22_code 6 (some .int) [(0, 12, 15, 13)] ∈ TW := tw_in 905 (by decide +kernel) (by decide +kernel)
theorem tw906 : Cond.methodLink "CanvasRoomLaw" 81 ⟨"CanvasRoom","viewed","(III)I"⟩ ∈ TW := tw_in 906 (by decide +kernel) (by decide +kernel)
theorem tw907 : Cond.instanceMethod ⟨"CanvasRoom","viewed","(III)I"⟩ ∈ TW := tw_in 907 (by decide +kernel) (by decide +kernel)
theorem tw908 : Cond.selects "CanvasRoom" ⟨"CanvasRoom","viewed","(III)I"⟩ ⟨"CanvasRoom","viewed","(III)I"⟩ ∈ TW := tw_in 908 (by decide +kernel) (by decide +kernel)
theorem tw912 : Cond.codeWith ⟨"CanvasRoomLaw","area","(LCanvasRoom;II[J)I"⟩ method_23_code 5 (some .int) [(0, 10, 13, 13)] ∈ TW := tw_in 912 (by decide +kernel) (by decide +kernel)
theorem tw913 : Cond.methodLink "CanvasRoomLaw" 84 ⟨"CanvasRoom","area","(II)I"⟩ ∈ TW := tw_in 913 (by decide +kernel) (by decide +kernel)
theorem tw914 : Cond.instanceMethod ⟨"CanvasRoom","area","(II)I"⟩ ∈ TW := tw_in 914 (by decide +kernel) (by decide +kernel)
theorem tw915 : Cond.selects "CanvasRoom" ⟨"CanvasRoom","area","(II)I"⟩ ⟨"CanvasRoom","area","(II)I"⟩ ∈ TW := tw_in 915 (by decide +kernel) (by decide +kernel)
theorem tw919 : Cond.codeWith ⟨"CanvasRoomLaw","sell","(LCanvasRoom;II[J)I"⟩ method_24_code 5 (some .int) [(0, 10, 13, 13), (0, 10, 17, 17)] ∈ TW := tw_in 919 (by decide +kernel) (by decide +kernel)
theorem tw920 : Cond.methodLink "CanvasRoomLaw" 87 ⟨"CanvasRoom","sell","(II)I"⟩ ∈ TW := tw_in 920 (by decide +kernel) (by decide +kernel)
theorem tw921 : Cond.instanceMethod ⟨"CanvasRoom","sell","(II)I"⟩ ∈ TW := tw_in 921 (by decide +kernel) (by decide +kernel)
theorem tw922 : Cond.selects "CanvasRoom" ⟨"CanvasRoom","sell","(II)I"⟩ ⟨"CanvasRoom","sell","(II)I"⟩ ∈ TW := tw_in 922 (by decide +kernel) (by decide +kernel)
theorem tw967 : Cond.codeWith ⟨"CanvasRoomLaw","resell","(LCanvasRoom;IIII[J)I"⟩ method_25_code 7 (some .int) [(0, 14, 17, 13), (0, 14, 21, 15), (0, 14, 25, 17)] ∈ TW := tw_in 967 (by decide +kernel) (by decide +kernel)
theorem tw968 : Cond.methodLink "CanvasRoomLaw" 90 ⟨"CanvasRoom","resell","(IIII)I"⟩ ∈ TW := tw_in 968 (by decide +kernel) (by decide +kernel)
theorem tw969 : Cond.instanceMethod ⟨"CanvasRoom","resell","(IIII)I"⟩ ∈ TW := tw_in 969 (by decide +kernel) (by decide +kernel)
theorem tw970 : Cond.selects "CanvasRoom" ⟨"CanvasRoom","resell","(IIII)I"⟩ ⟨"CanvasRoom","resell","(IIII)I"⟩ ∈ TW := tw_in 970 (by decide +kernel) (by decide +kernel)
theorem tw984 : Cond.codeWith ⟨"CanvasRoomLaw","takeDown","(LCanvasRoom;I[J)I"⟩ method_26_code 4 (some .int) [(0, 9, 12, 13), (0, 9, 15, 17)] ∈ TW := tw_in 984 (by decide +kernel) (by decide +kernel)
theorem tw985 : Cond.methodLink "CanvasRoomLaw" 93 ⟨"CanvasRoom","takeDown","(I)I"⟩ ∈ TW := tw_in 985 (by decide +kernel) (by decide +kernel)
theorem tw986 : Cond.instanceMethod ⟨"CanvasRoom","takeDown","(I)I"⟩ ∈ TW := tw_in 986 (by decide +kernel) (by decide +kernel)
theorem tw987 : Cond.selects "CanvasRoom" ⟨"CanvasRoom","takeDown","(I)I"⟩ ⟨"CanvasRoom","takeDown","(I)I"⟩ ∈ TW := tw_in 987 (by decide +kernel) (by decide +kernel)
theorem tw998 : Cond.codeWith ⟨"CanvasRoomLaw","accept","(LCanvasRoom;II[J)I"⟩ method_27_code 5 (some .int) [(0, 10, 13, 13), (0, 10, 17, 17)] ∈ TW := tw_in 998 (by decide +kernel) (by decide +kernel)
theorem tw999 : Cond.methodLink "CanvasRoomLaw" 96 ⟨"CanvasRoom","accept","(II)I"⟩ ∈ TW := tw_in 999 (by decide +kernel) (by decide +kernel)
theorem tw1000 : Cond.instanceMethod ⟨"CanvasRoom","accept","(II)I"⟩ ∈ TW := tw_in 1000 (by decide +kernel) (by decide +kernel)
theorem tw1001 : Cond.selects "CanvasRoom" ⟨"CanvasRoom","accept","(II)I"⟩ ⟨"CanvasRoom","accept","(II)I"⟩ ∈ TW := tw_in 1001 (by decide +kernel) (by decide +kernel)
theorem tw1010 : Cond.codeWith ⟨"CanvasRoomLaw","giveBack","(LCanvasRoom;II[J)I"⟩ method_28_code 5 (some .int) [(0, 10, 13, 13), (0, 10, 17, 17)] ∈ TW := tw_in 1010 (by decide +kernel) (by decide +kernel)
theorem tw1011 : Cond.methodLink "CanvasRoomLaw" 99 ⟨"CanvasRoom","giveBack","(II)I"⟩ ∈ TW := tw_in 1011 (by decide +kernel) (by decide +kernel)
theorem tw1012 : Cond.instanceMethod ⟨"CanvasRoom","giveBack","(II)I"⟩ ∈ TW := tw_in 1012 (by decide +kernel) (by decide +kernel)
theorem tw1013 : Cond.selects "CanvasRoom" ⟨"CanvasRoom","giveBack","(II)I"⟩ ⟨"CanvasRoom","giveBack","(II)I"⟩ ∈ TW := tw_in 1013 (by decide +kernel) (by decide +kernel)
theorem tw1017 : Cond.codeWith ⟨"CanvasRoomLaw","copyState","(LCanvasRoom;II[J)I"⟩ method_29_code 5 (some .int) [(0, 10, 13, 13)] ∈ TW := tw_in 1017 (by decide +kernel) (by decide +kernel)
theorem tw1018 : Cond.methodLink "CanvasRoomLaw" 102 ⟨"CanvasRoom","copyState","(II)I"⟩ ∈ TW := tw_in 1018 (by decide +kernel) (by decide +kernel)
theorem tw1019 : Cond.instanceMethod ⟨"CanvasRoom","copyState","(II)I"⟩ ∈ TW := tw_in 1019 (by decide +kernel) (by decide +kernel)
theorem tw1020 : Cond.selects "CanvasRoom" ⟨"CanvasRoom","copyState","(II)I"⟩ ⟨"CanvasRoom","copyState","(II)I"⟩ ∈ TW := tw_in 1020 (by decide +kernel) (by decide +kernel)
theorem tw1024 : Cond.codeWith ⟨"CanvasRoomLaw","owner","(LCanvasRoom;II[J)I"⟩ method_30_code 5 (some .int) [(0, 10, 13, 13)] ∈ TW := tw_in 1024 (by decide +kernel) (by decide +kernel)
theorem tw1025 : Cond.methodLink "CanvasRoomLaw" 105 ⟨"CanvasRoom","owner","(II)I"⟩ ∈ TW := tw_in 1025 (by decide +kernel) (by decide +kernel)
theorem tw1026 : Cond.instanceMethod ⟨"CanvasRoom","owner","(II)I"⟩ ∈ TW := tw_in 1026 (by decide +kernel) (by decide +kernel)
theorem tw1027 : Cond.selects "CanvasRoom" ⟨"CanvasRoom","owner","(II)I"⟩ ⟨"CanvasRoom","owner","(II)I"⟩ ∈ TW := tw_in 1027 (by decide +kernel) (by decide +kernel)
theorem tw1031 : Cond.codeWith ⟨"CanvasRoomLaw","money","(LCanvasRoom;I[J)I"⟩ method_31_code 4 (some .int) [(0, 9, 12, 13)] ∈ TW := tw_in 1031 (by decide +kernel) (by decide +kernel)
theorem tw1032 : Cond.methodLink "CanvasRoomLaw" 108 ⟨"CanvasRoom","money","(I)I"⟩ ∈ TW := tw_in 1032 (by decide +kernel) (by decide +kernel)
theorem tw1033 : Cond.instanceMethod ⟨"CanvasRoom","money","(I)I"⟩ ∈ TW := tw_in 1033 (by decide +kernel) (by decide +kernel)
theorem tw1034 : Cond.selects "CanvasRoom" ⟨"CanvasRoom","money","(I)I"⟩ ⟨"CanvasRoom","money","(I)I"⟩ ∈ TW := tw_in 1034 (by decide +kernel) (by decide +kernel)
theorem tw1038 : Cond.codeWith ⟨"CanvasRoomLaw","moneyAnew","(LCanvasRoom;I[J)I"⟩ method_32_code 4 (some .int) [(0, 9, 12, 13)] ∈ TW := tw_in 1038 (by decide +kernel) (by decide +kernel)
theorem tw1039 : Cond.methodLink "CanvasRoomLaw" 111 ⟨"CanvasRoom","moneyAnew","(I)I"⟩ ∈ TW := tw_in 1039 (by decide +kernel) (by decide +kernel)
theorem tw1040 : Cond.instanceMethod ⟨"CanvasRoom","moneyAnew","(I)I"⟩ ∈ TW := tw_in 1040 (by decide +kernel) (by decide +kernel)
theorem tw1041 : Cond.selects "CanvasRoom" ⟨"CanvasRoom","moneyAnew","(I)I"⟩ ⟨"CanvasRoom","moneyAnew","(I)I"⟩ ∈ TW := tw_in 1041 (by decide +kernel) (by decide +kernel)
theorem tw1048 : Cond.codeWith ⟨"CanvasRoomLaw","purse","(LCanvasRoom;I[J)I"⟩ method_33_code 4 (some .int) [(0, 9, 12, 13)] ∈ TW := tw_in 1048 (by decide +kernel) (by decide +kernel)
theorem tw1049 : Cond.methodLink "CanvasRoomLaw" 114 ⟨"CanvasRoom","purse","(I)I"⟩ ∈ TW := tw_in 1049 (by decide +kernel) (by decide +kernel)
theorem tw1050 : Cond.instanceMethod ⟨"CanvasRoom","purse","(I)I"⟩ ∈ TW := tw_in 1050 (by decide +kernel) (by decide +kernel)
theorem tw1051 : Cond.selects "CanvasRoom" ⟨"CanvasRoom","purse","(I)I"⟩ ⟨"CanvasRoom","purse","(I)I"⟩ ∈ TW := tw_in 1051 (by decide +kernel) (by decide +kernel)
/-! handlers, and the law's own row -/
section GH1
variable {X : gCx} {cc : ByteArray} {own : String} {ret : Option FieldType} {rm : Room} {mc ms pc : Nat} {loc : List (Nat × Value)} {stk : List Value} {h : GH}
/-- an exception that a handler of this method takes -/
theorem r_catch (C : gC X cc own ret rm) {E name : String} {tb : List (Nat × Nat × Nat × Nat)} (htab : (xc X).exceptionTable.toList = tableOf tb) (t1 : List (Nat × Nat × Nat × Nat)) (q9 : Nat × Nat × Nat × Nat) (t2 : List (Nat × Nat × Nat × Nat)) (hsp : tb = t1 ++ q9 :: t2) (hpass : ∀ z ∈ t1, z.2.2.2 ≠ 0 ∧ ∃ nm : String, Cond.classLink own z.2.2.2 nm ∈ TW ∧ (E, nm) ∈ g_ncs) (hx : covers ⟨q9.1, q9.2.1, q9.2.2.1, q9.2.2.2⟩ pc = true) (h0 : q9.2.2.2 ≠ 0) (hlink : Cond.classLink own q9.2.2.2 name ∈ TW) (hcast : Cond.castable E name ∈ TW) {hp : Nat} (hhp : q9.2.2.1 = hp)
    (kk : ∀ q : Nat, gX X mc ms hp loc [.ref q] h) : gY X mc ms pc loc stk h E := fun H locs ls q ce hS hG hl g1 g2 g3 => by
  subst hsp hhp
  refine vx_catch C.2.2.2.1 (tableOf t1) ⟨q9.1, q9.2.1, q9.2.2.1, q9.2.2.2⟩ (tableOf t2) (by rw [htab]; simp [tableOf]) (fun z hz => Or.inr ?_) hx h0 (C.ht hlink) (C.ht hcast) g1 g2 g3 (kk q H locs ls hS hG hl)
  obtain ⟨y, hy, rfl⟩ := List.mem_map.mp hz
  obtain ⟨e1, nm, e2, e3⟩ := hpass y hy
  exact ⟨e1, nm, C.ht e2, C.2.2.2.2.2.2.1.2.2.2.2.2.2.2.1.2.2 _ e3⟩
theorem r_last10 (C : gC X cc own ret rm) {a : Nat} {o : FO} {x : Int64} {h' : GH} (hd : decode cc pc = .ok (.lastore, 1)) (hg : h a = some (10, o)) (hh : h' = hu h a (10, sB o 0 0 x)) (kk : gX X mc ms (pc + 1) loc stk h') : gX X mc ms pc loc (.long x :: .int 0 :: .ref a :: stk) h := fun H locs ls hS hG hl => by
  subst hh
  obtain ⟨tag, hG⟩ := hG
  obtain ⟨b1, b2, b3⟩ := hG a 10 o hg
  have b3 : H[a]? = some (arrV ((ydA (xY X)) 2) 1 (fun j => .long (fB o 0 j))) := b3
  refine W.last C.1 C.2.1 b3 ((C.K.2 2 _ rfl).1 1 (fun j => .long (fB o 0 j))) (fun q => by cases q) (by show ¬ ((0 : Int32) < 0 ∨ (arrV _ _ _).slots.size ≤ _); rw [arrV_size]; decide) rfl rfl hd fun H1 e z oq => ?_
  refine kk H1 _ ls (hS.put z oq b1) ⟨tag, hG.upd b1 b2 (fun q _ h2 => ⟨oq q (fun e => h2 (by rw [e, b2])), rfl⟩) ?_⟩ hl
  show H1[a]? = some (arrV ((ydA (xY X)) 2) 1 (fun j => .long (fB (sB o 0 0 x) 0 j)))
  rw [e, arrV_store]
  congr 2
  funext j
  by_cases hj : j = 0
  · subst hj; simp [updV, fB, sB, va_up, sb_cl0]
  · simp [updV, fB, sB, va_up, sb_cl0, hj]
theorem r_lald10 (C : gC X cc own ret rm) {a : Nat} {o : FO} (hd : decode cc pc = .ok (.laload, 1)) (hg : h a = some (10, o)) (kk : gX X mc ms (pc + 1) loc (.long (fB o 0 0) :: stk) h) : gX X mc ms pc loc (.int 0 :: .ref a :: stk) h := fun H locs ls hS hG hl => by
  have hG2 := hG
  obtain ⟨tag, hGt⟩ := hG
  have b3 : H[a]? = some (arrV ((ydA (xY X)) 2) 1 (fun j => .long (fB o 0 j))) := (hGt a 10 o hg).2.2
  exact va_lald (ws := [(a, .inl ((ydA (xY X)) 2, 1, .inr (.inl (fB o 0))))]) C.1 C.2.1 C.K (va_P1 b3) 0 2 rfl rfl (i := 0) (by unfold vp_in; decide) hd (kk H locs ls hS hG2 hl)
end GH1
/-- a method with handlers, that returns -/
def gMew (Y : gWx) (y : MethodName) (bytes : ByteArray) (maxL : Nat) (ret : Option FieldType) (hh : List (Nat × Nat × Nat × Nat)) (rm : Room) (av : List Value) (h : GH) (Qc : Array Value → State → Outcome → State → Prop) (mc ms : Nat) : Prop := Met (yl Y) y [Cond.codeWith y bytes maxL ret hh] rm (gPre Y av h) Qc mc ms (gA (yB0 Y))
theorem gm_ofh {Y : gWx} {y : MethodName} {bytes : ByteArray} {maxL : Nat} {rt : Option FieldType} {hh : List (Nat × Nat × Nat × Nat)} {rm : Room} {av : List Value} {h : GH} {Qc : Array Value → State → Outcome → State → Prop} {mc ms : Nat} (hy : plainName y.cls = true) (hlen : (lg_sl av).length ≤ maxL) (hw : Cond.codeWith y bytes maxL rt hh ∈ TW)
    (body : ∀ X : gCx, xY X = Y → xn X = maxL → gC X bytes y.cls rt rm → (xc X).exceptionTable.toList = tableOf hh → gRet X Qc mc ms → gX X 0 0 0 (lv_args 0 av) [] h) : gMew Y y bytes maxL rt hh rm av h Qc mc ms := by
  unfold gMew Met
  refine MetFree.of_bodyS (code := bytes) (maxLocals := maxL) (ret := rt) hy ?_ ?_
  · intro args s m h hn
    obtain ⟨m9, meth, c, hn9, h1, h2, h3, h4, -, h5, h6, -⟩ := Cond.codeWith_spec (atoms_spec (ws := [Cond.codeWith y bytes maxL rt hh]) h _ List.mem_cons_self)
    cases hn.symm.trans hn9
    exact ⟨meth, c, h1, h2, h3, h4, h5, h6⟩
  · intro p e s m args below meth c s₁ B hml hv _
    have hh0 : s₁.heap = s.heap := by rw [B.state]; rfl
    obtain ⟨rfl, hG, hE⟩ := hv
    have C : gC (Y, p, e, rm, s, m, av.toArray, below, meth, c, MQ below Qc av.toArray s mc ms (gA (yB0 Y)), maxL) bytes y.cls rt rm := ⟨B.exec, B.bytes, hml, findClass_of_methodNamed B.named, B.returns, B.notSynchronized, hE, rfl⟩
    have k := body _ rfl rfl C (vx_table (x := y) B (C.ht hw)) rfl
    have k2 := k s.heap [] _ va_S.rf hG (lv_entry av hlen)
    have k3 : W p (yl Y) e rm s m av.toArray below meth c s.heap [] 0 0 (MQ below Qc av.toArray s mc ms (gA (yB0 Y))) (entryFrame m av.toArray maxL) := by rw [lg_entry_eq]; exact k2
    obtain ⟨t, a1, o, b1, b2, b3⟩ := k3 s₁ hh0 (Stand.of_body B)
    exact ⟨t, o, a1, b1, b2, ⟨b3.1, b3.2⟩⟩
def gMtw (y : MethodName) (bytes : ByteArray) (maxL : Nat) (ret : Option FieldType) (hh : List (Nat × Nat × Nat × Nat)) (n : Nat) : Prop := Cond.codeWith y bytes maxL ret hh ∈ TW ∧ Cond.initialized y.cls ∈ TW ∧ (y.cls ≠ "java/lang/invoke/MethodHandle" ∧ y.cls ≠ "java/lang/invoke/VarHandle" ∧ (parseMethodDescriptor y.desc).map (fun d => d.parameters.length) = some n)
section GCALLW
variable {X : gCx} {cc : ByteArray} {own : String} {ret : Option FieldType} {rm : Room} {mc ms pc : Nat} {loc : List (Nat × Value)} {stk st0 : List Value} {h : GH}
variable {y : MethodName} {bytes : ByteArray} {maxL n index mc' ms' : Nat} {rt : Option FieldType} {hh : List (Nat × Nat × Nat × Nat)} {rm' : Room} {As : List Value} {Qc : Array Value → State → Outcome → State → Prop}
theorem r_runSW (C : gC X cc own ret rm) (hd : decode cc pc = .ok (.invokestatic index, 3)) (hM : gMew (xY X) y bytes maxL rt hh rm' As h Qc mc' ms') (hm : gMtw y bytes maxL rt hh n) (hl : Cond.methodLink own index y ∈ TW) (hi : Cond.static y ∈ TW) (hn : As.length = n) (hst : st0 = As.reverse ++ stk) (hW : (stk.map fun v => v.category).sum ≤ 8) (hf : gFit rm rm' maxL mc ms mc' ms') : gRun X mc ms pc loc st0 stk h mc' ms' (Qc As.toArray) := fun H locs ls hS hG hl0 => by
  have hR := C.2.2.2.2.2.2.2
  have hws : ∀ w ∈ [Cond.codeWith y bytes maxL rt hh], ∀ (a' : Array Value) (U : State), (xs X).WarmedH U.vm → w.before a' U = true := fun w hw a' U hWm => by
    rw [List.mem_singleton.mp hw]
    exact word_at hWm (Or.inl rfl) (C.ht hm.1)
  exact vx_runSW (As := As) (rest := stk) ⟨C.1, C.2.1, C.2.2.1, C.2.2.2.1, C.hts⟩ hM ⟨⟨hf.1, hf.2.1, by rw [hR]; exact hf.2.2.1.1, by rw [hR]; exact hf.2.2.1.2, hws, List.mem_singleton.mpr rfl⟩, C.ht hm.1, C.ht hm.2.1, ⟨hm.2.2.1, hm.2.2.2.1⟩, fun sig hsig => by
      have h2 := hm.2.2.2.2
      rw [hsig] at h2
      exact (Option.some.inj h2).symm, C.ht hl, C.ht hi⟩ (g_preS C hS hG) rfl hn hl0.1 hst (lv_room hW) hd (by rw [hR]; exact hf.2.2.2)
end GCALLW

def rm_L_add : Room := { frames := 9, cells := 10, slots := 429, locals := 351 }
theorem mt_L_add : gMtw yL_add cL_add 9 (some .int) [(0, 18, 21, 13), (0, 18, 25, 15), (0, 18, 29, 17)] 8 := ⟨tw219, tw58, by decide +kernel, by decide +kernel, by decide +kernel⟩
def wp_L_add (p0 : Nat) (p1 : Int32) (p2 : Int32) (p3 : Int32) (p4 : Int32) (p5 : Int32) (p6 : Int32) (p7 : Nat) (g : GH) (post : Int32 → GH → Prop) : Prop :=
∃ o2, g p0 = some (8, o2) ∧
wp_X7_add p0 p1 p2 p3 p4 p5 p6 g (fun r1 g5 =>
∃ o7, g5 p7 = some (10, o7) ∧
∀ g9, g9 = hu g5 p7 (10, sB o7 0 0 r1.toInt64) →
post 0 g9) (fun E9 g4 => (E9 = "java/lang/IndexOutOfBoundsException" ∧ post 1 g4) ∨ (E9 = "java/lang/IllegalArgumentException" ∧ post 2 g4) ∨ (E9 = "java/lang/IllegalStateException" ∧ post 3 g4))
set_option maxHeartbeats 4000000 in
set_option maxRecDepth 100000 in
theorem m_L_add {Y : gWx}  {p0 : Nat} {p1 : Int32} {p2 : Int32} {p3 : Int32} {p4 : Int32} {p5 : Int32} {p6 : Int32} {p7 : Nat} {post : Int32 → GH → Prop} {g : GH}    (hlt : (yl Y).stackTraces = false) (w : wp_L_add p0 p1 p2 p3 p4 p5 p6 p7 g post) : gMew Y yL_add cL_add 9 (some .int) [(0, 18, 21, 13), (0, 18, 25, 15), (0, 18, 29, 17)] rm_L_add [.ref p0, .int p1, .int p2, .int p3, .int p4, .int p5, .int p6, .ref p7] g (gQi Y post) 10 429 := by
  refine gm_ofh rfl (Nat.le_of_ble_eq_true rfl) tw219 ?_
  intro X hY hn C htab hQ
  subst hY
  have hQ : gRet X (gQi (xY X) post) 10 429 ∨ gRex X (gQi (xY X) post) (fun _ _ => False) 10 429 := Or.inl hQ
  have C : gC X cL_add RL (some .int) rm_L_add := C
  show gX X 0 0 0 [(0, .ref p0), (1, .int p1), (2, .int p2), (3, .int p3), (4, .int p4), (5, .int p5), (6, .int p6), (7, .ref p7)] [] g
  unfold wp_L_add at w
  obtain ⟨o2, e3, w⟩ := w
  refine r_aload C 7 dL_add_0 rfl (r_iconst C (v := 0) dL_add_2 (by decide) (r_aload_n C 0 dL_add_3 rfl (r_iload_n C 1 dL_add_4 rfl (r_iload_n C 2 dL_add_5 rfl (r_iload_n C 3 dL_add_6 rfl (r_iload C 4 dL_add_7 rfl (r_iload C 5 dL_add_9 rfl (r_iload C 6 dL_add_11 rfl (r_gxi (r_ruxV C dL_add_13 (m_X7_add hlt w) mt_X7_add tw223 tw224 tw225 gcl_8.1 e3 rfl (stk := [.int 0, .ref p7]) rfl (Nat.le_of_ble_eq_true rfl) ⟨rfl, rfl, ⟨Nat.le_of_ble_eq_true rfl, Nat.le_of_ble_eq_true rfl⟩, ⟨Nat.le_of_ble_eq_true rfl, Nat.le_of_ble_eq_true rfl⟩⟩) (fun E9 h6 hp => ?_) ?_)))))))))
  · obtain ⟨g4, rfl⟩ : ∃ z, z = h6 := ⟨_, rfl⟩
    rcases hp with ⟨rfl, w⟩ | ⟨rfl, w⟩ | ⟨rfl, w⟩
    · refine r_catch C htab [] (0, 18, 21, 13) [(0, 18, 25, 15), (0, 18, 29, 17)] rfl (fun z hz => by cases hz) (by decide) (by decide) tw220 tw232 rfl (fun q9 => ?_)
      exact r_astore C dL_add_21 (nlt hn (by decide)) rfl (r_iconst C (v := 1) dL_add_23 (by decide) (r_iret C hQ dL_add_24 rfl (vp_nar_int _) ⟨Nat.le_of_ble_eq_true rfl, Nat.le_of_ble_eq_true rfl⟩ w))
    · refine r_catch C htab [(0, 18, 21, 13)] (0, 18, 25, 15) [(0, 18, 29, 17)] rfl (fun z hz => by simp only [List.mem_cons, List.not_mem_nil, or_false] at hz; rcases hz with rfl <;> first | exact ⟨by decide, "java/lang/IndexOutOfBoundsException", tw220, by decide +kernel⟩) (by decide) (by decide) tw221 tw306 rfl (fun q9 => ?_)
      exact r_astore C dL_add_25 (nlt hn (by decide)) rfl (r_iconst C (v := 2) dL_add_27 (by decide) (r_iret C hQ dL_add_28 rfl (vp_nar_int _) ⟨Nat.le_of_ble_eq_true rfl, Nat.le_of_ble_eq_true rfl⟩ w))
    · refine r_catch C htab [(0, 18, 21, 13), (0, 18, 25, 15)] (0, 18, 29, 17) [] rfl (fun z hz => by simp only [List.mem_cons, List.not_mem_nil, or_false] at hz; rcases hz with rfl | rfl <;> first | exact ⟨by decide, "java/lang/IndexOutOfBoundsException", tw220, by decide +kernel⟩ | exact ⟨by decide, "java/lang/IllegalArgumentException", tw221, by decide +kernel⟩) (by decide) (by decide) tw222 tw322 rfl (fun q9 => ?_)
      exact r_astore C dL_add_29 (nlt hn (by decide)) rfl (r_iconst C (v := 3) dL_add_31 (by decide) (r_iret C hQ dL_add_32 rfl (vp_nar_int _) ⟨Nat.le_of_ble_eq_true rfl, Nat.le_of_ble_eq_true rfl⟩ w))
  intro r1 h6 hp
  obtain ⟨g5, rfl⟩ : ∃ z, z = h6 := ⟨_, rfl⟩
  have w := hp
  obtain ⟨o7, e8, w⟩ := w
  obtain ⟨g9, e10⟩ : ∃ z, z = hu g5 p7 (10, sB o7 0 0 r1.toInt64) := ⟨_, rfl⟩
  have w := w g9 e10
  exact r_i2l C dL_add_16 (r_last10 C dL_add_17 e8 e10 (r_goto C 33 dL_add_18 (by decide) (r_iconst C (v := 0) dL_add_33 (by decide) (r_iret C hQ dL_add_34 rfl (vp_nar_int _) ⟨Nat.le_of_ble_eq_true rfl, Nat.le_of_ble_eq_true rfl⟩ w))))
def rm_L_move : Room := { frames := 9, cells := 7, slots := 347, locals := 348 }
theorem mt_L_move : gMtw yL_move cL_move 7 (some .int) [(0, 14, 17, 13), (0, 14, 21, 15), (0, 14, 25, 17)] 6 := ⟨tw523, tw58, by decide +kernel, by decide +kernel, by decide +kernel⟩
def wp_L_move (p0 : Nat) (p1 : Int32) (p2 : Int32) (p3 : Int32) (p4 : Int32) (p5 : Nat) (g : GH) (post : Int32 → GH → Prop) : Prop :=
∃ o2, g p0 = some (8, o2) ∧
wp_X7_move p0 p1 p2 p3 p4 g (fun r1 g5 =>
∃ o7, g5 p5 = some (10, o7) ∧
∀ g9, g9 = hu g5 p5 (10, sB o7 0 0 r1.toInt64) →
post 0 g9) (fun E9 g4 => (E9 = "java/lang/IndexOutOfBoundsException" ∧ post 1 g4) ∨ (E9 = "java/lang/IllegalArgumentException" ∧ post 2 g4) ∨ (E9 = "java/lang/IllegalStateException" ∧ post 3 g4))
set_option maxHeartbeats 4000000 in
set_option maxRecDepth 100000 in
theorem m_L_move {Y : gWx}  {p0 : Nat} {p1 : Int32} {p2 : Int32} {p3 : Int32} {p4 : Int32} {p5 : Nat} {post : Int32 → GH → Prop} {g : GH}    (hlt : (yl Y).stackTraces = false) (w : wp_L_move p0 p1 p2 p3 p4 p5 g post) : gMew Y yL_move cL_move 7 (some .int) [(0, 14, 17, 13), (0, 14, 21, 15), (0, 14, 25, 17)] rm_L_move [.ref p0, .int p1, .int p2, .int p3, .int p4, .ref p5] g (gQi Y post) 7 347 := by
  refine gm_ofh rfl (Nat.le_of_ble_eq_true rfl) tw523 ?_
  intro X hY hn C htab hQ
  subst hY
  have hQ : gRet X (gQi (xY X) post) 7 347 ∨ gRex X (gQi (xY X) post) (fun _ _ => False) 7 347 := Or.inl hQ
  have C : gC X cL_move RL (some .int) rm_L_move := C
  show gX X 0 0 0 [(0, .ref p0), (1, .int p1), (2, .int p2), (3, .int p3), (4, .int p4), (5, .ref p5)] [] g
  unfold wp_L_move at w
  obtain ⟨o2, e3, w⟩ := w
  refine r_aload C 5 dL_move_0 rfl (r_iconst C (v := 0) dL_move_2 (by decide) (r_aload_n C 0 dL_move_3 rfl (r_iload_n C 1 dL_move_4 rfl (r_iload_n C 2 dL_move_5 rfl (r_iload_n C 3 dL_move_6 rfl (r_iload C 4 dL_move_7 rfl (r_gxi (r_ruxV C dL_move_9 (m_X7_move hlt w) mt_X7_move tw524 tw525 tw526 gcl_8.1 e3 rfl (stk := [.int 0, .ref p5]) rfl (Nat.le_of_ble_eq_true rfl) ⟨rfl, rfl, ⟨Nat.le_of_ble_eq_true rfl, Nat.le_of_ble_eq_true rfl⟩, ⟨Nat.le_of_ble_eq_true rfl, Nat.le_of_ble_eq_true rfl⟩⟩) (fun E9 h6 hp => ?_) ?_)))))))
  · obtain ⟨g4, rfl⟩ : ∃ z, z = h6 := ⟨_, rfl⟩
    rcases hp with ⟨rfl, w⟩ | ⟨rfl, w⟩ | ⟨rfl, w⟩
    · refine r_catch C htab [] (0, 14, 17, 13) [(0, 14, 21, 15), (0, 14, 25, 17)] rfl (fun z hz => by cases hz) (by decide) (by decide) tw220 tw232 rfl (fun q9 => ?_)
      exact r_astore C dL_move_17 (nlt hn (by decide)) rfl (r_iconst C (v := 1) dL_move_19 (by decide) (r_iret C hQ dL_move_20 rfl (vp_nar_int _) ⟨Nat.le_of_ble_eq_true rfl, Nat.le_of_ble_eq_true rfl⟩ w))
    · refine r_catch C htab [(0, 14, 17, 13)] (0, 14, 21, 15) [(0, 14, 25, 17)] rfl (fun z hz => by simp only [List.mem_cons, List.not_mem_nil, or_false] at hz; rcases hz with rfl <;> first | exact ⟨by decide, "java/lang/IndexOutOfBoundsException", tw220, by decide +kernel⟩) (by decide) (by decide) tw221 tw306 rfl (fun q9 => ?_)
      exact r_astore C dL_move_21 (nlt hn (by decide)) rfl (r_iconst C (v := 2) dL_move_23 (by decide) (r_iret C hQ dL_move_24 rfl (vp_nar_int _) ⟨Nat.le_of_ble_eq_true rfl, Nat.le_of_ble_eq_true rfl⟩ w))
    · refine r_catch C htab [(0, 14, 17, 13), (0, 14, 21, 15)] (0, 14, 25, 17) [] rfl (fun z hz => by simp only [List.mem_cons, List.not_mem_nil, or_false] at hz; rcases hz with rfl | rfl <;> first | exact ⟨by decide, "java/lang/IndexOutOfBoundsException", tw220, by decide +kernel⟩ | exact ⟨by decide, "java/lang/IllegalArgumentException", tw221, by decide +kernel⟩) (by decide) (by decide) tw222 tw322 rfl (fun q9 => ?_)
      exact r_astore C dL_move_25 (nlt hn (by decide)) rfl (r_iconst C (v := 3) dL_move_27 (by decide) (r_iret C hQ dL_move_28 rfl (vp_nar_int _) ⟨Nat.le_of_ble_eq_true rfl, Nat.le_of_ble_eq_true rfl⟩ w))
  intro r1 h6 hp
  obtain ⟨g5, rfl⟩ : ∃ z, z = h6 := ⟨_, rfl⟩
  have w := hp
  obtain ⟨o7, e8, w⟩ := w
  obtain ⟨g9, e10⟩ : ∃ z, z = hu g5 p5 (10, sB o7 0 0 r1.toInt64) := ⟨_, rfl⟩
  have w := w g9 e10
  exact r_i2l C dL_move_12 (r_last10 C dL_move_13 e8 e10 (r_goto C 29 dL_move_14 (by decide) (r_iconst C (v := 0) dL_move_29 (by decide) (r_iret C hQ dL_move_30 rfl (vp_nar_int _) ⟨Nat.le_of_ble_eq_true rfl, Nat.le_of_ble_eq_true rfl⟩ w))))
def rm_L_paint : Room := { frames := 9, cells := 6, slots := 341, locals := 348 }
theorem mt_L_paint : gMtw yL_paint cL_paint 6 (some .int) [(0, 12, 15, 13), (0, 12, 19, 15), (0, 12, 23, 17)] 5 := ⟨tw556, tw58, by decide +kernel, by decide +kernel, by decide +kernel⟩
def wp_L_paint (p0 : Nat) (p1 : Int32) (p2 : Int32) (p3 : Int32) (p4 : Nat) (g : GH) (post : Int32 → GH → Prop) : Prop :=
∃ o2, g p0 = some (8, o2) ∧
wp_X7_paint p0 p1 p2 p3 g (fun r1 g5 =>
∃ o7, g5 p4 = some (10, o7) ∧
∀ g9, g9 = hu g5 p4 (10, sB o7 0 0 r1.toInt64) →
post 0 g9) (fun E9 g4 => (E9 = "java/lang/IndexOutOfBoundsException" ∧ post 1 g4) ∨ (E9 = "java/lang/IllegalArgumentException" ∧ post 2 g4) ∨ (E9 = "java/lang/IllegalStateException" ∧ post 3 g4))
set_option maxHeartbeats 4000000 in
set_option maxRecDepth 100000 in
theorem m_L_paint {Y : gWx}  {p0 : Nat} {p1 : Int32} {p2 : Int32} {p3 : Int32} {p4 : Nat} {post : Int32 → GH → Prop} {g : GH}    (hlt : (yl Y).stackTraces = false) (w : wp_L_paint p0 p1 p2 p3 p4 g post) : gMew Y yL_paint cL_paint 6 (some .int) [(0, 12, 15, 13), (0, 12, 19, 15), (0, 12, 23, 17)] rm_L_paint [.ref p0, .int p1, .int p2, .int p3, .ref p4] g (gQi Y post) 6 341 := by
  refine gm_ofh rfl (Nat.le_of_ble_eq_true rfl) tw556 ?_
  intro X hY hn C htab hQ
  subst hY
  have hQ : gRet X (gQi (xY X) post) 6 341 ∨ gRex X (gQi (xY X) post) (fun _ _ => False) 6 341 := Or.inl hQ
  have C : gC X cL_paint RL (some .int) rm_L_paint := C
  show gX X 0 0 0 [(0, .ref p0), (1, .int p1), (2, .int p2), (3, .int p3), (4, .ref p4)] [] g
  unfold wp_L_paint at w
  obtain ⟨o2, e3, w⟩ := w
  refine r_aload C 4 dL_paint_0 rfl (r_iconst C (v := 0) dL_paint_2 (by decide) (r_aload_n C 0 dL_paint_3 rfl (r_iload_n C 1 dL_paint_4 rfl (r_iload_n C 2 dL_paint_5 rfl (r_iload_n C 3 dL_paint_6 rfl (r_gxi (r_ruxV C dL_paint_7 (m_X7_paint hlt w) mt_X7_paint tw557 tw558 tw559 gcl_8.1 e3 rfl (stk := [.int 0, .ref p4]) rfl (Nat.le_of_ble_eq_true rfl) ⟨rfl, rfl, ⟨Nat.le_of_ble_eq_true rfl, Nat.le_of_ble_eq_true rfl⟩, ⟨Nat.le_of_ble_eq_true rfl, Nat.le_of_ble_eq_true rfl⟩⟩) (fun E9 h6 hp => ?_) ?_))))))
  · obtain ⟨g4, rfl⟩ : ∃ z, z = h6 := ⟨_, rfl⟩
    rcases hp with ⟨rfl, w⟩ | ⟨rfl, w⟩ | ⟨rfl, w⟩
    · refine r_catch C htab [] (0, 12, 15, 13) [(0, 12, 19, 15), (0, 12, 23, 17)] rfl (fun z hz => by cases hz) (by decide) (by decide) tw220 tw232 rfl (fun q9 => ?_)
      exact r_astore C dL_paint_15 (nlt hn (by decide)) rfl (r_iconst C (v := 1) dL_paint_17 (by decide) (r_iret C hQ dL_paint_18 rfl (vp_nar_int _) ⟨Nat.le_of_ble_eq_true rfl, Nat.le_of_ble_eq_true rfl⟩ w))
    · refine r_catch C htab [(0, 12, 15, 13)] (0, 12, 19, 15) [(0, 12, 23, 17)] rfl (fun z hz => by simp only [List.mem_cons, List.not_mem_nil, or_false] at hz; rcases hz with rfl <;> first | exact ⟨by decide, "java/lang/IndexOutOfBoundsException", tw220, by decide +kernel⟩) (by decide) (by decide) tw221 tw306 rfl (fun q9 => ?_)
      exact r_astore C dL_paint_19 (nlt hn (by decide)) rfl (r_iconst C (v := 2) dL_paint_21 (by decide) (r_iret C hQ dL_paint_22 rfl (vp_nar_int _) ⟨Nat.le_of_ble_eq_true rfl, Nat.le_of_ble_eq_true rfl⟩ w))
    · refine r_catch C htab [(0, 12, 15, 13), (0, 12, 19, 15)] (0, 12, 23, 17) [] rfl (fun z hz => by simp only [List.mem_cons, List.not_mem_nil, or_false] at hz; rcases hz with rfl | rfl <;> first | exact ⟨by decide, "java/lang/IndexOutOfBoundsException", tw220, by decide +kernel⟩ | exact ⟨by decide, "java/lang/IllegalArgumentException", tw221, by decide +kernel⟩) (by decide) (by decide) tw222 tw322 rfl (fun q9 => ?_)
      exact r_astore C dL_paint_23 (nlt hn (by decide)) rfl (r_iconst C (v := 3) dL_paint_25 (by decide) (r_iret C hQ dL_paint_26 rfl (vp_nar_int _) ⟨Nat.le_of_ble_eq_true rfl, Nat.le_of_ble_eq_true rfl⟩ w))
  intro r1 h6 hp
  obtain ⟨g5, rfl⟩ : ∃ z, z = h6 := ⟨_, rfl⟩
  have w := hp
  obtain ⟨o7, e8, w⟩ := w
  obtain ⟨g9, e10⟩ : ∃ z, z = hu g5 p4 (10, sB o7 0 0 r1.toInt64) := ⟨_, rfl⟩
  have w := w g9 e10
  exact r_i2l C dL_paint_10 (r_last10 C dL_paint_11 e8 e10 (r_goto C 27 dL_paint_12 (by decide) (r_iconst C (v := 0) dL_paint_27 (by decide) (r_iret C hQ dL_paint_28 rfl (vp_nar_int _) ⟨Nat.le_of_ble_eq_true rfl, Nat.le_of_ble_eq_true rfl⟩ w))))
def rm_L_layer : Room := { frames := 9, cells := 5, slots := 335, locals := 347 }
theorem mt_L_layer : gMtw yL_layer cL_layer 6 (some .int) [(0, 12, 15, 13), (0, 12, 19, 17)] 5 := ⟨tw563, tw58, by decide +kernel, by decide +kernel, by decide +kernel⟩
def wp_L_layer (p0 : Nat) (p1 : Int32) (p2 : Int32) (p3 : Int32) (p4 : Nat) (g : GH) (post : Int32 → GH → Prop) : Prop :=
∃ o2, g p0 = some (8, o2) ∧
wp_X7_layer p0 p1 p2 p3 g (fun r1 g5 =>
∃ o7, g5 p4 = some (10, o7) ∧
∀ g9, g9 = hu g5 p4 (10, sB o7 0 0 r1.toInt64) →
post 0 g9) (fun E9 g4 => (E9 = "java/lang/IndexOutOfBoundsException" ∧ post 1 g4) ∨ (E9 = "java/lang/IllegalStateException" ∧ post 2 g4))
set_option maxHeartbeats 4000000 in
set_option maxRecDepth 100000 in
theorem m_L_layer {Y : gWx}  {p0 : Nat} {p1 : Int32} {p2 : Int32} {p3 : Int32} {p4 : Nat} {post : Int32 → GH → Prop} {g : GH}    (hlt : (yl Y).stackTraces = false) (w : wp_L_layer p0 p1 p2 p3 p4 g post) : gMew Y yL_layer cL_layer 6 (some .int) [(0, 12, 15, 13), (0, 12, 19, 17)] rm_L_layer [.ref p0, .int p1, .int p2, .int p3, .ref p4] g (gQi Y post) 5 335 := by
  refine gm_ofh rfl (Nat.le_of_ble_eq_true rfl) tw563 ?_
  intro X hY hn C htab hQ
  subst hY
  have hQ : gRet X (gQi (xY X) post) 5 335 ∨ gRex X (gQi (xY X) post) (fun _ _ => False) 5 335 := Or.inl hQ
  have C : gC X cL_layer RL (some .int) rm_L_layer := C
  show gX X 0 0 0 [(0, .ref p0), (1, .int p1), (2, .int p2), (3, .int p3), (4, .ref p4)] [] g
  unfold wp_L_layer at w
  obtain ⟨o2, e3, w⟩ := w
  refine r_aload C 4 dL_layer_0 rfl (r_iconst C (v := 0) dL_layer_2 (by decide) (r_aload_n C 0 dL_layer_3 rfl (r_iload_n C 1 dL_layer_4 rfl (r_iload_n C 2 dL_layer_5 rfl (r_iload_n C 3 dL_layer_6 rfl (r_gxi (r_ruxV C dL_layer_7 (m_X7_layer hlt w) mt_X7_layer tw564 tw565 tw566 gcl_8.1 e3 rfl (stk := [.int 0, .ref p4]) rfl (Nat.le_of_ble_eq_true rfl) ⟨rfl, rfl, ⟨Nat.le_of_ble_eq_true rfl, Nat.le_of_ble_eq_true rfl⟩, ⟨Nat.le_of_ble_eq_true rfl, Nat.le_of_ble_eq_true rfl⟩⟩) (fun E9 h6 hp => ?_) ?_))))))
  · obtain ⟨g4, rfl⟩ : ∃ z, z = h6 := ⟨_, rfl⟩
    rcases hp with ⟨rfl, w⟩ | ⟨rfl, w⟩
    · refine r_catch C htab [] (0, 12, 15, 13) [(0, 12, 19, 17)] rfl (fun z hz => by cases hz) (by decide) (by decide) tw220 tw232 rfl (fun q9 => ?_)
      exact r_astore C dL_layer_15 (nlt hn (by decide)) rfl (r_iconst C (v := 1) dL_layer_17 (by decide) (r_iret C hQ dL_layer_18 rfl (vp_nar_int _) ⟨Nat.le_of_ble_eq_true rfl, Nat.le_of_ble_eq_true rfl⟩ w))
    · refine r_catch C htab [(0, 12, 15, 13)] (0, 12, 19, 17) [] rfl (fun z hz => by simp only [List.mem_cons, List.not_mem_nil, or_false] at hz; rcases hz with rfl <;> first | exact ⟨by decide, "java/lang/IndexOutOfBoundsException", tw220, by decide +kernel⟩) (by decide) (by decide) tw222 tw322 rfl (fun q9 => ?_)
      exact r_astore C dL_layer_19 (nlt hn (by decide)) rfl (r_iconst C (v := 2) dL_layer_21 (by decide) (r_iret C hQ dL_layer_22 rfl (vp_nar_int _) ⟨Nat.le_of_ble_eq_true rfl, Nat.le_of_ble_eq_true rfl⟩ w))
  intro r1 h6 hp
  obtain ⟨g5, rfl⟩ : ∃ z, z = h6 := ⟨_, rfl⟩
  have w := hp
  obtain ⟨o7, e8, w⟩ := w
  obtain ⟨g9, e10⟩ : ∃ z, z = hu g5 p4 (10, sB o7 0 0 r1.toInt64) := ⟨_, rfl⟩
  have w := w g9 e10
  exact r_i2l C dL_layer_10 (r_last10 C dL_layer_11 e8 e10 (r_goto C 23 dL_layer_12 (by decide) (r_iconst C (v := 0) dL_layer_23 (by decide) (r_iret C hQ dL_layer_24 rfl (vp_nar_int _) ⟨Nat.le_of_ble_eq_true rfl, Nat.le_of_ble_eq_true rfl⟩ w))))
def rm_L_join : Room := { frames := 9, cells := 7, slots := 347, locals := 347 }
theorem mt_L_join : gMtw yL_join cL_join 6 (some .int) [(0, 12, 15, 13), (0, 12, 19, 15), (0, 12, 23, 17)] 5 := ⟨tw571, tw58, by decide +kernel, by decide +kernel, by decide +kernel⟩
def wp_L_join (p0 : Nat) (p1 : Int32) (p2 : Int32) (p3 : Int32) (p4 : Nat) (g : GH) (post : Int32 → GH → Prop) : Prop :=
∃ o2, g p0 = some (8, o2) ∧
wp_X7_join p0 p1 p2 p3 g (fun r1 g5 =>
∃ o7, g5 p4 = some (10, o7) ∧
∀ g9, g9 = hu g5 p4 (10, sB o7 0 0 r1.toInt64) →
post 0 g9) (fun E9 g4 => (E9 = "java/lang/IndexOutOfBoundsException" ∧ post 1 g4) ∨ (E9 = "java/lang/IllegalArgumentException" ∧ post 2 g4) ∨ (E9 = "java/lang/IllegalStateException" ∧ post 3 g4))
set_option maxHeartbeats 4000000 in
set_option maxRecDepth 100000 in
theorem m_L_join {Y : gWx}  {p0 : Nat} {p1 : Int32} {p2 : Int32} {p3 : Int32} {p4 : Nat} {post : Int32 → GH → Prop} {g : GH}    (hlt : (yl Y).stackTraces = false) (w : wp_L_join p0 p1 p2 p3 p4 g post) : gMew Y yL_join cL_join 6 (some .int) [(0, 12, 15, 13), (0, 12, 19, 15), (0, 12, 23, 17)] rm_L_join [.ref p0, .int p1, .int p2, .int p3, .ref p4] g (gQi Y post) 7 347 := by
  refine gm_ofh rfl (Nat.le_of_ble_eq_true rfl) tw571 ?_
  intro X hY hn C htab hQ
  subst hY
  have hQ : gRet X (gQi (xY X) post) 7 347 ∨ gRex X (gQi (xY X) post) (fun _ _ => False) 7 347 := Or.inl hQ
  have C : gC X cL_join RL (some .int) rm_L_join := C
  show gX X 0 0 0 [(0, .ref p0), (1, .int p1), (2, .int p2), (3, .int p3), (4, .ref p4)] [] g
  unfold wp_L_join at w
  obtain ⟨o2, e3, w⟩ := w
  refine r_aload C 4 dL_join_0 rfl (r_iconst C (v := 0) dL_join_2 (by decide) (r_aload_n C 0 dL_join_3 rfl (r_iload_n C 1 dL_join_4 rfl (r_iload_n C 2 dL_join_5 rfl (r_iload_n C 3 dL_join_6 rfl (r_gxi (r_ruxV C dL_join_7 (m_X7_join hlt w) mt_X7_join tw572 tw573 tw574 gcl_8.1 e3 rfl (stk := [.int 0, .ref p4]) rfl (Nat.le_of_ble_eq_true rfl) ⟨rfl, rfl, ⟨Nat.le_of_ble_eq_true rfl, Nat.le_of_ble_eq_true rfl⟩, ⟨Nat.le_of_ble_eq_true rfl, Nat.le_of_ble_eq_true rfl⟩⟩) (fun E9 h6 hp => ?_) ?_))))))
  · obtain ⟨g4, rfl⟩ : ∃ z, z = h6 := ⟨_, rfl⟩
    rcases hp with ⟨rfl, w⟩ | ⟨rfl, w⟩ | ⟨rfl, w⟩
    · refine r_catch C htab [] (0, 12, 15, 13) [(0, 12, 19, 15), (0, 12, 23, 17)] rfl (fun z hz => by cases hz) (by decide) (by decide) tw220 tw232 rfl (fun q9 => ?_)
      exact r_astore C dL_join_15 (nlt hn (by decide)) rfl (r_iconst C (v := 1) dL_join_17 (by decide) (r_iret C hQ dL_join_18 rfl (vp_nar_int _) ⟨Nat.le_of_ble_eq_true rfl, Nat.le_of_ble_eq_true rfl⟩ w))
    · refine r_catch C htab [(0, 12, 15, 13)] (0, 12, 19, 15) [(0, 12, 23, 17)] rfl (fun z hz => by simp only [List.mem_cons, List.not_mem_nil, or_false] at hz; rcases hz with rfl <;> first | exact ⟨by decide, "java/lang/IndexOutOfBoundsException", tw220, by decide +kernel⟩) (by decide) (by decide) tw221 tw306 rfl (fun q9 => ?_)
      exact r_astore C dL_join_19 (nlt hn (by decide)) rfl (r_iconst C (v := 2) dL_join_21 (by decide) (r_iret C hQ dL_join_22 rfl (vp_nar_int _) ⟨Nat.le_of_ble_eq_true rfl, Nat.le_of_ble_eq_true rfl⟩ w))
    · refine r_catch C htab [(0, 12, 15, 13), (0, 12, 19, 15)] (0, 12, 23, 17) [] rfl (fun z hz => by simp only [List.mem_cons, List.not_mem_nil, or_false] at hz; rcases hz with rfl | rfl <;> first | exact ⟨by decide, "java/lang/IndexOutOfBoundsException", tw220, by decide +kernel⟩ | exact ⟨by decide, "java/lang/IllegalArgumentException", tw221, by decide +kernel⟩) (by decide) (by decide) tw222 tw322 rfl (fun q9 => ?_)
      exact r_astore C dL_join_23 (nlt hn (by decide)) rfl (r_iconst C (v := 3) dL_join_25 (by decide) (r_iret C hQ dL_join_26 rfl (vp_nar_int _) ⟨Nat.le_of_ble_eq_true rfl, Nat.le_of_ble_eq_true rfl⟩ w))
  intro r1 h6 hp
  obtain ⟨g5, rfl⟩ : ∃ z, z = h6 := ⟨_, rfl⟩
  have w := hp
  obtain ⟨o7, e8, w⟩ := w
  obtain ⟨g9, e10⟩ : ∃ z, z = hu g5 p4 (10, sB o7 0 0 r1.toInt64) := ⟨_, rfl⟩
  have w := w g9 e10
  exact r_i2l C dL_join_10 (r_last10 C dL_join_11 e8 e10 (r_goto C 27 dL_join_12 (by decide) (r_iconst C (v := 0) dL_join_27 (by decide) (r_iret C hQ dL_join_28 rfl (vp_nar_int _) ⟨Nat.le_of_ble_eq_true rfl, Nat.le_of_ble_eq_true rfl⟩ w))))
def rm_L_part : Room := { frames := 9, cells := 5, slots := 335, locals := 347 }
theorem mt_L_part : gMtw yL_part cL_part 5 (some .int) [(0, 10, 13, 13), (0, 10, 17, 17)] 4 := ⟨tw579, tw58, by decide +kernel, by decide +kernel, by decide +kernel⟩
def wp_L_part (p0 : Nat) (p1 : Int32) (p2 : Int32) (p3 : Nat) (g : GH) (post : Int32 → GH → Prop) : Prop :=
∃ o2, g p0 = some (8, o2) ∧
wp_X7_part p0 p1 p2 g (fun r1 g5 =>
∃ o7, g5 p3 = some (10, o7) ∧
∀ g9, g9 = hu g5 p3 (10, sB o7 0 0 r1.toInt64) →
post 0 g9) (fun E9 g4 => (E9 = "java/lang/IndexOutOfBoundsException" ∧ post 1 g4) ∨ (E9 = "java/lang/IllegalStateException" ∧ post 2 g4))
set_option maxHeartbeats 4000000 in
set_option maxRecDepth 100000 in
theorem m_L_part {Y : gWx}  {p0 : Nat} {p1 : Int32} {p2 : Int32} {p3 : Nat} {post : Int32 → GH → Prop} {g : GH}    (hlt : (yl Y).stackTraces = false) (w : wp_L_part p0 p1 p2 p3 g post) : gMew Y yL_part cL_part 5 (some .int) [(0, 10, 13, 13), (0, 10, 17, 17)] rm_L_part [.ref p0, .int p1, .int p2, .ref p3] g (gQi Y post) 5 335 := by
  refine gm_ofh rfl (Nat.le_of_ble_eq_true rfl) tw579 ?_
  intro X hY hn C htab hQ
  subst hY
  have hQ : gRet X (gQi (xY X) post) 5 335 ∨ gRex X (gQi (xY X) post) (fun _ _ => False) 5 335 := Or.inl hQ
  have C : gC X cL_part RL (some .int) rm_L_part := C
  show gX X 0 0 0 [(0, .ref p0), (1, .int p1), (2, .int p2), (3, .ref p3)] [] g
  unfold wp_L_part at w
  obtain ⟨o2, e3, w⟩ := w
  refine r_aload_n C 3 dL_part_0 rfl (r_iconst C (v := 0) dL_part_1 (by decide) (r_aload_n C 0 dL_part_2 rfl (r_iload_n C 1 dL_part_3 rfl (r_iload_n C 2 dL_part_4 rfl (r_gxi (r_ruxV C dL_part_5 (m_X7_part hlt w) mt_X7_part tw580 tw581 tw582 gcl_8.1 e3 rfl (stk := [.int 0, .ref p3]) rfl (Nat.le_of_ble_eq_true rfl) ⟨rfl, rfl, ⟨Nat.le_of_ble_eq_true rfl, Nat.le_of_ble_eq_true rfl⟩, ⟨Nat.le_of_ble_eq_true rfl, Nat.le_of_ble_eq_true rfl⟩⟩) (fun E9 h6 hp => ?_) ?_)))))
  · obtain ⟨g4, rfl⟩ : ∃ z, z = h6 := ⟨_, rfl⟩
    rcases hp with ⟨rfl, w⟩ | ⟨rfl, w⟩
    · refine r_catch C htab [] (0, 10, 13, 13) [(0, 10, 17, 17)] rfl (fun z hz => by cases hz) (by decide) (by decide) tw220 tw232 rfl (fun q9 => ?_)
      exact r_astore C dL_part_13 (nlt hn (by decide)) rfl (r_iconst C (v := 1) dL_part_15 (by decide) (r_iret C hQ dL_part_16 rfl (vp_nar_int _) ⟨Nat.le_of_ble_eq_true rfl, Nat.le_of_ble_eq_true rfl⟩ w))
    · refine r_catch C htab [(0, 10, 13, 13)] (0, 10, 17, 17) [] rfl (fun z hz => by simp only [List.mem_cons, List.not_mem_nil, or_false] at hz; rcases hz with rfl <;> first | exact ⟨by decide, "java/lang/IndexOutOfBoundsException", tw220, by decide +kernel⟩) (by decide) (by decide) tw222 tw322 rfl (fun q9 => ?_)
      exact r_astore C dL_part_17 (nlt hn (by decide)) rfl (r_iconst C (v := 2) dL_part_19 (by decide) (r_iret C hQ dL_part_20 rfl (vp_nar_int _) ⟨Nat.le_of_ble_eq_true rfl, Nat.le_of_ble_eq_true rfl⟩ w))
  intro r1 h6 hp
  obtain ⟨g5, rfl⟩ : ∃ z, z = h6 := ⟨_, rfl⟩
  have w := hp
  obtain ⟨o7, e8, w⟩ := w
  obtain ⟨g9, e10⟩ : ∃ z, z = hu g5 p3 (10, sB o7 0 0 r1.toInt64) := ⟨_, rfl⟩
  have w := w g9 e10
  exact r_i2l C dL_part_8 (r_last10 C dL_part_9 e8 e10 (r_goto C 21 dL_part_10 (by decide) (r_iconst C (v := 0) dL_part_21 (by decide) (r_iret C hQ dL_part_22 rfl (vp_nar_int _) ⟨Nat.le_of_ble_eq_true rfl, Nat.le_of_ble_eq_true rfl⟩ w))))
def rm_L_drop : Room := { frames := 9, cells := 5, slots := 335, locals := 346 }
theorem mt_L_drop : gMtw yL_drop cL_drop 5 (some .int) [(0, 10, 13, 13), (0, 10, 17, 17)] 4 := ⟨tw586, tw58, by decide +kernel, by decide +kernel, by decide +kernel⟩
def wp_L_drop (p0 : Nat) (p1 : Int32) (p2 : Int32) (p3 : Nat) (g : GH) (post : Int32 → GH → Prop) : Prop :=
∃ o2, g p0 = some (8, o2) ∧
wp_X7_drop p0 p1 p2 g (fun r1 g5 =>
∃ o7, g5 p3 = some (10, o7) ∧
∀ g9, g9 = hu g5 p3 (10, sB o7 0 0 r1.toInt64) →
post 0 g9) (fun E9 g4 => (E9 = "java/lang/IndexOutOfBoundsException" ∧ post 1 g4) ∨ (E9 = "java/lang/IllegalStateException" ∧ post 2 g4))
set_option maxHeartbeats 4000000 in
set_option maxRecDepth 100000 in
theorem m_L_drop {Y : gWx}  {p0 : Nat} {p1 : Int32} {p2 : Int32} {p3 : Nat} {post : Int32 → GH → Prop} {g : GH}    (hlt : (yl Y).stackTraces = false) (w : wp_L_drop p0 p1 p2 p3 g post) : gMew Y yL_drop cL_drop 5 (some .int) [(0, 10, 13, 13), (0, 10, 17, 17)] rm_L_drop [.ref p0, .int p1, .int p2, .ref p3] g (gQi Y post) 5 335 := by
  refine gm_ofh rfl (Nat.le_of_ble_eq_true rfl) tw586 ?_
  intro X hY hn C htab hQ
  subst hY
  have hQ : gRet X (gQi (xY X) post) 5 335 ∨ gRex X (gQi (xY X) post) (fun _ _ => False) 5 335 := Or.inl hQ
  have C : gC X cL_drop RL (some .int) rm_L_drop := C
  show gX X 0 0 0 [(0, .ref p0), (1, .int p1), (2, .int p2), (3, .ref p3)] [] g
  unfold wp_L_drop at w
  obtain ⟨o2, e3, w⟩ := w
  refine r_aload_n C 3 dL_drop_0 rfl (r_iconst C (v := 0) dL_drop_1 (by decide) (r_aload_n C 0 dL_drop_2 rfl (r_iload_n C 1 dL_drop_3 rfl (r_iload_n C 2 dL_drop_4 rfl (r_gxi (r_ruxV C dL_drop_5 (m_X7_drop hlt w) mt_X7_drop tw587 tw588 tw589 gcl_8.1 e3 rfl (stk := [.int 0, .ref p3]) rfl (Nat.le_of_ble_eq_true rfl) ⟨rfl, rfl, ⟨Nat.le_of_ble_eq_true rfl, Nat.le_of_ble_eq_true rfl⟩, ⟨Nat.le_of_ble_eq_true rfl, Nat.le_of_ble_eq_true rfl⟩⟩) (fun E9 h6 hp => ?_) ?_)))))
  · obtain ⟨g4, rfl⟩ : ∃ z, z = h6 := ⟨_, rfl⟩
    rcases hp with ⟨rfl, w⟩ | ⟨rfl, w⟩
    · refine r_catch C htab [] (0, 10, 13, 13) [(0, 10, 17, 17)] rfl (fun z hz => by cases hz) (by decide) (by decide) tw220 tw232 rfl (fun q9 => ?_)
      exact r_astore C dL_drop_13 (nlt hn (by decide)) rfl (r_iconst C (v := 1) dL_drop_15 (by decide) (r_iret C hQ dL_drop_16 rfl (vp_nar_int _) ⟨Nat.le_of_ble_eq_true rfl, Nat.le_of_ble_eq_true rfl⟩ w))
    · refine r_catch C htab [(0, 10, 13, 13)] (0, 10, 17, 17) [] rfl (fun z hz => by simp only [List.mem_cons, List.not_mem_nil, or_false] at hz; rcases hz with rfl <;> first | exact ⟨by decide, "java/lang/IndexOutOfBoundsException", tw220, by decide +kernel⟩) (by decide) (by decide) tw222 tw322 rfl (fun q9 => ?_)
      exact r_astore C dL_drop_17 (nlt hn (by decide)) rfl (r_iconst C (v := 2) dL_drop_19 (by decide) (r_iret C hQ dL_drop_20 rfl (vp_nar_int _) ⟨Nat.le_of_ble_eq_true rfl, Nat.le_of_ble_eq_true rfl⟩ w))
  intro r1 h6 hp
  obtain ⟨g5, rfl⟩ : ∃ z, z = h6 := ⟨_, rfl⟩
  have w := hp
  obtain ⟨o7, e8, w⟩ := w
  obtain ⟨g9, e10⟩ : ∃ z, z = hu g5 p3 (10, sB o7 0 0 r1.toInt64) := ⟨_, rfl⟩
  have w := w g9 e10
  exact r_i2l C dL_drop_8 (r_last10 C dL_drop_9 e8 e10 (r_goto C 21 dL_drop_10 (by decide) (r_iconst C (v := 0) dL_drop_21 (by decide) (r_iret C hQ dL_drop_22 rfl (vp_nar_int _) ⟨Nat.le_of_ble_eq_true rfl, Nat.le_of_ble_eq_true rfl⟩ w))))
def rm_L_undo : Room := { frames := 8, cells := 2, slots := 12, locals := 168 }
theorem mt_L_undo : gMtw yL_undo cL_undo 4 (some .int) [(0, 9, 12, 13), (0, 9, 15, 17)] 3 := ⟨tw593, tw58, by decide +kernel, by decide +kernel, by decide +kernel⟩
def wp_L_undo (p0 : Nat) (p1 : Int32) (p2 : Nat) (g : GH) (post : Int32 → GH → Prop) : Prop :=
∃ o2, g p0 = some (8, o2) ∧
wp_X7_undo p0 p1 g (fun r1 g5 =>
∃ o7, g5 p2 = some (10, o7) ∧
∀ g9, g9 = hu g5 p2 (10, sB o7 0 0 r1.toInt64) →
post 0 g9) (fun E9 g4 => (E9 = "java/lang/IndexOutOfBoundsException" ∧ post 1 g4) ∨ (E9 = "java/lang/IllegalStateException" ∧ post 2 g4))
set_option maxHeartbeats 4000000 in
set_option maxRecDepth 100000 in
theorem m_L_undo {Y : gWx}  {p0 : Nat} {p1 : Int32} {p2 : Nat} {post : Int32 → GH → Prop} {g : GH}    (hlt : (yl Y).stackTraces = false) (w : wp_L_undo p0 p1 p2 g post) : gMew Y yL_undo cL_undo 4 (some .int) [(0, 9, 12, 13), (0, 9, 15, 17)] rm_L_undo [.ref p0, .int p1, .ref p2] g (gQi Y post) 2 12 := by
  refine gm_ofh rfl (Nat.le_of_ble_eq_true rfl) tw593 ?_
  intro X hY hn C htab hQ
  subst hY
  have hQ : gRet X (gQi (xY X) post) 2 12 ∨ gRex X (gQi (xY X) post) (fun _ _ => False) 2 12 := Or.inl hQ
  have C : gC X cL_undo RL (some .int) rm_L_undo := C
  show gX X 0 0 0 [(0, .ref p0), (1, .int p1), (2, .ref p2)] [] g
  unfold wp_L_undo at w
  obtain ⟨o2, e3, w⟩ := w
  refine r_aload_n C 2 dL_undo_0 rfl (r_iconst C (v := 0) dL_undo_1 (by decide) (r_aload_n C 0 dL_undo_2 rfl (r_iload_n C 1 dL_undo_3 rfl (r_gxi (r_ruxV C dL_undo_4 (m_X7_undo hlt w) mt_X7_undo tw594 tw595 tw596 gcl_8.1 e3 rfl (stk := [.int 0, .ref p2]) rfl (Nat.le_of_ble_eq_true rfl) ⟨rfl, rfl, ⟨Nat.le_of_ble_eq_true rfl, Nat.le_of_ble_eq_true rfl⟩, ⟨Nat.le_of_ble_eq_true rfl, Nat.le_of_ble_eq_true rfl⟩⟩) (fun E9 h6 hp => ?_) ?_))))
  · obtain ⟨g4, rfl⟩ : ∃ z, z = h6 := ⟨_, rfl⟩
    rcases hp with ⟨rfl, w⟩ | ⟨rfl, w⟩
    · refine r_catch C htab [] (0, 9, 12, 13) [(0, 9, 15, 17)] rfl (fun z hz => by cases hz) (by decide) (by decide) tw220 tw232 rfl (fun q9 => ?_)
      exact r_astore_n C dL_undo_12 (nlt hn (by decide)) rfl (r_iconst C (v := 1) dL_undo_13 (by decide) (r_iret C hQ dL_undo_14 rfl (vp_nar_int _) ⟨Nat.le_of_ble_eq_true rfl, Nat.le_of_ble_eq_true rfl⟩ w))
    · refine r_catch C htab [(0, 9, 12, 13)] (0, 9, 15, 17) [] rfl (fun z hz => by simp only [List.mem_cons, List.not_mem_nil, or_false] at hz; rcases hz with rfl <;> first | exact ⟨by decide, "java/lang/IndexOutOfBoundsException", tw220, by decide +kernel⟩) (by decide) (by decide) tw222 tw322 rfl (fun q9 => ?_)
      exact r_astore_n C dL_undo_15 (nlt hn (by decide)) rfl (r_iconst C (v := 2) dL_undo_16 (by decide) (r_iret C hQ dL_undo_17 rfl (vp_nar_int _) ⟨Nat.le_of_ble_eq_true rfl, Nat.le_of_ble_eq_true rfl⟩ w))
  intro r1 h6 hp
  obtain ⟨g5, rfl⟩ : ∃ z, z = h6 := ⟨_, rfl⟩
  have w := hp
  obtain ⟨o7, e8, w⟩ := w
  obtain ⟨g9, e10⟩ : ∃ z, z = hu g5 p2 (10, sB o7 0 0 r1.toInt64) := ⟨_, rfl⟩
  have w := w g9 e10
  exact r_i2l C dL_undo_7 (r_last10 C dL_undo_8 e8 e10 (r_goto C 18 dL_undo_9 (by decide) (r_iconst C (v := 0) dL_undo_18 (by decide) (r_iret C hQ dL_undo_19 rfl (vp_nar_int _) ⟨Nat.le_of_ble_eq_true rfl, Nat.le_of_ble_eq_true rfl⟩ w))))
def rm_L_redo : Room := { frames := 8, cells := 2, slots := 12, locals := 168 }
theorem mt_L_redo : gMtw yL_redo cL_redo 4 (some .int) [(0, 9, 12, 13), (0, 9, 15, 17)] 3 := ⟨tw626, tw58, by decide +kernel, by decide +kernel, by decide +kernel⟩
def wp_L_redo (p0 : Nat) (p1 : Int32) (p2 : Nat) (g : GH) (post : Int32 → GH → Prop) : Prop :=
∃ o2, g p0 = some (8, o2) ∧
wp_X7_redo p0 p1 g (fun r1 g5 =>
∃ o7, g5 p2 = some (10, o7) ∧
∀ g9, g9 = hu g5 p2 (10, sB o7 0 0 r1.toInt64) →
post 0 g9) (fun E9 g4 => (E9 = "java/lang/IndexOutOfBoundsException" ∧ post 1 g4) ∨ (E9 = "java/lang/IllegalStateException" ∧ post 2 g4))
set_option maxHeartbeats 4000000 in
set_option maxRecDepth 100000 in
theorem m_L_redo {Y : gWx}  {p0 : Nat} {p1 : Int32} {p2 : Nat} {post : Int32 → GH → Prop} {g : GH}    (hlt : (yl Y).stackTraces = false) (w : wp_L_redo p0 p1 p2 g post) : gMew Y yL_redo cL_redo 4 (some .int) [(0, 9, 12, 13), (0, 9, 15, 17)] rm_L_redo [.ref p0, .int p1, .ref p2] g (gQi Y post) 2 12 := by
  refine gm_ofh rfl (Nat.le_of_ble_eq_true rfl) tw626 ?_
  intro X hY hn C htab hQ
  subst hY
  have hQ : gRet X (gQi (xY X) post) 2 12 ∨ gRex X (gQi (xY X) post) (fun _ _ => False) 2 12 := Or.inl hQ
  have C : gC X cL_redo RL (some .int) rm_L_redo := C
  show gX X 0 0 0 [(0, .ref p0), (1, .int p1), (2, .ref p2)] [] g
  unfold wp_L_redo at w
  obtain ⟨o2, e3, w⟩ := w
  refine r_aload_n C 2 dL_redo_0 rfl (r_iconst C (v := 0) dL_redo_1 (by decide) (r_aload_n C 0 dL_redo_2 rfl (r_iload_n C 1 dL_redo_3 rfl (r_gxi (r_ruxV C dL_redo_4 (m_X7_redo hlt w) mt_X7_redo tw627 tw628 tw629 gcl_8.1 e3 rfl (stk := [.int 0, .ref p2]) rfl (Nat.le_of_ble_eq_true rfl) ⟨rfl, rfl, ⟨Nat.le_of_ble_eq_true rfl, Nat.le_of_ble_eq_true rfl⟩, ⟨Nat.le_of_ble_eq_true rfl, Nat.le_of_ble_eq_true rfl⟩⟩) (fun E9 h6 hp => ?_) ?_))))
  · obtain ⟨g4, rfl⟩ : ∃ z, z = h6 := ⟨_, rfl⟩
    rcases hp with ⟨rfl, w⟩ | ⟨rfl, w⟩
    · refine r_catch C htab [] (0, 9, 12, 13) [(0, 9, 15, 17)] rfl (fun z hz => by cases hz) (by decide) (by decide) tw220 tw232 rfl (fun q9 => ?_)
      exact r_astore_n C dL_redo_12 (nlt hn (by decide)) rfl (r_iconst C (v := 1) dL_redo_13 (by decide) (r_iret C hQ dL_redo_14 rfl (vp_nar_int _) ⟨Nat.le_of_ble_eq_true rfl, Nat.le_of_ble_eq_true rfl⟩ w))
    · refine r_catch C htab [(0, 9, 12, 13)] (0, 9, 15, 17) [] rfl (fun z hz => by simp only [List.mem_cons, List.not_mem_nil, or_false] at hz; rcases hz with rfl <;> first | exact ⟨by decide, "java/lang/IndexOutOfBoundsException", tw220, by decide +kernel⟩) (by decide) (by decide) tw222 tw322 rfl (fun q9 => ?_)
      exact r_astore_n C dL_redo_15 (nlt hn (by decide)) rfl (r_iconst C (v := 2) dL_redo_16 (by decide) (r_iret C hQ dL_redo_17 rfl (vp_nar_int _) ⟨Nat.le_of_ble_eq_true rfl, Nat.le_of_ble_eq_true rfl⟩ w))
  intro r1 h6 hp
  obtain ⟨g5, rfl⟩ : ∃ z, z = h6 := ⟨_, rfl⟩
  have w := hp
  obtain ⟨o7, e8, w⟩ := w
  obtain ⟨g9, e10⟩ : ∃ z, z = hu g5 p2 (10, sB o7 0 0 r1.toInt64) := ⟨_, rfl⟩
  have w := w g9 e10
  exact r_i2l C dL_redo_7 (r_last10 C dL_redo_8 e8 e10 (r_goto C 18 dL_redo_9 (by decide) (r_iconst C (v := 0) dL_redo_18 (by decide) (r_iret C hQ dL_redo_19 rfl (vp_nar_int _) ⟨Nat.le_of_ble_eq_true rfl, Nat.le_of_ble_eq_true rfl⟩ w))))
def rm_L_isLive : Room := { frames := 8, cells := 1, slots := 6, locals := 143 }
theorem mt_L_isLive : gMtw yL_isLive cL_isLive 4 (some .int) [(0, 16, 19, 13)] 3 := ⟨tw638, tw58, by decide +kernel, by decide +kernel, by decide +kernel⟩
def wp_L_isLive_15 (p0 : Nat) (p1 : Int32) (p2 : Nat) (post : Int32 → GH → Prop) (y2 : Int64) (g : GH) : Prop :=
∃ o6, g p2 = some (10, o6) ∧
∀ g8, g8 = hu g p2 (10, sB o6 0 0 y2) →
post 0 g8
def wp_L_isLive (p0 : Nat) (p1 : Int32) (p2 : Nat) (g : GH) (post : Int32 → GH → Prop) : Prop :=
∃ o2, g p0 = some (8, o2) ∧
wp_X7_isLive p0 p1 g (fun r1 =>
((r1 = 0 → wp_L_isLive_15 p0 p1 p2 post 0 g) ∧ (¬ r1 = 0 → wp_L_isLive_15 p0 p1 p2 post 1 g))) (fun E9 => (E9 = "java/lang/IndexOutOfBoundsException" ∧ post 1 g))
set_option maxHeartbeats 4000000 in
set_option maxRecDepth 100000 in
theorem t_L_isLive_15 {X : gCx}  {p0 : Nat} {p1 : Int32} {p2 : Nat} {post : Int32 → GH → Prop}    (C : gC X cL_isLive RL (some .int) rm_L_isLive) (hn : xn X = 4) (hQ : gRet X (gQi (xY X) post) 1 6 ∨ gRex X (gQi (xY X) post) (fun _ _ => False) 1 6) (hlt : (yl (xY X)).stackTraces = false) (htab : (xc X).exceptionTable.toList = tableOf [(0, 16, 19, 13)])    : ∀ (y2 : Int64) (g : GH), wp_L_isLive_15 p0 p1 p2 post y2 g → gX X 1 6 15 [] [.long y2, .int 0, .ref p2] g := by
  intro y2 g w
  unfold wp_L_isLive_15 at w
  obtain ⟨o6, e7, w⟩ := w
  obtain ⟨g8, e9⟩ : ∃ z, z = hu g p2 (10, sB o6 0 0 y2) := ⟨_, rfl⟩
  have w := w g8 e9
  exact r_last10 C dL_isLive_15 e7 e9 (r_goto C 22 dL_isLive_16 (by decide) (r_iconst C (v := 0) dL_isLive_22 (by decide) (r_iret C hQ dL_isLive_23 rfl (vp_nar_int _) ⟨Nat.le_of_ble_eq_true rfl, Nat.le_of_ble_eq_true rfl⟩ w)))
set_option maxHeartbeats 4000000 in
set_option maxRecDepth 100000 in
theorem m_L_isLive {Y : gWx}  {p0 : Nat} {p1 : Int32} {p2 : Nat} {post : Int32 → GH → Prop} {g : GH}    (hlt : (yl Y).stackTraces = false) (w : wp_L_isLive p0 p1 p2 g post) : gMew Y yL_isLive cL_isLive 4 (some .int) [(0, 16, 19, 13)] rm_L_isLive [.ref p0, .int p1, .ref p2] g (gQi Y post) 1 6 := by
  refine gm_ofh rfl (Nat.le_of_ble_eq_true rfl) tw638 ?_
  intro X hY hn C htab hQ
  subst hY
  have hQ : gRet X (gQi (xY X) post) 1 6 ∨ gRex X (gQi (xY X) post) (fun _ _ => False) 1 6 := Or.inl hQ
  have C : gC X cL_isLive RL (some .int) rm_L_isLive := C
  show gX X 0 0 0 [(0, .ref p0), (1, .int p1), (2, .ref p2)] [] g
  unfold wp_L_isLive at w
  obtain ⟨o2, e3, w⟩ := w
  refine r_aload_n C 2 dL_isLive_0 rfl (r_iconst C (v := 0) dL_isLive_1 (by decide) (r_aload_n C 0 dL_isLive_2 rfl (r_iload_n C 1 dL_isLive_3 rfl (r_gxi (r_ruxV C dL_isLive_4 (m_X7_isLive hlt w) mt_X7_isLive tw639 tw640 tw641 gcl_8.1 e3 rfl (stk := [.int 0, .ref p2]) rfl (Nat.le_of_ble_eq_true rfl) ⟨rfl, rfl, ⟨Nat.le_of_ble_eq_true rfl, Nat.le_of_ble_eq_true rfl⟩, ⟨Nat.le_of_ble_eq_true rfl, Nat.le_of_ble_eq_true rfl⟩⟩) (fun E9 h4 hp => ?_) ?_))))
  · obtain ⟨e9, hp⟩ := hp
    rw [e9]
    obtain ⟨rfl, w⟩ := hp
    · refine r_catch C htab [] (0, 16, 19, 13) [] rfl (fun z hz => by cases hz) (by decide) (by decide) tw220 tw232 rfl (fun q9 => ?_)
      exact r_astore_n C dL_isLive_19 (nlt hn (by decide)) rfl (r_iconst C (v := 1) dL_isLive_20 (by decide) (r_iret C hQ dL_isLive_21 rfl (vp_nar_int _) ⟨Nat.le_of_ble_eq_true rfl, Nat.le_of_ble_eq_true rfl⟩ w))
  intro r1 h4 hp
  obtain ⟨e9, w⟩ := hp
  rw [e9]
  refine r_if_eq C 14 dL_isLive_7 (by decide) (fun c5 => ?_) (fun c5 => ?_)
  · have w := w.1 c5
    exact r_lconst C (v := 0) dL_isLive_14 (by decide) (r_widen (Nat.le_of_ble_eq_true rfl) (Nat.le_of_ble_eq_true rfl) <| r_sub [] rfl (t_L_isLive_15 C hn hQ hlt htab _ _ w))
  · have w := w.2 c5
    exact r_lconst C (v := 1) dL_isLive_10 (by decide) (r_goto C 15 dL_isLive_11 (by decide) (r_widen (Nat.le_of_ble_eq_true rfl) (Nat.le_of_ble_eq_true rfl) <| r_sub [] rfl (t_L_isLive_15 C hn hQ hlt htab _ _ w)))
def rm_L_holder : Room := { frames := 8, cells := 1, slots := 6, locals := 144 }
theorem mt_L_holder : gMtw yL_holder cL_holder 4 (some .int) [(0, 9, 12, 13)] 3 := ⟨tw650, tw58, by decide +kernel, by decide +kernel, by decide +kernel⟩
def wp_L_holder (p0 : Nat) (p1 : Int32) (p2 : Nat) (g : GH) (post : Int32 → GH → Prop) : Prop :=
∃ o2, g p0 = some (8, o2) ∧
wp_X7_holder p0 p1 g (fun r1 =>
∃ o5, g p2 = some (10, o5) ∧
∀ g7, g7 = hu g p2 (10, sB o5 0 0 r1.toInt64) →
post 0 g7) (fun E9 => (E9 = "java/lang/IndexOutOfBoundsException" ∧ post 1 g))
set_option maxHeartbeats 4000000 in
set_option maxRecDepth 100000 in
theorem m_L_holder {Y : gWx}  {p0 : Nat} {p1 : Int32} {p2 : Nat} {post : Int32 → GH → Prop} {g : GH}    (hlt : (yl Y).stackTraces = false) (w : wp_L_holder p0 p1 p2 g post) : gMew Y yL_holder cL_holder 4 (some .int) [(0, 9, 12, 13)] rm_L_holder [.ref p0, .int p1, .ref p2] g (gQi Y post) 1 6 := by
  refine gm_ofh rfl (Nat.le_of_ble_eq_true rfl) tw650 ?_
  intro X hY hn C htab hQ
  subst hY
  have hQ : gRet X (gQi (xY X) post) 1 6 ∨ gRex X (gQi (xY X) post) (fun _ _ => False) 1 6 := Or.inl hQ
  have C : gC X cL_holder RL (some .int) rm_L_holder := C
  show gX X 0 0 0 [(0, .ref p0), (1, .int p1), (2, .ref p2)] [] g
  unfold wp_L_holder at w
  obtain ⟨o2, e3, w⟩ := w
  refine r_aload_n C 2 dL_holder_0 rfl (r_iconst C (v := 0) dL_holder_1 (by decide) (r_aload_n C 0 dL_holder_2 rfl (r_iload_n C 1 dL_holder_3 rfl (r_gxi (r_ruxV C dL_holder_4 (m_X7_holder hlt w) mt_X7_holder tw651 tw652 tw653 gcl_8.1 e3 rfl (stk := [.int 0, .ref p2]) rfl (Nat.le_of_ble_eq_true rfl) ⟨rfl, rfl, ⟨Nat.le_of_ble_eq_true rfl, Nat.le_of_ble_eq_true rfl⟩, ⟨Nat.le_of_ble_eq_true rfl, Nat.le_of_ble_eq_true rfl⟩⟩) (fun E9 h4 hp => ?_) ?_))))
  · obtain ⟨e9, hp⟩ := hp
    rw [e9]
    obtain ⟨rfl, w⟩ := hp
    · refine r_catch C htab [] (0, 9, 12, 13) [] rfl (fun z hz => by cases hz) (by decide) (by decide) tw220 tw232 rfl (fun q9 => ?_)
      exact r_astore_n C dL_holder_12 (nlt hn (by decide)) rfl (r_iconst C (v := 1) dL_holder_13 (by decide) (r_iret C hQ dL_holder_14 rfl (vp_nar_int _) ⟨Nat.le_of_ble_eq_true rfl, Nat.le_of_ble_eq_true rfl⟩ w))
  intro r1 h4 hp
  obtain ⟨e9, w⟩ := hp
  rw [e9]
  obtain ⟨o5, e6, w⟩ := w
  obtain ⟨g7, e8⟩ : ∃ z, z = hu g p2 (10, sB o5 0 0 r1.toInt64) := ⟨_, rfl⟩
  have w := w g7 e8
  exact r_i2l C dL_holder_7 (r_last10 C dL_holder_8 e6 e8 (r_goto C 15 dL_holder_9 (by decide) (r_iconst C (v := 0) dL_holder_15 (by decide) (r_iret C hQ dL_holder_16 rfl (vp_nar_int _) ⟨Nat.le_of_ble_eq_true rfl, Nat.le_of_ble_eq_true rfl⟩ w))))
def rm_L_place : Room := { frames := 8, cells := 2, slots := 12, locals := 132 }
theorem mt_L_place : gMtw yL_place cL_place 4 (some .int) [(0, 9, 12, 13), (0, 9, 15, 17)] 3 := ⟨tw657, tw58, by decide +kernel, by decide +kernel, by decide +kernel⟩
def wp_L_place (p0 : Nat) (p1 : Int32) (p2 : Nat) (g : GH) (post : Int32 → GH → Prop) : Prop :=
∃ o2, g p0 = some (8, o2) ∧
wp_X7_place p0 p1 g (fun r1 =>
∃ o5, g p2 = some (10, o5) ∧
∀ g7, g7 = hu g p2 (10, sB o5 0 0 r1.toInt64) →
post 0 g7) (fun E9 => (E9 = "java/lang/IndexOutOfBoundsException" ∧ post 1 g) ∨ (E9 = "java/lang/IllegalStateException" ∧ post 2 g))
set_option maxHeartbeats 4000000 in
set_option maxRecDepth 100000 in
theorem m_L_place {Y : gWx}  {p0 : Nat} {p1 : Int32} {p2 : Nat} {post : Int32 → GH → Prop} {g : GH}    (hlt : (yl Y).stackTraces = false) (w : wp_L_place p0 p1 p2 g post) : gMew Y yL_place cL_place 4 (some .int) [(0, 9, 12, 13), (0, 9, 15, 17)] rm_L_place [.ref p0, .int p1, .ref p2] g (gQi Y post) 2 12 := by
  refine gm_ofh rfl (Nat.le_of_ble_eq_true rfl) tw657 ?_
  intro X hY hn C htab hQ
  subst hY
  have hQ : gRet X (gQi (xY X) post) 2 12 ∨ gRex X (gQi (xY X) post) (fun _ _ => False) 2 12 := Or.inl hQ
  have C : gC X cL_place RL (some .int) rm_L_place := C
  show gX X 0 0 0 [(0, .ref p0), (1, .int p1), (2, .ref p2)] [] g
  unfold wp_L_place at w
  obtain ⟨o2, e3, w⟩ := w
  refine r_aload_n C 2 dL_place_0 rfl (r_iconst C (v := 0) dL_place_1 (by decide) (r_aload_n C 0 dL_place_2 rfl (r_iload_n C 1 dL_place_3 rfl (r_gxi (r_ruxV C dL_place_4 (m_X7_place hlt w) mt_X7_place tw658 tw659 tw660 gcl_8.1 e3 rfl (stk := [.int 0, .ref p2]) rfl (Nat.le_of_ble_eq_true rfl) ⟨rfl, rfl, ⟨Nat.le_of_ble_eq_true rfl, Nat.le_of_ble_eq_true rfl⟩, ⟨Nat.le_of_ble_eq_true rfl, Nat.le_of_ble_eq_true rfl⟩⟩) (fun E9 h4 hp => ?_) ?_))))
  · obtain ⟨e9, hp⟩ := hp
    rw [e9]
    rcases hp with ⟨rfl, w⟩ | ⟨rfl, w⟩
    · refine r_catch C htab [] (0, 9, 12, 13) [(0, 9, 15, 17)] rfl (fun z hz => by cases hz) (by decide) (by decide) tw220 tw232 rfl (fun q9 => ?_)
      exact r_astore_n C dL_place_12 (nlt hn (by decide)) rfl (r_iconst C (v := 1) dL_place_13 (by decide) (r_iret C hQ dL_place_14 rfl (vp_nar_int _) ⟨Nat.le_of_ble_eq_true rfl, Nat.le_of_ble_eq_true rfl⟩ w))
    · refine r_catch C htab [(0, 9, 12, 13)] (0, 9, 15, 17) [] rfl (fun z hz => by simp only [List.mem_cons, List.not_mem_nil, or_false] at hz; rcases hz with rfl <;> first | exact ⟨by decide, "java/lang/IndexOutOfBoundsException", tw220, by decide +kernel⟩) (by decide) (by decide) tw222 tw322 rfl (fun q9 => ?_)
      exact r_astore_n C dL_place_15 (nlt hn (by decide)) rfl (r_iconst C (v := 2) dL_place_16 (by decide) (r_iret C hQ dL_place_17 rfl (vp_nar_int _) ⟨Nat.le_of_ble_eq_true rfl, Nat.le_of_ble_eq_true rfl⟩ w))
  intro r1 h4 hp
  obtain ⟨e9, w⟩ := hp
  rw [e9]
  obtain ⟨o5, e6, w⟩ := w
  obtain ⟨g7, e8⟩ : ∃ z, z = hu g p2 (10, sB o5 0 0 r1.toInt64) := ⟨_, rfl⟩
  have w := w g7 e8
  exact r_i2l C dL_place_7 (r_last10 C dL_place_8 e6 e8 (r_goto C 18 dL_place_9 (by decide) (r_iconst C (v := 0) dL_place_18 (by decide) (r_iret C hQ dL_place_19 rfl (vp_nar_int _) ⟨Nat.le_of_ble_eq_true rfl, Nat.le_of_ble_eq_true rfl⟩ w))))
def rm_L_colour : Room := { frames := 8, cells := 1, slots := 6, locals := 132 }
theorem mt_L_colour : gMtw yL_colour cL_colour 4 (some .int) [(0, 9, 12, 13)] 3 := ⟨tw665, tw58, by decide +kernel, by decide +kernel, by decide +kernel⟩
def wp_L_colour (p0 : Nat) (p1 : Int32) (p2 : Nat) (g : GH) (post : Int32 → GH → Prop) : Prop :=
∃ o2, g p0 = some (8, o2) ∧
wp_X7_colour p0 p1 g (fun r1 =>
∃ o5, g p2 = some (10, o5) ∧
∀ g7, g7 = hu g p2 (10, sB o5 0 0 r1.toInt64) →
post 0 g7) (fun E9 => (E9 = "java/lang/IndexOutOfBoundsException" ∧ post 1 g))
set_option maxHeartbeats 4000000 in
set_option maxRecDepth 100000 in
theorem m_L_colour {Y : gWx}  {p0 : Nat} {p1 : Int32} {p2 : Nat} {post : Int32 → GH → Prop} {g : GH}    (hlt : (yl Y).stackTraces = false) (w : wp_L_colour p0 p1 p2 g post) : gMew Y yL_colour cL_colour 4 (some .int) [(0, 9, 12, 13)] rm_L_colour [.ref p0, .int p1, .ref p2] g (gQi Y post) 1 6 := by
  refine gm_ofh rfl (Nat.le_of_ble_eq_true rfl) tw665 ?_
  intro X hY hn C htab hQ
  subst hY
  have hQ : gRet X (gQi (xY X) post) 1 6 ∨ gRex X (gQi (xY X) post) (fun _ _ => False) 1 6 := Or.inl hQ
  have C : gC X cL_colour RL (some .int) rm_L_colour := C
  show gX X 0 0 0 [(0, .ref p0), (1, .int p1), (2, .ref p2)] [] g
  unfold wp_L_colour at w
  obtain ⟨o2, e3, w⟩ := w
  refine r_aload_n C 2 dL_colour_0 rfl (r_iconst C (v := 0) dL_colour_1 (by decide) (r_aload_n C 0 dL_colour_2 rfl (r_iload_n C 1 dL_colour_3 rfl (r_gxi (r_ruxV C dL_colour_4 (m_X7_colour hlt w) mt_X7_colour tw666 tw667 tw668 gcl_8.1 e3 rfl (stk := [.int 0, .ref p2]) rfl (Nat.le_of_ble_eq_true rfl) ⟨rfl, rfl, ⟨Nat.le_of_ble_eq_true rfl, Nat.le_of_ble_eq_true rfl⟩, ⟨Nat.le_of_ble_eq_true rfl, Nat.le_of_ble_eq_true rfl⟩⟩) (fun E9 h4 hp => ?_) ?_))))
  · obtain ⟨e9, hp⟩ := hp
    rw [e9]
    obtain ⟨rfl, w⟩ := hp
    · refine r_catch C htab [] (0, 9, 12, 13) [] rfl (fun z hz => by cases hz) (by decide) (by decide) tw220 tw232 rfl (fun q9 => ?_)
      exact r_astore_n C dL_colour_12 (nlt hn (by decide)) rfl (r_iconst C (v := 1) dL_colour_13 (by decide) (r_iret C hQ dL_colour_14 rfl (vp_nar_int _) ⟨Nat.le_of_ble_eq_true rfl, Nat.le_of_ble_eq_true rfl⟩ w))
  intro r1 h4 hp
  obtain ⟨e9, w⟩ := hp
  rw [e9]
  obtain ⟨o5, e6, w⟩ := w
  obtain ⟨g7, e8⟩ : ∃ z, z = hu g p2 (10, sB o5 0 0 r1.toInt64) := ⟨_, rfl⟩
  have w := w g7 e8
  exact r_i2l C dL_colour_7 (r_last10 C dL_colour_8 e6 e8 (r_goto C 15 dL_colour_9 (by decide) (r_iconst C (v := 0) dL_colour_15 (by decide) (r_iret C hQ dL_colour_16 rfl (vp_nar_int _) ⟨Nat.le_of_ble_eq_true rfl, Nat.le_of_ble_eq_true rfl⟩ w))))
def rm_L_above : Room := { frames := 8, cells := 1, slots := 6, locals := 132 }
theorem mt_L_above : gMtw yL_above cL_above 4 (some .int) [(0, 9, 12, 13)] 3 := ⟨tw672, tw58, by decide +kernel, by decide +kernel, by decide +kernel⟩
def wp_L_above (p0 : Nat) (p1 : Int32) (p2 : Nat) (g : GH) (post : Int32 → GH → Prop) : Prop :=
∃ o2, g p0 = some (8, o2) ∧
wp_X7_above p0 p1 g (fun r1 =>
∃ o5, g p2 = some (10, o5) ∧
∀ g7, g7 = hu g p2 (10, sB o5 0 0 r1.toInt64) →
post 0 g7) (fun E9 => (E9 = "java/lang/IndexOutOfBoundsException" ∧ post 1 g))
set_option maxHeartbeats 4000000 in
set_option maxRecDepth 100000 in
theorem m_L_above {Y : gWx}  {p0 : Nat} {p1 : Int32} {p2 : Nat} {post : Int32 → GH → Prop} {g : GH}    (hlt : (yl Y).stackTraces = false) (w : wp_L_above p0 p1 p2 g post) : gMew Y yL_above cL_above 4 (some .int) [(0, 9, 12, 13)] rm_L_above [.ref p0, .int p1, .ref p2] g (gQi Y post) 1 6 := by
  refine gm_ofh rfl (Nat.le_of_ble_eq_true rfl) tw672 ?_
  intro X hY hn C htab hQ
  subst hY
  have hQ : gRet X (gQi (xY X) post) 1 6 ∨ gRex X (gQi (xY X) post) (fun _ _ => False) 1 6 := Or.inl hQ
  have C : gC X cL_above RL (some .int) rm_L_above := C
  show gX X 0 0 0 [(0, .ref p0), (1, .int p1), (2, .ref p2)] [] g
  unfold wp_L_above at w
  obtain ⟨o2, e3, w⟩ := w
  refine r_aload_n C 2 dL_above_0 rfl (r_iconst C (v := 0) dL_above_1 (by decide) (r_aload_n C 0 dL_above_2 rfl (r_iload_n C 1 dL_above_3 rfl (r_gxi (r_ruxV C dL_above_4 (m_X7_above hlt w) mt_X7_above tw673 tw674 tw675 gcl_8.1 e3 rfl (stk := [.int 0, .ref p2]) rfl (Nat.le_of_ble_eq_true rfl) ⟨rfl, rfl, ⟨Nat.le_of_ble_eq_true rfl, Nat.le_of_ble_eq_true rfl⟩, ⟨Nat.le_of_ble_eq_true rfl, Nat.le_of_ble_eq_true rfl⟩⟩) (fun E9 h4 hp => ?_) ?_))))
  · obtain ⟨e9, hp⟩ := hp
    rw [e9]
    obtain ⟨rfl, w⟩ := hp
    · refine r_catch C htab [] (0, 9, 12, 13) [] rfl (fun z hz => by cases hz) (by decide) (by decide) tw220 tw232 rfl (fun q9 => ?_)
      exact r_astore_n C dL_above_12 (nlt hn (by decide)) rfl (r_iconst C (v := 1) dL_above_13 (by decide) (r_iret C hQ dL_above_14 rfl (vp_nar_int _) ⟨Nat.le_of_ble_eq_true rfl, Nat.le_of_ble_eq_true rfl⟩ w))
  intro r1 h4 hp
  obtain ⟨e9, w⟩ := hp
  rw [e9]
  obtain ⟨o5, e6, w⟩ := w
  obtain ⟨g7, e8⟩ : ∃ z, z = hu g p2 (10, sB o5 0 0 r1.toInt64) := ⟨_, rfl⟩
  have w := w g7 e8
  exact r_i2l C dL_above_7 (r_last10 C dL_above_8 e6 e8 (r_goto C 15 dL_above_9 (by decide) (r_iconst C (v := 0) dL_above_15 (by decide) (r_iret C hQ dL_above_16 rfl (vp_nar_int _) ⟨Nat.le_of_ble_eq_true rfl, Nat.le_of_ble_eq_true rfl⟩ w))))
def rm_L_group : Room := { frames := 8, cells := 1, slots := 6, locals := 132 }
theorem mt_L_group : gMtw yL_group cL_group 4 (some .int) [(0, 8, 11, 13)] 3 := ⟨tw683, tw58, by decide +kernel, by decide +kernel, by decide +kernel⟩
def wp_L_group (p0 : Nat) (p1 : Int32) (p2 : Nat) (g : GH) (post : Int32 → GH → Prop) : Prop :=
∃ o2, g p0 = some (8, o2) ∧
wp_X7_group p0 p1 g (fun r1 =>
∃ o5, g p2 = some (10, o5) ∧
∀ g7, g7 = hu g p2 (10, sB o5 0 0 r1) →
post 0 g7) (fun E9 => (E9 = "java/lang/IndexOutOfBoundsException" ∧ post 1 g))
set_option maxHeartbeats 4000000 in
set_option maxRecDepth 100000 in
theorem m_L_group {Y : gWx}  {p0 : Nat} {p1 : Int32} {p2 : Nat} {post : Int32 → GH → Prop} {g : GH}    (hlt : (yl Y).stackTraces = false) (w : wp_L_group p0 p1 p2 g post) : gMew Y yL_group cL_group 4 (some .int) [(0, 8, 11, 13)] rm_L_group [.ref p0, .int p1, .ref p2] g (gQi Y post) 1 6 := by
  refine gm_ofh rfl (Nat.le_of_ble_eq_true rfl) tw683 ?_
  intro X hY hn C htab hQ
  subst hY
  have hQ : gRet X (gQi (xY X) post) 1 6 ∨ gRex X (gQi (xY X) post) (fun _ _ => False) 1 6 := Or.inl hQ
  have C : gC X cL_group RL (some .int) rm_L_group := C
  show gX X 0 0 0 [(0, .ref p0), (1, .int p1), (2, .ref p2)] [] g
  unfold wp_L_group at w
  obtain ⟨o2, e3, w⟩ := w
  refine r_aload_n C 2 dL_group_0 rfl (r_iconst C (v := 0) dL_group_1 (by decide) (r_aload_n C 0 dL_group_2 rfl (r_iload_n C 1 dL_group_3 rfl (r_gxl (r_ruxV C dL_group_4 (m_X7_group hlt w) mt_X7_group tw684 tw685 tw686 gcl_8.1 e3 rfl (stk := [.int 0, .ref p2]) rfl (Nat.le_of_ble_eq_true rfl) ⟨rfl, rfl, ⟨Nat.le_of_ble_eq_true rfl, Nat.le_of_ble_eq_true rfl⟩, ⟨Nat.le_of_ble_eq_true rfl, Nat.le_of_ble_eq_true rfl⟩⟩) (fun E9 h4 hp => ?_) ?_))))
  · obtain ⟨e9, hp⟩ := hp
    rw [e9]
    obtain ⟨rfl, w⟩ := hp
    · refine r_catch C htab [] (0, 8, 11, 13) [] rfl (fun z hz => by cases hz) (by decide) (by decide) tw220 tw232 rfl (fun q9 => ?_)
      exact r_astore_n C dL_group_11 (nlt hn (by decide)) rfl (r_iconst C (v := 1) dL_group_12 (by decide) (r_iret C hQ dL_group_13 rfl (vp_nar_int _) ⟨Nat.le_of_ble_eq_true rfl, Nat.le_of_ble_eq_true rfl⟩ w))
  intro r1 h4 hp
  obtain ⟨e9, w⟩ := hp
  rw [e9]
  obtain ⟨o5, e6, w⟩ := w
  obtain ⟨g7, e8⟩ : ∃ z, z = hu g p2 (10, sB o5 0 0 r1) := ⟨_, rfl⟩
  have w := w g7 e8
  exact r_last10 C dL_group_7 e6 e8 (r_goto C 14 dL_group_8 (by decide) (r_iconst C (v := 0) dL_group_14 (by decide) (r_iret C hQ dL_group_15 rfl (vp_nar_int _) ⟨Nat.le_of_ble_eq_true rfl, Nat.le_of_ble_eq_true rfl⟩ w)))
def rm_L_seen : Room := { frames := 8, cells := 1, slots := 6, locals := 135 }
theorem mt_L_seen : gMtw yL_seen cL_seen 5 (some .int) [(0, 10, 13, 13)] 4 := ⟨tw690, tw58, by decide +kernel, by decide +kernel, by decide +kernel⟩
def wp_L_seen (p0 : Nat) (p1 : Int32) (p2 : Int32) (p3 : Nat) (g : GH) (post : Int32 → GH → Prop) : Prop :=
∃ o2, g p0 = some (8, o2) ∧
wp_X7_seen p0 p1 p2 g (fun r1 =>
∃ o5, g p3 = some (10, o5) ∧
∀ g7, g7 = hu g p3 (10, sB o5 0 0 r1.toInt64) →
post 0 g7) (fun E9 => (E9 = "java/lang/IndexOutOfBoundsException" ∧ post 1 g))
set_option maxHeartbeats 4000000 in
set_option maxRecDepth 100000 in
theorem m_L_seen {Y : gWx}  {p0 : Nat} {p1 : Int32} {p2 : Int32} {p3 : Nat} {post : Int32 → GH → Prop} {g : GH}    (hlt : (yl Y).stackTraces = false) (w : wp_L_seen p0 p1 p2 p3 g post) : gMew Y yL_seen cL_seen 5 (some .int) [(0, 10, 13, 13)] rm_L_seen [.ref p0, .int p1, .int p2, .ref p3] g (gQi Y post) 1 6 := by
  refine gm_ofh rfl (Nat.le_of_ble_eq_true rfl) tw690 ?_
  intro X hY hn C htab hQ
  subst hY
  have hQ : gRet X (gQi (xY X) post) 1 6 ∨ gRex X (gQi (xY X) post) (fun _ _ => False) 1 6 := Or.inl hQ
  have C : gC X cL_seen RL (some .int) rm_L_seen := C
  show gX X 0 0 0 [(0, .ref p0), (1, .int p1), (2, .int p2), (3, .ref p3)] [] g
  unfold wp_L_seen at w
  obtain ⟨o2, e3, w⟩ := w
  refine r_aload_n C 3 dL_seen_0 rfl (r_iconst C (v := 0) dL_seen_1 (by decide) (r_aload_n C 0 dL_seen_2 rfl (r_iload_n C 1 dL_seen_3 rfl (r_iload_n C 2 dL_seen_4 rfl (r_gxi (r_ruxV C dL_seen_5 (m_X7_seen hlt w) mt_X7_seen tw691 tw692 tw693 gcl_8.1 e3 rfl (stk := [.int 0, .ref p3]) rfl (Nat.le_of_ble_eq_true rfl) ⟨rfl, rfl, ⟨Nat.le_of_ble_eq_true rfl, Nat.le_of_ble_eq_true rfl⟩, ⟨Nat.le_of_ble_eq_true rfl, Nat.le_of_ble_eq_true rfl⟩⟩) (fun E9 h4 hp => ?_) ?_)))))
  · obtain ⟨e9, hp⟩ := hp
    rw [e9]
    obtain ⟨rfl, w⟩ := hp
    · refine r_catch C htab [] (0, 10, 13, 13) [] rfl (fun z hz => by cases hz) (by decide) (by decide) tw220 tw232 rfl (fun q9 => ?_)
      exact r_astore C dL_seen_13 (nlt hn (by decide)) rfl (r_iconst C (v := 1) dL_seen_15 (by decide) (r_iret C hQ dL_seen_16 rfl (vp_nar_int _) ⟨Nat.le_of_ble_eq_true rfl, Nat.le_of_ble_eq_true rfl⟩ w))
  intro r1 h4 hp
  obtain ⟨e9, w⟩ := hp
  rw [e9]
  obtain ⟨o5, e6, w⟩ := w
  obtain ⟨g7, e8⟩ : ∃ z, z = hu g p3 (10, sB o5 0 0 r1.toInt64) := ⟨_, rfl⟩
  have w := w g7 e8
  exact r_i2l C dL_seen_8 (r_last10 C dL_seen_9 e6 e8 (r_goto C 17 dL_seen_10 (by decide) (r_iconst C (v := 0) dL_seen_17 (by decide) (r_iret C hQ dL_seen_18 rfl (vp_nar_int _) ⟨Nat.le_of_ble_eq_true rfl, Nat.le_of_ble_eq_true rfl⟩ w))))
def rm_L_seenAnew : Room := { frames := 8, cells := 1, slots := 6, locals := 168 }
theorem mt_L_seenAnew : gMtw yL_seenAnew cL_seenAnew 5 (some .int) [(0, 10, 13, 13)] 4 := ⟨tw713, tw58, by decide +kernel, by decide +kernel, by decide +kernel⟩
def wp_L_seenAnew (p0 : Nat) (p1 : Int32) (p2 : Int32) (p3 : Nat) (g : GH) (post : Int32 → GH → Prop) : Prop :=
∃ o2, g p0 = some (8, o2) ∧
wp_X7_seenAnew p0 p1 p2 g (fun r1 g5 =>
∃ o7, g5 p3 = some (10, o7) ∧
∀ g9, g9 = hu g5 p3 (10, sB o7 0 0 r1.toInt64) →
post 0 g9) (fun E9 g4 => (E9 = "java/lang/IndexOutOfBoundsException" ∧ post 1 g4))
set_option maxHeartbeats 4000000 in
set_option maxRecDepth 100000 in
theorem m_L_seenAnew {Y : gWx}  {p0 : Nat} {p1 : Int32} {p2 : Int32} {p3 : Nat} {post : Int32 → GH → Prop} {g : GH}    (hlt : (yl Y).stackTraces = false) (w : wp_L_seenAnew p0 p1 p2 p3 g post) : gMew Y yL_seenAnew cL_seenAnew 5 (some .int) [(0, 10, 13, 13)] rm_L_seenAnew [.ref p0, .int p1, .int p2, .ref p3] g (gQi Y post) 1 6 := by
  refine gm_ofh rfl (Nat.le_of_ble_eq_true rfl) tw713 ?_
  intro X hY hn C htab hQ
  subst hY
  have hQ : gRet X (gQi (xY X) post) 1 6 ∨ gRex X (gQi (xY X) post) (fun _ _ => False) 1 6 := Or.inl hQ
  have C : gC X cL_seenAnew RL (some .int) rm_L_seenAnew := C
  show gX X 0 0 0 [(0, .ref p0), (1, .int p1), (2, .int p2), (3, .ref p3)] [] g
  unfold wp_L_seenAnew at w
  obtain ⟨o2, e3, w⟩ := w
  refine r_aload_n C 3 dL_seenAnew_0 rfl (r_iconst C (v := 0) dL_seenAnew_1 (by decide) (r_aload_n C 0 dL_seenAnew_2 rfl (r_iload_n C 1 dL_seenAnew_3 rfl (r_iload_n C 2 dL_seenAnew_4 rfl (r_gxi (r_ruxV C dL_seenAnew_5 (m_X7_seenAnew hlt w) mt_X7_seenAnew tw714 tw715 tw716 gcl_8.1 e3 rfl (stk := [.int 0, .ref p3]) rfl (Nat.le_of_ble_eq_true rfl) ⟨rfl, rfl, ⟨Nat.le_of_ble_eq_true rfl, Nat.le_of_ble_eq_true rfl⟩, ⟨Nat.le_of_ble_eq_true rfl, Nat.le_of_ble_eq_true rfl⟩⟩) (fun E9 h6 hp => ?_) ?_)))))
  · obtain ⟨g4, rfl⟩ : ∃ z, z = h6 := ⟨_, rfl⟩
    obtain ⟨rfl, w⟩ := hp
    · refine r_catch C htab [] (0, 10, 13, 13) [] rfl (fun z hz => by cases hz) (by decide) (by decide) tw220 tw232 rfl (fun q9 => ?_)
      exact r_astore C dL_seenAnew_13 (nlt hn (by decide)) rfl (r_iconst C (v := 1) dL_seenAnew_15 (by decide) (r_iret C hQ dL_seenAnew_16 rfl (vp_nar_int _) ⟨Nat.le_of_ble_eq_true rfl, Nat.le_of_ble_eq_true rfl⟩ w))
  intro r1 h6 hp
  obtain ⟨g5, rfl⟩ : ∃ z, z = h6 := ⟨_, rfl⟩
  have w := hp
  obtain ⟨o7, e8, w⟩ := w
  obtain ⟨g9, e10⟩ : ∃ z, z = hu g5 p3 (10, sB o7 0 0 r1.toInt64) := ⟨_, rfl⟩
  have w := w g9 e10
  exact r_i2l C dL_seenAnew_8 (r_last10 C dL_seenAnew_9 e8 e10 (r_goto C 17 dL_seenAnew_10 (by decide) (r_iconst C (v := 0) dL_seenAnew_17 (by decide) (r_iret C hQ dL_seenAnew_18 rfl (vp_nar_int _) ⟨Nat.le_of_ble_eq_true rfl, Nat.le_of_ble_eq_true rfl⟩ w))))
def rm_L_withdraw : Room := { frames := 8, cells := 2, slots := 12, locals := 145 }
theorem mt_L_withdraw : gMtw yL_withdraw cL_withdraw 4 (some .int) [(0, 9, 12, 13), (0, 9, 15, 17)] 3 := ⟨tw883, tw58, by decide +kernel, by decide +kernel, by decide +kernel⟩
def wp_L_withdraw (p0 : Nat) (p1 : Int32) (p2 : Nat) (g : GH) (post : Int32 → GH → Prop) : Prop :=
∃ o2, g p0 = some (8, o2) ∧
wp_X7_withdraw p0 p1 g (fun r1 g5 =>
∃ o7, g5 p2 = some (10, o7) ∧
∀ g9, g9 = hu g5 p2 (10, sB o7 0 0 r1.toInt64) →
post 0 g9) (fun E9 g4 => (E9 = "java/lang/IndexOutOfBoundsException" ∧ post 1 g4) ∨ (E9 = "java/lang/IllegalStateException" ∧ post 2 g4))
set_option maxHeartbeats 4000000 in
set_option maxRecDepth 100000 in
theorem m_L_withdraw {Y : gWx}  {p0 : Nat} {p1 : Int32} {p2 : Nat} {post : Int32 → GH → Prop} {g : GH}    (hlt : (yl Y).stackTraces = false) (w : wp_L_withdraw p0 p1 p2 g post) : gMew Y yL_withdraw cL_withdraw 4 (some .int) [(0, 9, 12, 13), (0, 9, 15, 17)] rm_L_withdraw [.ref p0, .int p1, .ref p2] g (gQi Y post) 2 12 := by
  refine gm_ofh rfl (Nat.le_of_ble_eq_true rfl) tw883 ?_
  intro X hY hn C htab hQ
  subst hY
  have hQ : gRet X (gQi (xY X) post) 2 12 ∨ gRex X (gQi (xY X) post) (fun _ _ => False) 2 12 := Or.inl hQ
  have C : gC X cL_withdraw RL (some .int) rm_L_withdraw := C
  show gX X 0 0 0 [(0, .ref p0), (1, .int p1), (2, .ref p2)] [] g
  unfold wp_L_withdraw at w
  obtain ⟨o2, e3, w⟩ := w
  refine r_aload_n C 2 dL_withdraw_0 rfl (r_iconst C (v := 0) dL_withdraw_1 (by decide) (r_aload_n C 0 dL_withdraw_2 rfl (r_iload_n C 1 dL_withdraw_3 rfl (r_gxi (r_ruxV C dL_withdraw_4 (m_X7_withdraw hlt w) mt_X7_withdraw tw884 tw885 tw886 gcl_8.1 e3 rfl (stk := [.int 0, .ref p2]) rfl (Nat.le_of_ble_eq_true rfl) ⟨rfl, rfl, ⟨Nat.le_of_ble_eq_true rfl, Nat.le_of_ble_eq_true rfl⟩, ⟨Nat.le_of_ble_eq_true rfl, Nat.le_of_ble_eq_true rfl⟩⟩) (fun E9 h6 hp => ?_) ?_))))
  · obtain ⟨g4, rfl⟩ : ∃ z, z = h6 := ⟨_, rfl⟩
    rcases hp with ⟨rfl, w⟩ | ⟨rfl, w⟩
    · refine r_catch C htab [] (0, 9, 12, 13) [(0, 9, 15, 17)] rfl (fun z hz => by cases hz) (by decide) (by decide) tw220 tw232 rfl (fun q9 => ?_)
      exact r_astore_n C dL_withdraw_12 (nlt hn (by decide)) rfl (r_iconst C (v := 1) dL_withdraw_13 (by decide) (r_iret C hQ dL_withdraw_14 rfl (vp_nar_int _) ⟨Nat.le_of_ble_eq_true rfl, Nat.le_of_ble_eq_true rfl⟩ w))
    · refine r_catch C htab [(0, 9, 12, 13)] (0, 9, 15, 17) [] rfl (fun z hz => by simp only [List.mem_cons, List.not_mem_nil, or_false] at hz; rcases hz with rfl <;> first | exact ⟨by decide, "java/lang/IndexOutOfBoundsException", tw220, by decide +kernel⟩) (by decide) (by decide) tw222 tw322 rfl (fun q9 => ?_)
      exact r_astore_n C dL_withdraw_15 (nlt hn (by decide)) rfl (r_iconst C (v := 2) dL_withdraw_16 (by decide) (r_iret C hQ dL_withdraw_17 rfl (vp_nar_int _) ⟨Nat.le_of_ble_eq_true rfl, Nat.le_of_ble_eq_true rfl⟩ w))
  intro r1 h6 hp
  obtain ⟨g5, rfl⟩ : ∃ z, z = h6 := ⟨_, rfl⟩
  have w := hp
  obtain ⟨o7, e8, w⟩ := w
  obtain ⟨g9, e10⟩ : ∃ z, z = hu g5 p2 (10, sB o7 0 0 r1.toInt64) := ⟨_, rfl⟩
  have w := w g9 e10
  exact r_i2l C dL_withdraw_7 (r_last10 C dL_withdraw_8 e8 e10 (r_goto C 18 dL_withdraw_9 (by decide) (r_iconst C (v := 0) dL_withdraw_18 (by decide) (r_iret C hQ dL_withdraw_19 rfl (vp_nar_int _) ⟨Nat.le_of_ble_eq_true rfl, Nat.le_of_ble_eq_true rfl⟩ w))))
def rm_L_viewed : Room := { frames := 8, cells := 2, slots := 12, locals := 148 }
theorem mt_L_viewed : gMtw yL_viewed cL_viewed 6 (some .int) [(0, 12, 15, 13)] 5 := ⟨tw905, tw58, by decide +kernel, by decide +kernel, by decide +kernel⟩
def wp_L_viewed (p0 : Nat) (p1 : Int32) (p2 : Int32) (p3 : Int32) (p4 : Nat) (g : GH) (post : Int32 → GH → Prop) : Prop :=
∃ o2, g p0 = some (8, o2) ∧
wp_X7_viewed p0 p1 p2 p3 g (fun r1 =>
∃ o5, g p4 = some (10, o5) ∧
∀ g7, g7 = hu g p4 (10, sB o5 0 0 r1.toInt64) →
post 0 g7) (fun E9 => (E9 = "java/lang/IndexOutOfBoundsException" ∧ post 1 g))
set_option maxHeartbeats 4000000 in
set_option maxRecDepth 100000 in
theorem m_L_viewed {Y : gWx}  {p0 : Nat} {p1 : Int32} {p2 : Int32} {p3 : Int32} {p4 : Nat} {post : Int32 → GH → Prop} {g : GH}    (hlt : (yl Y).stackTraces = false) (w : wp_L_viewed p0 p1 p2 p3 p4 g post) : gMew Y yL_viewed cL_viewed 6 (some .int) [(0, 12, 15, 13)] rm_L_viewed [.ref p0, .int p1, .int p2, .int p3, .ref p4] g (gQi Y post) 2 12 := by
  refine gm_ofh rfl (Nat.le_of_ble_eq_true rfl) tw905 ?_
  intro X hY hn C htab hQ
  subst hY
  have hQ : gRet X (gQi (xY X) post) 2 12 ∨ gRex X (gQi (xY X) post) (fun _ _ => False) 2 12 := Or.inl hQ
  have C : gC X cL_viewed RL (some .int) rm_L_viewed := C
  show gX X 0 0 0 [(0, .ref p0), (1, .int p1), (2, .int p2), (3, .int p3), (4, .ref p4)] [] g
  unfold wp_L_viewed at w
  obtain ⟨o2, e3, w⟩ := w
  refine r_aload C 4 dL_viewed_0 rfl (r_iconst C (v := 0) dL_viewed_2 (by decide) (r_aload_n C 0 dL_viewed_3 rfl (r_iload_n C 1 dL_viewed_4 rfl (r_iload_n C 2 dL_viewed_5 rfl (r_iload_n C 3 dL_viewed_6 rfl (r_gxi (r_ruxV C dL_viewed_7 (m_X7_viewed hlt w) mt_X7_viewed tw906 tw907 tw908 gcl_8.1 e3 rfl (stk := [.int 0, .ref p4]) rfl (Nat.le_of_ble_eq_true rfl) ⟨rfl, rfl, ⟨Nat.le_of_ble_eq_true rfl, Nat.le_of_ble_eq_true rfl⟩, ⟨Nat.le_of_ble_eq_true rfl, Nat.le_of_ble_eq_true rfl⟩⟩) (fun E9 h4 hp => ?_) ?_))))))
  · obtain ⟨e9, hp⟩ := hp
    rw [e9]
    obtain ⟨rfl, w⟩ := hp
    · refine r_catch C htab [] (0, 12, 15, 13) [] rfl (fun z hz => by cases hz) (by decide) (by decide) tw220 tw232 rfl (fun q9 => ?_)
      exact r_astore C dL_viewed_15 (nlt hn (by decide)) rfl (r_iconst C (v := 1) dL_viewed_17 (by decide) (r_iret C hQ dL_viewed_18 rfl (vp_nar_int _) ⟨Nat.le_of_ble_eq_true rfl, Nat.le_of_ble_eq_true rfl⟩ w))
  intro r1 h4 hp
  obtain ⟨e9, w⟩ := hp
  rw [e9]
  obtain ⟨o5, e6, w⟩ := w
  obtain ⟨g7, e8⟩ : ∃ z, z = hu g p4 (10, sB o5 0 0 r1.toInt64) := ⟨_, rfl⟩
  have w := w g7 e8
  exact r_i2l C dL_viewed_10 (r_last10 C dL_viewed_11 e6 e8 (r_goto C 19 dL_viewed_12 (by decide) (r_iconst C (v := 0) dL_viewed_19 (by decide) (r_iret C hQ dL_viewed_20 rfl (vp_nar_int _) ⟨Nat.le_of_ble_eq_true rfl, Nat.le_of_ble_eq_true rfl⟩ w))))
def rm_L_area : Room := { frames := 8, cells := 2, slots := 12, locals := 145 }
theorem mt_L_area : gMtw yL_area cL_area 5 (some .int) [(0, 10, 13, 13)] 4 := ⟨tw912, tw58, by decide +kernel, by decide +kernel, by decide +kernel⟩
def wp_L_area (p0 : Nat) (p1 : Int32) (p2 : Int32) (p3 : Nat) (g : GH) (post : Int32 → GH → Prop) : Prop :=
∃ o2, g p0 = some (8, o2) ∧
wp_X7_area p0 p1 p2 g (fun r1 =>
∃ o5, g p3 = some (10, o5) ∧
∀ g7, g7 = hu g p3 (10, sB o5 0 0 r1.toInt64) →
post 0 g7) (fun E9 => (E9 = "java/lang/IndexOutOfBoundsException" ∧ post 1 g))
set_option maxHeartbeats 4000000 in
set_option maxRecDepth 100000 in
theorem m_L_area {Y : gWx}  {p0 : Nat} {p1 : Int32} {p2 : Int32} {p3 : Nat} {post : Int32 → GH → Prop} {g : GH}    (hlt : (yl Y).stackTraces = false) (w : wp_L_area p0 p1 p2 p3 g post) : gMew Y yL_area cL_area 5 (some .int) [(0, 10, 13, 13)] rm_L_area [.ref p0, .int p1, .int p2, .ref p3] g (gQi Y post) 2 12 := by
  refine gm_ofh rfl (Nat.le_of_ble_eq_true rfl) tw912 ?_
  intro X hY hn C htab hQ
  subst hY
  have hQ : gRet X (gQi (xY X) post) 2 12 ∨ gRex X (gQi (xY X) post) (fun _ _ => False) 2 12 := Or.inl hQ
  have C : gC X cL_area RL (some .int) rm_L_area := C
  show gX X 0 0 0 [(0, .ref p0), (1, .int p1), (2, .int p2), (3, .ref p3)] [] g
  unfold wp_L_area at w
  obtain ⟨o2, e3, w⟩ := w
  refine r_aload_n C 3 dL_area_0 rfl (r_iconst C (v := 0) dL_area_1 (by decide) (r_aload_n C 0 dL_area_2 rfl (r_iload_n C 1 dL_area_3 rfl (r_iload_n C 2 dL_area_4 rfl (r_gxi (r_ruxV C dL_area_5 (m_X7_area hlt w) mt_X7_area tw913 tw914 tw915 gcl_8.1 e3 rfl (stk := [.int 0, .ref p3]) rfl (Nat.le_of_ble_eq_true rfl) ⟨rfl, rfl, ⟨Nat.le_of_ble_eq_true rfl, Nat.le_of_ble_eq_true rfl⟩, ⟨Nat.le_of_ble_eq_true rfl, Nat.le_of_ble_eq_true rfl⟩⟩) (fun E9 h4 hp => ?_) ?_)))))
  · obtain ⟨e9, hp⟩ := hp
    rw [e9]
    obtain ⟨rfl, w⟩ := hp
    · refine r_catch C htab [] (0, 10, 13, 13) [] rfl (fun z hz => by cases hz) (by decide) (by decide) tw220 tw232 rfl (fun q9 => ?_)
      exact r_astore C dL_area_13 (nlt hn (by decide)) rfl (r_iconst C (v := 1) dL_area_15 (by decide) (r_iret C hQ dL_area_16 rfl (vp_nar_int _) ⟨Nat.le_of_ble_eq_true rfl, Nat.le_of_ble_eq_true rfl⟩ w))
  intro r1 h4 hp
  obtain ⟨e9, w⟩ := hp
  rw [e9]
  obtain ⟨o5, e6, w⟩ := w
  obtain ⟨g7, e8⟩ : ∃ z, z = hu g p3 (10, sB o5 0 0 r1.toInt64) := ⟨_, rfl⟩
  have w := w g7 e8
  exact r_i2l C dL_area_8 (r_last10 C dL_area_9 e6 e8 (r_goto C 17 dL_area_10 (by decide) (r_iconst C (v := 0) dL_area_17 (by decide) (r_iret C hQ dL_area_18 rfl (vp_nar_int _) ⟨Nat.le_of_ble_eq_true rfl, Nat.le_of_ble_eq_true rfl⟩ w))))
def rm_L_sell : Room := { frames := 9, cells := 4, slots := 793, locals := 347 }
theorem mt_L_sell : gMtw yL_sell cL_sell 5 (some .int) [(0, 10, 13, 13), (0, 10, 17, 17)] 4 := ⟨tw919, tw58, by decide +kernel, by decide +kernel, by decide +kernel⟩
def wp_L_sell (p0 : Nat) (p1 : Int32) (p2 : Int32) (p3 : Nat) (g : GH) (post : Int32 → GH → Prop) : Prop :=
∃ o2, g p0 = some (8, o2) ∧
wp_X7_sell p0 p1 p2 g (fun r1 g5 =>
∃ o7, g5 p3 = some (10, o7) ∧
∀ g9, g9 = hu g5 p3 (10, sB o7 0 0 r1.toInt64) →
post 0 g9) (fun E9 g4 => (E9 = "java/lang/IndexOutOfBoundsException" ∧ post 1 g4) ∨ (E9 = "java/lang/IllegalStateException" ∧ post 2 g4))
set_option maxHeartbeats 4000000 in
set_option maxRecDepth 100000 in
theorem m_L_sell {Y : gWx}  {p0 : Nat} {p1 : Int32} {p2 : Int32} {p3 : Nat} {post : Int32 → GH → Prop} {g : GH}    (hlt : (yl Y).stackTraces = false) (w : wp_L_sell p0 p1 p2 p3 g post) : gMew Y yL_sell cL_sell 5 (some .int) [(0, 10, 13, 13), (0, 10, 17, 17)] rm_L_sell [.ref p0, .int p1, .int p2, .ref p3] g (gQi Y post) 4 793 := by
  refine gm_ofh rfl (Nat.le_of_ble_eq_true rfl) tw919 ?_
  intro X hY hn C htab hQ
  subst hY
  have hQ : gRet X (gQi (xY X) post) 4 793 ∨ gRex X (gQi (xY X) post) (fun _ _ => False) 4 793 := Or.inl hQ
  have C : gC X cL_sell RL (some .int) rm_L_sell := C
  show gX X 0 0 0 [(0, .ref p0), (1, .int p1), (2, .int p2), (3, .ref p3)] [] g
  unfold wp_L_sell at w
  obtain ⟨o2, e3, w⟩ := w
  refine r_aload_n C 3 dL_sell_0 rfl (r_iconst C (v := 0) dL_sell_1 (by decide) (r_aload_n C 0 dL_sell_2 rfl (r_iload_n C 1 dL_sell_3 rfl (r_iload_n C 2 dL_sell_4 rfl (r_gxi (r_ruxV C dL_sell_5 (m_X7_sell hlt w) mt_X7_sell tw920 tw921 tw922 gcl_8.1 e3 rfl (stk := [.int 0, .ref p3]) rfl (Nat.le_of_ble_eq_true rfl) ⟨rfl, rfl, ⟨Nat.le_of_ble_eq_true rfl, Nat.le_of_ble_eq_true rfl⟩, ⟨Nat.le_of_ble_eq_true rfl, Nat.le_of_ble_eq_true rfl⟩⟩) (fun E9 h6 hp => ?_) ?_)))))
  · obtain ⟨g4, rfl⟩ : ∃ z, z = h6 := ⟨_, rfl⟩
    rcases hp with ⟨rfl, w⟩ | ⟨rfl, w⟩
    · refine r_catch C htab [] (0, 10, 13, 13) [(0, 10, 17, 17)] rfl (fun z hz => by cases hz) (by decide) (by decide) tw220 tw232 rfl (fun q9 => ?_)
      exact r_astore C dL_sell_13 (nlt hn (by decide)) rfl (r_iconst C (v := 1) dL_sell_15 (by decide) (r_iret C hQ dL_sell_16 rfl (vp_nar_int _) ⟨Nat.le_of_ble_eq_true rfl, Nat.le_of_ble_eq_true rfl⟩ w))
    · refine r_catch C htab [(0, 10, 13, 13)] (0, 10, 17, 17) [] rfl (fun z hz => by simp only [List.mem_cons, List.not_mem_nil, or_false] at hz; rcases hz with rfl <;> first | exact ⟨by decide, "java/lang/IndexOutOfBoundsException", tw220, by decide +kernel⟩) (by decide) (by decide) tw222 tw322 rfl (fun q9 => ?_)
      exact r_astore C dL_sell_17 (nlt hn (by decide)) rfl (r_iconst C (v := 2) dL_sell_19 (by decide) (r_iret C hQ dL_sell_20 rfl (vp_nar_int _) ⟨Nat.le_of_ble_eq_true rfl, Nat.le_of_ble_eq_true rfl⟩ w))
  intro r1 h6 hp
  obtain ⟨g5, rfl⟩ : ∃ z, z = h6 := ⟨_, rfl⟩
  have w := hp
  obtain ⟨o7, e8, w⟩ := w
  obtain ⟨g9, e10⟩ : ∃ z, z = hu g5 p3 (10, sB o7 0 0 r1.toInt64) := ⟨_, rfl⟩
  have w := w g9 e10
  exact r_i2l C dL_sell_8 (r_last10 C dL_sell_9 e8 e10 (r_goto C 21 dL_sell_10 (by decide) (r_iconst C (v := 0) dL_sell_21 (by decide) (r_iret C hQ dL_sell_22 rfl (vp_nar_int _) ⟨Nat.le_of_ble_eq_true rfl, Nat.le_of_ble_eq_true rfl⟩ w))))
def rm_L_resell : Room := { frames := 9, cells := 6, slots := 805, locals := 348 }
theorem mt_L_resell : gMtw yL_resell cL_resell 7 (some .int) [(0, 14, 17, 13), (0, 14, 21, 15), (0, 14, 25, 17)] 6 := ⟨tw967, tw58, by decide +kernel, by decide +kernel, by decide +kernel⟩
def wp_L_resell (p0 : Nat) (p1 : Int32) (p2 : Int32) (p3 : Int32) (p4 : Int32) (p5 : Nat) (g : GH) (post : Int32 → GH → Prop) : Prop :=
∃ o2, g p0 = some (8, o2) ∧
wp_X7_resell p0 p1 p2 p3 p4 g (fun r1 g5 =>
∃ o7, g5 p5 = some (10, o7) ∧
∀ g9, g9 = hu g5 p5 (10, sB o7 0 0 r1.toInt64) →
post 0 g9) (fun E9 g4 => (E9 = "java/lang/IndexOutOfBoundsException" ∧ post 1 g4) ∨ (E9 = "java/lang/IllegalArgumentException" ∧ post 2 g4) ∨ (E9 = "java/lang/IllegalStateException" ∧ post 3 g4))
set_option maxHeartbeats 4000000 in
set_option maxRecDepth 100000 in
theorem m_L_resell {Y : gWx}  {p0 : Nat} {p1 : Int32} {p2 : Int32} {p3 : Int32} {p4 : Int32} {p5 : Nat} {post : Int32 → GH → Prop} {g : GH}    (hlt : (yl Y).stackTraces = false) (w : wp_L_resell p0 p1 p2 p3 p4 p5 g post) : gMew Y yL_resell cL_resell 7 (some .int) [(0, 14, 17, 13), (0, 14, 21, 15), (0, 14, 25, 17)] rm_L_resell [.ref p0, .int p1, .int p2, .int p3, .int p4, .ref p5] g (gQi Y post) 6 805 := by
  refine gm_ofh rfl (Nat.le_of_ble_eq_true rfl) tw967 ?_
  intro X hY hn C htab hQ
  subst hY
  have hQ : gRet X (gQi (xY X) post) 6 805 ∨ gRex X (gQi (xY X) post) (fun _ _ => False) 6 805 := Or.inl hQ
  have C : gC X cL_resell RL (some .int) rm_L_resell := C
  show gX X 0 0 0 [(0, .ref p0), (1, .int p1), (2, .int p2), (3, .int p3), (4, .int p4), (5, .ref p5)] [] g
  unfold wp_L_resell at w
  obtain ⟨o2, e3, w⟩ := w
  refine r_aload C 5 dL_resell_0 rfl (r_iconst C (v := 0) dL_resell_2 (by decide) (r_aload_n C 0 dL_resell_3 rfl (r_iload_n C 1 dL_resell_4 rfl (r_iload_n C 2 dL_resell_5 rfl (r_iload_n C 3 dL_resell_6 rfl (r_iload C 4 dL_resell_7 rfl (r_gxi (r_ruxV C dL_resell_9 (m_X7_resell hlt w) mt_X7_resell tw968 tw969 tw970 gcl_8.1 e3 rfl (stk := [.int 0, .ref p5]) rfl (Nat.le_of_ble_eq_true rfl) ⟨rfl, rfl, ⟨Nat.le_of_ble_eq_true rfl, Nat.le_of_ble_eq_true rfl⟩, ⟨Nat.le_of_ble_eq_true rfl, Nat.le_of_ble_eq_true rfl⟩⟩) (fun E9 h6 hp => ?_) ?_)))))))
  · obtain ⟨g4, rfl⟩ : ∃ z, z = h6 := ⟨_, rfl⟩
    rcases hp with ⟨rfl, w⟩ | ⟨rfl, w⟩ | ⟨rfl, w⟩
    · refine r_catch C htab [] (0, 14, 17, 13) [(0, 14, 21, 15), (0, 14, 25, 17)] rfl (fun z hz => by cases hz) (by decide) (by decide) tw220 tw232 rfl (fun q9 => ?_)
      exact r_astore C dL_resell_17 (nlt hn (by decide)) rfl (r_iconst C (v := 1) dL_resell_19 (by decide) (r_iret C hQ dL_resell_20 rfl (vp_nar_int _) ⟨Nat.le_of_ble_eq_true rfl, Nat.le_of_ble_eq_true rfl⟩ w))
    · refine r_catch C htab [(0, 14, 17, 13)] (0, 14, 21, 15) [(0, 14, 25, 17)] rfl (fun z hz => by simp only [List.mem_cons, List.not_mem_nil, or_false] at hz; rcases hz with rfl <;> first | exact ⟨by decide, "java/lang/IndexOutOfBoundsException", tw220, by decide +kernel⟩) (by decide) (by decide) tw221 tw306 rfl (fun q9 => ?_)
      exact r_astore C dL_resell_21 (nlt hn (by decide)) rfl (r_iconst C (v := 2) dL_resell_23 (by decide) (r_iret C hQ dL_resell_24 rfl (vp_nar_int _) ⟨Nat.le_of_ble_eq_true rfl, Nat.le_of_ble_eq_true rfl⟩ w))
    · refine r_catch C htab [(0, 14, 17, 13), (0, 14, 21, 15)] (0, 14, 25, 17) [] rfl (fun z hz => by simp only [List.mem_cons, List.not_mem_nil, or_false] at hz; rcases hz with rfl | rfl <;> first | exact ⟨by decide, "java/lang/IndexOutOfBoundsException", tw220, by decide +kernel⟩ | exact ⟨by decide, "java/lang/IllegalArgumentException", tw221, by decide +kernel⟩) (by decide) (by decide) tw222 tw322 rfl (fun q9 => ?_)
      exact r_astore C dL_resell_25 (nlt hn (by decide)) rfl (r_iconst C (v := 3) dL_resell_27 (by decide) (r_iret C hQ dL_resell_28 rfl (vp_nar_int _) ⟨Nat.le_of_ble_eq_true rfl, Nat.le_of_ble_eq_true rfl⟩ w))
  intro r1 h6 hp
  obtain ⟨g5, rfl⟩ : ∃ z, z = h6 := ⟨_, rfl⟩
  have w := hp
  obtain ⟨o7, e8, w⟩ := w
  obtain ⟨g9, e10⟩ : ∃ z, z = hu g5 p5 (10, sB o7 0 0 r1.toInt64) := ⟨_, rfl⟩
  have w := w g9 e10
  exact r_i2l C dL_resell_12 (r_last10 C dL_resell_13 e8 e10 (r_goto C 29 dL_resell_14 (by decide) (r_iconst C (v := 0) dL_resell_29 (by decide) (r_iret C hQ dL_resell_30 rfl (vp_nar_int _) ⟨Nat.le_of_ble_eq_true rfl, Nat.le_of_ble_eq_true rfl⟩ w))))
def rm_L_takeDown : Room := { frames := 8, cells := 2, slots := 12, locals := 150 }
theorem mt_L_takeDown : gMtw yL_takeDown cL_takeDown 4 (some .int) [(0, 9, 12, 13), (0, 9, 15, 17)] 3 := ⟨tw984, tw58, by decide +kernel, by decide +kernel, by decide +kernel⟩
def wp_L_takeDown (p0 : Nat) (p1 : Int32) (p2 : Nat) (g : GH) (post : Int32 → GH → Prop) : Prop :=
∃ o2, g p0 = some (8, o2) ∧
wp_X7_takeDown p0 p1 g (fun r1 g5 =>
∃ o7, g5 p2 = some (10, o7) ∧
∀ g9, g9 = hu g5 p2 (10, sB o7 0 0 r1.toInt64) →
post 0 g9) (fun E9 g4 => (E9 = "java/lang/IndexOutOfBoundsException" ∧ post 1 g4) ∨ (E9 = "java/lang/IllegalStateException" ∧ post 2 g4))
set_option maxHeartbeats 4000000 in
set_option maxRecDepth 100000 in
theorem m_L_takeDown {Y : gWx}  {p0 : Nat} {p1 : Int32} {p2 : Nat} {post : Int32 → GH → Prop} {g : GH}    (hlt : (yl Y).stackTraces = false) (w : wp_L_takeDown p0 p1 p2 g post) : gMew Y yL_takeDown cL_takeDown 4 (some .int) [(0, 9, 12, 13), (0, 9, 15, 17)] rm_L_takeDown [.ref p0, .int p1, .ref p2] g (gQi Y post) 2 12 := by
  refine gm_ofh rfl (Nat.le_of_ble_eq_true rfl) tw984 ?_
  intro X hY hn C htab hQ
  subst hY
  have hQ : gRet X (gQi (xY X) post) 2 12 ∨ gRex X (gQi (xY X) post) (fun _ _ => False) 2 12 := Or.inl hQ
  have C : gC X cL_takeDown RL (some .int) rm_L_takeDown := C
  show gX X 0 0 0 [(0, .ref p0), (1, .int p1), (2, .ref p2)] [] g
  unfold wp_L_takeDown at w
  obtain ⟨o2, e3, w⟩ := w
  refine r_aload_n C 2 dL_takeDown_0 rfl (r_iconst C (v := 0) dL_takeDown_1 (by decide) (r_aload_n C 0 dL_takeDown_2 rfl (r_iload_n C 1 dL_takeDown_3 rfl (r_gxi (r_ruxV C dL_takeDown_4 (m_X7_takeDown hlt w) mt_X7_takeDown tw985 tw986 tw987 gcl_8.1 e3 rfl (stk := [.int 0, .ref p2]) rfl (Nat.le_of_ble_eq_true rfl) ⟨rfl, rfl, ⟨Nat.le_of_ble_eq_true rfl, Nat.le_of_ble_eq_true rfl⟩, ⟨Nat.le_of_ble_eq_true rfl, Nat.le_of_ble_eq_true rfl⟩⟩) (fun E9 h6 hp => ?_) ?_))))
  · obtain ⟨g4, rfl⟩ : ∃ z, z = h6 := ⟨_, rfl⟩
    rcases hp with ⟨rfl, w⟩ | ⟨rfl, w⟩
    · refine r_catch C htab [] (0, 9, 12, 13) [(0, 9, 15, 17)] rfl (fun z hz => by cases hz) (by decide) (by decide) tw220 tw232 rfl (fun q9 => ?_)
      exact r_astore_n C dL_takeDown_12 (nlt hn (by decide)) rfl (r_iconst C (v := 1) dL_takeDown_13 (by decide) (r_iret C hQ dL_takeDown_14 rfl (vp_nar_int _) ⟨Nat.le_of_ble_eq_true rfl, Nat.le_of_ble_eq_true rfl⟩ w))
    · refine r_catch C htab [(0, 9, 12, 13)] (0, 9, 15, 17) [] rfl (fun z hz => by simp only [List.mem_cons, List.not_mem_nil, or_false] at hz; rcases hz with rfl <;> first | exact ⟨by decide, "java/lang/IndexOutOfBoundsException", tw220, by decide +kernel⟩) (by decide) (by decide) tw222 tw322 rfl (fun q9 => ?_)
      exact r_astore_n C dL_takeDown_15 (nlt hn (by decide)) rfl (r_iconst C (v := 2) dL_takeDown_16 (by decide) (r_iret C hQ dL_takeDown_17 rfl (vp_nar_int _) ⟨Nat.le_of_ble_eq_true rfl, Nat.le_of_ble_eq_true rfl⟩ w))
  intro r1 h6 hp
  obtain ⟨g5, rfl⟩ : ∃ z, z = h6 := ⟨_, rfl⟩
  have w := hp
  obtain ⟨o7, e8, w⟩ := w
  obtain ⟨g9, e10⟩ : ∃ z, z = hu g5 p2 (10, sB o7 0 0 r1.toInt64) := ⟨_, rfl⟩
  have w := w g9 e10
  exact r_i2l C dL_takeDown_7 (r_last10 C dL_takeDown_8 e8 e10 (r_goto C 18 dL_takeDown_9 (by decide) (r_iconst C (v := 0) dL_takeDown_18 (by decide) (r_iret C hQ dL_takeDown_19 rfl (vp_nar_int _) ⟨Nat.le_of_ble_eq_true rfl, Nat.le_of_ble_eq_true rfl⟩ w))))
def rm_L_accept : Room := { frames := 10, cells := 3, slots := 18, locals := 191 }
theorem mt_L_accept : gMtw yL_accept cL_accept 5 (some .int) [(0, 10, 13, 13), (0, 10, 17, 17)] 4 := ⟨tw998, tw58, by decide +kernel, by decide +kernel, by decide +kernel⟩
def wp_L_accept (p0 : Nat) (p1 : Int32) (p2 : Int32) (p3 : Nat) (g : GH) (post : Int32 → GH → Prop) : Prop :=
∃ o2, g p0 = some (8, o2) ∧
wp_X7_accept p0 p1 p2 g (fun r1 g5 =>
∃ o7, g5 p3 = some (10, o7) ∧
∀ g9, g9 = hu g5 p3 (10, sB o7 0 0 r1.toInt64) →
post 0 g9) (fun E9 g4 => (E9 = "java/lang/IndexOutOfBoundsException" ∧ post 1 g4) ∨ (E9 = "java/lang/IllegalStateException" ∧ post 2 g4))
set_option maxHeartbeats 4000000 in
set_option maxRecDepth 100000 in
theorem m_L_accept {Y : gWx}  {p0 : Nat} {p1 : Int32} {p2 : Int32} {p3 : Nat} {post : Int32 → GH → Prop} {g : GH}    (hlt : (yl Y).stackTraces = false) (w : wp_L_accept p0 p1 p2 p3 g post) : gMew Y yL_accept cL_accept 5 (some .int) [(0, 10, 13, 13), (0, 10, 17, 17)] rm_L_accept [.ref p0, .int p1, .int p2, .ref p3] g (gQi Y post) 3 18 := by
  refine gm_ofh rfl (Nat.le_of_ble_eq_true rfl) tw998 ?_
  intro X hY hn C htab hQ
  subst hY
  have hQ : gRet X (gQi (xY X) post) 3 18 ∨ gRex X (gQi (xY X) post) (fun _ _ => False) 3 18 := Or.inl hQ
  have C : gC X cL_accept RL (some .int) rm_L_accept := C
  show gX X 0 0 0 [(0, .ref p0), (1, .int p1), (2, .int p2), (3, .ref p3)] [] g
  unfold wp_L_accept at w
  obtain ⟨o2, e3, w⟩ := w
  refine r_aload_n C 3 dL_accept_0 rfl (r_iconst C (v := 0) dL_accept_1 (by decide) (r_aload_n C 0 dL_accept_2 rfl (r_iload_n C 1 dL_accept_3 rfl (r_iload_n C 2 dL_accept_4 rfl (r_gxi (r_ruxV C dL_accept_5 (m_X7_accept hlt w) mt_X7_accept tw999 tw1000 tw1001 gcl_8.1 e3 rfl (stk := [.int 0, .ref p3]) rfl (Nat.le_of_ble_eq_true rfl) ⟨rfl, rfl, ⟨Nat.le_of_ble_eq_true rfl, Nat.le_of_ble_eq_true rfl⟩, ⟨Nat.le_of_ble_eq_true rfl, Nat.le_of_ble_eq_true rfl⟩⟩) (fun E9 h6 hp => ?_) ?_)))))
  · obtain ⟨g4, rfl⟩ : ∃ z, z = h6 := ⟨_, rfl⟩
    rcases hp with ⟨rfl, w⟩ | ⟨rfl, w⟩
    · refine r_catch C htab [] (0, 10, 13, 13) [(0, 10, 17, 17)] rfl (fun z hz => by cases hz) (by decide) (by decide) tw220 tw232 rfl (fun q9 => ?_)
      exact r_astore C dL_accept_13 (nlt hn (by decide)) rfl (r_iconst C (v := 1) dL_accept_15 (by decide) (r_iret C hQ dL_accept_16 rfl (vp_nar_int _) ⟨Nat.le_of_ble_eq_true rfl, Nat.le_of_ble_eq_true rfl⟩ w))
    · refine r_catch C htab [(0, 10, 13, 13)] (0, 10, 17, 17) [] rfl (fun z hz => by simp only [List.mem_cons, List.not_mem_nil, or_false] at hz; rcases hz with rfl <;> first | exact ⟨by decide, "java/lang/IndexOutOfBoundsException", tw220, by decide +kernel⟩) (by decide) (by decide) tw222 tw322 rfl (fun q9 => ?_)
      exact r_astore C dL_accept_17 (nlt hn (by decide)) rfl (r_iconst C (v := 2) dL_accept_19 (by decide) (r_iret C hQ dL_accept_20 rfl (vp_nar_int _) ⟨Nat.le_of_ble_eq_true rfl, Nat.le_of_ble_eq_true rfl⟩ w))
  intro r1 h6 hp
  obtain ⟨g5, rfl⟩ : ∃ z, z = h6 := ⟨_, rfl⟩
  have w := hp
  obtain ⟨o7, e8, w⟩ := w
  obtain ⟨g9, e10⟩ : ∃ z, z = hu g5 p3 (10, sB o7 0 0 r1.toInt64) := ⟨_, rfl⟩
  have w := w g9 e10
  exact r_i2l C dL_accept_8 (r_last10 C dL_accept_9 e8 e10 (r_goto C 21 dL_accept_10 (by decide) (r_iconst C (v := 0) dL_accept_21 (by decide) (r_iret C hQ dL_accept_22 rfl (vp_nar_int _) ⟨Nat.le_of_ble_eq_true rfl, Nat.le_of_ble_eq_true rfl⟩ w))))
def rm_L_giveBack : Room := { frames := 10, cells := 5, slots := 799, locals := 346 }
theorem mt_L_giveBack : gMtw yL_giveBack cL_giveBack 5 (some .int) [(0, 10, 13, 13), (0, 10, 17, 17)] 4 := ⟨tw1010, tw58, by decide +kernel, by decide +kernel, by decide +kernel⟩
def wp_L_giveBack (p0 : Nat) (p1 : Int32) (p2 : Int32) (p3 : Nat) (g : GH) (post : Int32 → GH → Prop) : Prop :=
∃ o2, g p0 = some (8, o2) ∧
wp_X7_giveBack p0 p1 p2 g (fun r1 g5 =>
∃ o7, g5 p3 = some (10, o7) ∧
∀ g9, g9 = hu g5 p3 (10, sB o7 0 0 r1.toInt64) →
post 0 g9) (fun E9 g4 => (E9 = "java/lang/IndexOutOfBoundsException" ∧ post 1 g4) ∨ (E9 = "java/lang/IllegalStateException" ∧ post 2 g4))
set_option maxHeartbeats 4000000 in
set_option maxRecDepth 100000 in
theorem m_L_giveBack {Y : gWx}  {p0 : Nat} {p1 : Int32} {p2 : Int32} {p3 : Nat} {post : Int32 → GH → Prop} {g : GH}    (hlt : (yl Y).stackTraces = false) (w : wp_L_giveBack p0 p1 p2 p3 g post) : gMew Y yL_giveBack cL_giveBack 5 (some .int) [(0, 10, 13, 13), (0, 10, 17, 17)] rm_L_giveBack [.ref p0, .int p1, .int p2, .ref p3] g (gQi Y post) 5 799 := by
  refine gm_ofh rfl (Nat.le_of_ble_eq_true rfl) tw1010 ?_
  intro X hY hn C htab hQ
  subst hY
  have hQ : gRet X (gQi (xY X) post) 5 799 ∨ gRex X (gQi (xY X) post) (fun _ _ => False) 5 799 := Or.inl hQ
  have C : gC X cL_giveBack RL (some .int) rm_L_giveBack := C
  show gX X 0 0 0 [(0, .ref p0), (1, .int p1), (2, .int p2), (3, .ref p3)] [] g
  unfold wp_L_giveBack at w
  obtain ⟨o2, e3, w⟩ := w
  refine r_aload_n C 3 dL_giveBack_0 rfl (r_iconst C (v := 0) dL_giveBack_1 (by decide) (r_aload_n C 0 dL_giveBack_2 rfl (r_iload_n C 1 dL_giveBack_3 rfl (r_iload_n C 2 dL_giveBack_4 rfl (r_gxi (r_ruxV C dL_giveBack_5 (m_X7_giveBack hlt w) mt_X7_giveBack tw1011 tw1012 tw1013 gcl_8.1 e3 rfl (stk := [.int 0, .ref p3]) rfl (Nat.le_of_ble_eq_true rfl) ⟨rfl, rfl, ⟨Nat.le_of_ble_eq_true rfl, Nat.le_of_ble_eq_true rfl⟩, ⟨Nat.le_of_ble_eq_true rfl, Nat.le_of_ble_eq_true rfl⟩⟩) (fun E9 h6 hp => ?_) ?_)))))
  · obtain ⟨g4, rfl⟩ : ∃ z, z = h6 := ⟨_, rfl⟩
    rcases hp with ⟨rfl, w⟩ | ⟨rfl, w⟩
    · refine r_catch C htab [] (0, 10, 13, 13) [(0, 10, 17, 17)] rfl (fun z hz => by cases hz) (by decide) (by decide) tw220 tw232 rfl (fun q9 => ?_)
      exact r_astore C dL_giveBack_13 (nlt hn (by decide)) rfl (r_iconst C (v := 1) dL_giveBack_15 (by decide) (r_iret C hQ dL_giveBack_16 rfl (vp_nar_int _) ⟨Nat.le_of_ble_eq_true rfl, Nat.le_of_ble_eq_true rfl⟩ w))
    · refine r_catch C htab [(0, 10, 13, 13)] (0, 10, 17, 17) [] rfl (fun z hz => by simp only [List.mem_cons, List.not_mem_nil, or_false] at hz; rcases hz with rfl <;> first | exact ⟨by decide, "java/lang/IndexOutOfBoundsException", tw220, by decide +kernel⟩) (by decide) (by decide) tw222 tw322 rfl (fun q9 => ?_)
      exact r_astore C dL_giveBack_17 (nlt hn (by decide)) rfl (r_iconst C (v := 2) dL_giveBack_19 (by decide) (r_iret C hQ dL_giveBack_20 rfl (vp_nar_int _) ⟨Nat.le_of_ble_eq_true rfl, Nat.le_of_ble_eq_true rfl⟩ w))
  intro r1 h6 hp
  obtain ⟨g5, rfl⟩ : ∃ z, z = h6 := ⟨_, rfl⟩
  have w := hp
  obtain ⟨o7, e8, w⟩ := w
  obtain ⟨g9, e10⟩ : ∃ z, z = hu g5 p3 (10, sB o7 0 0 r1.toInt64) := ⟨_, rfl⟩
  have w := w g9 e10
  exact r_i2l C dL_giveBack_8 (r_last10 C dL_giveBack_9 e8 e10 (r_goto C 21 dL_giveBack_10 (by decide) (r_iconst C (v := 0) dL_giveBack_21 (by decide) (r_iret C hQ dL_giveBack_22 rfl (vp_nar_int _) ⟨Nat.le_of_ble_eq_true rfl, Nat.le_of_ble_eq_true rfl⟩ w))))
def rm_L_copyState : Room := { frames := 9, cells := 2, slots := 12, locals := 167 }
theorem mt_L_copyState : gMtw yL_copyState cL_copyState 5 (some .int) [(0, 10, 13, 13)] 4 := ⟨tw1017, tw58, by decide +kernel, by decide +kernel, by decide +kernel⟩
def wp_L_copyState (p0 : Nat) (p1 : Int32) (p2 : Int32) (p3 : Nat) (g : GH) (post : Int32 → GH → Prop) : Prop :=
∃ o2, g p0 = some (8, o2) ∧
wp_X7_copyState p0 p1 p2 g (fun r1 =>
∃ o5, g p3 = some (10, o5) ∧
∀ g7, g7 = hu g p3 (10, sB o5 0 0 r1.toInt64) →
post 0 g7) (fun E9 => (E9 = "java/lang/IndexOutOfBoundsException" ∧ post 1 g))
set_option maxHeartbeats 4000000 in
set_option maxRecDepth 100000 in
theorem m_L_copyState {Y : gWx}  {p0 : Nat} {p1 : Int32} {p2 : Int32} {p3 : Nat} {post : Int32 → GH → Prop} {g : GH}    (hlt : (yl Y).stackTraces = false) (w : wp_L_copyState p0 p1 p2 p3 g post) : gMew Y yL_copyState cL_copyState 5 (some .int) [(0, 10, 13, 13)] rm_L_copyState [.ref p0, .int p1, .int p2, .ref p3] g (gQi Y post) 2 12 := by
  refine gm_ofh rfl (Nat.le_of_ble_eq_true rfl) tw1017 ?_
  intro X hY hn C htab hQ
  subst hY
  have hQ : gRet X (gQi (xY X) post) 2 12 ∨ gRex X (gQi (xY X) post) (fun _ _ => False) 2 12 := Or.inl hQ
  have C : gC X cL_copyState RL (some .int) rm_L_copyState := C
  show gX X 0 0 0 [(0, .ref p0), (1, .int p1), (2, .int p2), (3, .ref p3)] [] g
  unfold wp_L_copyState at w
  obtain ⟨o2, e3, w⟩ := w
  refine r_aload_n C 3 dL_copyState_0 rfl (r_iconst C (v := 0) dL_copyState_1 (by decide) (r_aload_n C 0 dL_copyState_2 rfl (r_iload_n C 1 dL_copyState_3 rfl (r_iload_n C 2 dL_copyState_4 rfl (r_gxi (r_ruxV C dL_copyState_5 (m_X7_copyState hlt w) mt_X7_copyState tw1018 tw1019 tw1020 gcl_8.1 e3 rfl (stk := [.int 0, .ref p3]) rfl (Nat.le_of_ble_eq_true rfl) ⟨rfl, rfl, ⟨Nat.le_of_ble_eq_true rfl, Nat.le_of_ble_eq_true rfl⟩, ⟨Nat.le_of_ble_eq_true rfl, Nat.le_of_ble_eq_true rfl⟩⟩) (fun E9 h4 hp => ?_) ?_)))))
  · obtain ⟨e9, hp⟩ := hp
    rw [e9]
    obtain ⟨rfl, w⟩ := hp
    · refine r_catch C htab [] (0, 10, 13, 13) [] rfl (fun z hz => by cases hz) (by decide) (by decide) tw220 tw232 rfl (fun q9 => ?_)
      exact r_astore C dL_copyState_13 (nlt hn (by decide)) rfl (r_iconst C (v := 1) dL_copyState_15 (by decide) (r_iret C hQ dL_copyState_16 rfl (vp_nar_int _) ⟨Nat.le_of_ble_eq_true rfl, Nat.le_of_ble_eq_true rfl⟩ w))
  intro r1 h4 hp
  obtain ⟨e9, w⟩ := hp
  rw [e9]
  obtain ⟨o5, e6, w⟩ := w
  obtain ⟨g7, e8⟩ : ∃ z, z = hu g p3 (10, sB o5 0 0 r1.toInt64) := ⟨_, rfl⟩
  have w := w g7 e8
  exact r_i2l C dL_copyState_8 (r_last10 C dL_copyState_9 e6 e8 (r_goto C 17 dL_copyState_10 (by decide) (r_iconst C (v := 0) dL_copyState_17 (by decide) (r_iret C hQ dL_copyState_18 rfl (vp_nar_int _) ⟨Nat.le_of_ble_eq_true rfl, Nat.le_of_ble_eq_true rfl⟩ w))))
def rm_L_owner : Room := { frames := 9, cells := 2, slots := 12, locals := 167 }
theorem mt_L_owner : gMtw yL_owner cL_owner 5 (some .int) [(0, 10, 13, 13)] 4 := ⟨tw1024, tw58, by decide +kernel, by decide +kernel, by decide +kernel⟩
def wp_L_owner (p0 : Nat) (p1 : Int32) (p2 : Int32) (p3 : Nat) (g : GH) (post : Int32 → GH → Prop) : Prop :=
∃ o2, g p0 = some (8, o2) ∧
wp_X7_owner p0 p1 p2 g (fun r1 =>
∃ o5, g p3 = some (10, o5) ∧
∀ g7, g7 = hu g p3 (10, sB o5 0 0 r1.toInt64) →
post 0 g7) (fun E9 => (E9 = "java/lang/IndexOutOfBoundsException" ∧ post 1 g))
set_option maxHeartbeats 4000000 in
set_option maxRecDepth 100000 in
theorem m_L_owner {Y : gWx}  {p0 : Nat} {p1 : Int32} {p2 : Int32} {p3 : Nat} {post : Int32 → GH → Prop} {g : GH}    (hlt : (yl Y).stackTraces = false) (w : wp_L_owner p0 p1 p2 p3 g post) : gMew Y yL_owner cL_owner 5 (some .int) [(0, 10, 13, 13)] rm_L_owner [.ref p0, .int p1, .int p2, .ref p3] g (gQi Y post) 2 12 := by
  refine gm_ofh rfl (Nat.le_of_ble_eq_true rfl) tw1024 ?_
  intro X hY hn C htab hQ
  subst hY
  have hQ : gRet X (gQi (xY X) post) 2 12 ∨ gRex X (gQi (xY X) post) (fun _ _ => False) 2 12 := Or.inl hQ
  have C : gC X cL_owner RL (some .int) rm_L_owner := C
  show gX X 0 0 0 [(0, .ref p0), (1, .int p1), (2, .int p2), (3, .ref p3)] [] g
  unfold wp_L_owner at w
  obtain ⟨o2, e3, w⟩ := w
  refine r_aload_n C 3 dL_owner_0 rfl (r_iconst C (v := 0) dL_owner_1 (by decide) (r_aload_n C 0 dL_owner_2 rfl (r_iload_n C 1 dL_owner_3 rfl (r_iload_n C 2 dL_owner_4 rfl (r_gxi (r_ruxV C dL_owner_5 (m_X7_owner hlt w) mt_X7_owner tw1025 tw1026 tw1027 gcl_8.1 e3 rfl (stk := [.int 0, .ref p3]) rfl (Nat.le_of_ble_eq_true rfl) ⟨rfl, rfl, ⟨Nat.le_of_ble_eq_true rfl, Nat.le_of_ble_eq_true rfl⟩, ⟨Nat.le_of_ble_eq_true rfl, Nat.le_of_ble_eq_true rfl⟩⟩) (fun E9 h4 hp => ?_) ?_)))))
  · obtain ⟨e9, hp⟩ := hp
    rw [e9]
    obtain ⟨rfl, w⟩ := hp
    · refine r_catch C htab [] (0, 10, 13, 13) [] rfl (fun z hz => by cases hz) (by decide) (by decide) tw220 tw232 rfl (fun q9 => ?_)
      exact r_astore C dL_owner_13 (nlt hn (by decide)) rfl (r_iconst C (v := 1) dL_owner_15 (by decide) (r_iret C hQ dL_owner_16 rfl (vp_nar_int _) ⟨Nat.le_of_ble_eq_true rfl, Nat.le_of_ble_eq_true rfl⟩ w))
  intro r1 h4 hp
  obtain ⟨e9, w⟩ := hp
  rw [e9]
  obtain ⟨o5, e6, w⟩ := w
  obtain ⟨g7, e8⟩ : ∃ z, z = hu g p3 (10, sB o5 0 0 r1.toInt64) := ⟨_, rfl⟩
  have w := w g7 e8
  exact r_i2l C dL_owner_8 (r_last10 C dL_owner_9 e6 e8 (r_goto C 17 dL_owner_10 (by decide) (r_iconst C (v := 0) dL_owner_17 (by decide) (r_iret C hQ dL_owner_18 rfl (vp_nar_int _) ⟨Nat.le_of_ble_eq_true rfl, Nat.le_of_ble_eq_true rfl⟩ w))))
def rm_L_money : Room := { frames := 8, cells := 1, slots := 6, locals := 131 }
theorem mt_L_money : gMtw yL_money cL_money 4 (some .int) [(0, 9, 12, 13)] 3 := ⟨tw1031, tw58, by decide +kernel, by decide +kernel, by decide +kernel⟩
def wp_L_money (p0 : Nat) (p1 : Int32) (p2 : Nat) (g : GH) (post : Int32 → GH → Prop) : Prop :=
∃ o2, g p0 = some (8, o2) ∧
wp_X7_money p1 o2 (fun r1 =>
∃ o5, g p2 = some (10, o5) ∧
∀ g7, g7 = hu g p2 (10, sB o5 0 0 r1.toInt64) →
post 0 g7) (fun E9 => (E9 = "java/lang/IndexOutOfBoundsException" ∧ post 1 g))
set_option maxHeartbeats 4000000 in
set_option maxRecDepth 100000 in
theorem m_L_money {Y : gWx}  {p0 : Nat} {p1 : Int32} {p2 : Nat} {post : Int32 → GH → Prop} {g : GH}    (hlt : (yl Y).stackTraces = false) (w : wp_L_money p0 p1 p2 g post) : gMew Y yL_money cL_money 4 (some .int) [(0, 9, 12, 13)] rm_L_money [.ref p0, .int p1, .ref p2] g (gQi Y post) 1 6 := by
  refine gm_ofh rfl (Nat.le_of_ble_eq_true rfl) tw1031 ?_
  intro X hY hn C htab hQ
  subst hY
  have hQ : gRet X (gQi (xY X) post) 1 6 ∨ gRex X (gQi (xY X) post) (fun _ _ => False) 1 6 := Or.inl hQ
  have C : gC X cL_money RL (some .int) rm_L_money := C
  show gX X 0 0 0 [(0, .ref p0), (1, .int p1), (2, .ref p2)] [] g
  unfold wp_L_money at w
  obtain ⟨o2, e3, w⟩ := w
  refine r_aload_n C 2 dL_money_0 rfl (r_iconst C (v := 0) dL_money_1 (by decide) (r_aload_n C 0 dL_money_2 rfl (r_iload_n C 1 dL_money_3 rfl (r_gxi (r_ruxV C dL_money_4 (m_X7_money e3 hlt w) mt_X7_money tw1032 tw1033 tw1034 gcl_8.1 e3 rfl (stk := [.int 0, .ref p2]) rfl (Nat.le_of_ble_eq_true rfl) ⟨rfl, rfl, ⟨Nat.le_of_ble_eq_true rfl, Nat.le_of_ble_eq_true rfl⟩, ⟨Nat.le_of_ble_eq_true rfl, Nat.le_of_ble_eq_true rfl⟩⟩) (fun E9 h4 hp => ?_) ?_))))
  · obtain ⟨e9, hp⟩ := hp
    rw [e9]
    obtain ⟨rfl, w⟩ := hp
    · refine r_catch C htab [] (0, 9, 12, 13) [] rfl (fun z hz => by cases hz) (by decide) (by decide) tw220 tw232 rfl (fun q9 => ?_)
      exact r_astore_n C dL_money_12 (nlt hn (by decide)) rfl (r_iconst C (v := 1) dL_money_13 (by decide) (r_iret C hQ dL_money_14 rfl (vp_nar_int _) ⟨Nat.le_of_ble_eq_true rfl, Nat.le_of_ble_eq_true rfl⟩ w))
  intro r1 h4 hp
  obtain ⟨e9, w⟩ := hp
  rw [e9]
  obtain ⟨o5, e6, w⟩ := w
  obtain ⟨g7, e8⟩ : ∃ z, z = hu g p2 (10, sB o5 0 0 r1.toInt64) := ⟨_, rfl⟩
  have w := w g7 e8
  exact r_i2l C dL_money_7 (r_last10 C dL_money_8 e6 e8 (r_goto C 15 dL_money_9 (by decide) (r_iconst C (v := 0) dL_money_15 (by decide) (r_iret C hQ dL_money_16 rfl (vp_nar_int _) ⟨Nat.le_of_ble_eq_true rfl, Nat.le_of_ble_eq_true rfl⟩ w))))
def rm_L_moneyAnew : Room := { frames := 8, cells := 1, slots := 6, locals := 145 }
theorem mt_L_moneyAnew : gMtw yL_moneyAnew cL_moneyAnew 4 (some .int) [(0, 9, 12, 13)] 3 := ⟨tw1038, tw58, by decide +kernel, by decide +kernel, by decide +kernel⟩
def wp_L_moneyAnew (p0 : Nat) (p1 : Int32) (p2 : Nat) (g : GH) (post : Int32 → GH → Prop) : Prop :=
∃ o2, g p0 = some (8, o2) ∧
wp_X7_moneyAnew p0 p1 g (fun r1 g5 =>
∃ o7, g5 p2 = some (10, o7) ∧
∀ g9, g9 = hu g5 p2 (10, sB o7 0 0 r1.toInt64) →
post 0 g9) (fun E9 g4 => (E9 = "java/lang/IndexOutOfBoundsException" ∧ post 1 g4))
set_option maxHeartbeats 4000000 in
set_option maxRecDepth 100000 in
theorem m_L_moneyAnew {Y : gWx}  {p0 : Nat} {p1 : Int32} {p2 : Nat} {post : Int32 → GH → Prop} {g : GH}    (hlt : (yl Y).stackTraces = false) (w : wp_L_moneyAnew p0 p1 p2 g post) : gMew Y yL_moneyAnew cL_moneyAnew 4 (some .int) [(0, 9, 12, 13)] rm_L_moneyAnew [.ref p0, .int p1, .ref p2] g (gQi Y post) 1 6 := by
  refine gm_ofh rfl (Nat.le_of_ble_eq_true rfl) tw1038 ?_
  intro X hY hn C htab hQ
  subst hY
  have hQ : gRet X (gQi (xY X) post) 1 6 ∨ gRex X (gQi (xY X) post) (fun _ _ => False) 1 6 := Or.inl hQ
  have C : gC X cL_moneyAnew RL (some .int) rm_L_moneyAnew := C
  show gX X 0 0 0 [(0, .ref p0), (1, .int p1), (2, .ref p2)] [] g
  unfold wp_L_moneyAnew at w
  obtain ⟨o2, e3, w⟩ := w
  refine r_aload_n C 2 dL_moneyAnew_0 rfl (r_iconst C (v := 0) dL_moneyAnew_1 (by decide) (r_aload_n C 0 dL_moneyAnew_2 rfl (r_iload_n C 1 dL_moneyAnew_3 rfl (r_gxi (r_ruxV C dL_moneyAnew_4 (m_X7_moneyAnew hlt w) mt_X7_moneyAnew tw1039 tw1040 tw1041 gcl_8.1 e3 rfl (stk := [.int 0, .ref p2]) rfl (Nat.le_of_ble_eq_true rfl) ⟨rfl, rfl, ⟨Nat.le_of_ble_eq_true rfl, Nat.le_of_ble_eq_true rfl⟩, ⟨Nat.le_of_ble_eq_true rfl, Nat.le_of_ble_eq_true rfl⟩⟩) (fun E9 h6 hp => ?_) ?_))))
  · obtain ⟨g4, rfl⟩ : ∃ z, z = h6 := ⟨_, rfl⟩
    obtain ⟨rfl, w⟩ := hp
    · refine r_catch C htab [] (0, 9, 12, 13) [] rfl (fun z hz => by cases hz) (by decide) (by decide) tw220 tw232 rfl (fun q9 => ?_)
      exact r_astore_n C dL_moneyAnew_12 (nlt hn (by decide)) rfl (r_iconst C (v := 1) dL_moneyAnew_13 (by decide) (r_iret C hQ dL_moneyAnew_14 rfl (vp_nar_int _) ⟨Nat.le_of_ble_eq_true rfl, Nat.le_of_ble_eq_true rfl⟩ w))
  intro r1 h6 hp
  obtain ⟨g5, rfl⟩ : ∃ z, z = h6 := ⟨_, rfl⟩
  have w := hp
  obtain ⟨o7, e8, w⟩ := w
  obtain ⟨g9, e10⟩ : ∃ z, z = hu g5 p2 (10, sB o7 0 0 r1.toInt64) := ⟨_, rfl⟩
  have w := w g9 e10
  exact r_i2l C dL_moneyAnew_7 (r_last10 C dL_moneyAnew_8 e8 e10 (r_goto C 15 dL_moneyAnew_9 (by decide) (r_iconst C (v := 0) dL_moneyAnew_15 (by decide) (r_iret C hQ dL_moneyAnew_16 rfl (vp_nar_int _) ⟨Nat.le_of_ble_eq_true rfl, Nat.le_of_ble_eq_true rfl⟩ w))))
def rm_L_purse : Room := { frames := 8, cells := 1, slots := 6, locals := 131 }
theorem mt_L_purse : gMtw yL_purse cL_purse 4 (some .int) [(0, 9, 12, 13)] 3 := ⟨tw1048, tw58, by decide +kernel, by decide +kernel, by decide +kernel⟩
def wp_L_purse (p0 : Nat) (p1 : Int32) (p2 : Nat) (g : GH) (post : Int32 → GH → Prop) : Prop :=
∃ o2, g p0 = some (8, o2) ∧
wp_X7_purse p1 o2 (fun r1 =>
∃ o5, g p2 = some (10, o5) ∧
∀ g7, g7 = hu g p2 (10, sB o5 0 0 r1.toInt64) →
post 0 g7) (fun E9 => (E9 = "java/lang/IndexOutOfBoundsException" ∧ post 1 g))
set_option maxHeartbeats 4000000 in
set_option maxRecDepth 100000 in
theorem m_L_purse {Y : gWx}  {p0 : Nat} {p1 : Int32} {p2 : Nat} {post : Int32 → GH → Prop} {g : GH}    (hlt : (yl Y).stackTraces = false) (w : wp_L_purse p0 p1 p2 g post) : gMew Y yL_purse cL_purse 4 (some .int) [(0, 9, 12, 13)] rm_L_purse [.ref p0, .int p1, .ref p2] g (gQi Y post) 1 6 := by
  refine gm_ofh rfl (Nat.le_of_ble_eq_true rfl) tw1048 ?_
  intro X hY hn C htab hQ
  subst hY
  have hQ : gRet X (gQi (xY X) post) 1 6 ∨ gRex X (gQi (xY X) post) (fun _ _ => False) 1 6 := Or.inl hQ
  have C : gC X cL_purse RL (some .int) rm_L_purse := C
  show gX X 0 0 0 [(0, .ref p0), (1, .int p1), (2, .ref p2)] [] g
  unfold wp_L_purse at w
  obtain ⟨o2, e3, w⟩ := w
  refine r_aload_n C 2 dL_purse_0 rfl (r_iconst C (v := 0) dL_purse_1 (by decide) (r_aload_n C 0 dL_purse_2 rfl (r_iload_n C 1 dL_purse_3 rfl (r_gxi (r_ruxV C dL_purse_4 (m_X7_purse e3 hlt w) mt_X7_purse tw1049 tw1050 tw1051 gcl_8.1 e3 rfl (stk := [.int 0, .ref p2]) rfl (Nat.le_of_ble_eq_true rfl) ⟨rfl, rfl, ⟨Nat.le_of_ble_eq_true rfl, Nat.le_of_ble_eq_true rfl⟩, ⟨Nat.le_of_ble_eq_true rfl, Nat.le_of_ble_eq_true rfl⟩⟩) (fun E9 h4 hp => ?_) ?_))))
  · obtain ⟨e9, hp⟩ := hp
    rw [e9]
    obtain ⟨rfl, w⟩ := hp
    · refine r_catch C htab [] (0, 9, 12, 13) [] rfl (fun z hz => by cases hz) (by decide) (by decide) tw220 tw232 rfl (fun q9 => ?_)
      exact r_astore_n C dL_purse_12 (nlt hn (by decide)) rfl (r_iconst C (v := 1) dL_purse_13 (by decide) (r_iret C hQ dL_purse_14 rfl (vp_nar_int _) ⟨Nat.le_of_ble_eq_true rfl, Nat.le_of_ble_eq_true rfl⟩ w))
  intro r1 h4 hp
  obtain ⟨e9, w⟩ := hp
  rw [e9]
  obtain ⟨o5, e6, w⟩ := w
  obtain ⟨g7, e8⟩ : ∃ z, z = hu g p2 (10, sB o5 0 0 r1.toInt64) := ⟨_, rfl⟩
  have w := w g7 e8
  exact r_i2l C dL_purse_7 (r_last10 C dL_purse_8 e6 e8 (r_goto C 15 dL_purse_9 (by decide) (r_iconst C (v := 0) dL_purse_15 (by decide) (r_iret C hQ dL_purse_16 rfl (vp_nar_int _) ⟨Nat.le_of_ble_eq_true rfl, Nat.le_of_ble_eq_true rfl⟩ w))))

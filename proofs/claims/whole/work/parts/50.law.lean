theorem tw85 : Cond.classLink "CanvasRoomLaw" 8 "CanvasRoom" ∈ TW := tw_in 85 (by decide +kernel) (by decide +kernel)
theorem tw87 : Cond.methodLink "CanvasRoomLaw" 117 ⟨"CanvasRoom","<init>","()V"⟩ ∈ TW := tw_in 87 (by decide +kernel) (by decide +kernel)
theorem tw197 : Cond.methodLink "CanvasRoomLaw" 160 ⟨"CanvasRoom","acts","()I"⟩ ∈ TW := tw_in 197 (by decide +kernel) (by decide +kernel)
theorem tw198 : Cond.instanceMethod ⟨"CanvasRoom","acts","()I"⟩ ∈ TW := tw_in 198 (by decide +kernel) (by decide +kernel)
theorem tw199 : Cond.selects "CanvasRoom" ⟨"CanvasRoom","acts","()I"⟩ ⟨"CanvasRoom","acts","()I"⟩ ∈ TW := tw_in 199 (by decide +kernel) (by decide +kernel)
theorem tw205 : Cond.methodLink "CanvasRoomLaw" 170 ⟨"CanvasRoom","shapes","()I"⟩ ∈ TW := tw_in 205 (by decide +kernel) (by decide +kernel)
theorem tw206 : Cond.instanceMethod ⟨"CanvasRoom","shapes","()I"⟩ ∈ TW := tw_in 206 (by decide +kernel) (by decide +kernel)
theorem tw207 : Cond.selects "CanvasRoom" ⟨"CanvasRoom","shapes","()I"⟩ ⟨"CanvasRoom","shapes","()I"⟩ ∈ TW := tw_in 207 (by decide +kernel) (by decide +kernel)
theorem tw209 : Cond.methodLink "CanvasRoomLaw" 174 ⟨"CanvasRoom","there","()J"⟩ ∈ TW := tw_in 209 (by decide +kernel) (by decide +kernel)
theorem tw210 : Cond.instanceMethod ⟨"CanvasRoom","there","()J"⟩ ∈ TW := tw_in 210 (by decide +kernel) (by decide +kernel)
theorem tw211 : Cond.selects "CanvasRoom" ⟨"CanvasRoom","there","()J"⟩ ⟨"CanvasRoom","there","()J"⟩ ∈ TW := tw_in 211 (by decide +kernel) (by decide +kernel)
theorem tw213 : Cond.methodLink "CanvasRoomLaw" 240 ⟨"CanvasRoom","house","()I"⟩ ∈ TW := tw_in 213 (by decide +kernel) (by decide +kernel)
theorem tw214 : Cond.instanceMethod ⟨"CanvasRoom","house","()I"⟩ ∈ TW := tw_in 214 (by decide +kernel) (by decide +kernel)
theorem tw215 : Cond.selects "CanvasRoom" ⟨"CanvasRoom","house","()I"⟩ ⟨"CanvasRoom","house","()I"⟩ ∈ TW := tw_in 215 (by decide +kernel) (by decide +kernel)
theorem tw217 : Cond.methodLink "CanvasRoomLaw" 121 ⟨"CanvasRoomLaw","add","(LCanvasRoom;IIIIII[J)I"⟩ ∈ TW := tw_in 217 (by decide +kernel) (by decide +kernel)
theorem tw218 : Cond.static ⟨"CanvasRoomLaw","add","(LCanvasRoom;IIIIII[J)I"⟩ ∈ TW := tw_in 218 (by decide +kernel) (by decide +kernel)
theorem tw521 : Cond.methodLink "CanvasRoomLaw" 131 ⟨"CanvasRoomLaw","move","(LCanvasRoom;IIII[J)I"⟩ ∈ TW := tw_in 521 (by decide +kernel) (by decide +kernel)
theorem tw522 : Cond.static ⟨"CanvasRoomLaw","move","(LCanvasRoom;IIII[J)I"⟩ ∈ TW := tw_in 522 (by decide +kernel) (by decide +kernel)
theorem tw554 : Cond.methodLink "CanvasRoomLaw" 135 ⟨"CanvasRoomLaw","paint","(LCanvasRoom;III[J)I"⟩ ∈ TW := tw_in 554 (by decide +kernel) (by decide +kernel)
theorem tw555 : Cond.static ⟨"CanvasRoomLaw","paint","(LCanvasRoom;III[J)I"⟩ ∈ TW := tw_in 555 (by decide +kernel) (by decide +kernel)
theorem tw561 : Cond.methodLink "CanvasRoomLaw" 139 ⟨"CanvasRoomLaw","layer","(LCanvasRoom;IIZ[J)I"⟩ ∈ TW := tw_in 561 (by decide +kernel) (by decide +kernel)
theorem tw562 : Cond.static ⟨"CanvasRoomLaw","layer","(LCanvasRoom;IIZ[J)I"⟩ ∈ TW := tw_in 562 (by decide +kernel) (by decide +kernel)
theorem tw569 : Cond.methodLink "CanvasRoomLaw" 143 ⟨"CanvasRoomLaw","join","(LCanvasRoom;III[J)I"⟩ ∈ TW := tw_in 569 (by decide +kernel) (by decide +kernel)
theorem tw570 : Cond.static ⟨"CanvasRoomLaw","join","(LCanvasRoom;III[J)I"⟩ ∈ TW := tw_in 570 (by decide +kernel) (by decide +kernel)
theorem tw577 : Cond.methodLink "CanvasRoomLaw" 146 ⟨"CanvasRoomLaw","part","(LCanvasRoom;II[J)I"⟩ ∈ TW := tw_in 577 (by decide +kernel) (by decide +kernel)
theorem tw578 : Cond.static ⟨"CanvasRoomLaw","part","(LCanvasRoom;II[J)I"⟩ ∈ TW := tw_in 578 (by decide +kernel) (by decide +kernel)
theorem tw584 : Cond.methodLink "CanvasRoomLaw" 150 ⟨"CanvasRoomLaw","drop","(LCanvasRoom;II[J)I"⟩ ∈ TW := tw_in 584 (by decide +kernel) (by decide +kernel)
theorem tw585 : Cond.static ⟨"CanvasRoomLaw","drop","(LCanvasRoom;II[J)I"⟩ ∈ TW := tw_in 585 (by decide +kernel) (by decide +kernel)
theorem tw591 : Cond.methodLink "CanvasRoomLaw" 153 ⟨"CanvasRoomLaw","undo","(LCanvasRoom;I[J)I"⟩ ∈ TW := tw_in 591 (by decide +kernel) (by decide +kernel)
theorem tw592 : Cond.static ⟨"CanvasRoomLaw","undo","(LCanvasRoom;I[J)I"⟩ ∈ TW := tw_in 592 (by decide +kernel) (by decide +kernel)
theorem tw624 : Cond.methodLink "CanvasRoomLaw" 157 ⟨"CanvasRoomLaw","redo","(LCanvasRoom;I[J)I"⟩ ∈ TW := tw_in 624 (by decide +kernel) (by decide +kernel)
theorem tw625 : Cond.static ⟨"CanvasRoomLaw","redo","(LCanvasRoom;I[J)I"⟩ ∈ TW := tw_in 625 (by decide +kernel) (by decide +kernel)
theorem tw636 : Cond.methodLink "CanvasRoomLaw" 164 ⟨"CanvasRoomLaw","isLive","(LCanvasRoom;I[J)I"⟩ ∈ TW := tw_in 636 (by decide +kernel) (by decide +kernel)
theorem tw637 : Cond.static ⟨"CanvasRoomLaw","isLive","(LCanvasRoom;I[J)I"⟩ ∈ TW := tw_in 637 (by decide +kernel) (by decide +kernel)
theorem tw648 : Cond.methodLink "CanvasRoomLaw" 167 ⟨"CanvasRoomLaw","holder","(LCanvasRoom;I[J)I"⟩ ∈ TW := tw_in 648 (by decide +kernel) (by decide +kernel)
theorem tw649 : Cond.static ⟨"CanvasRoomLaw","holder","(LCanvasRoom;I[J)I"⟩ ∈ TW := tw_in 649 (by decide +kernel) (by decide +kernel)
theorem tw655 : Cond.methodLink "CanvasRoomLaw" 179 ⟨"CanvasRoomLaw","place","(LCanvasRoom;I[J)I"⟩ ∈ TW := tw_in 655 (by decide +kernel) (by decide +kernel)
theorem tw656 : Cond.static ⟨"CanvasRoomLaw","place","(LCanvasRoom;I[J)I"⟩ ∈ TW := tw_in 656 (by decide +kernel) (by decide +kernel)
theorem tw663 : Cond.methodLink "CanvasRoomLaw" 182 ⟨"CanvasRoomLaw","colour","(LCanvasRoom;I[J)I"⟩ ∈ TW := tw_in 663 (by decide +kernel) (by decide +kernel)
theorem tw664 : Cond.static ⟨"CanvasRoomLaw","colour","(LCanvasRoom;I[J)I"⟩ ∈ TW := tw_in 664 (by decide +kernel) (by decide +kernel)
theorem tw670 : Cond.methodLink "CanvasRoomLaw" 185 ⟨"CanvasRoomLaw","above","(LCanvasRoom;I[J)I"⟩ ∈ TW := tw_in 670 (by decide +kernel) (by decide +kernel)
theorem tw671 : Cond.static ⟨"CanvasRoomLaw","above","(LCanvasRoom;I[J)I"⟩ ∈ TW := tw_in 671 (by decide +kernel) (by decide +kernel)
theorem tw681 : Cond.methodLink "CanvasRoomLaw" 188 ⟨"CanvasRoomLaw","group","(LCanvasRoom;I[J)I"⟩ ∈ TW := tw_in 681 (by decide +kernel) (by decide +kernel)
theorem tw682 : Cond.static ⟨"CanvasRoomLaw","group","(LCanvasRoom;I[J)I"⟩ ∈ TW := tw_in 682 (by decide +kernel) (by decide +kernel)
theorem tw688 : Cond.methodLink "CanvasRoomLaw" 191 ⟨"CanvasRoomLaw","seen","(LCanvasRoom;II[J)I"⟩ ∈ TW := tw_in 688 (by decide +kernel) (by decide +kernel)
theorem tw689 : Cond.static ⟨"CanvasRoomLaw","seen","(LCanvasRoom;II[J)I"⟩ ∈ TW := tw_in 689 (by decide +kernel) (by decide +kernel)
theorem tw711 : Cond.methodLink "CanvasRoomLaw" 194 ⟨"CanvasRoomLaw","seenAnew","(LCanvasRoom;II[J)I"⟩ ∈ TW := tw_in 711 (by decide +kernel) (by decide +kernel)
theorem tw712 : Cond.static ⟨"CanvasRoomLaw","seenAnew","(LCanvasRoom;II[J)I"⟩ ∈ TW := tw_in 712 (by decide +kernel) (by decide +kernel)
theorem tw718 : Cond.methodLink "CanvasRoomLaw" 197 ⟨"CanvasRoomLaw","freeze","(LCanvasRoom;IIIIIII[J)I"⟩ ∈ TW := tw_in 718 (by decide +kernel) (by decide +kernel)
theorem tw719 : Cond.static ⟨"CanvasRoomLaw","freeze","(LCanvasRoom;IIIIIII[J)I"⟩ ∈ TW := tw_in 719 (by decide +kernel) (by decide +kernel)
theorem tw881 : Cond.methodLink "CanvasRoomLaw" 201 ⟨"CanvasRoomLaw","withdraw","(LCanvasRoom;I[J)I"⟩ ∈ TW := tw_in 881 (by decide +kernel) (by decide +kernel)
theorem tw882 : Cond.static ⟨"CanvasRoomLaw","withdraw","(LCanvasRoom;I[J)I"⟩ ∈ TW := tw_in 882 (by decide +kernel) (by decide +kernel)
theorem tw903 : Cond.methodLink "CanvasRoomLaw" 204 ⟨"CanvasRoomLaw","viewed","(LCanvasRoom;III[J)I"⟩ ∈ TW := tw_in 903 (by decide +kernel) (by decide +kernel)
theorem tw904 : Cond.static ⟨"CanvasRoomLaw","viewed","(LCanvasRoom;III[J)I"⟩ ∈ TW := tw_in 904 (by decide +kernel) (by decide +kernel)
theorem tw910 : Cond.methodLink "CanvasRoomLaw" 207 ⟨"CanvasRoomLaw","area","(LCanvasRoom;II[J)I"⟩ ∈ TW := tw_in 910 (by decide +kernel) (by decide +kernel)
theorem tw911 : Cond.static ⟨"CanvasRoomLaw","area","(LCanvasRoom;II[J)I"⟩ ∈ TW := tw_in 911 (by decide +kernel) (by decide +kernel)
theorem tw917 : Cond.methodLink "CanvasRoomLaw" 210 ⟨"CanvasRoomLaw","sell","(LCanvasRoom;II[J)I"⟩ ∈ TW := tw_in 917 (by decide +kernel) (by decide +kernel)
theorem tw918 : Cond.static ⟨"CanvasRoomLaw","sell","(LCanvasRoom;II[J)I"⟩ ∈ TW := tw_in 918 (by decide +kernel) (by decide +kernel)
theorem tw965 : Cond.methodLink "CanvasRoomLaw" 213 ⟨"CanvasRoomLaw","resell","(LCanvasRoom;IIII[J)I"⟩ ∈ TW := tw_in 965 (by decide +kernel) (by decide +kernel)
theorem tw966 : Cond.static ⟨"CanvasRoomLaw","resell","(LCanvasRoom;IIII[J)I"⟩ ∈ TW := tw_in 966 (by decide +kernel) (by decide +kernel)
theorem tw982 : Cond.methodLink "CanvasRoomLaw" 216 ⟨"CanvasRoomLaw","takeDown","(LCanvasRoom;I[J)I"⟩ ∈ TW := tw_in 982 (by decide +kernel) (by decide +kernel)
theorem tw983 : Cond.static ⟨"CanvasRoomLaw","takeDown","(LCanvasRoom;I[J)I"⟩ ∈ TW := tw_in 983 (by decide +kernel) (by decide +kernel)
theorem tw996 : Cond.methodLink "CanvasRoomLaw" 219 ⟨"CanvasRoomLaw","accept","(LCanvasRoom;II[J)I"⟩ ∈ TW := tw_in 996 (by decide +kernel) (by decide +kernel)
theorem tw997 : Cond.static ⟨"CanvasRoomLaw","accept","(LCanvasRoom;II[J)I"⟩ ∈ TW := tw_in 997 (by decide +kernel) (by decide +kernel)
theorem tw1008 : Cond.methodLink "CanvasRoomLaw" 222 ⟨"CanvasRoomLaw","giveBack","(LCanvasRoom;II[J)I"⟩ ∈ TW := tw_in 1008 (by decide +kernel) (by decide +kernel)
theorem tw1009 : Cond.static ⟨"CanvasRoomLaw","giveBack","(LCanvasRoom;II[J)I"⟩ ∈ TW := tw_in 1009 (by decide +kernel) (by decide +kernel)
theorem tw1015 : Cond.methodLink "CanvasRoomLaw" 225 ⟨"CanvasRoomLaw","copyState","(LCanvasRoom;II[J)I"⟩ ∈ TW := tw_in 1015 (by decide +kernel) (by decide +kernel)
theorem tw1016 : Cond.static ⟨"CanvasRoomLaw","copyState","(LCanvasRoom;II[J)I"⟩ ∈ TW := tw_in 1016 (by decide +kernel) (by decide +kernel)
theorem tw1022 : Cond.methodLink "CanvasRoomLaw" 228 ⟨"CanvasRoomLaw","owner","(LCanvasRoom;II[J)I"⟩ ∈ TW := tw_in 1022 (by decide +kernel) (by decide +kernel)
theorem tw1023 : Cond.static ⟨"CanvasRoomLaw","owner","(LCanvasRoom;II[J)I"⟩ ∈ TW := tw_in 1023 (by decide +kernel) (by decide +kernel)
theorem tw1029 : Cond.methodLink "CanvasRoomLaw" 231 ⟨"CanvasRoomLaw","money","(LCanvasRoom;I[J)I"⟩ ∈ TW := tw_in 1029 (by decide +kernel) (by decide +kernel)
theorem tw1030 : Cond.static ⟨"CanvasRoomLaw","money","(LCanvasRoom;I[J)I"⟩ ∈ TW := tw_in 1030 (by decide +kernel) (by decide +kernel)
theorem tw1036 : Cond.methodLink "CanvasRoomLaw" 234 ⟨"CanvasRoomLaw","moneyAnew","(LCanvasRoom;I[J)I"⟩ ∈ TW := tw_in 1036 (by decide +kernel) (by decide +kernel)
theorem tw1037 : Cond.static ⟨"CanvasRoomLaw","moneyAnew","(LCanvasRoom;I[J)I"⟩ ∈ TW := tw_in 1037 (by decide +kernel) (by decide +kernel)
theorem tw1046 : Cond.methodLink "CanvasRoomLaw" 237 ⟨"CanvasRoomLaw","purse","(LCanvasRoom;I[J)I"⟩ ∈ TW := tw_in 1046 (by decide +kernel) (by decide +kernel)
theorem tw1047 : Cond.static ⟨"CanvasRoomLaw","purse","(LCanvasRoom;I[J)I"⟩ ∈ TW := tw_in 1047 (by decide +kernel) (by decide +kernel)
theorem tw1053 : Cond.classLink "CanvasRoomLaw" 118 "CanvasRoomModel" ∈ TW := tw_in 1053 (by decide +kernel) (by decide +kernel)
theorem tw1055 : Cond.methodLink "CanvasRoomLaw" 120 ⟨"CanvasRoomModel","<init>","()V"⟩ ∈ TW := tw_in 1055 (by decide +kernel) (by decide +kernel)
theorem tw1207 : Cond.methodLink "CanvasRoomLaw" 127 ⟨"CanvasRoomModel","thrown","()I"⟩ ∈ TW := tw_in 1207 (by decide +kernel) (by decide +kernel)
theorem tw1208 : Cond.instanceMethod ⟨"CanvasRoomModel","thrown","()I"⟩ ∈ TW := tw_in 1208 (by decide +kernel) (by decide +kernel)
theorem tw1209 : Cond.selects "CanvasRoomModel" ⟨"CanvasRoomModel","thrown","()I"⟩ ⟨"CanvasRoomModel","thrown","()I"⟩ ∈ TW := tw_in 1209 (by decide +kernel) (by decide +kernel)
theorem tw1211 : Cond.methodLink "CanvasRoomLaw" 126 ⟨"CanvasRoomModel","add","(IIIIII)I"⟩ ∈ TW := tw_in 1211 (by decide +kernel) (by decide +kernel)
theorem tw1212 : Cond.instanceMethod ⟨"CanvasRoomModel","add","(IIIIII)I"⟩ ∈ TW := tw_in 1212 (by decide +kernel) (by decide +kernel)
theorem tw1213 : Cond.selects "CanvasRoomModel" ⟨"CanvasRoomModel","add","(IIIIII)I"⟩ ⟨"CanvasRoomModel","add","(IIIIII)I"⟩ ∈ TW := tw_in 1213 (by decide +kernel) (by decide +kernel)
theorem tw1257 : Cond.methodLink "CanvasRoomLaw" 134 ⟨"CanvasRoomModel","move","(IIII)I"⟩ ∈ TW := tw_in 1257 (by decide +kernel) (by decide +kernel)
theorem tw1258 : Cond.instanceMethod ⟨"CanvasRoomModel","move","(IIII)I"⟩ ∈ TW := tw_in 1258 (by decide +kernel) (by decide +kernel)
theorem tw1259 : Cond.selects "CanvasRoomModel" ⟨"CanvasRoomModel","move","(IIII)I"⟩ ⟨"CanvasRoomModel","move","(IIII)I"⟩ ∈ TW := tw_in 1259 (by decide +kernel) (by decide +kernel)
theorem tw1273 : Cond.methodLink "CanvasRoomLaw" 138 ⟨"CanvasRoomModel","paint","(III)I"⟩ ∈ TW := tw_in 1273 (by decide +kernel) (by decide +kernel)
theorem tw1274 : Cond.instanceMethod ⟨"CanvasRoomModel","paint","(III)I"⟩ ∈ TW := tw_in 1274 (by decide +kernel) (by decide +kernel)
theorem tw1275 : Cond.selects "CanvasRoomModel" ⟨"CanvasRoomModel","paint","(III)I"⟩ ⟨"CanvasRoomModel","paint","(III)I"⟩ ∈ TW := tw_in 1275 (by decide +kernel) (by decide +kernel)
theorem tw1277 : Cond.methodLink "CanvasRoomLaw" 142 ⟨"CanvasRoomModel","layer","(IIZ)I"⟩ ∈ TW := tw_in 1277 (by decide +kernel) (by decide +kernel)
theorem tw1278 : Cond.instanceMethod ⟨"CanvasRoomModel","layer","(IIZ)I"⟩ ∈ TW := tw_in 1278 (by decide +kernel) (by decide +kernel)
theorem tw1279 : Cond.selects "CanvasRoomModel" ⟨"CanvasRoomModel","layer","(IIZ)I"⟩ ⟨"CanvasRoomModel","layer","(IIZ)I"⟩ ∈ TW := tw_in 1279 (by decide +kernel) (by decide +kernel)
theorem tw1285 : Cond.methodLink "CanvasRoomLaw" 145 ⟨"CanvasRoomModel","join","(III)I"⟩ ∈ TW := tw_in 1285 (by decide +kernel) (by decide +kernel)
theorem tw1286 : Cond.instanceMethod ⟨"CanvasRoomModel","join","(III)I"⟩ ∈ TW := tw_in 1286 (by decide +kernel) (by decide +kernel)
theorem tw1287 : Cond.selects "CanvasRoomModel" ⟨"CanvasRoomModel","join","(III)I"⟩ ⟨"CanvasRoomModel","join","(III)I"⟩ ∈ TW := tw_in 1287 (by decide +kernel) (by decide +kernel)
theorem tw1289 : Cond.methodLink "CanvasRoomLaw" 149 ⟨"CanvasRoomModel","part","(II)I"⟩ ∈ TW := tw_in 1289 (by decide +kernel) (by decide +kernel)
theorem tw1290 : Cond.instanceMethod ⟨"CanvasRoomModel","part","(II)I"⟩ ∈ TW := tw_in 1290 (by decide +kernel) (by decide +kernel)
theorem tw1291 : Cond.selects "CanvasRoomModel" ⟨"CanvasRoomModel","part","(II)I"⟩ ⟨"CanvasRoomModel","part","(II)I"⟩ ∈ TW := tw_in 1291 (by decide +kernel) (by decide +kernel)
theorem tw1293 : Cond.methodLink "CanvasRoomLaw" 152 ⟨"CanvasRoomModel","drop","(II)I"⟩ ∈ TW := tw_in 1293 (by decide +kernel) (by decide +kernel)
theorem tw1294 : Cond.instanceMethod ⟨"CanvasRoomModel","drop","(II)I"⟩ ∈ TW := tw_in 1294 (by decide +kernel) (by decide +kernel)
theorem tw1295 : Cond.selects "CanvasRoomModel" ⟨"CanvasRoomModel","drop","(II)I"⟩ ⟨"CanvasRoomModel","drop","(II)I"⟩ ∈ TW := tw_in 1295 (by decide +kernel) (by decide +kernel)
theorem tw1297 : Cond.methodLink "CanvasRoomLaw" 156 ⟨"CanvasRoomModel","undo","(I)I"⟩ ∈ TW := tw_in 1297 (by decide +kernel) (by decide +kernel)
theorem tw1298 : Cond.instanceMethod ⟨"CanvasRoomModel","undo","(I)I"⟩ ∈ TW := tw_in 1298 (by decide +kernel) (by decide +kernel)
theorem tw1299 : Cond.selects "CanvasRoomModel" ⟨"CanvasRoomModel","undo","(I)I"⟩ ⟨"CanvasRoomModel","undo","(I)I"⟩ ∈ TW := tw_in 1299 (by decide +kernel) (by decide +kernel)
theorem tw1305 : Cond.methodLink "CanvasRoomLaw" 159 ⟨"CanvasRoomModel","redo","(I)I"⟩ ∈ TW := tw_in 1305 (by decide +kernel) (by decide +kernel)
theorem tw1306 : Cond.instanceMethod ⟨"CanvasRoomModel","redo","(I)I"⟩ ∈ TW := tw_in 1306 (by decide +kernel) (by decide +kernel)
theorem tw1307 : Cond.selects "CanvasRoomModel" ⟨"CanvasRoomModel","redo","(I)I"⟩ ⟨"CanvasRoomModel","redo","(I)I"⟩ ∈ TW := tw_in 1307 (by decide +kernel) (by decide +kernel)
theorem tw1309 : Cond.methodLink "CanvasRoomLaw" 163 ⟨"CanvasRoomModel","acts","()I"⟩ ∈ TW := tw_in 1309 (by decide +kernel) (by decide +kernel)
theorem tw1310 : Cond.instanceMethod ⟨"CanvasRoomModel","acts","()I"⟩ ∈ TW := tw_in 1310 (by decide +kernel) (by decide +kernel)
theorem tw1311 : Cond.selects "CanvasRoomModel" ⟨"CanvasRoomModel","acts","()I"⟩ ⟨"CanvasRoomModel","acts","()I"⟩ ∈ TW := tw_in 1311 (by decide +kernel) (by decide +kernel)
theorem tw1313 : Cond.methodLink "CanvasRoomLaw" 166 ⟨"CanvasRoomModel","isLive","(I)Z"⟩ ∈ TW := tw_in 1313 (by decide +kernel) (by decide +kernel)
theorem tw1314 : Cond.instanceMethod ⟨"CanvasRoomModel","isLive","(I)Z"⟩ ∈ TW := tw_in 1314 (by decide +kernel) (by decide +kernel)
theorem tw1315 : Cond.selects "CanvasRoomModel" ⟨"CanvasRoomModel","isLive","(I)Z"⟩ ⟨"CanvasRoomModel","isLive","(I)Z"⟩ ∈ TW := tw_in 1315 (by decide +kernel) (by decide +kernel)
theorem tw1321 : Cond.methodLink "CanvasRoomLaw" 169 ⟨"CanvasRoomModel","holder","(I)I"⟩ ∈ TW := tw_in 1321 (by decide +kernel) (by decide +kernel)
theorem tw1322 : Cond.instanceMethod ⟨"CanvasRoomModel","holder","(I)I"⟩ ∈ TW := tw_in 1322 (by decide +kernel) (by decide +kernel)
theorem tw1323 : Cond.selects "CanvasRoomModel" ⟨"CanvasRoomModel","holder","(I)I"⟩ ⟨"CanvasRoomModel","holder","(I)I"⟩ ∈ TW := tw_in 1323 (by decide +kernel) (by decide +kernel)
theorem tw1325 : Cond.methodLink "CanvasRoomLaw" 173 ⟨"CanvasRoomModel","shapes","()I"⟩ ∈ TW := tw_in 1325 (by decide +kernel) (by decide +kernel)
theorem tw1326 : Cond.instanceMethod ⟨"CanvasRoomModel","shapes","()I"⟩ ∈ TW := tw_in 1326 (by decide +kernel) (by decide +kernel)
theorem tw1327 : Cond.selects "CanvasRoomModel" ⟨"CanvasRoomModel","shapes","()I"⟩ ⟨"CanvasRoomModel","shapes","()I"⟩ ∈ TW := tw_in 1327 (by decide +kernel) (by decide +kernel)
theorem tw1329 : Cond.methodLink "CanvasRoomLaw" 178 ⟨"CanvasRoomModel","there","()J"⟩ ∈ TW := tw_in 1329 (by decide +kernel) (by decide +kernel)
theorem tw1330 : Cond.instanceMethod ⟨"CanvasRoomModel","there","()J"⟩ ∈ TW := tw_in 1330 (by decide +kernel) (by decide +kernel)
theorem tw1331 : Cond.selects "CanvasRoomModel" ⟨"CanvasRoomModel","there","()J"⟩ ⟨"CanvasRoomModel","there","()J"⟩ ∈ TW := tw_in 1331 (by decide +kernel) (by decide +kernel)
theorem tw1333 : Cond.methodLink "CanvasRoomLaw" 181 ⟨"CanvasRoomModel","place","(I)I"⟩ ∈ TW := tw_in 1333 (by decide +kernel) (by decide +kernel)
theorem tw1334 : Cond.instanceMethod ⟨"CanvasRoomModel","place","(I)I"⟩ ∈ TW := tw_in 1334 (by decide +kernel) (by decide +kernel)
theorem tw1335 : Cond.selects "CanvasRoomModel" ⟨"CanvasRoomModel","place","(I)I"⟩ ⟨"CanvasRoomModel","place","(I)I"⟩ ∈ TW := tw_in 1335 (by decide +kernel) (by decide +kernel)
theorem tw1337 : Cond.methodLink "CanvasRoomLaw" 184 ⟨"CanvasRoomModel","colour","(I)I"⟩ ∈ TW := tw_in 1337 (by decide +kernel) (by decide +kernel)
theorem tw1338 : Cond.instanceMethod ⟨"CanvasRoomModel","colour","(I)I"⟩ ∈ TW := tw_in 1338 (by decide +kernel) (by decide +kernel)
theorem tw1339 : Cond.selects "CanvasRoomModel" ⟨"CanvasRoomModel","colour","(I)I"⟩ ⟨"CanvasRoomModel","colour","(I)I"⟩ ∈ TW := tw_in 1339 (by decide +kernel) (by decide +kernel)
theorem tw1341 : Cond.methodLink "CanvasRoomLaw" 187 ⟨"CanvasRoomModel","above","(I)I"⟩ ∈ TW := tw_in 1341 (by decide +kernel) (by decide +kernel)
theorem tw1342 : Cond.instanceMethod ⟨"CanvasRoomModel","above","(I)I"⟩ ∈ TW := tw_in 1342 (by decide +kernel) (by decide +kernel)
theorem tw1343 : Cond.selects "CanvasRoomModel" ⟨"CanvasRoomModel","above","(I)I"⟩ ⟨"CanvasRoomModel","above","(I)I"⟩ ∈ TW := tw_in 1343 (by decide +kernel) (by decide +kernel)
theorem tw1345 : Cond.methodLink "CanvasRoomLaw" 190 ⟨"CanvasRoomModel","group","(I)J"⟩ ∈ TW := tw_in 1345 (by decide +kernel) (by decide +kernel)
theorem tw1346 : Cond.instanceMethod ⟨"CanvasRoomModel","group","(I)J"⟩ ∈ TW := tw_in 1346 (by decide +kernel) (by decide +kernel)
theorem tw1347 : Cond.selects "CanvasRoomModel" ⟨"CanvasRoomModel","group","(I)J"⟩ ⟨"CanvasRoomModel","group","(I)J"⟩ ∈ TW := tw_in 1347 (by decide +kernel) (by decide +kernel)
theorem tw1349 : Cond.methodLink "CanvasRoomLaw" 193 ⟨"CanvasRoomModel","seen","(II)I"⟩ ∈ TW := tw_in 1349 (by decide +kernel) (by decide +kernel)
theorem tw1350 : Cond.instanceMethod ⟨"CanvasRoomModel","seen","(II)I"⟩ ∈ TW := tw_in 1350 (by decide +kernel) (by decide +kernel)
theorem tw1351 : Cond.selects "CanvasRoomModel" ⟨"CanvasRoomModel","seen","(II)I"⟩ ⟨"CanvasRoomModel","seen","(II)I"⟩ ∈ TW := tw_in 1351 (by decide +kernel) (by decide +kernel)
theorem tw1361 : Cond.methodLink "CanvasRoomLaw" 196 ⟨"CanvasRoomModel","seenAnew","(II)I"⟩ ∈ TW := tw_in 1361 (by decide +kernel) (by decide +kernel)
theorem tw1362 : Cond.instanceMethod ⟨"CanvasRoomModel","seenAnew","(II)I"⟩ ∈ TW := tw_in 1362 (by decide +kernel) (by decide +kernel)
theorem tw1363 : Cond.selects "CanvasRoomModel" ⟨"CanvasRoomModel","seenAnew","(II)I"⟩ ⟨"CanvasRoomModel","seenAnew","(II)I"⟩ ∈ TW := tw_in 1363 (by decide +kernel) (by decide +kernel)
theorem tw1365 : Cond.methodLink "CanvasRoomLaw" 200 ⟨"CanvasRoomModel","freeze","(IIIIIII)I"⟩ ∈ TW := tw_in 1365 (by decide +kernel) (by decide +kernel)
theorem tw1366 : Cond.instanceMethod ⟨"CanvasRoomModel","freeze","(IIIIIII)I"⟩ ∈ TW := tw_in 1366 (by decide +kernel) (by decide +kernel)
theorem tw1367 : Cond.selects "CanvasRoomModel" ⟨"CanvasRoomModel","freeze","(IIIIIII)I"⟩ ⟨"CanvasRoomModel","freeze","(IIIIIII)I"⟩ ∈ TW := tw_in 1367 (by decide +kernel) (by decide +kernel)
theorem tw1386 : Cond.methodLink "CanvasRoomLaw" 203 ⟨"CanvasRoomModel","withdraw","(I)I"⟩ ∈ TW := tw_in 1386 (by decide +kernel) (by decide +kernel)
theorem tw1387 : Cond.instanceMethod ⟨"CanvasRoomModel","withdraw","(I)I"⟩ ∈ TW := tw_in 1387 (by decide +kernel) (by decide +kernel)
theorem tw1388 : Cond.selects "CanvasRoomModel" ⟨"CanvasRoomModel","withdraw","(I)I"⟩ ⟨"CanvasRoomModel","withdraw","(I)I"⟩ ∈ TW := tw_in 1388 (by decide +kernel) (by decide +kernel)
theorem tw1394 : Cond.methodLink "CanvasRoomLaw" 206 ⟨"CanvasRoomModel","viewed","(III)I"⟩ ∈ TW := tw_in 1394 (by decide +kernel) (by decide +kernel)
theorem tw1395 : Cond.instanceMethod ⟨"CanvasRoomModel","viewed","(III)I"⟩ ∈ TW := tw_in 1395 (by decide +kernel) (by decide +kernel)
theorem tw1396 : Cond.selects "CanvasRoomModel" ⟨"CanvasRoomModel","viewed","(III)I"⟩ ⟨"CanvasRoomModel","viewed","(III)I"⟩ ∈ TW := tw_in 1396 (by decide +kernel) (by decide +kernel)
theorem tw1398 : Cond.methodLink "CanvasRoomLaw" 209 ⟨"CanvasRoomModel","area","(II)I"⟩ ∈ TW := tw_in 1398 (by decide +kernel) (by decide +kernel)
theorem tw1399 : Cond.instanceMethod ⟨"CanvasRoomModel","area","(II)I"⟩ ∈ TW := tw_in 1399 (by decide +kernel) (by decide +kernel)
theorem tw1400 : Cond.selects "CanvasRoomModel" ⟨"CanvasRoomModel","area","(II)I"⟩ ⟨"CanvasRoomModel","area","(II)I"⟩ ∈ TW := tw_in 1400 (by decide +kernel) (by decide +kernel)
theorem tw1402 : Cond.methodLink "CanvasRoomLaw" 212 ⟨"CanvasRoomModel","sell","(II)I"⟩ ∈ TW := tw_in 1402 (by decide +kernel) (by decide +kernel)
theorem tw1403 : Cond.instanceMethod ⟨"CanvasRoomModel","sell","(II)I"⟩ ∈ TW := tw_in 1403 (by decide +kernel) (by decide +kernel)
theorem tw1404 : Cond.selects "CanvasRoomModel" ⟨"CanvasRoomModel","sell","(II)I"⟩ ⟨"CanvasRoomModel","sell","(II)I"⟩ ∈ TW := tw_in 1404 (by decide +kernel) (by decide +kernel)
theorem tw1417 : Cond.methodLink "CanvasRoomLaw" 215 ⟨"CanvasRoomModel","resell","(IIII)I"⟩ ∈ TW := tw_in 1417 (by decide +kernel) (by decide +kernel)
theorem tw1418 : Cond.instanceMethod ⟨"CanvasRoomModel","resell","(IIII)I"⟩ ∈ TW := tw_in 1418 (by decide +kernel) (by decide +kernel)
theorem tw1419 : Cond.selects "CanvasRoomModel" ⟨"CanvasRoomModel","resell","(IIII)I"⟩ ⟨"CanvasRoomModel","resell","(IIII)I"⟩ ∈ TW := tw_in 1419 (by decide +kernel) (by decide +kernel)
theorem tw1425 : Cond.methodLink "CanvasRoomLaw" 218 ⟨"CanvasRoomModel","takeDown","(I)I"⟩ ∈ TW := tw_in 1425 (by decide +kernel) (by decide +kernel)
theorem tw1426 : Cond.instanceMethod ⟨"CanvasRoomModel","takeDown","(I)I"⟩ ∈ TW := tw_in 1426 (by decide +kernel) (by decide +kernel)
theorem tw1427 : Cond.selects "CanvasRoomModel" ⟨"CanvasRoomModel","takeDown","(I)I"⟩ ⟨"CanvasRoomModel","takeDown","(I)I"⟩ ∈ TW := tw_in 1427 (by decide +kernel) (by decide +kernel)
theorem tw1429 : Cond.methodLink "CanvasRoomLaw" 221 ⟨"CanvasRoomModel","accept","(II)I"⟩ ∈ TW := tw_in 1429 (by decide +kernel) (by decide +kernel)
theorem tw1430 : Cond.instanceMethod ⟨"CanvasRoomModel","accept","(II)I"⟩ ∈ TW := tw_in 1430 (by decide +kernel) (by decide +kernel)
theorem tw1431 : Cond.selects "CanvasRoomModel" ⟨"CanvasRoomModel","accept","(II)I"⟩ ⟨"CanvasRoomModel","accept","(II)I"⟩ ∈ TW := tw_in 1431 (by decide +kernel) (by decide +kernel)
theorem tw1437 : Cond.methodLink "CanvasRoomLaw" 224 ⟨"CanvasRoomModel","giveBack","(II)I"⟩ ∈ TW := tw_in 1437 (by decide +kernel) (by decide +kernel)
theorem tw1438 : Cond.instanceMethod ⟨"CanvasRoomModel","giveBack","(II)I"⟩ ∈ TW := tw_in 1438 (by decide +kernel) (by decide +kernel)
theorem tw1439 : Cond.selects "CanvasRoomModel" ⟨"CanvasRoomModel","giveBack","(II)I"⟩ ⟨"CanvasRoomModel","giveBack","(II)I"⟩ ∈ TW := tw_in 1439 (by decide +kernel) (by decide +kernel)
theorem tw1441 : Cond.methodLink "CanvasRoomLaw" 227 ⟨"CanvasRoomModel","copyState","(II)I"⟩ ∈ TW := tw_in 1441 (by decide +kernel) (by decide +kernel)
theorem tw1442 : Cond.instanceMethod ⟨"CanvasRoomModel","copyState","(II)I"⟩ ∈ TW := tw_in 1442 (by decide +kernel) (by decide +kernel)
theorem tw1443 : Cond.selects "CanvasRoomModel" ⟨"CanvasRoomModel","copyState","(II)I"⟩ ⟨"CanvasRoomModel","copyState","(II)I"⟩ ∈ TW := tw_in 1443 (by decide +kernel) (by decide +kernel)
theorem tw1445 : Cond.methodLink "CanvasRoomLaw" 230 ⟨"CanvasRoomModel","owner","(II)I"⟩ ∈ TW := tw_in 1445 (by decide +kernel) (by decide +kernel)
theorem tw1446 : Cond.instanceMethod ⟨"CanvasRoomModel","owner","(II)I"⟩ ∈ TW := tw_in 1446 (by decide +kernel) (by decide +kernel)
theorem tw1447 : Cond.selects "CanvasRoomModel" ⟨"CanvasRoomModel","owner","(II)I"⟩ ⟨"CanvasRoomModel","owner","(II)I"⟩ ∈ TW := tw_in 1447 (by decide +kernel) (by decide +kernel)
theorem tw1449 : Cond.methodLink "CanvasRoomLaw" 233 ⟨"CanvasRoomModel","money","(I)I"⟩ ∈ TW := tw_in 1449 (by decide +kernel) (by decide +kernel)
theorem tw1450 : Cond.instanceMethod ⟨"CanvasRoomModel","money","(I)I"⟩ ∈ TW := tw_in 1450 (by decide +kernel) (by decide +kernel)
theorem tw1451 : Cond.selects "CanvasRoomModel" ⟨"CanvasRoomModel","money","(I)I"⟩ ⟨"CanvasRoomModel","money","(I)I"⟩ ∈ TW := tw_in 1451 (by decide +kernel) (by decide +kernel)
theorem tw1453 : Cond.methodLink "CanvasRoomLaw" 236 ⟨"CanvasRoomModel","moneyAnew","(I)I"⟩ ∈ TW := tw_in 1453 (by decide +kernel) (by decide +kernel)
theorem tw1454 : Cond.instanceMethod ⟨"CanvasRoomModel","moneyAnew","(I)I"⟩ ∈ TW := tw_in 1454 (by decide +kernel) (by decide +kernel)
theorem tw1455 : Cond.selects "CanvasRoomModel" ⟨"CanvasRoomModel","moneyAnew","(I)I"⟩ ⟨"CanvasRoomModel","moneyAnew","(I)I"⟩ ∈ TW := tw_in 1455 (by decide +kernel) (by decide +kernel)
theorem tw1457 : Cond.methodLink "CanvasRoomLaw" 239 ⟨"CanvasRoomModel","purse","(I)I"⟩ ∈ TW := tw_in 1457 (by decide +kernel) (by decide +kernel)
theorem tw1458 : Cond.instanceMethod ⟨"CanvasRoomModel","purse","(I)I"⟩ ∈ TW := tw_in 1458 (by decide +kernel) (by decide +kernel)
theorem tw1459 : Cond.selects "CanvasRoomModel" ⟨"CanvasRoomModel","purse","(I)I"⟩ ⟨"CanvasRoomModel","purse","(I)I"⟩ ∈ TW := tw_in 1459 (by decide +kernel) (by decide +kernel)
theorem tw1461 : Cond.methodLink "CanvasRoomLaw" 243 ⟨"CanvasRoomModel","house","()I"⟩ ∈ TW := tw_in 1461 (by decide +kernel) (by decide +kernel)
theorem tw1462 : Cond.instanceMethod ⟨"CanvasRoomModel","house","()I"⟩ ∈ TW := tw_in 1462 (by decide +kernel) (by decide +kernel)
theorem tw1463 : Cond.selects "CanvasRoomModel" ⟨"CanvasRoomModel","house","()I"⟩ ⟨"CanvasRoomModel","house","()I"⟩ ∈ TW := tw_in 1463 (by decide +kernel) (by decide +kernel)
/-! rows of the law -/
section LAWROWS
variable {X : gCx} {cc : ByteArray} {own : String} {ret : Option FieldType} {rm : Room} {mc ms pc : Nat} {loc : List (Nat × Value)} {stk : List Value} {h : GH}
theorem r_sld (C : gC X cc own ret rm) {b L : Nat} {sc : Nat → Int32} (hX9 : va_X b L sc (xs X) (xs X).heap) (hb9 : b < (xs X).heap.size ∧ b < yB0 (xY X)) {i : Int32} (hin : vp_in i L) (hd : decode cc pc = .ok (.iaload, 1)) (kk : gX X mc ms (pc + 1) loc (.int (sc i.toNatClampNeg) :: stk) h) : gX X mc ms pc loc (.int i :: .ref b :: stk) h := fun H locs ls hS hG hl =>
  va_sld C.1 C.2.1 hX9 hb9.1 (Nat.not_le.mpr hb9.2) hS hin hd (kk H locs ls hS hG hl)
theorem r_slen (C : gC X cc own ret rm) {b L : Nat} {sc : Nat → Int32} (hX9 : va_X b L sc (xs X) (xs X).heap) (hb9 : b < (xs X).heap.size ∧ b < yB0 (xY X)) (hd : decode cc pc = .ok (.arraylength, 1)) (kk : gX X mc ms (pc + 1) loc (.int (Int32.ofNat L) :: stk) h) : gX X mc ms pc loc (.ref b :: stk) h := fun H locs ls hS hG hl =>
  va_slen C.1 C.2.1 hX9 hb9.1 (Nat.not_le.mpr hb9.2) hS hd (kk H locs ls hS hG hl)
theorem r_newJ (C : gC X cc own ret rm) {atype : ArrayType} (hd : decode cc pc = .ok (.newarray atype, 2)) (hty : newarray.typeOf atype = .long) (harr : Cond.arrayClass .long ∈ TW) (hcs : mc + 1 ≤ rm.cells ∧ ms + 1 ≤ rm.slots) (kk : ∀ a : Nat, h a = none → gX X (mc + 1) (ms + 1) (pc + 2) loc (.ref a :: stk) (hu h a (10, fo0))) : gX X mc ms pc loc (.int 1 :: stk) h := fun H locs ls hS hG hl => by
  have hR := C.2.2.2.2.2.2.2
  have hsz : yB0 (xY X) ≤ H.size := by
    obtain ⟨-, -, -, -, -, -, -, -, h13⟩ := C.2.2.2.2.2.2.1
    exact Nat.le_trans h13 hS.1
  have hnone := g_fresh hG (Nat.le_refl H.size)
  refine va_newaK C.1 C.2.1 (N := 1) (n := 1) (C.ht (by rw [hty]; exact harr)) rfl hd rfl (by decide) (by decide) (by rw [hty]; decide) (by rw [hR]; exact hcs.1) (by rw [hR]; exact hcs.2) rfl fun H1 cA e1 z1 o1 hAr hNm => ?_
  have hcA : cA = (ydA (xY X)) 2 := by
    have h2 := (C.K.2 2 _ rfl).2
    rw [ra_J] at h2
    rw [hty] at hNm
    exact Option.some.inj (hNm.symm.trans h2)
  subst hcA
  obtain ⟨tag, hG⟩ := hG
  refine kk H.size hnone H1 locs ls ⟨by rw [z1]; exact Nat.le_trans hS.1 (Nat.le_succ _), fun x h1 h2 => (o1 x (Nat.lt_of_lt_of_le h1 hS.1)).trans (hS.2.1 x h1 h2), hS.2.2⟩ ?_ hl
  refine ⟨fun q => if q = H.size then (H.size, 0) else tag q, hG.upd hsz (if_pos rfl) (fun q h1 _ => ⟨o1 q h1, if_neg (Nat.ne_of_lt h1)⟩) ?_⟩
  show H1[H.size]? = some (arrV ((ydA (xY X)) 2) 1 (fun j => .long (fB fo0 0 j)))
  rw [e1, hty]
  rfl
end LAWROWS

def wp_L_law_2433 (sc : Nat → Int32) (L : Nat) (k23 : Nat → Nat → Nat → Int32 → GH → Prop) (x1 : Nat) (x2 : Nat) (x3 : Nat) (x4 : Int32) (g : GH) : Prop :=
k23 x1 x2 x3 (x4 + 8) g
def wp_L_law_546 (sc : Nat → Int32) (L : Nat) (k23 : Nat → Nat → Nat → Int32 → GH → Prop) (x1 : Nat) (x2 : Nat) (x3 : Nat) (x4 : Int32) (x5 : Int32) (y0 : Nat) (y1 : Int32) (y2 : Int32) (y3 : Int32) (g : GH) : Prop :=
∃ o773, g y0 = some (9, o773) ∧
wp_X8_layer y1 y2 y3 o773 (fun r772 o775 => ∀ g776, g776 = hu g y0 (9, o775) →
∃ o779, g776 x2 = some (9, o779) ∧
wp_X8_thrown o779 (fun r778 =>
((r778 = x5 → ((¬ x5 = 0 → wp_L_law_2433 sc L k23 x1 x2 x3 x4 g776) ∧ (x5 = 0 → ∃ o784, g776 x3 = some (10, o784) ∧
(((lg_cmp (fB o784 0 0) r772.toInt64) = 0 → wp_L_law_2433 sc L k23 x1 x2 x3 x4 g776) ∧ (¬ (lg_cmp (fB o784 0 0) r772.toInt64) = 0 → False))))) ∧ (¬ r778 = x5 → False))))
def wp_L_law_513 (sc : Nat → Int32) (L : Nat) (k23 : Nat → Nat → Nat → Int32 → GH → Prop) (x1 : Nat) (x2 : Nat) (x3 : Nat) (x4 : Int32) (y0 : Nat) (y1 : Int32) (y2 : Int32) (y3 : Int32) (g : GH) : Prop :=
wp_L_layer y0 y1 y2 y3 x3 g (fun r764 g765 =>
vp_in (x4 + 1) L ∧
vp_in (x4 + 2) L ∧
vp_in (x4 + 3) L ∧
(((sc (x4 + 3).toNatClampNeg) = 0 → wp_L_law_546 sc L k23 x1 x2 x3 x4 r764 x2 (sc (x4 + 1).toNatClampNeg) (sc (x4 + 2).toNatClampNeg) 0 g765) ∧ (¬ (sc (x4 + 3).toNatClampNeg) = 0 → wp_L_law_546 sc L k23 x1 x2 x3 x4 r764 x2 (sc (x4 + 1).toNatClampNeg) (sc (x4 + 2).toNatClampNeg) 1 g765)))
def wp_L_law_977 (sc : Nat → Int32) (L : Nat) (k23 : Nat → Nat → Nat → Int32 → GH → Prop) (x1 : Nat) (x2 : Nat) (x3 : Nat) (x4 : Int32) (y0 : Int64) (y1 : Int64) (g : GH) : Prop :=
(((lg_cmp y0 y1) = 0 → wp_L_law_2433 sc L k23 x1 x2 x3 x4 g) ∧ (¬ (lg_cmp y0 y1) = 0 → False))
def wp_L_law_23 (sc : Nat → Int32) (L : Nat) : Nat → Nat → Nat → Nat → Int32 → GH → Prop
  | 0, _, _, _, _, _ => False
  | n + 1, x1, x2, x3, x4, g =>
    ((((Int32.ofNat L) - 8) < x4 → True) ∧ (¬ ((Int32.ofNat L) - 8) < x4 → vp_in x4 L ∧
    ((((sc x4.toNatClampNeg) &&& 63) = 0 → vp_in (x4 + 1) L ∧
    vp_in (x4 + 2) L ∧
    vp_in (x4 + 3) L ∧
    vp_in (x4 + 4) L ∧
    vp_in (x4 + 5) L ∧
    vp_in (x4 + 6) L ∧
    wp_L_add x1 (sc (x4 + 1).toNatClampNeg) (sc (x4 + 2).toNatClampNeg) (sc (x4 + 3).toNatClampNeg) (sc (x4 + 4).toNatClampNeg) (sc (x4 + 5).toNatClampNeg) (sc (x4 + 6).toNatClampNeg) x3 g (fun r22 g23 =>
    vp_in (x4 + 1) L ∧
    vp_in (x4 + 2) L ∧
    vp_in (x4 + 3) L ∧
    vp_in (x4 + 4) L ∧
    vp_in (x4 + 5) L ∧
    vp_in (x4 + 6) L ∧
    ∃ o32, g23 x2 = some (9, o32) ∧
    wp_X8_add (sc (x4 + 1).toNatClampNeg) (sc (x4 + 2).toNatClampNeg) (sc (x4 + 3).toNatClampNeg) (sc (x4 + 4).toNatClampNeg) (sc (x4 + 5).toNatClampNeg) (sc (x4 + 6).toNatClampNeg) o32 (fun r31 o34 => ∀ g35, g35 = hu g23 x2 (9, o34) →
    ∃ o38, g35 x2 = some (9, o38) ∧
    wp_X8_thrown o38 (fun r37 =>
    ((r37 = r22 → ((¬ r22 = 0 → wp_L_law_2433 sc L (fun x1 x2 x3 x4 g => wp_L_law_23 sc L n x1 x2 x3 x4 g) x1 x2 x3 x4 g35) ∧ (r22 = 0 → ∃ o43, g35 x3 = some (10, o43) ∧
    (((lg_cmp (fB o43 0 0) r31.toInt64) = 0 → wp_L_law_2433 sc L (fun x1 x2 x3 x4 g => wp_L_law_23 sc L n x1 x2 x3 x4 g) x1 x2 x3 x4 g35) ∧ (¬ (lg_cmp (fB o43 0 0) r31.toInt64) = 0 → False))))) ∧ (¬ r37 = r22 → False)))))) ∧ (¬ ((sc x4.toNatClampNeg) &&& 63) = 0 → ((((sc x4.toNatClampNeg) &&& 63) = 1 → vp_in (x4 + 1) L ∧
    vp_in (x4 + 2) L ∧
    vp_in (x4 + 3) L ∧
    vp_in (x4 + 4) L ∧
    wp_L_move x1 (sc (x4 + 1).toNatClampNeg) (sc (x4 + 2).toNatClampNeg) (sc (x4 + 3).toNatClampNeg) (sc (x4 + 4).toNatClampNeg) x3 g (fun r51 g52 =>
    vp_in (x4 + 1) L ∧
    vp_in (x4 + 2) L ∧
    vp_in (x4 + 3) L ∧
    vp_in (x4 + 4) L ∧
    ∃ o59, g52 x2 = some (9, o59) ∧
    wp_X8_move (sc (x4 + 1).toNatClampNeg) (sc (x4 + 2).toNatClampNeg) (sc (x4 + 3).toNatClampNeg) (sc (x4 + 4).toNatClampNeg) o59 (fun r58 o61 => ∀ g62, g62 = hu g52 x2 (9, o61) →
    ∃ o65, g62 x2 = some (9, o65) ∧
    wp_X8_thrown o65 (fun r64 =>
    ((r64 = r51 → ((¬ r51 = 0 → wp_L_law_2433 sc L (fun x1 x2 x3 x4 g => wp_L_law_23 sc L n x1 x2 x3 x4 g) x1 x2 x3 x4 g62) ∧ (r51 = 0 → ∃ o70, g62 x3 = some (10, o70) ∧
    (((lg_cmp (fB o70 0 0) r58.toInt64) = 0 → wp_L_law_2433 sc L (fun x1 x2 x3 x4 g => wp_L_law_23 sc L n x1 x2 x3 x4 g) x1 x2 x3 x4 g62) ∧ (¬ (lg_cmp (fB o70 0 0) r58.toInt64) = 0 → False))))) ∧ (¬ r64 = r51 → False)))))) ∧ (¬ ((sc x4.toNatClampNeg) &&& 63) = 1 → ((((sc x4.toNatClampNeg) &&& 63) = 2 → vp_in (x4 + 1) L ∧
    vp_in (x4 + 2) L ∧
    vp_in (x4 + 3) L ∧
    wp_L_paint x1 (sc (x4 + 1).toNatClampNeg) (sc (x4 + 2).toNatClampNeg) (sc (x4 + 3).toNatClampNeg) x3 g (fun r77 g78 =>
    vp_in (x4 + 1) L ∧
    vp_in (x4 + 2) L ∧
    vp_in (x4 + 3) L ∧
    ∃ o84, g78 x2 = some (9, o84) ∧
    wp_X8_paint (sc (x4 + 1).toNatClampNeg) (sc (x4 + 2).toNatClampNeg) (sc (x4 + 3).toNatClampNeg) o84 (fun r83 o86 => ∀ g87, g87 = hu g78 x2 (9, o86) →
    ∃ o90, g87 x2 = some (9, o90) ∧
    wp_X8_thrown o90 (fun r89 =>
    ((r89 = r77 → ((¬ r77 = 0 → wp_L_law_2433 sc L (fun x1 x2 x3 x4 g => wp_L_law_23 sc L n x1 x2 x3 x4 g) x1 x2 x3 x4 g87) ∧ (r77 = 0 → ∃ o95, g87 x3 = some (10, o95) ∧
    (((lg_cmp (fB o95 0 0) r83.toInt64) = 0 → wp_L_law_2433 sc L (fun x1 x2 x3 x4 g => wp_L_law_23 sc L n x1 x2 x3 x4 g) x1 x2 x3 x4 g87) ∧ (¬ (lg_cmp (fB o95 0 0) r83.toInt64) = 0 → False))))) ∧ (¬ r89 = r77 → False)))))) ∧ (¬ ((sc x4.toNatClampNeg) &&& 63) = 2 → ((((sc x4.toNatClampNeg) &&& 63) = 3 → vp_in (x4 + 1) L ∧
    vp_in (x4 + 2) L ∧
    vp_in (x4 + 3) L ∧
    (((sc (x4 + 3).toNatClampNeg) = 0 → wp_L_law_513 sc L (fun x1 x2 x3 x4 g => wp_L_law_23 sc L n x1 x2 x3 x4 g) x1 x2 x3 x4 x1 (sc (x4 + 1).toNatClampNeg) (sc (x4 + 2).toNatClampNeg) 0 g) ∧ (¬ (sc (x4 + 3).toNatClampNeg) = 0 → wp_L_law_513 sc L (fun x1 x2 x3 x4 g => wp_L_law_23 sc L n x1 x2 x3 x4 g) x1 x2 x3 x4 x1 (sc (x4 + 1).toNatClampNeg) (sc (x4 + 2).toNatClampNeg) 1 g))) ∧ (¬ ((sc x4.toNatClampNeg) &&& 63) = 3 → ((((sc x4.toNatClampNeg) &&& 63) = 4 → vp_in (x4 + 1) L ∧
    vp_in (x4 + 2) L ∧
    vp_in (x4 + 3) L ∧
    wp_L_join x1 (sc (x4 + 1).toNatClampNeg) (sc (x4 + 2).toNatClampNeg) (sc (x4 + 3).toNatClampNeg) x3 g (fun r107 g108 =>
    vp_in (x4 + 1) L ∧
    vp_in (x4 + 2) L ∧
    vp_in (x4 + 3) L ∧
    ∃ o114, g108 x2 = some (9, o114) ∧
    wp_X8_join (sc (x4 + 1).toNatClampNeg) (sc (x4 + 2).toNatClampNeg) (sc (x4 + 3).toNatClampNeg) o114 (fun r113 o116 => ∀ g117, g117 = hu g108 x2 (9, o116) →
    ∃ o120, g117 x2 = some (9, o120) ∧
    wp_X8_thrown o120 (fun r119 =>
    ((r119 = r107 → ((¬ r107 = 0 → wp_L_law_2433 sc L (fun x1 x2 x3 x4 g => wp_L_law_23 sc L n x1 x2 x3 x4 g) x1 x2 x3 x4 g117) ∧ (r107 = 0 → ∃ o125, g117 x3 = some (10, o125) ∧
    (((lg_cmp (fB o125 0 0) r113.toInt64) = 0 → wp_L_law_2433 sc L (fun x1 x2 x3 x4 g => wp_L_law_23 sc L n x1 x2 x3 x4 g) x1 x2 x3 x4 g117) ∧ (¬ (lg_cmp (fB o125 0 0) r113.toInt64) = 0 → False))))) ∧ (¬ r119 = r107 → False)))))) ∧ (¬ ((sc x4.toNatClampNeg) &&& 63) = 4 → ((((sc x4.toNatClampNeg) &&& 63) = 5 → vp_in (x4 + 1) L ∧
    vp_in (x4 + 2) L ∧
    wp_L_part x1 (sc (x4 + 1).toNatClampNeg) (sc (x4 + 2).toNatClampNeg) x3 g (fun r131 g132 =>
    vp_in (x4 + 1) L ∧
    vp_in (x4 + 2) L ∧
    ∃ o137, g132 x2 = some (9, o137) ∧
    wp_X8_part (sc (x4 + 1).toNatClampNeg) (sc (x4 + 2).toNatClampNeg) o137 (fun r136 o139 => ∀ g140, g140 = hu g132 x2 (9, o139) →
    ∃ o143, g140 x2 = some (9, o143) ∧
    wp_X8_thrown o143 (fun r142 =>
    ((r142 = r131 → ((¬ r131 = 0 → wp_L_law_2433 sc L (fun x1 x2 x3 x4 g => wp_L_law_23 sc L n x1 x2 x3 x4 g) x1 x2 x3 x4 g140) ∧ (r131 = 0 → ∃ o148, g140 x3 = some (10, o148) ∧
    (((lg_cmp (fB o148 0 0) r136.toInt64) = 0 → wp_L_law_2433 sc L (fun x1 x2 x3 x4 g => wp_L_law_23 sc L n x1 x2 x3 x4 g) x1 x2 x3 x4 g140) ∧ (¬ (lg_cmp (fB o148 0 0) r136.toInt64) = 0 → False))))) ∧ (¬ r142 = r131 → False)))))) ∧ (¬ ((sc x4.toNatClampNeg) &&& 63) = 5 → ((((sc x4.toNatClampNeg) &&& 63) = 6 → vp_in (x4 + 1) L ∧
    vp_in (x4 + 2) L ∧
    wp_L_drop x1 (sc (x4 + 1).toNatClampNeg) (sc (x4 + 2).toNatClampNeg) x3 g (fun r154 g155 =>
    vp_in (x4 + 1) L ∧
    vp_in (x4 + 2) L ∧
    ∃ o160, g155 x2 = some (9, o160) ∧
    wp_X8_drop (sc (x4 + 1).toNatClampNeg) (sc (x4 + 2).toNatClampNeg) o160 (fun r159 o162 => ∀ g163, g163 = hu g155 x2 (9, o162) →
    ∃ o166, g163 x2 = some (9, o166) ∧
    wp_X8_thrown o166 (fun r165 =>
    ((r165 = r154 → ((¬ r154 = 0 → wp_L_law_2433 sc L (fun x1 x2 x3 x4 g => wp_L_law_23 sc L n x1 x2 x3 x4 g) x1 x2 x3 x4 g163) ∧ (r154 = 0 → ∃ o171, g163 x3 = some (10, o171) ∧
    (((lg_cmp (fB o171 0 0) r159.toInt64) = 0 → wp_L_law_2433 sc L (fun x1 x2 x3 x4 g => wp_L_law_23 sc L n x1 x2 x3 x4 g) x1 x2 x3 x4 g163) ∧ (¬ (lg_cmp (fB o171 0 0) r159.toInt64) = 0 → False))))) ∧ (¬ r165 = r154 → False)))))) ∧ (¬ ((sc x4.toNatClampNeg) &&& 63) = 6 → ((((sc x4.toNatClampNeg) &&& 63) = 7 → vp_in (x4 + 1) L ∧
    wp_L_undo x1 (sc (x4 + 1).toNatClampNeg) x3 g (fun r176 g177 =>
    vp_in (x4 + 1) L ∧
    ∃ o181, g177 x2 = some (9, o181) ∧
    wp_X8_undo (sc (x4 + 1).toNatClampNeg) o181 (fun r180 o183 => ∀ g184, g184 = hu g177 x2 (9, o183) →
    ∃ o187, g184 x2 = some (9, o187) ∧
    wp_X8_thrown o187 (fun r186 =>
    ((r186 = r176 → ((¬ r176 = 0 → wp_L_law_2433 sc L (fun x1 x2 x3 x4 g => wp_L_law_23 sc L n x1 x2 x3 x4 g) x1 x2 x3 x4 g184) ∧ (r176 = 0 → ∃ o192, g184 x3 = some (10, o192) ∧
    (((lg_cmp (fB o192 0 0) r180.toInt64) = 0 → wp_L_law_2433 sc L (fun x1 x2 x3 x4 g => wp_L_law_23 sc L n x1 x2 x3 x4 g) x1 x2 x3 x4 g184) ∧ (¬ (lg_cmp (fB o192 0 0) r180.toInt64) = 0 → False))))) ∧ (¬ r186 = r176 → False)))))) ∧ (¬ ((sc x4.toNatClampNeg) &&& 63) = 7 → ((((sc x4.toNatClampNeg) &&& 63) = 8 → vp_in (x4 + 1) L ∧
    wp_L_redo x1 (sc (x4 + 1).toNatClampNeg) x3 g (fun r197 g198 =>
    vp_in (x4 + 1) L ∧
    ∃ o202, g198 x2 = some (9, o202) ∧
    wp_X8_redo (sc (x4 + 1).toNatClampNeg) o202 (fun r201 o204 => ∀ g205, g205 = hu g198 x2 (9, o204) →
    ∃ o208, g205 x2 = some (9, o208) ∧
    wp_X8_thrown o208 (fun r207 =>
    ((r207 = r197 → ((¬ r197 = 0 → wp_L_law_2433 sc L (fun x1 x2 x3 x4 g => wp_L_law_23 sc L n x1 x2 x3 x4 g) x1 x2 x3 x4 g205) ∧ (r197 = 0 → ∃ o213, g205 x3 = some (10, o213) ∧
    (((lg_cmp (fB o213 0 0) r201.toInt64) = 0 → wp_L_law_2433 sc L (fun x1 x2 x3 x4 g => wp_L_law_23 sc L n x1 x2 x3 x4 g) x1 x2 x3 x4 g205) ∧ (¬ (lg_cmp (fB o213 0 0) r201.toInt64) = 0 → False))))) ∧ (¬ r207 = r197 → False)))))) ∧ (¬ ((sc x4.toNatClampNeg) &&& 63) = 8 → ((((sc x4.toNatClampNeg) &&& 63) = 9 → ∃ o218, g x1 = some (8, o218) ∧
    wp_X7_acts x1 g (fun r217 =>
    ∃ o222, g x2 = some (9, o222) ∧
    wp_X8_acts o222 (fun r221 o224 => ∀ g225, g225 = hu g x2 (9, o224) →
    ((r217 = r221 → wp_L_law_2433 sc L (fun x1 x2 x3 x4 g => wp_L_law_23 sc L n x1 x2 x3 x4 g) x1 x2 x3 x4 g225) ∧ (¬ r217 = r221 → False))))) ∧ (¬ ((sc x4.toNatClampNeg) &&& 63) = 9 → ((((sc x4.toNatClampNeg) &&& 63) = 10 → vp_in (x4 + 1) L ∧
    wp_L_isLive x1 (sc (x4 + 1).toNatClampNeg) x3 g (fun r230 g231 =>
    vp_in (x4 + 1) L ∧
    ∃ o235, g231 x2 = some (9, o235) ∧
    wp_X8_isLive (sc (x4 + 1).toNatClampNeg) o235 (fun r234 o237 => ∀ g238, g238 = hu g231 x2 (9, o237) →
    ∃ o241, g238 x2 = some (9, o241) ∧
    wp_X8_thrown o241 (fun r240 =>
    ((r240 = r230 → ((¬ r230 = 0 → wp_L_law_2433 sc L (fun x1 x2 x3 x4 g => wp_L_law_23 sc L n x1 x2 x3 x4 g) x1 x2 x3 x4 g238) ∧ (r230 = 0 → ∃ o246, g238 x3 = some (10, o246) ∧
    ((r234 = 0 → wp_L_law_977 sc L (fun x1 x2 x3 x4 g => wp_L_law_23 sc L n x1 x2 x3 x4 g) x1 x2 x3 x4 (fB o246 0 0) 0 g238) ∧ (¬ r234 = 0 → wp_L_law_977 sc L (fun x1 x2 x3 x4 g => wp_L_law_23 sc L n x1 x2 x3 x4 g) x1 x2 x3 x4 (fB o246 0 0) 1 g238))))) ∧ (¬ r240 = r230 → False)))))) ∧ (¬ ((sc x4.toNatClampNeg) &&& 63) = 10 → ((((sc x4.toNatClampNeg) &&& 63) = 11 → vp_in (x4 + 1) L ∧
    wp_L_holder x1 (sc (x4 + 1).toNatClampNeg) x3 g (fun r251 g252 =>
    vp_in (x4 + 1) L ∧
    ∃ o256, g252 x2 = some (9, o256) ∧
    wp_X8_holder (sc (x4 + 1).toNatClampNeg) o256 (fun r255 o258 => ∀ g259, g259 = hu g252 x2 (9, o258) →
    ∃ o262, g259 x2 = some (9, o262) ∧
    wp_X8_thrown o262 (fun r261 =>
    ((r261 = r251 → ((¬ r251 = 0 → wp_L_law_2433 sc L (fun x1 x2 x3 x4 g => wp_L_law_23 sc L n x1 x2 x3 x4 g) x1 x2 x3 x4 g259) ∧ (r251 = 0 → ∃ o267, g259 x3 = some (10, o267) ∧
    (((lg_cmp (fB o267 0 0) r255.toInt64) = 0 → wp_L_law_2433 sc L (fun x1 x2 x3 x4 g => wp_L_law_23 sc L n x1 x2 x3 x4 g) x1 x2 x3 x4 g259) ∧ (¬ (lg_cmp (fB o267 0 0) r255.toInt64) = 0 → False))))) ∧ (¬ r261 = r251 → False)))))) ∧ (¬ ((sc x4.toNatClampNeg) &&& 63) = 11 → ((((sc x4.toNatClampNeg) &&& 63) = 12 → ∃ o272, g x1 = some (8, o272) ∧
    wp_X7_shapes x1 g (fun r271 =>
    ∃ o276, g x2 = some (9, o276) ∧
    wp_X8_shapes o276 (fun r275 o278 => ∀ g279, g279 = hu g x2 (9, o278) →
    ((r271 = r275 → wp_L_law_2433 sc L (fun x1 x2 x3 x4 g => wp_L_law_23 sc L n x1 x2 x3 x4 g) x1 x2 x3 x4 g279) ∧ (¬ r271 = r275 → False))))) ∧ (¬ ((sc x4.toNatClampNeg) &&& 63) = 12 → ((((sc x4.toNatClampNeg) &&& 63) = 13 → ∃ o284, g x1 = some (8, o284) ∧
    wp_X7_there x1 g (fun r283 =>
    ∃ o288, g x2 = some (9, o288) ∧
    wp_X8_there o288 (fun r287 o290 => ∀ g291, g291 = hu g x2 (9, o290) →
    (((lg_cmp r283 r287) = 0 → wp_L_law_2433 sc L (fun x1 x2 x3 x4 g => wp_L_law_23 sc L n x1 x2 x3 x4 g) x1 x2 x3 x4 g291) ∧ (¬ (lg_cmp r283 r287) = 0 → False))))) ∧ (¬ ((sc x4.toNatClampNeg) &&& 63) = 13 → ((((sc x4.toNatClampNeg) &&& 63) = 14 → vp_in (x4 + 1) L ∧
    wp_L_place x1 (sc (x4 + 1).toNatClampNeg) x3 g (fun r296 g297 =>
    vp_in (x4 + 1) L ∧
    ∃ o301, g297 x2 = some (9, o301) ∧
    wp_X8_place (sc (x4 + 1).toNatClampNeg) o301 (fun r300 o303 => ∀ g304, g304 = hu g297 x2 (9, o303) →
    ∃ o307, g304 x2 = some (9, o307) ∧
    wp_X8_thrown o307 (fun r306 =>
    ((r306 = r296 → ((¬ r296 = 0 → wp_L_law_2433 sc L (fun x1 x2 x3 x4 g => wp_L_law_23 sc L n x1 x2 x3 x4 g) x1 x2 x3 x4 g304) ∧ (r296 = 0 → ∃ o312, g304 x3 = some (10, o312) ∧
    (((lg_cmp (fB o312 0 0) r300.toInt64) = 0 → wp_L_law_2433 sc L (fun x1 x2 x3 x4 g => wp_L_law_23 sc L n x1 x2 x3 x4 g) x1 x2 x3 x4 g304) ∧ (¬ (lg_cmp (fB o312 0 0) r300.toInt64) = 0 → False))))) ∧ (¬ r306 = r296 → False)))))) ∧ (¬ ((sc x4.toNatClampNeg) &&& 63) = 14 → ((((sc x4.toNatClampNeg) &&& 63) = 15 → vp_in (x4 + 1) L ∧
    wp_L_colour x1 (sc (x4 + 1).toNatClampNeg) x3 g (fun r317 g318 =>
    vp_in (x4 + 1) L ∧
    ∃ o322, g318 x2 = some (9, o322) ∧
    wp_X8_colour (sc (x4 + 1).toNatClampNeg) o322 (fun r321 o324 => ∀ g325, g325 = hu g318 x2 (9, o324) →
    ∃ o328, g325 x2 = some (9, o328) ∧
    wp_X8_thrown o328 (fun r327 =>
    ((r327 = r317 → ((¬ r317 = 0 → wp_L_law_2433 sc L (fun x1 x2 x3 x4 g => wp_L_law_23 sc L n x1 x2 x3 x4 g) x1 x2 x3 x4 g325) ∧ (r317 = 0 → ∃ o333, g325 x3 = some (10, o333) ∧
    (((lg_cmp (fB o333 0 0) r321.toInt64) = 0 → wp_L_law_2433 sc L (fun x1 x2 x3 x4 g => wp_L_law_23 sc L n x1 x2 x3 x4 g) x1 x2 x3 x4 g325) ∧ (¬ (lg_cmp (fB o333 0 0) r321.toInt64) = 0 → False))))) ∧ (¬ r327 = r317 → False)))))) ∧ (¬ ((sc x4.toNatClampNeg) &&& 63) = 15 → ((((sc x4.toNatClampNeg) &&& 63) = 16 → vp_in (x4 + 1) L ∧
    wp_L_above x1 (sc (x4 + 1).toNatClampNeg) x3 g (fun r338 g339 =>
    vp_in (x4 + 1) L ∧
    ∃ o343, g339 x2 = some (9, o343) ∧
    wp_X8_above (sc (x4 + 1).toNatClampNeg) o343 (fun r342 o345 => ∀ g346, g346 = hu g339 x2 (9, o345) →
    ∃ o349, g346 x2 = some (9, o349) ∧
    wp_X8_thrown o349 (fun r348 =>
    ((r348 = r338 → ((¬ r338 = 0 → wp_L_law_2433 sc L (fun x1 x2 x3 x4 g => wp_L_law_23 sc L n x1 x2 x3 x4 g) x1 x2 x3 x4 g346) ∧ (r338 = 0 → ∃ o354, g346 x3 = some (10, o354) ∧
    (((lg_cmp (fB o354 0 0) r342.toInt64) = 0 → wp_L_law_2433 sc L (fun x1 x2 x3 x4 g => wp_L_law_23 sc L n x1 x2 x3 x4 g) x1 x2 x3 x4 g346) ∧ (¬ (lg_cmp (fB o354 0 0) r342.toInt64) = 0 → False))))) ∧ (¬ r348 = r338 → False)))))) ∧ (¬ ((sc x4.toNatClampNeg) &&& 63) = 16 → ((((sc x4.toNatClampNeg) &&& 63) = 17 → vp_in (x4 + 1) L ∧
    wp_L_group x1 (sc (x4 + 1).toNatClampNeg) x3 g (fun r359 g360 =>
    vp_in (x4 + 1) L ∧
    ∃ o364, g360 x2 = some (9, o364) ∧
    wp_X8_group (sc (x4 + 1).toNatClampNeg) o364 (fun r363 o366 => ∀ g367, g367 = hu g360 x2 (9, o366) →
    ∃ o370, g367 x2 = some (9, o370) ∧
    wp_X8_thrown o370 (fun r369 =>
    ((r369 = r359 → ((¬ r359 = 0 → wp_L_law_2433 sc L (fun x1 x2 x3 x4 g => wp_L_law_23 sc L n x1 x2 x3 x4 g) x1 x2 x3 x4 g367) ∧ (r359 = 0 → ∃ o375, g367 x3 = some (10, o375) ∧
    (((lg_cmp (fB o375 0 0) r363) = 0 → wp_L_law_2433 sc L (fun x1 x2 x3 x4 g => wp_L_law_23 sc L n x1 x2 x3 x4 g) x1 x2 x3 x4 g367) ∧ (¬ (lg_cmp (fB o375 0 0) r363) = 0 → False))))) ∧ (¬ r369 = r359 → False)))))) ∧ (¬ ((sc x4.toNatClampNeg) &&& 63) = 17 → ((((sc x4.toNatClampNeg) &&& 63) = 18 → vp_in (x4 + 1) L ∧
    vp_in (x4 + 2) L ∧
    wp_L_seen x1 (sc (x4 + 1).toNatClampNeg) (sc (x4 + 2).toNatClampNeg) x3 g (fun r381 g382 =>
    vp_in (x4 + 1) L ∧
    vp_in (x4 + 2) L ∧
    ∃ o387, g382 x2 = some (9, o387) ∧
    wp_X8_seen (sc (x4 + 1).toNatClampNeg) (sc (x4 + 2).toNatClampNeg) o387 (fun r386 o389 => ∀ g390, g390 = hu g382 x2 (9, o389) →
    ∃ o393, g390 x2 = some (9, o393) ∧
    wp_X8_thrown o393 (fun r392 =>
    ((r392 = r381 → ((¬ r381 = 0 → wp_L_law_2433 sc L (fun x1 x2 x3 x4 g => wp_L_law_23 sc L n x1 x2 x3 x4 g) x1 x2 x3 x4 g390) ∧ (r381 = 0 → ∃ o398, g390 x3 = some (10, o398) ∧
    (((lg_cmp (fB o398 0 0) r386.toInt64) = 0 → wp_L_law_2433 sc L (fun x1 x2 x3 x4 g => wp_L_law_23 sc L n x1 x2 x3 x4 g) x1 x2 x3 x4 g390) ∧ (¬ (lg_cmp (fB o398 0 0) r386.toInt64) = 0 → False))))) ∧ (¬ r392 = r381 → False)))))) ∧ (¬ ((sc x4.toNatClampNeg) &&& 63) = 18 → ((((sc x4.toNatClampNeg) &&& 63) = 19 → vp_in (x4 + 1) L ∧
    vp_in (x4 + 2) L ∧
    wp_L_seenAnew x1 (sc (x4 + 1).toNatClampNeg) (sc (x4 + 2).toNatClampNeg) x3 g (fun r404 g405 =>
    vp_in (x4 + 1) L ∧
    vp_in (x4 + 2) L ∧
    ∃ o410, g405 x2 = some (9, o410) ∧
    wp_X8_seenAnew (sc (x4 + 1).toNatClampNeg) (sc (x4 + 2).toNatClampNeg) o410 (fun r409 o412 => ∀ g413, g413 = hu g405 x2 (9, o412) →
    ∃ o416, g413 x2 = some (9, o416) ∧
    wp_X8_thrown o416 (fun r415 =>
    ((r415 = r404 → ((¬ r404 = 0 → wp_L_law_2433 sc L (fun x1 x2 x3 x4 g => wp_L_law_23 sc L n x1 x2 x3 x4 g) x1 x2 x3 x4 g413) ∧ (r404 = 0 → ∃ o421, g413 x3 = some (10, o421) ∧
    (((lg_cmp (fB o421 0 0) r409.toInt64) = 0 → wp_L_law_2433 sc L (fun x1 x2 x3 x4 g => wp_L_law_23 sc L n x1 x2 x3 x4 g) x1 x2 x3 x4 g413) ∧ (¬ (lg_cmp (fB o421 0 0) r409.toInt64) = 0 → False))))) ∧ (¬ r415 = r404 → False)))))) ∧ (¬ ((sc x4.toNatClampNeg) &&& 63) = 19 → ((((sc x4.toNatClampNeg) &&& 63) = 20 → vp_in (x4 + 1) L ∧
    vp_in (x4 + 2) L ∧
    vp_in (x4 + 3) L ∧
    vp_in (x4 + 4) L ∧
    vp_in (x4 + 5) L ∧
    vp_in (x4 + 6) L ∧
    vp_in (x4 + 7) L ∧
    wp_L_freeze x1 (sc (x4 + 1).toNatClampNeg) (sc (x4 + 2).toNatClampNeg) (sc (x4 + 3).toNatClampNeg) (sc (x4 + 4).toNatClampNeg) (sc (x4 + 5).toNatClampNeg) (sc (x4 + 6).toNatClampNeg) (sc (x4 + 7).toNatClampNeg) x3 g (fun r432 g433 =>
    vp_in (x4 + 1) L ∧
    vp_in (x4 + 2) L ∧
    vp_in (x4 + 3) L ∧
    vp_in (x4 + 4) L ∧
    vp_in (x4 + 5) L ∧
    vp_in (x4 + 6) L ∧
    vp_in (x4 + 7) L ∧
    ∃ o443, g433 x2 = some (9, o443) ∧
    wp_X8_freeze (sc (x4 + 1).toNatClampNeg) (sc (x4 + 2).toNatClampNeg) (sc (x4 + 3).toNatClampNeg) (sc (x4 + 4).toNatClampNeg) (sc (x4 + 5).toNatClampNeg) (sc (x4 + 6).toNatClampNeg) (sc (x4 + 7).toNatClampNeg) o443 (fun r442 o445 => ∀ g446, g446 = hu g433 x2 (9, o445) →
    ∃ o449, g446 x2 = some (9, o449) ∧
    wp_X8_thrown o449 (fun r448 =>
    ((r448 = r432 → ((¬ r432 = 0 → wp_L_law_2433 sc L (fun x1 x2 x3 x4 g => wp_L_law_23 sc L n x1 x2 x3 x4 g) x1 x2 x3 x4 g446) ∧ (r432 = 0 → ∃ o454, g446 x3 = some (10, o454) ∧
    (((lg_cmp (fB o454 0 0) r442.toInt64) = 0 → wp_L_law_2433 sc L (fun x1 x2 x3 x4 g => wp_L_law_23 sc L n x1 x2 x3 x4 g) x1 x2 x3 x4 g446) ∧ (¬ (lg_cmp (fB o454 0 0) r442.toInt64) = 0 → False))))) ∧ (¬ r448 = r432 → False)))))) ∧ (¬ ((sc x4.toNatClampNeg) &&& 63) = 20 → ((((sc x4.toNatClampNeg) &&& 63) = 21 → vp_in (x4 + 1) L ∧
    wp_L_withdraw x1 (sc (x4 + 1).toNatClampNeg) x3 g (fun r459 g460 =>
    vp_in (x4 + 1) L ∧
    ∃ o464, g460 x2 = some (9, o464) ∧
    wp_X8_withdraw (sc (x4 + 1).toNatClampNeg) o464 (fun r463 o466 => ∀ g467, g467 = hu g460 x2 (9, o466) →
    ∃ o470, g467 x2 = some (9, o470) ∧
    wp_X8_thrown o470 (fun r469 =>
    ((r469 = r459 → ((¬ r459 = 0 → wp_L_law_2433 sc L (fun x1 x2 x3 x4 g => wp_L_law_23 sc L n x1 x2 x3 x4 g) x1 x2 x3 x4 g467) ∧ (r459 = 0 → ∃ o475, g467 x3 = some (10, o475) ∧
    (((lg_cmp (fB o475 0 0) r463.toInt64) = 0 → wp_L_law_2433 sc L (fun x1 x2 x3 x4 g => wp_L_law_23 sc L n x1 x2 x3 x4 g) x1 x2 x3 x4 g467) ∧ (¬ (lg_cmp (fB o475 0 0) r463.toInt64) = 0 → False))))) ∧ (¬ r469 = r459 → False)))))) ∧ (¬ ((sc x4.toNatClampNeg) &&& 63) = 21 → ((((sc x4.toNatClampNeg) &&& 63) = 22 → vp_in (x4 + 1) L ∧
    vp_in (x4 + 2) L ∧
    vp_in (x4 + 3) L ∧
    wp_L_viewed x1 (sc (x4 + 1).toNatClampNeg) (sc (x4 + 2).toNatClampNeg) (sc (x4 + 3).toNatClampNeg) x3 g (fun r482 g483 =>
    vp_in (x4 + 1) L ∧
    vp_in (x4 + 2) L ∧
    vp_in (x4 + 3) L ∧
    ∃ o489, g483 x2 = some (9, o489) ∧
    wp_X8_viewed (sc (x4 + 1).toNatClampNeg) (sc (x4 + 2).toNatClampNeg) (sc (x4 + 3).toNatClampNeg) o489 (fun r488 o491 => ∀ g492, g492 = hu g483 x2 (9, o491) →
    ∃ o495, g492 x2 = some (9, o495) ∧
    wp_X8_thrown o495 (fun r494 =>
    ((r494 = r482 → ((¬ r482 = 0 → wp_L_law_2433 sc L (fun x1 x2 x3 x4 g => wp_L_law_23 sc L n x1 x2 x3 x4 g) x1 x2 x3 x4 g492) ∧ (r482 = 0 → ∃ o500, g492 x3 = some (10, o500) ∧
    (((lg_cmp (fB o500 0 0) r488.toInt64) = 0 → wp_L_law_2433 sc L (fun x1 x2 x3 x4 g => wp_L_law_23 sc L n x1 x2 x3 x4 g) x1 x2 x3 x4 g492) ∧ (¬ (lg_cmp (fB o500 0 0) r488.toInt64) = 0 → False))))) ∧ (¬ r494 = r482 → False)))))) ∧ (¬ ((sc x4.toNatClampNeg) &&& 63) = 22 → ((((sc x4.toNatClampNeg) &&& 63) = 23 → vp_in (x4 + 1) L ∧
    vp_in (x4 + 2) L ∧
    wp_L_area x1 (sc (x4 + 1).toNatClampNeg) (sc (x4 + 2).toNatClampNeg) x3 g (fun r506 g507 =>
    vp_in (x4 + 1) L ∧
    vp_in (x4 + 2) L ∧
    ∃ o512, g507 x2 = some (9, o512) ∧
    wp_X8_area (sc (x4 + 1).toNatClampNeg) (sc (x4 + 2).toNatClampNeg) o512 (fun r511 o514 => ∀ g515, g515 = hu g507 x2 (9, o514) →
    ∃ o518, g515 x2 = some (9, o518) ∧
    wp_X8_thrown o518 (fun r517 =>
    ((r517 = r506 → ((¬ r506 = 0 → wp_L_law_2433 sc L (fun x1 x2 x3 x4 g => wp_L_law_23 sc L n x1 x2 x3 x4 g) x1 x2 x3 x4 g515) ∧ (r506 = 0 → ∃ o523, g515 x3 = some (10, o523) ∧
    (((lg_cmp (fB o523 0 0) r511.toInt64) = 0 → wp_L_law_2433 sc L (fun x1 x2 x3 x4 g => wp_L_law_23 sc L n x1 x2 x3 x4 g) x1 x2 x3 x4 g515) ∧ (¬ (lg_cmp (fB o523 0 0) r511.toInt64) = 0 → False))))) ∧ (¬ r517 = r506 → False)))))) ∧ (¬ ((sc x4.toNatClampNeg) &&& 63) = 23 → ((((sc x4.toNatClampNeg) &&& 63) = 24 → vp_in (x4 + 1) L ∧
    vp_in (x4 + 2) L ∧
    wp_L_sell x1 (sc (x4 + 1).toNatClampNeg) (sc (x4 + 2).toNatClampNeg) x3 g (fun r529 g530 =>
    vp_in (x4 + 1) L ∧
    vp_in (x4 + 2) L ∧
    ∃ o535, g530 x2 = some (9, o535) ∧
    wp_X8_sell (sc (x4 + 1).toNatClampNeg) (sc (x4 + 2).toNatClampNeg) o535 (fun r534 o537 => ∀ g538, g538 = hu g530 x2 (9, o537) →
    ∃ o541, g538 x2 = some (9, o541) ∧
    wp_X8_thrown o541 (fun r540 =>
    ((r540 = r529 → ((¬ r529 = 0 → wp_L_law_2433 sc L (fun x1 x2 x3 x4 g => wp_L_law_23 sc L n x1 x2 x3 x4 g) x1 x2 x3 x4 g538) ∧ (r529 = 0 → ∃ o546, g538 x3 = some (10, o546) ∧
    (((lg_cmp (fB o546 0 0) r534.toInt64) = 0 → wp_L_law_2433 sc L (fun x1 x2 x3 x4 g => wp_L_law_23 sc L n x1 x2 x3 x4 g) x1 x2 x3 x4 g538) ∧ (¬ (lg_cmp (fB o546 0 0) r534.toInt64) = 0 → False))))) ∧ (¬ r540 = r529 → False)))))) ∧ (¬ ((sc x4.toNatClampNeg) &&& 63) = 24 → ((((sc x4.toNatClampNeg) &&& 63) = 25 → vp_in (x4 + 1) L ∧
    vp_in (x4 + 2) L ∧
    vp_in (x4 + 3) L ∧
    vp_in (x4 + 4) L ∧
    wp_L_resell x1 (sc (x4 + 1).toNatClampNeg) (sc (x4 + 2).toNatClampNeg) (sc (x4 + 3).toNatClampNeg) (sc (x4 + 4).toNatClampNeg) x3 g (fun r554 g555 =>
    vp_in (x4 + 1) L ∧
    vp_in (x4 + 2) L ∧
    vp_in (x4 + 3) L ∧
    vp_in (x4 + 4) L ∧
    ∃ o562, g555 x2 = some (9, o562) ∧
    wp_X8_resell (sc (x4 + 1).toNatClampNeg) (sc (x4 + 2).toNatClampNeg) (sc (x4 + 3).toNatClampNeg) (sc (x4 + 4).toNatClampNeg) o562 (fun r561 o564 => ∀ g565, g565 = hu g555 x2 (9, o564) →
    ∃ o568, g565 x2 = some (9, o568) ∧
    wp_X8_thrown o568 (fun r567 =>
    ((r567 = r554 → ((¬ r554 = 0 → wp_L_law_2433 sc L (fun x1 x2 x3 x4 g => wp_L_law_23 sc L n x1 x2 x3 x4 g) x1 x2 x3 x4 g565) ∧ (r554 = 0 → ∃ o573, g565 x3 = some (10, o573) ∧
    (((lg_cmp (fB o573 0 0) r561.toInt64) = 0 → wp_L_law_2433 sc L (fun x1 x2 x3 x4 g => wp_L_law_23 sc L n x1 x2 x3 x4 g) x1 x2 x3 x4 g565) ∧ (¬ (lg_cmp (fB o573 0 0) r561.toInt64) = 0 → False))))) ∧ (¬ r567 = r554 → False)))))) ∧ (¬ ((sc x4.toNatClampNeg) &&& 63) = 25 → ((((sc x4.toNatClampNeg) &&& 63) = 26 → vp_in (x4 + 1) L ∧
    wp_L_takeDown x1 (sc (x4 + 1).toNatClampNeg) x3 g (fun r578 g579 =>
    vp_in (x4 + 1) L ∧
    ∃ o583, g579 x2 = some (9, o583) ∧
    wp_X8_takeDown (sc (x4 + 1).toNatClampNeg) o583 (fun r582 o585 => ∀ g586, g586 = hu g579 x2 (9, o585) →
    ∃ o589, g586 x2 = some (9, o589) ∧
    wp_X8_thrown o589 (fun r588 =>
    ((r588 = r578 → ((¬ r578 = 0 → wp_L_law_2433 sc L (fun x1 x2 x3 x4 g => wp_L_law_23 sc L n x1 x2 x3 x4 g) x1 x2 x3 x4 g586) ∧ (r578 = 0 → ∃ o594, g586 x3 = some (10, o594) ∧
    (((lg_cmp (fB o594 0 0) r582.toInt64) = 0 → wp_L_law_2433 sc L (fun x1 x2 x3 x4 g => wp_L_law_23 sc L n x1 x2 x3 x4 g) x1 x2 x3 x4 g586) ∧ (¬ (lg_cmp (fB o594 0 0) r582.toInt64) = 0 → False))))) ∧ (¬ r588 = r578 → False)))))) ∧ (¬ ((sc x4.toNatClampNeg) &&& 63) = 26 → ((((sc x4.toNatClampNeg) &&& 63) = 27 → vp_in (x4 + 1) L ∧
    vp_in (x4 + 2) L ∧
    wp_L_accept x1 (sc (x4 + 1).toNatClampNeg) (sc (x4 + 2).toNatClampNeg) x3 g (fun r600 g601 =>
    vp_in (x4 + 1) L ∧
    vp_in (x4 + 2) L ∧
    ∃ o606, g601 x2 = some (9, o606) ∧
    wp_X8_accept (sc (x4 + 1).toNatClampNeg) (sc (x4 + 2).toNatClampNeg) o606 (fun r605 o608 => ∀ g609, g609 = hu g601 x2 (9, o608) →
    ∃ o612, g609 x2 = some (9, o612) ∧
    wp_X8_thrown o612 (fun r611 =>
    ((r611 = r600 → ((¬ r600 = 0 → wp_L_law_2433 sc L (fun x1 x2 x3 x4 g => wp_L_law_23 sc L n x1 x2 x3 x4 g) x1 x2 x3 x4 g609) ∧ (r600 = 0 → ∃ o617, g609 x3 = some (10, o617) ∧
    (((lg_cmp (fB o617 0 0) r605.toInt64) = 0 → wp_L_law_2433 sc L (fun x1 x2 x3 x4 g => wp_L_law_23 sc L n x1 x2 x3 x4 g) x1 x2 x3 x4 g609) ∧ (¬ (lg_cmp (fB o617 0 0) r605.toInt64) = 0 → False))))) ∧ (¬ r611 = r600 → False)))))) ∧ (¬ ((sc x4.toNatClampNeg) &&& 63) = 27 → ((((sc x4.toNatClampNeg) &&& 63) = 28 → vp_in (x4 + 1) L ∧
    vp_in (x4 + 2) L ∧
    wp_L_giveBack x1 (sc (x4 + 1).toNatClampNeg) (sc (x4 + 2).toNatClampNeg) x3 g (fun r623 g624 =>
    vp_in (x4 + 1) L ∧
    vp_in (x4 + 2) L ∧
    ∃ o629, g624 x2 = some (9, o629) ∧
    wp_X8_giveBack (sc (x4 + 1).toNatClampNeg) (sc (x4 + 2).toNatClampNeg) o629 (fun r628 o631 => ∀ g632, g632 = hu g624 x2 (9, o631) →
    ∃ o635, g632 x2 = some (9, o635) ∧
    wp_X8_thrown o635 (fun r634 =>
    ((r634 = r623 → ((¬ r623 = 0 → wp_L_law_2433 sc L (fun x1 x2 x3 x4 g => wp_L_law_23 sc L n x1 x2 x3 x4 g) x1 x2 x3 x4 g632) ∧ (r623 = 0 → ∃ o640, g632 x3 = some (10, o640) ∧
    (((lg_cmp (fB o640 0 0) r628.toInt64) = 0 → wp_L_law_2433 sc L (fun x1 x2 x3 x4 g => wp_L_law_23 sc L n x1 x2 x3 x4 g) x1 x2 x3 x4 g632) ∧ (¬ (lg_cmp (fB o640 0 0) r628.toInt64) = 0 → False))))) ∧ (¬ r634 = r623 → False)))))) ∧ (¬ ((sc x4.toNatClampNeg) &&& 63) = 28 → ((((sc x4.toNatClampNeg) &&& 63) = 29 → vp_in (x4 + 1) L ∧
    vp_in (x4 + 2) L ∧
    wp_L_copyState x1 (sc (x4 + 1).toNatClampNeg) (sc (x4 + 2).toNatClampNeg) x3 g (fun r646 g647 =>
    vp_in (x4 + 1) L ∧
    vp_in (x4 + 2) L ∧
    ∃ o652, g647 x2 = some (9, o652) ∧
    wp_X8_copyState (sc (x4 + 1).toNatClampNeg) (sc (x4 + 2).toNatClampNeg) o652 (fun r651 o654 => ∀ g655, g655 = hu g647 x2 (9, o654) →
    ∃ o658, g655 x2 = some (9, o658) ∧
    wp_X8_thrown o658 (fun r657 =>
    ((r657 = r646 → ((¬ r646 = 0 → wp_L_law_2433 sc L (fun x1 x2 x3 x4 g => wp_L_law_23 sc L n x1 x2 x3 x4 g) x1 x2 x3 x4 g655) ∧ (r646 = 0 → ∃ o663, g655 x3 = some (10, o663) ∧
    (((lg_cmp (fB o663 0 0) r651.toInt64) = 0 → wp_L_law_2433 sc L (fun x1 x2 x3 x4 g => wp_L_law_23 sc L n x1 x2 x3 x4 g) x1 x2 x3 x4 g655) ∧ (¬ (lg_cmp (fB o663 0 0) r651.toInt64) = 0 → False))))) ∧ (¬ r657 = r646 → False)))))) ∧ (¬ ((sc x4.toNatClampNeg) &&& 63) = 29 → ((((sc x4.toNatClampNeg) &&& 63) = 30 → vp_in (x4 + 1) L ∧
    vp_in (x4 + 2) L ∧
    wp_L_owner x1 (sc (x4 + 1).toNatClampNeg) (sc (x4 + 2).toNatClampNeg) x3 g (fun r669 g670 =>
    vp_in (x4 + 1) L ∧
    vp_in (x4 + 2) L ∧
    ∃ o675, g670 x2 = some (9, o675) ∧
    wp_X8_owner (sc (x4 + 1).toNatClampNeg) (sc (x4 + 2).toNatClampNeg) o675 (fun r674 o677 => ∀ g678, g678 = hu g670 x2 (9, o677) →
    ∃ o681, g678 x2 = some (9, o681) ∧
    wp_X8_thrown o681 (fun r680 =>
    ((r680 = r669 → ((¬ r669 = 0 → wp_L_law_2433 sc L (fun x1 x2 x3 x4 g => wp_L_law_23 sc L n x1 x2 x3 x4 g) x1 x2 x3 x4 g678) ∧ (r669 = 0 → ∃ o686, g678 x3 = some (10, o686) ∧
    (((lg_cmp (fB o686 0 0) r674.toInt64) = 0 → wp_L_law_2433 sc L (fun x1 x2 x3 x4 g => wp_L_law_23 sc L n x1 x2 x3 x4 g) x1 x2 x3 x4 g678) ∧ (¬ (lg_cmp (fB o686 0 0) r674.toInt64) = 0 → False))))) ∧ (¬ r680 = r669 → False)))))) ∧ (¬ ((sc x4.toNatClampNeg) &&& 63) = 30 → ((((sc x4.toNatClampNeg) &&& 63) = 31 → vp_in (x4 + 1) L ∧
    wp_L_money x1 (sc (x4 + 1).toNatClampNeg) x3 g (fun r691 g692 =>
    vp_in (x4 + 1) L ∧
    ∃ o696, g692 x2 = some (9, o696) ∧
    wp_X8_money (sc (x4 + 1).toNatClampNeg) o696 (fun r695 o698 => ∀ g699, g699 = hu g692 x2 (9, o698) →
    ∃ o702, g699 x2 = some (9, o702) ∧
    wp_X8_thrown o702 (fun r701 =>
    ((r701 = r691 → ((¬ r691 = 0 → wp_L_law_2433 sc L (fun x1 x2 x3 x4 g => wp_L_law_23 sc L n x1 x2 x3 x4 g) x1 x2 x3 x4 g699) ∧ (r691 = 0 → ∃ o707, g699 x3 = some (10, o707) ∧
    (((lg_cmp (fB o707 0 0) r695.toInt64) = 0 → wp_L_law_2433 sc L (fun x1 x2 x3 x4 g => wp_L_law_23 sc L n x1 x2 x3 x4 g) x1 x2 x3 x4 g699) ∧ (¬ (lg_cmp (fB o707 0 0) r695.toInt64) = 0 → False))))) ∧ (¬ r701 = r691 → False)))))) ∧ (¬ ((sc x4.toNatClampNeg) &&& 63) = 31 → ((((sc x4.toNatClampNeg) &&& 63) = 32 → vp_in (x4 + 1) L ∧
    wp_L_moneyAnew x1 (sc (x4 + 1).toNatClampNeg) x3 g (fun r712 g713 =>
    vp_in (x4 + 1) L ∧
    ∃ o717, g713 x2 = some (9, o717) ∧
    wp_X8_moneyAnew (sc (x4 + 1).toNatClampNeg) o717 (fun r716 o719 => ∀ g720, g720 = hu g713 x2 (9, o719) →
    ∃ o723, g720 x2 = some (9, o723) ∧
    wp_X8_thrown o723 (fun r722 =>
    ((r722 = r712 → ((¬ r712 = 0 → wp_L_law_2433 sc L (fun x1 x2 x3 x4 g => wp_L_law_23 sc L n x1 x2 x3 x4 g) x1 x2 x3 x4 g720) ∧ (r712 = 0 → ∃ o728, g720 x3 = some (10, o728) ∧
    (((lg_cmp (fB o728 0 0) r716.toInt64) = 0 → wp_L_law_2433 sc L (fun x1 x2 x3 x4 g => wp_L_law_23 sc L n x1 x2 x3 x4 g) x1 x2 x3 x4 g720) ∧ (¬ (lg_cmp (fB o728 0 0) r716.toInt64) = 0 → False))))) ∧ (¬ r722 = r712 → False)))))) ∧ (¬ ((sc x4.toNatClampNeg) &&& 63) = 32 → ((((sc x4.toNatClampNeg) &&& 63) = 33 → vp_in (x4 + 1) L ∧
    wp_L_purse x1 (sc (x4 + 1).toNatClampNeg) x3 g (fun r733 g734 =>
    vp_in (x4 + 1) L ∧
    ∃ o738, g734 x2 = some (9, o738) ∧
    wp_X8_purse (sc (x4 + 1).toNatClampNeg) o738 (fun r737 o740 => ∀ g741, g741 = hu g734 x2 (9, o740) →
    ∃ o744, g741 x2 = some (9, o744) ∧
    wp_X8_thrown o744 (fun r743 =>
    ((r743 = r733 → ((¬ r733 = 0 → wp_L_law_2433 sc L (fun x1 x2 x3 x4 g => wp_L_law_23 sc L n x1 x2 x3 x4 g) x1 x2 x3 x4 g741) ∧ (r733 = 0 → ∃ o749, g741 x3 = some (10, o749) ∧
    (((lg_cmp (fB o749 0 0) r737.toInt64) = 0 → wp_L_law_2433 sc L (fun x1 x2 x3 x4 g => wp_L_law_23 sc L n x1 x2 x3 x4 g) x1 x2 x3 x4 g741) ∧ (¬ (lg_cmp (fB o749 0 0) r737.toInt64) = 0 → False))))) ∧ (¬ r743 = r733 → False)))))) ∧ (¬ ((sc x4.toNatClampNeg) &&& 63) = 33 → ((((sc x4.toNatClampNeg) &&& 63) = 34 → ∃ o754, g x1 = some (8, o754) ∧
    wp_X7_house o754 (fun r753 =>
    ∃ o758, g x2 = some (9, o758) ∧
    wp_X8_house o758 (fun r757 o760 => ∀ g761, g761 = hu g x2 (9, o760) →
    ((r753 = r757 → wp_L_law_2433 sc L (fun x1 x2 x3 x4 g => wp_L_law_23 sc L n x1 x2 x3 x4 g) x1 x2 x3 x4 g761) ∧ (¬ r753 = r757 → False))))) ∧ (¬ ((sc x4.toNatClampNeg) &&& 63) = 34 → wp_L_law_2433 sc L (fun x1 x2 x3 x4 g => wp_L_law_23 sc L n x1 x2 x3 x4 g) x1 x2 x3 x4 g))))))))))))))))))))))))))))))))))))))))))))))))))))))))))))))))))))))))
def wp_law (sc : Nat → Int32) (L : Nat) (g : GH) : Prop :=
∀ a1, (∀ q, a1 ≤ q → g q = none) → ∀ g2, g2 = hu (hu (hu (hu (hu (hu (hu g (a1 + 1) (0, fo0)) (a1 + 2) (0, fo0)) (a1 + 3) (0, fo0)) (a1 + 4) (0, fo0)) (a1 + 5) (2, fo0)) (a1 + 13) (2, fo0)) a1 (8, (croom0 a1)) →
∀ a5, (∀ q, a5 ≤ q → g2 q = none) → ∀ g6, g6 = hu g2 a5 (9, fo0) →
∀ a9, g6 a9 = none → ∀ g10, g10 = hu g6 a9 (10, fo0) →
wp_L_law_23 sc L 513 a1 a5 a9 0 g10
set_option maxHeartbeats 16000000 in
set_option maxRecDepth 100000 in
theorem t_L_law_2433 {X : gCx} {b L : Nat} {sc : Nat → Int32} (C : gC X cL_law RL (some .boolean) room_1) (hn : xn X = 8) (hlt : (yl (xY X)).stackTraces = false) (hX9 : va_X b L sc (xs X) (xs X).heap) (hb9 : b < (xs X).heap.size ∧ b < yB0 (xY X)) (hret : ∀ (mc ms : Nat) (loc : List (Nat × Value)) (g : GH), mc ≤ room_1.cells ∧ ms ≤ room_1.slots → gX X mc ms 2440 loc [.int 1] g) {k23 : Nat → Nat → Nat → Int32 → GH → Prop} {M S : Nat} (hM : M ≤ room_1.cells) (hS : S ≤ room_1.slots) (hk23 : ∀ (x1 : Nat) (x2 : Nat) (x3 : Nat) (x4 : Int32) (g : GH), k23 x1 x2 x3 x4 g → gX X (M) (S) 23 [(0, .ref b), (1, .ref x1), (2, .ref x2), (3, .ref x3), (4, .int x4)] [] g)  : ∀ (x1 : Nat) (x2 : Nat) (x3 : Nat) (x4 : Int32) (g : GH), wp_L_law_2433 sc L k23 x1 x2 x3 x4 g → gX X M S 2433 [(0, .ref b), (1, .ref x1), (2, .ref x2), (3, .ref x3), (4, .int x4)] [] g := by
  intro x1 x2 x3 x4 g w
  unfold wp_L_law_2433 at w
  exact r_iinc C (v := x4 + 8) 4 dL_law_2433 rfl rfl (nlt hn (by decide)) rfl (r_goto C 23 dL_law_2436 (by decide) (r_sub [1, 2, 3, 4, 0] rfl (hk23 _ _ _ _ _ w)))
set_option maxHeartbeats 16000000 in
set_option maxRecDepth 100000 in
theorem t_L_law_546 {X : gCx} {b L : Nat} {sc : Nat → Int32} (C : gC X cL_law RL (some .boolean) room_1) (hn : xn X = 8) (hlt : (yl (xY X)).stackTraces = false) (hX9 : va_X b L sc (xs X) (xs X).heap) (hb9 : b < (xs X).heap.size ∧ b < yB0 (xY X)) (hret : ∀ (mc ms : Nat) (loc : List (Nat × Value)) (g : GH), mc ≤ room_1.cells ∧ ms ≤ room_1.slots → gX X mc ms 2440 loc [.int 1] g) {k23 : Nat → Nat → Nat → Int32 → GH → Prop} {M S : Nat} (hM : M ≤ room_1.cells) (hS : S ≤ room_1.slots) (hk23 : ∀ (x1 : Nat) (x2 : Nat) (x3 : Nat) (x4 : Int32) (g : GH), k23 x1 x2 x3 x4 g → gX X (M) (S) 23 [(0, .ref b), (1, .ref x1), (2, .ref x2), (3, .ref x3), (4, .int x4)] [] g)  : ∀ (x1 : Nat) (x2 : Nat) (x3 : Nat) (x4 : Int32) (x5 : Int32) (y0 : Nat) (y1 : Int32) (y2 : Int32) (y3 : Int32) (g : GH), wp_L_law_546 sc L k23 x1 x2 x3 x4 x5 y0 y1 y2 y3 g → gX X M S 546 [(0, .ref b), (1, .ref x1), (2, .ref x2), (3, .ref x3), (4, .int x4), (5, .int x5)] [.int y3, .int y2, .int y1, .ref y0] g := by
  intro x1 x2 x3 x4 x5 y0 y1 y2 y3 g w
  unfold wp_L_law_546 at w
  obtain ⟨o773, e774, w⟩ := w
  refine r_goi (r_runV C dL_law_546 (m_X8_layer e774 w) mt_X8_layer tw1277 tw1278 tw1279 gcl_9.1 e774 rfl (stk := []) rfl (Nat.le_of_ble_eq_true rfl) ⟨rfl, rfl, ⟨Nat.le_of_ble_eq_true rfl, Nat.le_of_ble_eq_true rfl⟩, ⟨by omega, by omega⟩⟩) ?_
  intro r772 h777 hp
  obtain ⟨o775, e9, w⟩ := hp
  obtain ⟨g776, rfl⟩ : ∃ z, z = h777 := ⟨_, rfl⟩
  have w := w _ e9
  obtain ⟨o779, e780, w⟩ := w
  refine r_istore C dL_law_549 (nlt hn (by decide)) rfl (r_aload_n C 3 dL_law_551 rfl (r_goi (r_runV C dL_law_552 (m_X8_thrown e780 w) mt_X8_thrown tw1207 tw1208 tw1209 gcl_9.1 e780 rfl (stk := []) rfl (Nat.le_of_ble_eq_true rfl) ⟨rfl, rfl, ⟨Nat.le_of_ble_eq_true rfl, Nat.le_of_ble_eq_true rfl⟩, ⟨by omega, by omega⟩⟩) ?_))
  intro r778 h781 hp
  obtain ⟨e9, w⟩ := hp
  rw [e9]
  refine r_iload C 6 dL_law_555 rfl (r_icmp_eq C 562 dL_law_557 (by decide) (fun c782 => ?_) (fun c782 => ?_))
  · have w := w.1 c782
    refine r_iload C 6 dL_law_562 rfl (r_if_ne C 579 dL_law_564 (by decide) (fun c783 => ?_) (fun c783 => ?_))
    · have w := w.1 c783
      exact r_goto C 2433 dL_law_579 (by decide) (r_sub [1, 2, 3, 4, 5] rfl (t_L_law_2433 C hn hlt hX9 hb9 hret (by omega) (by omega) hk23 _ _ _ _ _ w))
    · have w := w.2 c783
      obtain ⟨o784, e785, w⟩ := w
      refine r_aload_n C 4 dL_law_567 rfl (r_iconst C (v := 0) dL_law_568 (by decide) (r_lald10 C dL_law_569 e785 (r_iload C 0 dL_law_570 rfl (r_i2l C dL_law_572 (r_lcmp C dL_law_573 (r_if_eq C 579 dL_law_574 (by decide) (fun c786 => ?_) (fun c786 => ?_)))))))
      · have w := w.1 c786
        exact r_goto C 2433 dL_law_579 (by decide) (r_sub [1, 2, 3, 4, 5] rfl (t_L_law_2433 C hn hlt hX9 hb9 hret (by omega) (by omega) hk23 _ _ _ _ _ w))
      · have w := w.2 c786
        exact w.elim
  · have w := w.2 c782
    exact w.elim
set_option maxHeartbeats 16000000 in
set_option maxRecDepth 100000 in
theorem t_L_law_513 {X : gCx} {b L : Nat} {sc : Nat → Int32} (C : gC X cL_law RL (some .boolean) room_1) (hn : xn X = 8) (hlt : (yl (xY X)).stackTraces = false) (hX9 : va_X b L sc (xs X) (xs X).heap) (hb9 : b < (xs X).heap.size ∧ b < yB0 (xY X)) (hret : ∀ (mc ms : Nat) (loc : List (Nat × Value)) (g : GH), mc ≤ room_1.cells ∧ ms ≤ room_1.slots → gX X mc ms 2440 loc [.int 1] g) {k23 : Nat → Nat → Nat → Int32 → GH → Prop} {M S : Nat} (hM : M + 100 ≤ room_1.cells) (hS : S + 2000 ≤ room_1.slots) (hk23 : ∀ (x1 : Nat) (x2 : Nat) (x3 : Nat) (x4 : Int32) (g : GH), k23 x1 x2 x3 x4 g → gX X (M + 100) (S + 2000) 23 [(0, .ref b), (1, .ref x1), (2, .ref x2), (3, .ref x3), (4, .int x4)] [] g)  : ∀ (x1 : Nat) (x2 : Nat) (x3 : Nat) (x4 : Int32) (y0 : Nat) (y1 : Int32) (y2 : Int32) (y3 : Int32) (g : GH), wp_L_law_513 sc L k23 x1 x2 x3 x4 y0 y1 y2 y3 g → gX X M S 513 [(0, .ref b), (1, .ref x1), (2, .ref x2), (3, .ref x3), (4, .int x4)] [.int y3, .int y2, .int y1, .ref y0] g := by
  intro x1 x2 x3 x4 y0 y1 y2 y3 g w
  unfold wp_L_law_513 at w
  refine r_aload_n C 3 dL_law_513 rfl (r_goi (r_runSW C dL_law_514 (m_L_layer hlt w) mt_L_layer tw561 tw562 rfl (stk := []) rfl (Nat.le_of_ble_eq_true rfl) ⟨rfl, rfl, ⟨Nat.le_of_ble_eq_true rfl, Nat.le_of_ble_eq_true rfl⟩, ⟨by omega, by omega⟩⟩) ?_)
  intro r764 h766 hp
  obtain ⟨g765, rfl⟩ : ∃ z, z = h766 := ⟨_, rfl⟩
  have w := hp
  obtain ⟨i767, w⟩ := w
  obtain ⟨i768, w⟩ := w
  obtain ⟨i769, w⟩ := w
  refine r_istore C dL_law_517 (nlt hn (by decide)) rfl (r_aload_n C 3 dL_law_519 rfl (r_aload_n C 1 dL_law_520 rfl (r_iload C 5 dL_law_521 rfl (r_iconst C (v := 1) dL_law_523 (by decide) (r_iadd C dL_law_524 (r_sld C hX9 hb9 i767 dL_law_525 (r_aload_n C 1 dL_law_526 rfl (r_iload C 5 dL_law_527 rfl (r_iconst C (v := 2) dL_law_529 (by decide) (r_iadd C dL_law_530 (r_sld C hX9 hb9 i768 dL_law_531 (r_aload_n C 1 dL_law_532 rfl (r_iload C 5 dL_law_533 rfl (r_iconst C (v := 3) dL_law_535 (by decide) (r_iadd C dL_law_536 (r_sld C hX9 hb9 i769 dL_law_537 (r_if_eq C 545 dL_law_538 (by decide) (fun c770 => ?_) (fun c770 => ?_))))))))))))))))))
  · have w := w.1 c770
    exact r_iconst C (v := 0) dL_law_545 (by decide) (r_widen (by omega) (by omega) <| r_sub [1, 2, 3, 4, 5, 0] rfl (t_L_law_546 C hn hlt hX9 hb9 hret (by omega) (by omega) hk23 _ _ _ _ _ _ _ _ _ _ w))
  · have w := w.2 c770
    exact r_iconst C (v := 1) dL_law_541 (by decide) (r_goto C 546 dL_law_542 (by decide) (r_widen (by omega) (by omega) <| r_sub [1, 2, 3, 4, 5, 0] rfl (t_L_law_546 C hn hlt hX9 hb9 hret (by omega) (by omega) hk23 _ _ _ _ _ _ _ _ _ _ w)))
set_option maxHeartbeats 16000000 in
set_option maxRecDepth 100000 in
theorem t_L_law_977 {X : gCx} {b L : Nat} {sc : Nat → Int32} (C : gC X cL_law RL (some .boolean) room_1) (hn : xn X = 8) (hlt : (yl (xY X)).stackTraces = false) (hX9 : va_X b L sc (xs X) (xs X).heap) (hb9 : b < (xs X).heap.size ∧ b < yB0 (xY X)) (hret : ∀ (mc ms : Nat) (loc : List (Nat × Value)) (g : GH), mc ≤ room_1.cells ∧ ms ≤ room_1.slots → gX X mc ms 2440 loc [.int 1] g) {k23 : Nat → Nat → Nat → Int32 → GH → Prop} {M S : Nat} (hM : M ≤ room_1.cells) (hS : S ≤ room_1.slots) (hk23 : ∀ (x1 : Nat) (x2 : Nat) (x3 : Nat) (x4 : Int32) (g : GH), k23 x1 x2 x3 x4 g → gX X (M) (S) 23 [(0, .ref b), (1, .ref x1), (2, .ref x2), (3, .ref x3), (4, .int x4)] [] g)  : ∀ (x1 : Nat) (x2 : Nat) (x3 : Nat) (x4 : Int32) (y0 : Int64) (y1 : Int64) (g : GH), wp_L_law_977 sc L k23 x1 x2 x3 x4 y0 y1 g → gX X M S 977 [(0, .ref b), (1, .ref x1), (2, .ref x2), (3, .ref x3), (4, .int x4)] [.long y1, .long y0] g := by
  intro x1 x2 x3 x4 y0 y1 g w
  unfold wp_L_law_977 at w
  refine r_lcmp C dL_law_977 (r_if_eq C 983 dL_law_978 (by decide) (fun c771 => ?_) (fun c771 => ?_))
  · have w := w.1 c771
    exact r_goto C 2433 dL_law_983 (by decide) (r_sub [0, 1, 2, 3, 4] rfl (t_L_law_2433 C hn hlt hX9 hb9 hret (by omega) (by omega) hk23 _ _ _ _ _ w))
  · have w := w.2 c771
    exact w.elim
set_option maxHeartbeats 16000000 in
set_option maxRecDepth 100000 in
theorem t_L_law_23 {X : gCx} {b L : Nat} {sc : Nat → Int32} (C : gC X cL_law RL (some .boolean) room_1) (hn : xn X = 8) (hlt : (yl (xY X)).stackTraces = false) (hX9 : va_X b L sc (xs X) (xs X).heap) (hb9 : b < (xs X).heap.size ∧ b < yB0 (xY X)) (hret : ∀ (mc ms : Nat) (loc : List (Nat × Value)) (g : GH), mc ≤ room_1.cells ∧ ms ≤ room_1.slots → gX X mc ms 2440 loc [.int 1] g) : ∀ (n : Nat) (x1 : Nat) (x2 : Nat) (x3 : Nat) (x4 : Int32) (g : GH), wp_L_law_23 sc L n x1 x2 x3 x4 g → ∀ (M S : Nat), M + n * 100 ≤ room_1.cells → S + n * 2000 ≤ room_1.slots → gX X M S 23 [(0, .ref b), (1, .ref x1), (2, .ref x2), (3, .ref x3), (4, .int x4)] [] g := by
  intro n
  induction n with
  | zero => intro x1 x2 x3 x4 g w; exact w.elim
  | succ n ih =>
    intro x1 x2 x3 x4 g w M S hM9 hS9
    have hM : M + 100 ≤ room_1.cells := by omega
    have hS : S + 2000 ≤ room_1.slots := by omega
    have ih := fun (x1 : Nat) (x2 : Nat) (x3 : Nat) (x4 : Int32) (g : GH) w => ih x1 x2 x3 x4 g w (M + 100) (S + 2000) (by omega) (by omega)
    unfold wp_L_law_23 at w
    refine r_iload C 4 dL_law_23 rfl (r_aload_n C 0 dL_law_25 rfl (r_slen C hX9 hb9 dL_law_26 (r_bipush C (v := 8) dL_law_27 (by decide) (r_isub C dL_law_29 (r_icmp_gt C 2439 dL_law_30 (by decide) (fun c13 => ?_) (fun c13 => ?_))))))
    · have w := w.1 c13
      exact r_iconst C (v := 1) dL_law_2439 (by decide) (hret _ _ _ _ ⟨by omega, by omega⟩)
    · have w := w.2 c13
      obtain ⟨i14, w⟩ := w
      by_cases c15 : (sc x4.toNatClampNeg) &&& 63 = 0
      · have w := w.1 c15
        refine r_aload_n C 0 dL_law_33 rfl (r_iload C 4 dL_law_34 rfl (r_sld C hX9 hb9 i14 dL_law_36 (r_bipush C (v := 63) dL_law_37 (by decide) (r_iand C dL_law_39 (r_tsIn C 196 c15 dL_law_40 (by decide) (by decide) rfl (by decide) ?_)))))
        obtain ⟨i16, w⟩ := w
        obtain ⟨i17, w⟩ := w
        obtain ⟨i18, w⟩ := w
        obtain ⟨i19, w⟩ := w
        obtain ⟨i20, w⟩ := w
        obtain ⟨i21, w⟩ := w
        refine r_aload_n C 1 dL_law_196 rfl (r_aload_n C 0 dL_law_197 rfl (r_iload C 4 dL_law_198 rfl (r_iconst C (v := 1) dL_law_200 (by decide) (r_iadd C dL_law_201 (r_sld C hX9 hb9 i16 dL_law_202 (r_aload_n C 0 dL_law_203 rfl (r_iload C 4 dL_law_204 rfl (r_iconst C (v := 2) dL_law_206 (by decide) (r_iadd C dL_law_207 (r_sld C hX9 hb9 i17 dL_law_208 (r_aload_n C 0 dL_law_209 rfl (r_iload C 4 dL_law_210 rfl (r_iconst C (v := 3) dL_law_212 (by decide) (r_iadd C dL_law_213 (r_sld C hX9 hb9 i18 dL_law_214 (r_aload_n C 0 dL_law_215 rfl (r_iload C 4 dL_law_216 rfl (r_iconst C (v := 4) dL_law_218 (by decide) (r_iadd C dL_law_219 (r_sld C hX9 hb9 i19 dL_law_220 (r_aload_n C 0 dL_law_221 rfl (r_iload C 4 dL_law_222 rfl (r_iconst C (v := 5) dL_law_224 (by decide) (r_iadd C dL_law_225 (r_sld C hX9 hb9 i20 dL_law_226 (r_aload_n C 0 dL_law_227 rfl (r_iload C 4 dL_law_228 rfl (r_bipush C (v := 6) dL_law_230 (by decide) (r_iadd C dL_law_232 (r_sld C hX9 hb9 i21 dL_law_233 (r_aload_n C 3 dL_law_234 rfl (r_goi (r_runSW C dL_law_235 (m_L_add hlt w) mt_L_add tw217 tw218 rfl (stk := []) rfl (Nat.le_of_ble_eq_true rfl) ⟨rfl, rfl, ⟨Nat.le_of_ble_eq_true rfl, Nat.le_of_ble_eq_true rfl⟩, ⟨by omega, by omega⟩⟩) ?_))))))))))))))))))))))))))))))))
        intro r22 h24 hp
        obtain ⟨g23, rfl⟩ : ∃ z, z = h24 := ⟨_, rfl⟩
        have w := hp
        obtain ⟨i25, w⟩ := w
        obtain ⟨i26, w⟩ := w
        obtain ⟨i27, w⟩ := w
        obtain ⟨i28, w⟩ := w
        obtain ⟨i29, w⟩ := w
        obtain ⟨i30, w⟩ := w
        obtain ⟨o32, e33, w⟩ := w
        refine r_istore C dL_law_238 (nlt hn (by decide)) rfl (r_aload_n C 3 dL_law_240 rfl (r_aload_n C 1 dL_law_241 rfl (r_iload C 5 dL_law_242 rfl (r_iconst C (v := 1) dL_law_244 (by decide) (r_iadd C dL_law_245 (r_sld C hX9 hb9 i25 dL_law_246 (r_aload_n C 1 dL_law_247 rfl (r_iload C 5 dL_law_248 rfl (r_iconst C (v := 2) dL_law_250 (by decide) (r_iadd C dL_law_251 (r_sld C hX9 hb9 i26 dL_law_252 (r_aload_n C 1 dL_law_253 rfl (r_iload C 5 dL_law_254 rfl (r_iconst C (v := 3) dL_law_256 (by decide) (r_iadd C dL_law_257 (r_sld C hX9 hb9 i27 dL_law_258 (r_aload_n C 1 dL_law_259 rfl (r_iload C 5 dL_law_260 rfl (r_iconst C (v := 4) dL_law_262 (by decide) (r_iadd C dL_law_263 (r_sld C hX9 hb9 i28 dL_law_264 (r_aload_n C 1 dL_law_265 rfl (r_iload C 5 dL_law_266 rfl (r_iconst C (v := 5) dL_law_268 (by decide) (r_iadd C dL_law_269 (r_sld C hX9 hb9 i29 dL_law_270 (r_aload_n C 1 dL_law_271 rfl (r_iload C 5 dL_law_272 rfl (r_bipush C (v := 6) dL_law_274 (by decide) (r_iadd C dL_law_276 (r_sld C hX9 hb9 i30 dL_law_277 (r_goi (r_runV C dL_law_278 (m_X8_add e33 w) mt_X8_add tw1211 tw1212 tw1213 gcl_9.1 e33 rfl (stk := []) rfl (Nat.le_of_ble_eq_true rfl) ⟨rfl, rfl, ⟨Nat.le_of_ble_eq_true rfl, Nat.le_of_ble_eq_true rfl⟩, ⟨by omega, by omega⟩⟩) ?_))))))))))))))))))))))))))))))))
        intro r31 h36 hp
        obtain ⟨o34, e9, w⟩ := hp
        obtain ⟨g35, rfl⟩ : ∃ z, z = h36 := ⟨_, rfl⟩
        have w := w _ e9
        obtain ⟨o38, e39, w⟩ := w
        refine r_istore C dL_law_281 (nlt hn (by decide)) rfl (r_aload_n C 4 dL_law_283 rfl (r_goi (r_runV C dL_law_284 (m_X8_thrown e39 w) mt_X8_thrown tw1207 tw1208 tw1209 gcl_9.1 e39 rfl (stk := []) rfl (Nat.le_of_ble_eq_true rfl) ⟨rfl, rfl, ⟨Nat.le_of_ble_eq_true rfl, Nat.le_of_ble_eq_true rfl⟩, ⟨by omega, by omega⟩⟩) ?_))
        intro r37 h40 hp
        obtain ⟨e9, w⟩ := hp
        rw [e9]
        refine r_iload C 1 dL_law_287 rfl (r_icmp_eq C 294 dL_law_289 (by decide) (fun c41 => ?_) (fun c41 => ?_))
        · have w := w.1 c41
          refine r_iload C 1 dL_law_294 rfl (r_if_ne C 311 dL_law_296 (by decide) (fun c42 => ?_) (fun c42 => ?_))
          · have w := w.1 c42
            exact r_goto C 2433 dL_law_311 (by decide) (r_widen (by omega) (by omega) <| r_sub [2, 3, 4, 5, 6] rfl (t_L_law_2433 C hn hlt hX9 hb9 hret (by omega) (by omega) ih _ _ _ _ _ w))
          · have w := w.2 c42
            obtain ⟨o43, e44, w⟩ := w
            refine r_aload_n C 5 dL_law_299 rfl (r_iconst C (v := 0) dL_law_300 (by decide) (r_lald10 C dL_law_301 e44 (r_iload C 0 dL_law_302 rfl (r_i2l C dL_law_304 (r_lcmp C dL_law_305 (r_if_eq C 311 dL_law_306 (by decide) (fun c45 => ?_) (fun c45 => ?_)))))))
            · have w := w.1 c45
              exact r_goto C 2433 dL_law_311 (by decide) (r_widen (by omega) (by omega) <| r_sub [2, 3, 4, 5, 6] rfl (t_L_law_2433 C hn hlt hX9 hb9 hret (by omega) (by omega) ih _ _ _ _ _ w))
            · have w := w.2 c45
              exact w.elim
        · have w := w.2 c41
          exact w.elim
      · have w := w.2 c15
        by_cases c46 : (sc x4.toNatClampNeg) &&& 63 = 1
        · have w := w.1 c46
          refine r_aload_n C 0 dL_law_33 rfl (r_iload C 4 dL_law_34 rfl (r_sld C hX9 hb9 i14 dL_law_36 (r_bipush C (v := 63) dL_law_37 (by decide) (r_iand C dL_law_39 (r_tsIn C 314 c46 dL_law_40 (by decide) (by decide) rfl (by decide) ?_)))))
          obtain ⟨i47, w⟩ := w
          obtain ⟨i48, w⟩ := w
          obtain ⟨i49, w⟩ := w
          obtain ⟨i50, w⟩ := w
          refine r_aload_n C 1 dL_law_314 rfl (r_aload_n C 0 dL_law_315 rfl (r_iload C 4 dL_law_316 rfl (r_iconst C (v := 1) dL_law_318 (by decide) (r_iadd C dL_law_319 (r_sld C hX9 hb9 i47 dL_law_320 (r_aload_n C 0 dL_law_321 rfl (r_iload C 4 dL_law_322 rfl (r_iconst C (v := 2) dL_law_324 (by decide) (r_iadd C dL_law_325 (r_sld C hX9 hb9 i48 dL_law_326 (r_aload_n C 0 dL_law_327 rfl (r_iload C 4 dL_law_328 rfl (r_iconst C (v := 3) dL_law_330 (by decide) (r_iadd C dL_law_331 (r_sld C hX9 hb9 i49 dL_law_332 (r_aload_n C 0 dL_law_333 rfl (r_iload C 4 dL_law_334 rfl (r_iconst C (v := 4) dL_law_336 (by decide) (r_iadd C dL_law_337 (r_sld C hX9 hb9 i50 dL_law_338 (r_aload_n C 3 dL_law_339 rfl (r_goi (r_runSW C dL_law_340 (m_L_move hlt w) mt_L_move tw521 tw522 rfl (stk := []) rfl (Nat.le_of_ble_eq_true rfl) ⟨rfl, rfl, ⟨Nat.le_of_ble_eq_true rfl, Nat.le_of_ble_eq_true rfl⟩, ⟨by omega, by omega⟩⟩) ?_))))))))))))))))))))))
          intro r51 h53 hp
          obtain ⟨g52, rfl⟩ : ∃ z, z = h53 := ⟨_, rfl⟩
          have w := hp
          obtain ⟨i54, w⟩ := w
          obtain ⟨i55, w⟩ := w
          obtain ⟨i56, w⟩ := w
          obtain ⟨i57, w⟩ := w
          obtain ⟨o59, e60, w⟩ := w
          refine r_istore C dL_law_343 (nlt hn (by decide)) rfl (r_aload_n C 3 dL_law_345 rfl (r_aload_n C 1 dL_law_346 rfl (r_iload C 5 dL_law_347 rfl (r_iconst C (v := 1) dL_law_349 (by decide) (r_iadd C dL_law_350 (r_sld C hX9 hb9 i54 dL_law_351 (r_aload_n C 1 dL_law_352 rfl (r_iload C 5 dL_law_353 rfl (r_iconst C (v := 2) dL_law_355 (by decide) (r_iadd C dL_law_356 (r_sld C hX9 hb9 i55 dL_law_357 (r_aload_n C 1 dL_law_358 rfl (r_iload C 5 dL_law_359 rfl (r_iconst C (v := 3) dL_law_361 (by decide) (r_iadd C dL_law_362 (r_sld C hX9 hb9 i56 dL_law_363 (r_aload_n C 1 dL_law_364 rfl (r_iload C 5 dL_law_365 rfl (r_iconst C (v := 4) dL_law_367 (by decide) (r_iadd C dL_law_368 (r_sld C hX9 hb9 i57 dL_law_369 (r_goi (r_runV C dL_law_370 (m_X8_move e60 w) mt_X8_move tw1257 tw1258 tw1259 gcl_9.1 e60 rfl (stk := []) rfl (Nat.le_of_ble_eq_true rfl) ⟨rfl, rfl, ⟨Nat.le_of_ble_eq_true rfl, Nat.le_of_ble_eq_true rfl⟩, ⟨by omega, by omega⟩⟩) ?_))))))))))))))))))))))
          intro r58 h63 hp
          obtain ⟨o61, e9, w⟩ := hp
          obtain ⟨g62, rfl⟩ : ∃ z, z = h63 := ⟨_, rfl⟩
          have w := w _ e9
          obtain ⟨o65, e66, w⟩ := w
          refine r_istore C dL_law_373 (nlt hn (by decide)) rfl (r_aload_n C 4 dL_law_375 rfl (r_goi (r_runV C dL_law_376 (m_X8_thrown e66 w) mt_X8_thrown tw1207 tw1208 tw1209 gcl_9.1 e66 rfl (stk := []) rfl (Nat.le_of_ble_eq_true rfl) ⟨rfl, rfl, ⟨Nat.le_of_ble_eq_true rfl, Nat.le_of_ble_eq_true rfl⟩, ⟨by omega, by omega⟩⟩) ?_))
          intro r64 h67 hp
          obtain ⟨e9, w⟩ := hp
          rw [e9]
          refine r_iload C 1 dL_law_379 rfl (r_icmp_eq C 386 dL_law_381 (by decide) (fun c68 => ?_) (fun c68 => ?_))
          · have w := w.1 c68
            refine r_iload C 1 dL_law_386 rfl (r_if_ne C 403 dL_law_388 (by decide) (fun c69 => ?_) (fun c69 => ?_))
            · have w := w.1 c69
              exact r_goto C 2433 dL_law_403 (by decide) (r_widen (by omega) (by omega) <| r_sub [2, 3, 4, 5, 6] rfl (t_L_law_2433 C hn hlt hX9 hb9 hret (by omega) (by omega) ih _ _ _ _ _ w))
            · have w := w.2 c69
              obtain ⟨o70, e71, w⟩ := w
              refine r_aload_n C 5 dL_law_391 rfl (r_iconst C (v := 0) dL_law_392 (by decide) (r_lald10 C dL_law_393 e71 (r_iload C 0 dL_law_394 rfl (r_i2l C dL_law_396 (r_lcmp C dL_law_397 (r_if_eq C 403 dL_law_398 (by decide) (fun c72 => ?_) (fun c72 => ?_)))))))
              · have w := w.1 c72
                exact r_goto C 2433 dL_law_403 (by decide) (r_widen (by omega) (by omega) <| r_sub [2, 3, 4, 5, 6] rfl (t_L_law_2433 C hn hlt hX9 hb9 hret (by omega) (by omega) ih _ _ _ _ _ w))
              · have w := w.2 c72
                exact w.elim
          · have w := w.2 c68
            exact w.elim
        · have w := w.2 c46
          by_cases c73 : (sc x4.toNatClampNeg) &&& 63 = 2
          · have w := w.1 c73
            refine r_aload_n C 0 dL_law_33 rfl (r_iload C 4 dL_law_34 rfl (r_sld C hX9 hb9 i14 dL_law_36 (r_bipush C (v := 63) dL_law_37 (by decide) (r_iand C dL_law_39 (r_tsIn C 406 c73 dL_law_40 (by decide) (by decide) rfl (by decide) ?_)))))
            obtain ⟨i74, w⟩ := w
            obtain ⟨i75, w⟩ := w
            obtain ⟨i76, w⟩ := w
            refine r_aload_n C 1 dL_law_406 rfl (r_aload_n C 0 dL_law_407 rfl (r_iload C 4 dL_law_408 rfl (r_iconst C (v := 1) dL_law_410 (by decide) (r_iadd C dL_law_411 (r_sld C hX9 hb9 i74 dL_law_412 (r_aload_n C 0 dL_law_413 rfl (r_iload C 4 dL_law_414 rfl (r_iconst C (v := 2) dL_law_416 (by decide) (r_iadd C dL_law_417 (r_sld C hX9 hb9 i75 dL_law_418 (r_aload_n C 0 dL_law_419 rfl (r_iload C 4 dL_law_420 rfl (r_iconst C (v := 3) dL_law_422 (by decide) (r_iadd C dL_law_423 (r_sld C hX9 hb9 i76 dL_law_424 (r_aload_n C 3 dL_law_425 rfl (r_goi (r_runSW C dL_law_426 (m_L_paint hlt w) mt_L_paint tw554 tw555 rfl (stk := []) rfl (Nat.le_of_ble_eq_true rfl) ⟨rfl, rfl, ⟨Nat.le_of_ble_eq_true rfl, Nat.le_of_ble_eq_true rfl⟩, ⟨by omega, by omega⟩⟩) ?_)))))))))))))))))
            intro r77 h79 hp
            obtain ⟨g78, rfl⟩ : ∃ z, z = h79 := ⟨_, rfl⟩
            have w := hp
            obtain ⟨i80, w⟩ := w
            obtain ⟨i81, w⟩ := w
            obtain ⟨i82, w⟩ := w
            obtain ⟨o84, e85, w⟩ := w
            refine r_istore C dL_law_429 (nlt hn (by decide)) rfl (r_aload_n C 3 dL_law_431 rfl (r_aload_n C 1 dL_law_432 rfl (r_iload C 5 dL_law_433 rfl (r_iconst C (v := 1) dL_law_435 (by decide) (r_iadd C dL_law_436 (r_sld C hX9 hb9 i80 dL_law_437 (r_aload_n C 1 dL_law_438 rfl (r_iload C 5 dL_law_439 rfl (r_iconst C (v := 2) dL_law_441 (by decide) (r_iadd C dL_law_442 (r_sld C hX9 hb9 i81 dL_law_443 (r_aload_n C 1 dL_law_444 rfl (r_iload C 5 dL_law_445 rfl (r_iconst C (v := 3) dL_law_447 (by decide) (r_iadd C dL_law_448 (r_sld C hX9 hb9 i82 dL_law_449 (r_goi (r_runV C dL_law_450 (m_X8_paint e85 w) mt_X8_paint tw1273 tw1274 tw1275 gcl_9.1 e85 rfl (stk := []) rfl (Nat.le_of_ble_eq_true rfl) ⟨rfl, rfl, ⟨Nat.le_of_ble_eq_true rfl, Nat.le_of_ble_eq_true rfl⟩, ⟨by omega, by omega⟩⟩) ?_)))))))))))))))))
            intro r83 h88 hp
            obtain ⟨o86, e9, w⟩ := hp
            obtain ⟨g87, rfl⟩ : ∃ z, z = h88 := ⟨_, rfl⟩
            have w := w _ e9
            obtain ⟨o90, e91, w⟩ := w
            refine r_istore C dL_law_453 (nlt hn (by decide)) rfl (r_aload_n C 4 dL_law_455 rfl (r_goi (r_runV C dL_law_456 (m_X8_thrown e91 w) mt_X8_thrown tw1207 tw1208 tw1209 gcl_9.1 e91 rfl (stk := []) rfl (Nat.le_of_ble_eq_true rfl) ⟨rfl, rfl, ⟨Nat.le_of_ble_eq_true rfl, Nat.le_of_ble_eq_true rfl⟩, ⟨by omega, by omega⟩⟩) ?_))
            intro r89 h92 hp
            obtain ⟨e9, w⟩ := hp
            rw [e9]
            refine r_iload C 1 dL_law_459 rfl (r_icmp_eq C 466 dL_law_461 (by decide) (fun c93 => ?_) (fun c93 => ?_))
            · have w := w.1 c93
              refine r_iload C 1 dL_law_466 rfl (r_if_ne C 483 dL_law_468 (by decide) (fun c94 => ?_) (fun c94 => ?_))
              · have w := w.1 c94
                exact r_goto C 2433 dL_law_483 (by decide) (r_widen (by omega) (by omega) <| r_sub [2, 3, 4, 5, 6] rfl (t_L_law_2433 C hn hlt hX9 hb9 hret (by omega) (by omega) ih _ _ _ _ _ w))
              · have w := w.2 c94
                obtain ⟨o95, e96, w⟩ := w
                refine r_aload_n C 5 dL_law_471 rfl (r_iconst C (v := 0) dL_law_472 (by decide) (r_lald10 C dL_law_473 e96 (r_iload C 0 dL_law_474 rfl (r_i2l C dL_law_476 (r_lcmp C dL_law_477 (r_if_eq C 483 dL_law_478 (by decide) (fun c97 => ?_) (fun c97 => ?_)))))))
                · have w := w.1 c97
                  exact r_goto C 2433 dL_law_483 (by decide) (r_widen (by omega) (by omega) <| r_sub [2, 3, 4, 5, 6] rfl (t_L_law_2433 C hn hlt hX9 hb9 hret (by omega) (by omega) ih _ _ _ _ _ w))
                · have w := w.2 c97
                  exact w.elim
            · have w := w.2 c93
              exact w.elim
          · have w := w.2 c73
            by_cases c98 : (sc x4.toNatClampNeg) &&& 63 = 3
            · have w := w.1 c98
              refine r_aload_n C 0 dL_law_33 rfl (r_iload C 4 dL_law_34 rfl (r_sld C hX9 hb9 i14 dL_law_36 (r_bipush C (v := 63) dL_law_37 (by decide) (r_iand C dL_law_39 (r_tsIn C 486 c98 dL_law_40 (by decide) (by decide) rfl (by decide) ?_)))))
              obtain ⟨i99, w⟩ := w
              obtain ⟨i100, w⟩ := w
              obtain ⟨i101, w⟩ := w
              refine r_aload_n C 1 dL_law_486 rfl (r_aload_n C 0 dL_law_487 rfl (r_iload C 4 dL_law_488 rfl (r_iconst C (v := 1) dL_law_490 (by decide) (r_iadd C dL_law_491 (r_sld C hX9 hb9 i99 dL_law_492 (r_aload_n C 0 dL_law_493 rfl (r_iload C 4 dL_law_494 rfl (r_iconst C (v := 2) dL_law_496 (by decide) (r_iadd C dL_law_497 (r_sld C hX9 hb9 i100 dL_law_498 (r_aload_n C 0 dL_law_499 rfl (r_iload C 4 dL_law_500 rfl (r_iconst C (v := 3) dL_law_502 (by decide) (r_iadd C dL_law_503 (r_sld C hX9 hb9 i101 dL_law_504 (r_if_eq C 512 dL_law_505 (by decide) (fun c102 => ?_) (fun c102 => ?_)))))))))))))))))
              · have w := w.1 c102
                exact r_iconst C (v := 0) dL_law_512 (by decide) (r_sub [0, 1, 2, 3, 4] rfl (t_L_law_513 C hn hlt hX9 hb9 hret (by omega) (by omega) ih _ _ _ _ _ _ _ _ _ w))
              · have w := w.2 c102
                exact r_iconst C (v := 1) dL_law_508 (by decide) (r_goto C 513 dL_law_509 (by decide) (r_sub [0, 1, 2, 3, 4] rfl (t_L_law_513 C hn hlt hX9 hb9 hret (by omega) (by omega) ih _ _ _ _ _ _ _ _ _ w)))
            · have w := w.2 c98
              by_cases c103 : (sc x4.toNatClampNeg) &&& 63 = 4
              · have w := w.1 c103
                refine r_aload_n C 0 dL_law_33 rfl (r_iload C 4 dL_law_34 rfl (r_sld C hX9 hb9 i14 dL_law_36 (r_bipush C (v := 63) dL_law_37 (by decide) (r_iand C dL_law_39 (r_tsIn C 582 c103 dL_law_40 (by decide) (by decide) rfl (by decide) ?_)))))
                obtain ⟨i104, w⟩ := w
                obtain ⟨i105, w⟩ := w
                obtain ⟨i106, w⟩ := w
                refine r_aload_n C 1 dL_law_582 rfl (r_aload_n C 0 dL_law_583 rfl (r_iload C 4 dL_law_584 rfl (r_iconst C (v := 1) dL_law_586 (by decide) (r_iadd C dL_law_587 (r_sld C hX9 hb9 i104 dL_law_588 (r_aload_n C 0 dL_law_589 rfl (r_iload C 4 dL_law_590 rfl (r_iconst C (v := 2) dL_law_592 (by decide) (r_iadd C dL_law_593 (r_sld C hX9 hb9 i105 dL_law_594 (r_aload_n C 0 dL_law_595 rfl (r_iload C 4 dL_law_596 rfl (r_iconst C (v := 3) dL_law_598 (by decide) (r_iadd C dL_law_599 (r_sld C hX9 hb9 i106 dL_law_600 (r_aload_n C 3 dL_law_601 rfl (r_goi (r_runSW C dL_law_602 (m_L_join hlt w) mt_L_join tw569 tw570 rfl (stk := []) rfl (Nat.le_of_ble_eq_true rfl) ⟨rfl, rfl, ⟨Nat.le_of_ble_eq_true rfl, Nat.le_of_ble_eq_true rfl⟩, ⟨by omega, by omega⟩⟩) ?_)))))))))))))))))
                intro r107 h109 hp
                obtain ⟨g108, rfl⟩ : ∃ z, z = h109 := ⟨_, rfl⟩
                have w := hp
                obtain ⟨i110, w⟩ := w
                obtain ⟨i111, w⟩ := w
                obtain ⟨i112, w⟩ := w
                obtain ⟨o114, e115, w⟩ := w
                refine r_istore C dL_law_605 (nlt hn (by decide)) rfl (r_aload_n C 3 dL_law_607 rfl (r_aload_n C 1 dL_law_608 rfl (r_iload C 5 dL_law_609 rfl (r_iconst C (v := 1) dL_law_611 (by decide) (r_iadd C dL_law_612 (r_sld C hX9 hb9 i110 dL_law_613 (r_aload_n C 1 dL_law_614 rfl (r_iload C 5 dL_law_615 rfl (r_iconst C (v := 2) dL_law_617 (by decide) (r_iadd C dL_law_618 (r_sld C hX9 hb9 i111 dL_law_619 (r_aload_n C 1 dL_law_620 rfl (r_iload C 5 dL_law_621 rfl (r_iconst C (v := 3) dL_law_623 (by decide) (r_iadd C dL_law_624 (r_sld C hX9 hb9 i112 dL_law_625 (r_goi (r_runV C dL_law_626 (m_X8_join e115 w) mt_X8_join tw1285 tw1286 tw1287 gcl_9.1 e115 rfl (stk := []) rfl (Nat.le_of_ble_eq_true rfl) ⟨rfl, rfl, ⟨Nat.le_of_ble_eq_true rfl, Nat.le_of_ble_eq_true rfl⟩, ⟨by omega, by omega⟩⟩) ?_)))))))))))))))))
                intro r113 h118 hp
                obtain ⟨o116, e9, w⟩ := hp
                obtain ⟨g117, rfl⟩ : ∃ z, z = h118 := ⟨_, rfl⟩
                have w := w _ e9
                obtain ⟨o120, e121, w⟩ := w
                refine r_istore C dL_law_629 (nlt hn (by decide)) rfl (r_aload_n C 4 dL_law_631 rfl (r_goi (r_runV C dL_law_632 (m_X8_thrown e121 w) mt_X8_thrown tw1207 tw1208 tw1209 gcl_9.1 e121 rfl (stk := []) rfl (Nat.le_of_ble_eq_true rfl) ⟨rfl, rfl, ⟨Nat.le_of_ble_eq_true rfl, Nat.le_of_ble_eq_true rfl⟩, ⟨by omega, by omega⟩⟩) ?_))
                intro r119 h122 hp
                obtain ⟨e9, w⟩ := hp
                rw [e9]
                refine r_iload C 1 dL_law_635 rfl (r_icmp_eq C 642 dL_law_637 (by decide) (fun c123 => ?_) (fun c123 => ?_))
                · have w := w.1 c123
                  refine r_iload C 1 dL_law_642 rfl (r_if_ne C 659 dL_law_644 (by decide) (fun c124 => ?_) (fun c124 => ?_))
                  · have w := w.1 c124
                    exact r_goto C 2433 dL_law_659 (by decide) (r_widen (by omega) (by omega) <| r_sub [2, 3, 4, 5, 6] rfl (t_L_law_2433 C hn hlt hX9 hb9 hret (by omega) (by omega) ih _ _ _ _ _ w))
                  · have w := w.2 c124
                    obtain ⟨o125, e126, w⟩ := w
                    refine r_aload_n C 5 dL_law_647 rfl (r_iconst C (v := 0) dL_law_648 (by decide) (r_lald10 C dL_law_649 e126 (r_iload C 0 dL_law_650 rfl (r_i2l C dL_law_652 (r_lcmp C dL_law_653 (r_if_eq C 659 dL_law_654 (by decide) (fun c127 => ?_) (fun c127 => ?_)))))))
                    · have w := w.1 c127
                      exact r_goto C 2433 dL_law_659 (by decide) (r_widen (by omega) (by omega) <| r_sub [2, 3, 4, 5, 6] rfl (t_L_law_2433 C hn hlt hX9 hb9 hret (by omega) (by omega) ih _ _ _ _ _ w))
                    · have w := w.2 c127
                      exact w.elim
                · have w := w.2 c123
                  exact w.elim
              · have w := w.2 c103
                by_cases c128 : (sc x4.toNatClampNeg) &&& 63 = 5
                · have w := w.1 c128
                  refine r_aload_n C 0 dL_law_33 rfl (r_iload C 4 dL_law_34 rfl (r_sld C hX9 hb9 i14 dL_law_36 (r_bipush C (v := 63) dL_law_37 (by decide) (r_iand C dL_law_39 (r_tsIn C 662 c128 dL_law_40 (by decide) (by decide) rfl (by decide) ?_)))))
                  obtain ⟨i129, w⟩ := w
                  obtain ⟨i130, w⟩ := w
                  refine r_aload_n C 1 dL_law_662 rfl (r_aload_n C 0 dL_law_663 rfl (r_iload C 4 dL_law_664 rfl (r_iconst C (v := 1) dL_law_666 (by decide) (r_iadd C dL_law_667 (r_sld C hX9 hb9 i129 dL_law_668 (r_aload_n C 0 dL_law_669 rfl (r_iload C 4 dL_law_670 rfl (r_iconst C (v := 2) dL_law_672 (by decide) (r_iadd C dL_law_673 (r_sld C hX9 hb9 i130 dL_law_674 (r_aload_n C 3 dL_law_675 rfl (r_goi (r_runSW C dL_law_676 (m_L_part hlt w) mt_L_part tw577 tw578 rfl (stk := []) rfl (Nat.le_of_ble_eq_true rfl) ⟨rfl, rfl, ⟨Nat.le_of_ble_eq_true rfl, Nat.le_of_ble_eq_true rfl⟩, ⟨by omega, by omega⟩⟩) ?_))))))))))))
                  intro r131 h133 hp
                  obtain ⟨g132, rfl⟩ : ∃ z, z = h133 := ⟨_, rfl⟩
                  have w := hp
                  obtain ⟨i134, w⟩ := w
                  obtain ⟨i135, w⟩ := w
                  obtain ⟨o137, e138, w⟩ := w
                  refine r_istore C dL_law_679 (nlt hn (by decide)) rfl (r_aload_n C 3 dL_law_681 rfl (r_aload_n C 1 dL_law_682 rfl (r_iload C 5 dL_law_683 rfl (r_iconst C (v := 1) dL_law_685 (by decide) (r_iadd C dL_law_686 (r_sld C hX9 hb9 i134 dL_law_687 (r_aload_n C 1 dL_law_688 rfl (r_iload C 5 dL_law_689 rfl (r_iconst C (v := 2) dL_law_691 (by decide) (r_iadd C dL_law_692 (r_sld C hX9 hb9 i135 dL_law_693 (r_goi (r_runV C dL_law_694 (m_X8_part e138 w) mt_X8_part tw1289 tw1290 tw1291 gcl_9.1 e138 rfl (stk := []) rfl (Nat.le_of_ble_eq_true rfl) ⟨rfl, rfl, ⟨Nat.le_of_ble_eq_true rfl, Nat.le_of_ble_eq_true rfl⟩, ⟨by omega, by omega⟩⟩) ?_))))))))))))
                  intro r136 h141 hp
                  obtain ⟨o139, e9, w⟩ := hp
                  obtain ⟨g140, rfl⟩ : ∃ z, z = h141 := ⟨_, rfl⟩
                  have w := w _ e9
                  obtain ⟨o143, e144, w⟩ := w
                  refine r_istore C dL_law_697 (nlt hn (by decide)) rfl (r_aload_n C 4 dL_law_699 rfl (r_goi (r_runV C dL_law_700 (m_X8_thrown e144 w) mt_X8_thrown tw1207 tw1208 tw1209 gcl_9.1 e144 rfl (stk := []) rfl (Nat.le_of_ble_eq_true rfl) ⟨rfl, rfl, ⟨Nat.le_of_ble_eq_true rfl, Nat.le_of_ble_eq_true rfl⟩, ⟨by omega, by omega⟩⟩) ?_))
                  intro r142 h145 hp
                  obtain ⟨e9, w⟩ := hp
                  rw [e9]
                  refine r_iload C 1 dL_law_703 rfl (r_icmp_eq C 710 dL_law_705 (by decide) (fun c146 => ?_) (fun c146 => ?_))
                  · have w := w.1 c146
                    refine r_iload C 1 dL_law_710 rfl (r_if_ne C 727 dL_law_712 (by decide) (fun c147 => ?_) (fun c147 => ?_))
                    · have w := w.1 c147
                      exact r_goto C 2433 dL_law_727 (by decide) (r_widen (by omega) (by omega) <| r_sub [2, 3, 4, 5, 6] rfl (t_L_law_2433 C hn hlt hX9 hb9 hret (by omega) (by omega) ih _ _ _ _ _ w))
                    · have w := w.2 c147
                      obtain ⟨o148, e149, w⟩ := w
                      refine r_aload_n C 5 dL_law_715 rfl (r_iconst C (v := 0) dL_law_716 (by decide) (r_lald10 C dL_law_717 e149 (r_iload C 0 dL_law_718 rfl (r_i2l C dL_law_720 (r_lcmp C dL_law_721 (r_if_eq C 727 dL_law_722 (by decide) (fun c150 => ?_) (fun c150 => ?_)))))))
                      · have w := w.1 c150
                        exact r_goto C 2433 dL_law_727 (by decide) (r_widen (by omega) (by omega) <| r_sub [2, 3, 4, 5, 6] rfl (t_L_law_2433 C hn hlt hX9 hb9 hret (by omega) (by omega) ih _ _ _ _ _ w))
                      · have w := w.2 c150
                        exact w.elim
                  · have w := w.2 c146
                    exact w.elim
                · have w := w.2 c128
                  by_cases c151 : (sc x4.toNatClampNeg) &&& 63 = 6
                  · have w := w.1 c151
                    refine r_aload_n C 0 dL_law_33 rfl (r_iload C 4 dL_law_34 rfl (r_sld C hX9 hb9 i14 dL_law_36 (r_bipush C (v := 63) dL_law_37 (by decide) (r_iand C dL_law_39 (r_tsIn C 730 c151 dL_law_40 (by decide) (by decide) rfl (by decide) ?_)))))
                    obtain ⟨i152, w⟩ := w
                    obtain ⟨i153, w⟩ := w
                    refine r_aload_n C 1 dL_law_730 rfl (r_aload_n C 0 dL_law_731 rfl (r_iload C 4 dL_law_732 rfl (r_iconst C (v := 1) dL_law_734 (by decide) (r_iadd C dL_law_735 (r_sld C hX9 hb9 i152 dL_law_736 (r_aload_n C 0 dL_law_737 rfl (r_iload C 4 dL_law_738 rfl (r_iconst C (v := 2) dL_law_740 (by decide) (r_iadd C dL_law_741 (r_sld C hX9 hb9 i153 dL_law_742 (r_aload_n C 3 dL_law_743 rfl (r_goi (r_runSW C dL_law_744 (m_L_drop hlt w) mt_L_drop tw584 tw585 rfl (stk := []) rfl (Nat.le_of_ble_eq_true rfl) ⟨rfl, rfl, ⟨Nat.le_of_ble_eq_true rfl, Nat.le_of_ble_eq_true rfl⟩, ⟨by omega, by omega⟩⟩) ?_))))))))))))
                    intro r154 h156 hp
                    obtain ⟨g155, rfl⟩ : ∃ z, z = h156 := ⟨_, rfl⟩
                    have w := hp
                    obtain ⟨i157, w⟩ := w
                    obtain ⟨i158, w⟩ := w
                    obtain ⟨o160, e161, w⟩ := w
                    refine r_istore C dL_law_747 (nlt hn (by decide)) rfl (r_aload_n C 3 dL_law_749 rfl (r_aload_n C 1 dL_law_750 rfl (r_iload C 5 dL_law_751 rfl (r_iconst C (v := 1) dL_law_753 (by decide) (r_iadd C dL_law_754 (r_sld C hX9 hb9 i157 dL_law_755 (r_aload_n C 1 dL_law_756 rfl (r_iload C 5 dL_law_757 rfl (r_iconst C (v := 2) dL_law_759 (by decide) (r_iadd C dL_law_760 (r_sld C hX9 hb9 i158 dL_law_761 (r_goi (r_runV C dL_law_762 (m_X8_drop e161 w) mt_X8_drop tw1293 tw1294 tw1295 gcl_9.1 e161 rfl (stk := []) rfl (Nat.le_of_ble_eq_true rfl) ⟨rfl, rfl, ⟨Nat.le_of_ble_eq_true rfl, Nat.le_of_ble_eq_true rfl⟩, ⟨by omega, by omega⟩⟩) ?_))))))))))))
                    intro r159 h164 hp
                    obtain ⟨o162, e9, w⟩ := hp
                    obtain ⟨g163, rfl⟩ : ∃ z, z = h164 := ⟨_, rfl⟩
                    have w := w _ e9
                    obtain ⟨o166, e167, w⟩ := w
                    refine r_istore C dL_law_765 (nlt hn (by decide)) rfl (r_aload_n C 4 dL_law_767 rfl (r_goi (r_runV C dL_law_768 (m_X8_thrown e167 w) mt_X8_thrown tw1207 tw1208 tw1209 gcl_9.1 e167 rfl (stk := []) rfl (Nat.le_of_ble_eq_true rfl) ⟨rfl, rfl, ⟨Nat.le_of_ble_eq_true rfl, Nat.le_of_ble_eq_true rfl⟩, ⟨by omega, by omega⟩⟩) ?_))
                    intro r165 h168 hp
                    obtain ⟨e9, w⟩ := hp
                    rw [e9]
                    refine r_iload C 1 dL_law_771 rfl (r_icmp_eq C 778 dL_law_773 (by decide) (fun c169 => ?_) (fun c169 => ?_))
                    · have w := w.1 c169
                      refine r_iload C 1 dL_law_778 rfl (r_if_ne C 795 dL_law_780 (by decide) (fun c170 => ?_) (fun c170 => ?_))
                      · have w := w.1 c170
                        exact r_goto C 2433 dL_law_795 (by decide) (r_widen (by omega) (by omega) <| r_sub [2, 3, 4, 5, 6] rfl (t_L_law_2433 C hn hlt hX9 hb9 hret (by omega) (by omega) ih _ _ _ _ _ w))
                      · have w := w.2 c170
                        obtain ⟨o171, e172, w⟩ := w
                        refine r_aload_n C 5 dL_law_783 rfl (r_iconst C (v := 0) dL_law_784 (by decide) (r_lald10 C dL_law_785 e172 (r_iload C 0 dL_law_786 rfl (r_i2l C dL_law_788 (r_lcmp C dL_law_789 (r_if_eq C 795 dL_law_790 (by decide) (fun c173 => ?_) (fun c173 => ?_)))))))
                        · have w := w.1 c173
                          exact r_goto C 2433 dL_law_795 (by decide) (r_widen (by omega) (by omega) <| r_sub [2, 3, 4, 5, 6] rfl (t_L_law_2433 C hn hlt hX9 hb9 hret (by omega) (by omega) ih _ _ _ _ _ w))
                        · have w := w.2 c173
                          exact w.elim
                    · have w := w.2 c169
                      exact w.elim
                  · have w := w.2 c151
                    by_cases c174 : (sc x4.toNatClampNeg) &&& 63 = 7
                    · have w := w.1 c174
                      refine r_aload_n C 0 dL_law_33 rfl (r_iload C 4 dL_law_34 rfl (r_sld C hX9 hb9 i14 dL_law_36 (r_bipush C (v := 63) dL_law_37 (by decide) (r_iand C dL_law_39 (r_tsIn C 798 c174 dL_law_40 (by decide) (by decide) rfl (by decide) ?_)))))
                      obtain ⟨i175, w⟩ := w
                      refine r_aload_n C 1 dL_law_798 rfl (r_aload_n C 0 dL_law_799 rfl (r_iload C 4 dL_law_800 rfl (r_iconst C (v := 1) dL_law_802 (by decide) (r_iadd C dL_law_803 (r_sld C hX9 hb9 i175 dL_law_804 (r_aload_n C 3 dL_law_805 rfl (r_goi (r_runSW C dL_law_806 (m_L_undo hlt w) mt_L_undo tw591 tw592 rfl (stk := []) rfl (Nat.le_of_ble_eq_true rfl) ⟨rfl, rfl, ⟨Nat.le_of_ble_eq_true rfl, Nat.le_of_ble_eq_true rfl⟩, ⟨by omega, by omega⟩⟩) ?_)))))))
                      intro r176 h178 hp
                      obtain ⟨g177, rfl⟩ : ∃ z, z = h178 := ⟨_, rfl⟩
                      have w := hp
                      obtain ⟨i179, w⟩ := w
                      obtain ⟨o181, e182, w⟩ := w
                      refine r_istore C dL_law_809 (nlt hn (by decide)) rfl (r_aload_n C 3 dL_law_811 rfl (r_aload_n C 1 dL_law_812 rfl (r_iload C 5 dL_law_813 rfl (r_iconst C (v := 1) dL_law_815 (by decide) (r_iadd C dL_law_816 (r_sld C hX9 hb9 i179 dL_law_817 (r_goi (r_runV C dL_law_818 (m_X8_undo e182 w) mt_X8_undo tw1297 tw1298 tw1299 gcl_9.1 e182 rfl (stk := []) rfl (Nat.le_of_ble_eq_true rfl) ⟨rfl, rfl, ⟨Nat.le_of_ble_eq_true rfl, Nat.le_of_ble_eq_true rfl⟩, ⟨by omega, by omega⟩⟩) ?_)))))))
                      intro r180 h185 hp
                      obtain ⟨o183, e9, w⟩ := hp
                      obtain ⟨g184, rfl⟩ : ∃ z, z = h185 := ⟨_, rfl⟩
                      have w := w _ e9
                      obtain ⟨o187, e188, w⟩ := w
                      refine r_istore C dL_law_821 (nlt hn (by decide)) rfl (r_aload_n C 4 dL_law_823 rfl (r_goi (r_runV C dL_law_824 (m_X8_thrown e188 w) mt_X8_thrown tw1207 tw1208 tw1209 gcl_9.1 e188 rfl (stk := []) rfl (Nat.le_of_ble_eq_true rfl) ⟨rfl, rfl, ⟨Nat.le_of_ble_eq_true rfl, Nat.le_of_ble_eq_true rfl⟩, ⟨by omega, by omega⟩⟩) ?_))
                      intro r186 h189 hp
                      obtain ⟨e9, w⟩ := hp
                      rw [e9]
                      refine r_iload C 1 dL_law_827 rfl (r_icmp_eq C 834 dL_law_829 (by decide) (fun c190 => ?_) (fun c190 => ?_))
                      · have w := w.1 c190
                        refine r_iload C 1 dL_law_834 rfl (r_if_ne C 851 dL_law_836 (by decide) (fun c191 => ?_) (fun c191 => ?_))
                        · have w := w.1 c191
                          exact r_goto C 2433 dL_law_851 (by decide) (r_widen (by omega) (by omega) <| r_sub [2, 3, 4, 5, 6] rfl (t_L_law_2433 C hn hlt hX9 hb9 hret (by omega) (by omega) ih _ _ _ _ _ w))
                        · have w := w.2 c191
                          obtain ⟨o192, e193, w⟩ := w
                          refine r_aload_n C 5 dL_law_839 rfl (r_iconst C (v := 0) dL_law_840 (by decide) (r_lald10 C dL_law_841 e193 (r_iload C 0 dL_law_842 rfl (r_i2l C dL_law_844 (r_lcmp C dL_law_845 (r_if_eq C 851 dL_law_846 (by decide) (fun c194 => ?_) (fun c194 => ?_)))))))
                          · have w := w.1 c194
                            exact r_goto C 2433 dL_law_851 (by decide) (r_widen (by omega) (by omega) <| r_sub [2, 3, 4, 5, 6] rfl (t_L_law_2433 C hn hlt hX9 hb9 hret (by omega) (by omega) ih _ _ _ _ _ w))
                          · have w := w.2 c194
                            exact w.elim
                      · have w := w.2 c190
                        exact w.elim
                    · have w := w.2 c174
                      by_cases c195 : (sc x4.toNatClampNeg) &&& 63 = 8
                      · have w := w.1 c195
                        refine r_aload_n C 0 dL_law_33 rfl (r_iload C 4 dL_law_34 rfl (r_sld C hX9 hb9 i14 dL_law_36 (r_bipush C (v := 63) dL_law_37 (by decide) (r_iand C dL_law_39 (r_tsIn C 854 c195 dL_law_40 (by decide) (by decide) rfl (by decide) ?_)))))
                        obtain ⟨i196, w⟩ := w
                        refine r_aload_n C 1 dL_law_854 rfl (r_aload_n C 0 dL_law_855 rfl (r_iload C 4 dL_law_856 rfl (r_iconst C (v := 1) dL_law_858 (by decide) (r_iadd C dL_law_859 (r_sld C hX9 hb9 i196 dL_law_860 (r_aload_n C 3 dL_law_861 rfl (r_goi (r_runSW C dL_law_862 (m_L_redo hlt w) mt_L_redo tw624 tw625 rfl (stk := []) rfl (Nat.le_of_ble_eq_true rfl) ⟨rfl, rfl, ⟨Nat.le_of_ble_eq_true rfl, Nat.le_of_ble_eq_true rfl⟩, ⟨by omega, by omega⟩⟩) ?_)))))))
                        intro r197 h199 hp
                        obtain ⟨g198, rfl⟩ : ∃ z, z = h199 := ⟨_, rfl⟩
                        have w := hp
                        obtain ⟨i200, w⟩ := w
                        obtain ⟨o202, e203, w⟩ := w
                        refine r_istore C dL_law_865 (nlt hn (by decide)) rfl (r_aload_n C 3 dL_law_867 rfl (r_aload_n C 1 dL_law_868 rfl (r_iload C 5 dL_law_869 rfl (r_iconst C (v := 1) dL_law_871 (by decide) (r_iadd C dL_law_872 (r_sld C hX9 hb9 i200 dL_law_873 (r_goi (r_runV C dL_law_874 (m_X8_redo e203 w) mt_X8_redo tw1305 tw1306 tw1307 gcl_9.1 e203 rfl (stk := []) rfl (Nat.le_of_ble_eq_true rfl) ⟨rfl, rfl, ⟨Nat.le_of_ble_eq_true rfl, Nat.le_of_ble_eq_true rfl⟩, ⟨by omega, by omega⟩⟩) ?_)))))))
                        intro r201 h206 hp
                        obtain ⟨o204, e9, w⟩ := hp
                        obtain ⟨g205, rfl⟩ : ∃ z, z = h206 := ⟨_, rfl⟩
                        have w := w _ e9
                        obtain ⟨o208, e209, w⟩ := w
                        refine r_istore C dL_law_877 (nlt hn (by decide)) rfl (r_aload_n C 4 dL_law_879 rfl (r_goi (r_runV C dL_law_880 (m_X8_thrown e209 w) mt_X8_thrown tw1207 tw1208 tw1209 gcl_9.1 e209 rfl (stk := []) rfl (Nat.le_of_ble_eq_true rfl) ⟨rfl, rfl, ⟨Nat.le_of_ble_eq_true rfl, Nat.le_of_ble_eq_true rfl⟩, ⟨by omega, by omega⟩⟩) ?_))
                        intro r207 h210 hp
                        obtain ⟨e9, w⟩ := hp
                        rw [e9]
                        refine r_iload C 1 dL_law_883 rfl (r_icmp_eq C 890 dL_law_885 (by decide) (fun c211 => ?_) (fun c211 => ?_))
                        · have w := w.1 c211
                          refine r_iload C 1 dL_law_890 rfl (r_if_ne C 907 dL_law_892 (by decide) (fun c212 => ?_) (fun c212 => ?_))
                          · have w := w.1 c212
                            exact r_goto C 2433 dL_law_907 (by decide) (r_widen (by omega) (by omega) <| r_sub [2, 3, 4, 5, 6] rfl (t_L_law_2433 C hn hlt hX9 hb9 hret (by omega) (by omega) ih _ _ _ _ _ w))
                          · have w := w.2 c212
                            obtain ⟨o213, e214, w⟩ := w
                            refine r_aload_n C 5 dL_law_895 rfl (r_iconst C (v := 0) dL_law_896 (by decide) (r_lald10 C dL_law_897 e214 (r_iload C 0 dL_law_898 rfl (r_i2l C dL_law_900 (r_lcmp C dL_law_901 (r_if_eq C 907 dL_law_902 (by decide) (fun c215 => ?_) (fun c215 => ?_)))))))
                            · have w := w.1 c215
                              exact r_goto C 2433 dL_law_907 (by decide) (r_widen (by omega) (by omega) <| r_sub [2, 3, 4, 5, 6] rfl (t_L_law_2433 C hn hlt hX9 hb9 hret (by omega) (by omega) ih _ _ _ _ _ w))
                            · have w := w.2 c215
                              exact w.elim
                        · have w := w.2 c211
                          exact w.elim
                      · have w := w.2 c195
                        by_cases c216 : (sc x4.toNatClampNeg) &&& 63 = 9
                        · have w := w.1 c216
                          refine r_aload_n C 0 dL_law_33 rfl (r_iload C 4 dL_law_34 rfl (r_sld C hX9 hb9 i14 dL_law_36 (r_bipush C (v := 63) dL_law_37 (by decide) (r_iand C dL_law_39 (r_tsIn C 910 c216 dL_law_40 (by decide) (by decide) rfl (by decide) ?_)))))
                          obtain ⟨o218, e219, w⟩ := w
                          refine r_aload_n C 1 dL_law_910 rfl (r_goi (r_runV C dL_law_911 (m_X7_acts w) mt_X7_acts tw197 tw198 tw199 gcl_8.1 e219 rfl (stk := []) rfl (Nat.le_of_ble_eq_true rfl) ⟨rfl, rfl, ⟨Nat.le_of_ble_eq_true rfl, Nat.le_of_ble_eq_true rfl⟩, ⟨by omega, by omega⟩⟩) ?_)
                          intro r217 h220 hp
                          obtain ⟨e9, w⟩ := hp
                          rw [e9]
                          obtain ⟨o222, e223, w⟩ := w
                          refine r_aload_n C 2 dL_law_914 rfl (r_goi (r_runV C dL_law_915 (m_X8_acts e223 w) mt_X8_acts tw1309 tw1310 tw1311 gcl_9.1 e223 rfl (stk := [.int r217]) rfl (Nat.le_of_ble_eq_true rfl) ⟨rfl, rfl, ⟨Nat.le_of_ble_eq_true rfl, Nat.le_of_ble_eq_true rfl⟩, ⟨by omega, by omega⟩⟩) ?_)
                          intro r221 h226 hp
                          obtain ⟨o224, e9, w⟩ := hp
                          obtain ⟨g225, rfl⟩ : ∃ z, z = h226 := ⟨_, rfl⟩
                          have w := w _ e9
                          refine r_icmp_eq C 2433 dL_law_918 (by decide) (fun c227 => ?_) (fun c227 => ?_)
                          · have w := w.1 c227
                            exact r_widen (by omega) (by omega) <| r_sub [0, 1, 2, 3, 4] rfl (t_L_law_2433 C hn hlt hX9 hb9 hret (by omega) (by omega) ih _ _ _ _ _ w)
                          · have w := w.2 c227
                            exact w.elim
                        · have w := w.2 c216
                          by_cases c228 : (sc x4.toNatClampNeg) &&& 63 = 10
                          · have w := w.1 c228
                            refine r_aload_n C 0 dL_law_33 rfl (r_iload C 4 dL_law_34 rfl (r_sld C hX9 hb9 i14 dL_law_36 (r_bipush C (v := 63) dL_law_37 (by decide) (r_iand C dL_law_39 (r_tsIn C 923 c228 dL_law_40 (by decide) (by decide) rfl (by decide) ?_)))))
                            obtain ⟨i229, w⟩ := w
                            refine r_aload_n C 1 dL_law_923 rfl (r_aload_n C 0 dL_law_924 rfl (r_iload C 4 dL_law_925 rfl (r_iconst C (v := 1) dL_law_927 (by decide) (r_iadd C dL_law_928 (r_sld C hX9 hb9 i229 dL_law_929 (r_aload_n C 3 dL_law_930 rfl (r_goi (r_runSW C dL_law_931 (m_L_isLive hlt w) mt_L_isLive tw636 tw637 rfl (stk := []) rfl (Nat.le_of_ble_eq_true rfl) ⟨rfl, rfl, ⟨Nat.le_of_ble_eq_true rfl, Nat.le_of_ble_eq_true rfl⟩, ⟨by omega, by omega⟩⟩) ?_)))))))
                            intro r230 h232 hp
                            obtain ⟨g231, rfl⟩ : ∃ z, z = h232 := ⟨_, rfl⟩
                            have w := hp
                            obtain ⟨i233, w⟩ := w
                            obtain ⟨o235, e236, w⟩ := w
                            refine r_istore C dL_law_934 (nlt hn (by decide)) rfl (r_aload_n C 3 dL_law_936 rfl (r_aload_n C 1 dL_law_937 rfl (r_iload C 5 dL_law_938 rfl (r_iconst C (v := 1) dL_law_940 (by decide) (r_iadd C dL_law_941 (r_sld C hX9 hb9 i233 dL_law_942 (r_goi (r_runV C dL_law_943 (m_X8_isLive e236 w) mt_X8_isLive tw1313 tw1314 tw1315 gcl_9.1 e236 rfl (stk := []) rfl (Nat.le_of_ble_eq_true rfl) ⟨rfl, rfl, ⟨Nat.le_of_ble_eq_true rfl, Nat.le_of_ble_eq_true rfl⟩, ⟨by omega, by omega⟩⟩) ?_)))))))
                            intro r234 h239 hp
                            obtain ⟨o237, e9, w⟩ := hp
                            obtain ⟨g238, rfl⟩ : ∃ z, z = h239 := ⟨_, rfl⟩
                            have w := w _ e9
                            obtain ⟨o241, e242, w⟩ := w
                            refine r_istore C dL_law_946 (nlt hn (by decide)) rfl (r_aload_n C 4 dL_law_948 rfl (r_goi (r_runV C dL_law_949 (m_X8_thrown e242 w) mt_X8_thrown tw1207 tw1208 tw1209 gcl_9.1 e242 rfl (stk := []) rfl (Nat.le_of_ble_eq_true rfl) ⟨rfl, rfl, ⟨Nat.le_of_ble_eq_true rfl, Nat.le_of_ble_eq_true rfl⟩, ⟨by omega, by omega⟩⟩) ?_))
                            intro r240 h243 hp
                            obtain ⟨e9, w⟩ := hp
                            rw [e9]
                            refine r_iload C 1 dL_law_952 rfl (r_icmp_eq C 959 dL_law_954 (by decide) (fun c244 => ?_) (fun c244 => ?_))
                            · have w := w.1 c244
                              refine r_iload C 1 dL_law_959 rfl (r_if_ne C 983 dL_law_961 (by decide) (fun c245 => ?_) (fun c245 => ?_))
                              · have w := w.1 c245
                                exact r_goto C 2433 dL_law_983 (by decide) (r_widen (by omega) (by omega) <| r_sub [2, 3, 4, 5, 6] rfl (t_L_law_2433 C hn hlt hX9 hb9 hret (by omega) (by omega) ih _ _ _ _ _ w))
                              · have w := w.2 c245
                                obtain ⟨o246, e247, w⟩ := w
                                refine r_aload_n C 5 dL_law_964 rfl (r_iconst C (v := 0) dL_law_965 (by decide) (r_lald10 C dL_law_966 e247 (r_iload C 0 dL_law_967 rfl (r_if_eq C 976 dL_law_969 (by decide) (fun c248 => ?_) (fun c248 => ?_)))))
                                · have w := w.1 c248
                                  exact r_lconst C (v := 0) dL_law_976 (by decide) (r_widen (by omega) (by omega) <| r_sub [2, 3, 4, 5, 6] rfl (t_L_law_977 C hn hlt hX9 hb9 hret (by omega) (by omega) ih _ _ _ _ _ _ _ w))
                                · have w := w.2 c248
                                  exact r_lconst C (v := 1) dL_law_972 (by decide) (r_goto C 977 dL_law_973 (by decide) (r_widen (by omega) (by omega) <| r_sub [2, 3, 4, 5, 6] rfl (t_L_law_977 C hn hlt hX9 hb9 hret (by omega) (by omega) ih _ _ _ _ _ _ _ w)))
                            · have w := w.2 c244
                              exact w.elim
                          · have w := w.2 c228
                            by_cases c249 : (sc x4.toNatClampNeg) &&& 63 = 11
                            · have w := w.1 c249
                              refine r_aload_n C 0 dL_law_33 rfl (r_iload C 4 dL_law_34 rfl (r_sld C hX9 hb9 i14 dL_law_36 (r_bipush C (v := 63) dL_law_37 (by decide) (r_iand C dL_law_39 (r_tsIn C 986 c249 dL_law_40 (by decide) (by decide) rfl (by decide) ?_)))))
                              obtain ⟨i250, w⟩ := w
                              refine r_aload_n C 1 dL_law_986 rfl (r_aload_n C 0 dL_law_987 rfl (r_iload C 4 dL_law_988 rfl (r_iconst C (v := 1) dL_law_990 (by decide) (r_iadd C dL_law_991 (r_sld C hX9 hb9 i250 dL_law_992 (r_aload_n C 3 dL_law_993 rfl (r_goi (r_runSW C dL_law_994 (m_L_holder hlt w) mt_L_holder tw648 tw649 rfl (stk := []) rfl (Nat.le_of_ble_eq_true rfl) ⟨rfl, rfl, ⟨Nat.le_of_ble_eq_true rfl, Nat.le_of_ble_eq_true rfl⟩, ⟨by omega, by omega⟩⟩) ?_)))))))
                              intro r251 h253 hp
                              obtain ⟨g252, rfl⟩ : ∃ z, z = h253 := ⟨_, rfl⟩
                              have w := hp
                              obtain ⟨i254, w⟩ := w
                              obtain ⟨o256, e257, w⟩ := w
                              refine r_istore C dL_law_997 (nlt hn (by decide)) rfl (r_aload_n C 3 dL_law_999 rfl (r_aload_n C 1 dL_law_1000 rfl (r_iload C 5 dL_law_1001 rfl (r_iconst C (v := 1) dL_law_1003 (by decide) (r_iadd C dL_law_1004 (r_sld C hX9 hb9 i254 dL_law_1005 (r_goi (r_runV C dL_law_1006 (m_X8_holder e257 w) mt_X8_holder tw1321 tw1322 tw1323 gcl_9.1 e257 rfl (stk := []) rfl (Nat.le_of_ble_eq_true rfl) ⟨rfl, rfl, ⟨Nat.le_of_ble_eq_true rfl, Nat.le_of_ble_eq_true rfl⟩, ⟨by omega, by omega⟩⟩) ?_)))))))
                              intro r255 h260 hp
                              obtain ⟨o258, e9, w⟩ := hp
                              obtain ⟨g259, rfl⟩ : ∃ z, z = h260 := ⟨_, rfl⟩
                              have w := w _ e9
                              obtain ⟨o262, e263, w⟩ := w
                              refine r_istore C dL_law_1009 (nlt hn (by decide)) rfl (r_aload_n C 4 dL_law_1011 rfl (r_goi (r_runV C dL_law_1012 (m_X8_thrown e263 w) mt_X8_thrown tw1207 tw1208 tw1209 gcl_9.1 e263 rfl (stk := []) rfl (Nat.le_of_ble_eq_true rfl) ⟨rfl, rfl, ⟨Nat.le_of_ble_eq_true rfl, Nat.le_of_ble_eq_true rfl⟩, ⟨by omega, by omega⟩⟩) ?_))
                              intro r261 h264 hp
                              obtain ⟨e9, w⟩ := hp
                              rw [e9]
                              refine r_iload C 1 dL_law_1015 rfl (r_icmp_eq C 1022 dL_law_1017 (by decide) (fun c265 => ?_) (fun c265 => ?_))
                              · have w := w.1 c265
                                refine r_iload C 1 dL_law_1022 rfl (r_if_ne C 1039 dL_law_1024 (by decide) (fun c266 => ?_) (fun c266 => ?_))
                                · have w := w.1 c266
                                  exact r_goto C 2433 dL_law_1039 (by decide) (r_widen (by omega) (by omega) <| r_sub [2, 3, 4, 5, 6] rfl (t_L_law_2433 C hn hlt hX9 hb9 hret (by omega) (by omega) ih _ _ _ _ _ w))
                                · have w := w.2 c266
                                  obtain ⟨o267, e268, w⟩ := w
                                  refine r_aload_n C 5 dL_law_1027 rfl (r_iconst C (v := 0) dL_law_1028 (by decide) (r_lald10 C dL_law_1029 e268 (r_iload C 0 dL_law_1030 rfl (r_i2l C dL_law_1032 (r_lcmp C dL_law_1033 (r_if_eq C 1039 dL_law_1034 (by decide) (fun c269 => ?_) (fun c269 => ?_)))))))
                                  · have w := w.1 c269
                                    exact r_goto C 2433 dL_law_1039 (by decide) (r_widen (by omega) (by omega) <| r_sub [2, 3, 4, 5, 6] rfl (t_L_law_2433 C hn hlt hX9 hb9 hret (by omega) (by omega) ih _ _ _ _ _ w))
                                  · have w := w.2 c269
                                    exact w.elim
                              · have w := w.2 c265
                                exact w.elim
                            · have w := w.2 c249
                              by_cases c270 : (sc x4.toNatClampNeg) &&& 63 = 12
                              · have w := w.1 c270
                                refine r_aload_n C 0 dL_law_33 rfl (r_iload C 4 dL_law_34 rfl (r_sld C hX9 hb9 i14 dL_law_36 (r_bipush C (v := 63) dL_law_37 (by decide) (r_iand C dL_law_39 (r_tsIn C 1042 c270 dL_law_40 (by decide) (by decide) rfl (by decide) ?_)))))
                                obtain ⟨o272, e273, w⟩ := w
                                refine r_aload_n C 1 dL_law_1042 rfl (r_goi (r_runV C dL_law_1043 (m_X7_shapes w) mt_X7_shapes tw205 tw206 tw207 gcl_8.1 e273 rfl (stk := []) rfl (Nat.le_of_ble_eq_true rfl) ⟨rfl, rfl, ⟨Nat.le_of_ble_eq_true rfl, Nat.le_of_ble_eq_true rfl⟩, ⟨by omega, by omega⟩⟩) ?_)
                                intro r271 h274 hp
                                obtain ⟨e9, w⟩ := hp
                                rw [e9]
                                obtain ⟨o276, e277, w⟩ := w
                                refine r_aload_n C 2 dL_law_1046 rfl (r_goi (r_runV C dL_law_1047 (m_X8_shapes e277 w) mt_X8_shapes tw1325 tw1326 tw1327 gcl_9.1 e277 rfl (stk := [.int r271]) rfl (Nat.le_of_ble_eq_true rfl) ⟨rfl, rfl, ⟨Nat.le_of_ble_eq_true rfl, Nat.le_of_ble_eq_true rfl⟩, ⟨by omega, by omega⟩⟩) ?_)
                                intro r275 h280 hp
                                obtain ⟨o278, e9, w⟩ := hp
                                obtain ⟨g279, rfl⟩ : ∃ z, z = h280 := ⟨_, rfl⟩
                                have w := w _ e9
                                refine r_icmp_eq C 2433 dL_law_1050 (by decide) (fun c281 => ?_) (fun c281 => ?_)
                                · have w := w.1 c281
                                  exact r_widen (by omega) (by omega) <| r_sub [0, 1, 2, 3, 4] rfl (t_L_law_2433 C hn hlt hX9 hb9 hret (by omega) (by omega) ih _ _ _ _ _ w)
                                · have w := w.2 c281
                                  exact w.elim
                              · have w := w.2 c270
                                by_cases c282 : (sc x4.toNatClampNeg) &&& 63 = 13
                                · have w := w.1 c282
                                  refine r_aload_n C 0 dL_law_33 rfl (r_iload C 4 dL_law_34 rfl (r_sld C hX9 hb9 i14 dL_law_36 (r_bipush C (v := 63) dL_law_37 (by decide) (r_iand C dL_law_39 (r_tsIn C 1055 c282 dL_law_40 (by decide) (by decide) rfl (by decide) ?_)))))
                                  obtain ⟨o284, e285, w⟩ := w
                                  refine r_aload_n C 1 dL_law_1055 rfl (r_gol (r_runV C dL_law_1056 (m_X7_there w) mt_X7_there tw209 tw210 tw211 gcl_8.1 e285 rfl (stk := []) rfl (Nat.le_of_ble_eq_true rfl) ⟨rfl, rfl, ⟨Nat.le_of_ble_eq_true rfl, Nat.le_of_ble_eq_true rfl⟩, ⟨by omega, by omega⟩⟩) ?_)
                                  intro r283 h286 hp
                                  obtain ⟨e9, w⟩ := hp
                                  rw [e9]
                                  obtain ⟨o288, e289, w⟩ := w
                                  refine r_aload_n C 2 dL_law_1059 rfl (r_gol (r_runV C dL_law_1060 (m_X8_there e289 w) mt_X8_there tw1329 tw1330 tw1331 gcl_9.1 e289 rfl (stk := [.long r283]) rfl (Nat.le_of_ble_eq_true rfl) ⟨rfl, rfl, ⟨Nat.le_of_ble_eq_true rfl, Nat.le_of_ble_eq_true rfl⟩, ⟨by omega, by omega⟩⟩) ?_)
                                  intro r287 h292 hp
                                  obtain ⟨o290, e9, w⟩ := hp
                                  obtain ⟨g291, rfl⟩ : ∃ z, z = h292 := ⟨_, rfl⟩
                                  have w := w _ e9
                                  refine r_lcmp C dL_law_1063 (r_if_eq C 2433 dL_law_1064 (by decide) (fun c293 => ?_) (fun c293 => ?_))
                                  · have w := w.1 c293
                                    exact r_widen (by omega) (by omega) <| r_sub [0, 1, 2, 3, 4] rfl (t_L_law_2433 C hn hlt hX9 hb9 hret (by omega) (by omega) ih _ _ _ _ _ w)
                                  · have w := w.2 c293
                                    exact w.elim
                                · have w := w.2 c282
                                  by_cases c294 : (sc x4.toNatClampNeg) &&& 63 = 14
                                  · have w := w.1 c294
                                    refine r_aload_n C 0 dL_law_33 rfl (r_iload C 4 dL_law_34 rfl (r_sld C hX9 hb9 i14 dL_law_36 (r_bipush C (v := 63) dL_law_37 (by decide) (r_iand C dL_law_39 (r_tsIn C 1069 c294 dL_law_40 (by decide) (by decide) rfl (by decide) ?_)))))
                                    obtain ⟨i295, w⟩ := w
                                    refine r_aload_n C 1 dL_law_1069 rfl (r_aload_n C 0 dL_law_1070 rfl (r_iload C 4 dL_law_1071 rfl (r_iconst C (v := 1) dL_law_1073 (by decide) (r_iadd C dL_law_1074 (r_sld C hX9 hb9 i295 dL_law_1075 (r_aload_n C 3 dL_law_1076 rfl (r_goi (r_runSW C dL_law_1077 (m_L_place hlt w) mt_L_place tw655 tw656 rfl (stk := []) rfl (Nat.le_of_ble_eq_true rfl) ⟨rfl, rfl, ⟨Nat.le_of_ble_eq_true rfl, Nat.le_of_ble_eq_true rfl⟩, ⟨by omega, by omega⟩⟩) ?_)))))))
                                    intro r296 h298 hp
                                    obtain ⟨g297, rfl⟩ : ∃ z, z = h298 := ⟨_, rfl⟩
                                    have w := hp
                                    obtain ⟨i299, w⟩ := w
                                    obtain ⟨o301, e302, w⟩ := w
                                    refine r_istore C dL_law_1080 (nlt hn (by decide)) rfl (r_aload_n C 3 dL_law_1082 rfl (r_aload_n C 1 dL_law_1083 rfl (r_iload C 5 dL_law_1084 rfl (r_iconst C (v := 1) dL_law_1086 (by decide) (r_iadd C dL_law_1087 (r_sld C hX9 hb9 i299 dL_law_1088 (r_goi (r_runV C dL_law_1089 (m_X8_place e302 w) mt_X8_place tw1333 tw1334 tw1335 gcl_9.1 e302 rfl (stk := []) rfl (Nat.le_of_ble_eq_true rfl) ⟨rfl, rfl, ⟨Nat.le_of_ble_eq_true rfl, Nat.le_of_ble_eq_true rfl⟩, ⟨by omega, by omega⟩⟩) ?_)))))))
                                    intro r300 h305 hp
                                    obtain ⟨o303, e9, w⟩ := hp
                                    obtain ⟨g304, rfl⟩ : ∃ z, z = h305 := ⟨_, rfl⟩
                                    have w := w _ e9
                                    obtain ⟨o307, e308, w⟩ := w
                                    refine r_istore C dL_law_1092 (nlt hn (by decide)) rfl (r_aload_n C 4 dL_law_1094 rfl (r_goi (r_runV C dL_law_1095 (m_X8_thrown e308 w) mt_X8_thrown tw1207 tw1208 tw1209 gcl_9.1 e308 rfl (stk := []) rfl (Nat.le_of_ble_eq_true rfl) ⟨rfl, rfl, ⟨Nat.le_of_ble_eq_true rfl, Nat.le_of_ble_eq_true rfl⟩, ⟨by omega, by omega⟩⟩) ?_))
                                    intro r306 h309 hp
                                    obtain ⟨e9, w⟩ := hp
                                    rw [e9]
                                    refine r_iload C 1 dL_law_1098 rfl (r_icmp_eq C 1105 dL_law_1100 (by decide) (fun c310 => ?_) (fun c310 => ?_))
                                    · have w := w.1 c310
                                      refine r_iload C 1 dL_law_1105 rfl (r_if_ne C 1122 dL_law_1107 (by decide) (fun c311 => ?_) (fun c311 => ?_))
                                      · have w := w.1 c311
                                        exact r_goto C 2433 dL_law_1122 (by decide) (r_widen (by omega) (by omega) <| r_sub [2, 3, 4, 5, 6] rfl (t_L_law_2433 C hn hlt hX9 hb9 hret (by omega) (by omega) ih _ _ _ _ _ w))
                                      · have w := w.2 c311
                                        obtain ⟨o312, e313, w⟩ := w
                                        refine r_aload_n C 5 dL_law_1110 rfl (r_iconst C (v := 0) dL_law_1111 (by decide) (r_lald10 C dL_law_1112 e313 (r_iload C 0 dL_law_1113 rfl (r_i2l C dL_law_1115 (r_lcmp C dL_law_1116 (r_if_eq C 1122 dL_law_1117 (by decide) (fun c314 => ?_) (fun c314 => ?_)))))))
                                        · have w := w.1 c314
                                          exact r_goto C 2433 dL_law_1122 (by decide) (r_widen (by omega) (by omega) <| r_sub [2, 3, 4, 5, 6] rfl (t_L_law_2433 C hn hlt hX9 hb9 hret (by omega) (by omega) ih _ _ _ _ _ w))
                                        · have w := w.2 c314
                                          exact w.elim
                                    · have w := w.2 c310
                                      exact w.elim
                                  · have w := w.2 c294
                                    by_cases c315 : (sc x4.toNatClampNeg) &&& 63 = 15
                                    · have w := w.1 c315
                                      refine r_aload_n C 0 dL_law_33 rfl (r_iload C 4 dL_law_34 rfl (r_sld C hX9 hb9 i14 dL_law_36 (r_bipush C (v := 63) dL_law_37 (by decide) (r_iand C dL_law_39 (r_tsIn C 1125 c315 dL_law_40 (by decide) (by decide) rfl (by decide) ?_)))))
                                      obtain ⟨i316, w⟩ := w
                                      refine r_aload_n C 1 dL_law_1125 rfl (r_aload_n C 0 dL_law_1126 rfl (r_iload C 4 dL_law_1127 rfl (r_iconst C (v := 1) dL_law_1129 (by decide) (r_iadd C dL_law_1130 (r_sld C hX9 hb9 i316 dL_law_1131 (r_aload_n C 3 dL_law_1132 rfl (r_goi (r_runSW C dL_law_1133 (m_L_colour hlt w) mt_L_colour tw663 tw664 rfl (stk := []) rfl (Nat.le_of_ble_eq_true rfl) ⟨rfl, rfl, ⟨Nat.le_of_ble_eq_true rfl, Nat.le_of_ble_eq_true rfl⟩, ⟨by omega, by omega⟩⟩) ?_)))))))
                                      intro r317 h319 hp
                                      obtain ⟨g318, rfl⟩ : ∃ z, z = h319 := ⟨_, rfl⟩
                                      have w := hp
                                      obtain ⟨i320, w⟩ := w
                                      obtain ⟨o322, e323, w⟩ := w
                                      refine r_istore C dL_law_1136 (nlt hn (by decide)) rfl (r_aload_n C 3 dL_law_1138 rfl (r_aload_n C 1 dL_law_1139 rfl (r_iload C 5 dL_law_1140 rfl (r_iconst C (v := 1) dL_law_1142 (by decide) (r_iadd C dL_law_1143 (r_sld C hX9 hb9 i320 dL_law_1144 (r_goi (r_runV C dL_law_1145 (m_X8_colour e323 w) mt_X8_colour tw1337 tw1338 tw1339 gcl_9.1 e323 rfl (stk := []) rfl (Nat.le_of_ble_eq_true rfl) ⟨rfl, rfl, ⟨Nat.le_of_ble_eq_true rfl, Nat.le_of_ble_eq_true rfl⟩, ⟨by omega, by omega⟩⟩) ?_)))))))
                                      intro r321 h326 hp
                                      obtain ⟨o324, e9, w⟩ := hp
                                      obtain ⟨g325, rfl⟩ : ∃ z, z = h326 := ⟨_, rfl⟩
                                      have w := w _ e9
                                      obtain ⟨o328, e329, w⟩ := w
                                      refine r_istore C dL_law_1148 (nlt hn (by decide)) rfl (r_aload_n C 4 dL_law_1150 rfl (r_goi (r_runV C dL_law_1151 (m_X8_thrown e329 w) mt_X8_thrown tw1207 tw1208 tw1209 gcl_9.1 e329 rfl (stk := []) rfl (Nat.le_of_ble_eq_true rfl) ⟨rfl, rfl, ⟨Nat.le_of_ble_eq_true rfl, Nat.le_of_ble_eq_true rfl⟩, ⟨by omega, by omega⟩⟩) ?_))
                                      intro r327 h330 hp
                                      obtain ⟨e9, w⟩ := hp
                                      rw [e9]
                                      refine r_iload C 1 dL_law_1154 rfl (r_icmp_eq C 1161 dL_law_1156 (by decide) (fun c331 => ?_) (fun c331 => ?_))
                                      · have w := w.1 c331
                                        refine r_iload C 1 dL_law_1161 rfl (r_if_ne C 1178 dL_law_1163 (by decide) (fun c332 => ?_) (fun c332 => ?_))
                                        · have w := w.1 c332
                                          exact r_goto C 2433 dL_law_1178 (by decide) (r_widen (by omega) (by omega) <| r_sub [2, 3, 4, 5, 6] rfl (t_L_law_2433 C hn hlt hX9 hb9 hret (by omega) (by omega) ih _ _ _ _ _ w))
                                        · have w := w.2 c332
                                          obtain ⟨o333, e334, w⟩ := w
                                          refine r_aload_n C 5 dL_law_1166 rfl (r_iconst C (v := 0) dL_law_1167 (by decide) (r_lald10 C dL_law_1168 e334 (r_iload C 0 dL_law_1169 rfl (r_i2l C dL_law_1171 (r_lcmp C dL_law_1172 (r_if_eq C 1178 dL_law_1173 (by decide) (fun c335 => ?_) (fun c335 => ?_)))))))
                                          · have w := w.1 c335
                                            exact r_goto C 2433 dL_law_1178 (by decide) (r_widen (by omega) (by omega) <| r_sub [2, 3, 4, 5, 6] rfl (t_L_law_2433 C hn hlt hX9 hb9 hret (by omega) (by omega) ih _ _ _ _ _ w))
                                          · have w := w.2 c335
                                            exact w.elim
                                      · have w := w.2 c331
                                        exact w.elim
                                    · have w := w.2 c315
                                      by_cases c336 : (sc x4.toNatClampNeg) &&& 63 = 16
                                      · have w := w.1 c336
                                        refine r_aload_n C 0 dL_law_33 rfl (r_iload C 4 dL_law_34 rfl (r_sld C hX9 hb9 i14 dL_law_36 (r_bipush C (v := 63) dL_law_37 (by decide) (r_iand C dL_law_39 (r_tsIn C 1181 c336 dL_law_40 (by decide) (by decide) rfl (by decide) ?_)))))
                                        obtain ⟨i337, w⟩ := w
                                        refine r_aload_n C 1 dL_law_1181 rfl (r_aload_n C 0 dL_law_1182 rfl (r_iload C 4 dL_law_1183 rfl (r_iconst C (v := 1) dL_law_1185 (by decide) (r_iadd C dL_law_1186 (r_sld C hX9 hb9 i337 dL_law_1187 (r_aload_n C 3 dL_law_1188 rfl (r_goi (r_runSW C dL_law_1189 (m_L_above hlt w) mt_L_above tw670 tw671 rfl (stk := []) rfl (Nat.le_of_ble_eq_true rfl) ⟨rfl, rfl, ⟨Nat.le_of_ble_eq_true rfl, Nat.le_of_ble_eq_true rfl⟩, ⟨by omega, by omega⟩⟩) ?_)))))))
                                        intro r338 h340 hp
                                        obtain ⟨g339, rfl⟩ : ∃ z, z = h340 := ⟨_, rfl⟩
                                        have w := hp
                                        obtain ⟨i341, w⟩ := w
                                        obtain ⟨o343, e344, w⟩ := w
                                        refine r_istore C dL_law_1192 (nlt hn (by decide)) rfl (r_aload_n C 3 dL_law_1194 rfl (r_aload_n C 1 dL_law_1195 rfl (r_iload C 5 dL_law_1196 rfl (r_iconst C (v := 1) dL_law_1198 (by decide) (r_iadd C dL_law_1199 (r_sld C hX9 hb9 i341 dL_law_1200 (r_goi (r_runV C dL_law_1201 (m_X8_above e344 w) mt_X8_above tw1341 tw1342 tw1343 gcl_9.1 e344 rfl (stk := []) rfl (Nat.le_of_ble_eq_true rfl) ⟨rfl, rfl, ⟨Nat.le_of_ble_eq_true rfl, Nat.le_of_ble_eq_true rfl⟩, ⟨by omega, by omega⟩⟩) ?_)))))))
                                        intro r342 h347 hp
                                        obtain ⟨o345, e9, w⟩ := hp
                                        obtain ⟨g346, rfl⟩ : ∃ z, z = h347 := ⟨_, rfl⟩
                                        have w := w _ e9
                                        obtain ⟨o349, e350, w⟩ := w
                                        refine r_istore C dL_law_1204 (nlt hn (by decide)) rfl (r_aload_n C 4 dL_law_1206 rfl (r_goi (r_runV C dL_law_1207 (m_X8_thrown e350 w) mt_X8_thrown tw1207 tw1208 tw1209 gcl_9.1 e350 rfl (stk := []) rfl (Nat.le_of_ble_eq_true rfl) ⟨rfl, rfl, ⟨Nat.le_of_ble_eq_true rfl, Nat.le_of_ble_eq_true rfl⟩, ⟨by omega, by omega⟩⟩) ?_))
                                        intro r348 h351 hp
                                        obtain ⟨e9, w⟩ := hp
                                        rw [e9]
                                        refine r_iload C 1 dL_law_1210 rfl (r_icmp_eq C 1217 dL_law_1212 (by decide) (fun c352 => ?_) (fun c352 => ?_))
                                        · have w := w.1 c352
                                          refine r_iload C 1 dL_law_1217 rfl (r_if_ne C 1234 dL_law_1219 (by decide) (fun c353 => ?_) (fun c353 => ?_))
                                          · have w := w.1 c353
                                            exact r_goto C 2433 dL_law_1234 (by decide) (r_widen (by omega) (by omega) <| r_sub [2, 3, 4, 5, 6] rfl (t_L_law_2433 C hn hlt hX9 hb9 hret (by omega) (by omega) ih _ _ _ _ _ w))
                                          · have w := w.2 c353
                                            obtain ⟨o354, e355, w⟩ := w
                                            refine r_aload_n C 5 dL_law_1222 rfl (r_iconst C (v := 0) dL_law_1223 (by decide) (r_lald10 C dL_law_1224 e355 (r_iload C 0 dL_law_1225 rfl (r_i2l C dL_law_1227 (r_lcmp C dL_law_1228 (r_if_eq C 1234 dL_law_1229 (by decide) (fun c356 => ?_) (fun c356 => ?_)))))))
                                            · have w := w.1 c356
                                              exact r_goto C 2433 dL_law_1234 (by decide) (r_widen (by omega) (by omega) <| r_sub [2, 3, 4, 5, 6] rfl (t_L_law_2433 C hn hlt hX9 hb9 hret (by omega) (by omega) ih _ _ _ _ _ w))
                                            · have w := w.2 c356
                                              exact w.elim
                                        · have w := w.2 c352
                                          exact w.elim
                                      · have w := w.2 c336
                                        by_cases c357 : (sc x4.toNatClampNeg) &&& 63 = 17
                                        · have w := w.1 c357
                                          refine r_aload_n C 0 dL_law_33 rfl (r_iload C 4 dL_law_34 rfl (r_sld C hX9 hb9 i14 dL_law_36 (r_bipush C (v := 63) dL_law_37 (by decide) (r_iand C dL_law_39 (r_tsIn C 1237 c357 dL_law_40 (by decide) (by decide) rfl (by decide) ?_)))))
                                          obtain ⟨i358, w⟩ := w
                                          refine r_aload_n C 1 dL_law_1237 rfl (r_aload_n C 0 dL_law_1238 rfl (r_iload C 4 dL_law_1239 rfl (r_iconst C (v := 1) dL_law_1241 (by decide) (r_iadd C dL_law_1242 (r_sld C hX9 hb9 i358 dL_law_1243 (r_aload_n C 3 dL_law_1244 rfl (r_goi (r_runSW C dL_law_1245 (m_L_group hlt w) mt_L_group tw681 tw682 rfl (stk := []) rfl (Nat.le_of_ble_eq_true rfl) ⟨rfl, rfl, ⟨Nat.le_of_ble_eq_true rfl, Nat.le_of_ble_eq_true rfl⟩, ⟨by omega, by omega⟩⟩) ?_)))))))
                                          intro r359 h361 hp
                                          obtain ⟨g360, rfl⟩ : ∃ z, z = h361 := ⟨_, rfl⟩
                                          have w := hp
                                          obtain ⟨i362, w⟩ := w
                                          obtain ⟨o364, e365, w⟩ := w
                                          refine r_istore C dL_law_1248 (nlt hn (by decide)) rfl (r_aload_n C 3 dL_law_1250 rfl (r_aload_n C 1 dL_law_1251 rfl (r_iload C 5 dL_law_1252 rfl (r_iconst C (v := 1) dL_law_1254 (by decide) (r_iadd C dL_law_1255 (r_sld C hX9 hb9 i362 dL_law_1256 (r_gol (r_runV C dL_law_1257 (m_X8_group e365 w) mt_X8_group tw1345 tw1346 tw1347 gcl_9.1 e365 rfl (stk := []) rfl (Nat.le_of_ble_eq_true rfl) ⟨rfl, rfl, ⟨Nat.le_of_ble_eq_true rfl, Nat.le_of_ble_eq_true rfl⟩, ⟨by omega, by omega⟩⟩) ?_)))))))
                                          intro r363 h368 hp
                                          obtain ⟨o366, e9, w⟩ := hp
                                          obtain ⟨g367, rfl⟩ : ∃ z, z = h368 := ⟨_, rfl⟩
                                          have w := w _ e9
                                          obtain ⟨o370, e371, w⟩ := w
                                          refine r_lstore C dL_law_1260 (nlt hn (by decide)) rfl (r_aload_n C 4 dL_law_1262 rfl (r_goi (r_runV C dL_law_1263 (m_X8_thrown e371 w) mt_X8_thrown tw1207 tw1208 tw1209 gcl_9.1 e371 rfl (stk := []) rfl (Nat.le_of_ble_eq_true rfl) ⟨rfl, rfl, ⟨Nat.le_of_ble_eq_true rfl, Nat.le_of_ble_eq_true rfl⟩, ⟨by omega, by omega⟩⟩) ?_))
                                          intro r369 h372 hp
                                          obtain ⟨e9, w⟩ := hp
                                          rw [e9]
                                          refine r_iload C 1 dL_law_1266 rfl (r_icmp_eq C 1273 dL_law_1268 (by decide) (fun c373 => ?_) (fun c373 => ?_))
                                          · have w := w.1 c373
                                            refine r_iload C 1 dL_law_1273 rfl (r_if_ne C 1289 dL_law_1275 (by decide) (fun c374 => ?_) (fun c374 => ?_))
                                            · have w := w.1 c374
                                              exact r_goto C 2433 dL_law_1289 (by decide) (r_widen (by omega) (by omega) <| r_sub [2, 3, 4, 5, 6] rfl (t_L_law_2433 C hn hlt hX9 hb9 hret (by omega) (by omega) ih _ _ _ _ _ w))
                                            · have w := w.2 c374
                                              obtain ⟨o375, e376, w⟩ := w
                                              refine r_aload_n C 5 dL_law_1278 rfl (r_iconst C (v := 0) dL_law_1279 (by decide) (r_lald10 C dL_law_1280 e376 (r_lload C 0 dL_law_1281 rfl (r_lcmp C dL_law_1283 (r_if_eq C 1289 dL_law_1284 (by decide) (fun c377 => ?_) (fun c377 => ?_))))))
                                              · have w := w.1 c377
                                                exact r_goto C 2433 dL_law_1289 (by decide) (r_widen (by omega) (by omega) <| r_sub [2, 3, 4, 5, 6] rfl (t_L_law_2433 C hn hlt hX9 hb9 hret (by omega) (by omega) ih _ _ _ _ _ w))
                                              · have w := w.2 c377
                                                exact w.elim
                                          · have w := w.2 c373
                                            exact w.elim
                                        · have w := w.2 c357
                                          by_cases c378 : (sc x4.toNatClampNeg) &&& 63 = 18
                                          · have w := w.1 c378
                                            refine r_aload_n C 0 dL_law_33 rfl (r_iload C 4 dL_law_34 rfl (r_sld C hX9 hb9 i14 dL_law_36 (r_bipush C (v := 63) dL_law_37 (by decide) (r_iand C dL_law_39 (r_tsIn C 1292 c378 dL_law_40 (by decide) (by decide) rfl (by decide) ?_)))))
                                            obtain ⟨i379, w⟩ := w
                                            obtain ⟨i380, w⟩ := w
                                            refine r_aload_n C 1 dL_law_1292 rfl (r_aload_n C 0 dL_law_1293 rfl (r_iload C 4 dL_law_1294 rfl (r_iconst C (v := 1) dL_law_1296 (by decide) (r_iadd C dL_law_1297 (r_sld C hX9 hb9 i379 dL_law_1298 (r_aload_n C 0 dL_law_1299 rfl (r_iload C 4 dL_law_1300 rfl (r_iconst C (v := 2) dL_law_1302 (by decide) (r_iadd C dL_law_1303 (r_sld C hX9 hb9 i380 dL_law_1304 (r_aload_n C 3 dL_law_1305 rfl (r_goi (r_runSW C dL_law_1306 (m_L_seen hlt w) mt_L_seen tw688 tw689 rfl (stk := []) rfl (Nat.le_of_ble_eq_true rfl) ⟨rfl, rfl, ⟨Nat.le_of_ble_eq_true rfl, Nat.le_of_ble_eq_true rfl⟩, ⟨by omega, by omega⟩⟩) ?_))))))))))))
                                            intro r381 h383 hp
                                            obtain ⟨g382, rfl⟩ : ∃ z, z = h383 := ⟨_, rfl⟩
                                            have w := hp
                                            obtain ⟨i384, w⟩ := w
                                            obtain ⟨i385, w⟩ := w
                                            obtain ⟨o387, e388, w⟩ := w
                                            refine r_istore C dL_law_1309 (nlt hn (by decide)) rfl (r_aload_n C 3 dL_law_1311 rfl (r_aload_n C 1 dL_law_1312 rfl (r_iload C 5 dL_law_1313 rfl (r_iconst C (v := 1) dL_law_1315 (by decide) (r_iadd C dL_law_1316 (r_sld C hX9 hb9 i384 dL_law_1317 (r_aload_n C 1 dL_law_1318 rfl (r_iload C 5 dL_law_1319 rfl (r_iconst C (v := 2) dL_law_1321 (by decide) (r_iadd C dL_law_1322 (r_sld C hX9 hb9 i385 dL_law_1323 (r_goi (r_runV C dL_law_1324 (m_X8_seen e388 w) mt_X8_seen tw1349 tw1350 tw1351 gcl_9.1 e388 rfl (stk := []) rfl (Nat.le_of_ble_eq_true rfl) ⟨rfl, rfl, ⟨Nat.le_of_ble_eq_true rfl, Nat.le_of_ble_eq_true rfl⟩, ⟨by omega, by omega⟩⟩) ?_))))))))))))
                                            intro r386 h391 hp
                                            obtain ⟨o389, e9, w⟩ := hp
                                            obtain ⟨g390, rfl⟩ : ∃ z, z = h391 := ⟨_, rfl⟩
                                            have w := w _ e9
                                            obtain ⟨o393, e394, w⟩ := w
                                            refine r_istore C dL_law_1327 (nlt hn (by decide)) rfl (r_aload_n C 4 dL_law_1329 rfl (r_goi (r_runV C dL_law_1330 (m_X8_thrown e394 w) mt_X8_thrown tw1207 tw1208 tw1209 gcl_9.1 e394 rfl (stk := []) rfl (Nat.le_of_ble_eq_true rfl) ⟨rfl, rfl, ⟨Nat.le_of_ble_eq_true rfl, Nat.le_of_ble_eq_true rfl⟩, ⟨by omega, by omega⟩⟩) ?_))
                                            intro r392 h395 hp
                                            obtain ⟨e9, w⟩ := hp
                                            rw [e9]
                                            refine r_iload C 1 dL_law_1333 rfl (r_icmp_eq C 1340 dL_law_1335 (by decide) (fun c396 => ?_) (fun c396 => ?_))
                                            · have w := w.1 c396
                                              refine r_iload C 1 dL_law_1340 rfl (r_if_ne C 1357 dL_law_1342 (by decide) (fun c397 => ?_) (fun c397 => ?_))
                                              · have w := w.1 c397
                                                exact r_goto C 2433 dL_law_1357 (by decide) (r_widen (by omega) (by omega) <| r_sub [2, 3, 4, 5, 6] rfl (t_L_law_2433 C hn hlt hX9 hb9 hret (by omega) (by omega) ih _ _ _ _ _ w))
                                              · have w := w.2 c397
                                                obtain ⟨o398, e399, w⟩ := w
                                                refine r_aload_n C 5 dL_law_1345 rfl (r_iconst C (v := 0) dL_law_1346 (by decide) (r_lald10 C dL_law_1347 e399 (r_iload C 0 dL_law_1348 rfl (r_i2l C dL_law_1350 (r_lcmp C dL_law_1351 (r_if_eq C 1357 dL_law_1352 (by decide) (fun c400 => ?_) (fun c400 => ?_)))))))
                                                · have w := w.1 c400
                                                  exact r_goto C 2433 dL_law_1357 (by decide) (r_widen (by omega) (by omega) <| r_sub [2, 3, 4, 5, 6] rfl (t_L_law_2433 C hn hlt hX9 hb9 hret (by omega) (by omega) ih _ _ _ _ _ w))
                                                · have w := w.2 c400
                                                  exact w.elim
                                            · have w := w.2 c396
                                              exact w.elim
                                          · have w := w.2 c378
                                            by_cases c401 : (sc x4.toNatClampNeg) &&& 63 = 19
                                            · have w := w.1 c401
                                              refine r_aload_n C 0 dL_law_33 rfl (r_iload C 4 dL_law_34 rfl (r_sld C hX9 hb9 i14 dL_law_36 (r_bipush C (v := 63) dL_law_37 (by decide) (r_iand C dL_law_39 (r_tsIn C 1360 c401 dL_law_40 (by decide) (by decide) rfl (by decide) ?_)))))
                                              obtain ⟨i402, w⟩ := w
                                              obtain ⟨i403, w⟩ := w
                                              refine r_aload_n C 1 dL_law_1360 rfl (r_aload_n C 0 dL_law_1361 rfl (r_iload C 4 dL_law_1362 rfl (r_iconst C (v := 1) dL_law_1364 (by decide) (r_iadd C dL_law_1365 (r_sld C hX9 hb9 i402 dL_law_1366 (r_aload_n C 0 dL_law_1367 rfl (r_iload C 4 dL_law_1368 rfl (r_iconst C (v := 2) dL_law_1370 (by decide) (r_iadd C dL_law_1371 (r_sld C hX9 hb9 i403 dL_law_1372 (r_aload_n C 3 dL_law_1373 rfl (r_goi (r_runSW C dL_law_1374 (m_L_seenAnew hlt w) mt_L_seenAnew tw711 tw712 rfl (stk := []) rfl (Nat.le_of_ble_eq_true rfl) ⟨rfl, rfl, ⟨Nat.le_of_ble_eq_true rfl, Nat.le_of_ble_eq_true rfl⟩, ⟨by omega, by omega⟩⟩) ?_))))))))))))
                                              intro r404 h406 hp
                                              obtain ⟨g405, rfl⟩ : ∃ z, z = h406 := ⟨_, rfl⟩
                                              have w := hp
                                              obtain ⟨i407, w⟩ := w
                                              obtain ⟨i408, w⟩ := w
                                              obtain ⟨o410, e411, w⟩ := w
                                              refine r_istore C dL_law_1377 (nlt hn (by decide)) rfl (r_aload_n C 3 dL_law_1379 rfl (r_aload_n C 1 dL_law_1380 rfl (r_iload C 5 dL_law_1381 rfl (r_iconst C (v := 1) dL_law_1383 (by decide) (r_iadd C dL_law_1384 (r_sld C hX9 hb9 i407 dL_law_1385 (r_aload_n C 1 dL_law_1386 rfl (r_iload C 5 dL_law_1387 rfl (r_iconst C (v := 2) dL_law_1389 (by decide) (r_iadd C dL_law_1390 (r_sld C hX9 hb9 i408 dL_law_1391 (r_goi (r_runV C dL_law_1392 (m_X8_seenAnew e411 w) mt_X8_seenAnew tw1361 tw1362 tw1363 gcl_9.1 e411 rfl (stk := []) rfl (Nat.le_of_ble_eq_true rfl) ⟨rfl, rfl, ⟨Nat.le_of_ble_eq_true rfl, Nat.le_of_ble_eq_true rfl⟩, ⟨by omega, by omega⟩⟩) ?_))))))))))))
                                              intro r409 h414 hp
                                              obtain ⟨o412, e9, w⟩ := hp
                                              obtain ⟨g413, rfl⟩ : ∃ z, z = h414 := ⟨_, rfl⟩
                                              have w := w _ e9
                                              obtain ⟨o416, e417, w⟩ := w
                                              refine r_istore C dL_law_1395 (nlt hn (by decide)) rfl (r_aload_n C 4 dL_law_1397 rfl (r_goi (r_runV C dL_law_1398 (m_X8_thrown e417 w) mt_X8_thrown tw1207 tw1208 tw1209 gcl_9.1 e417 rfl (stk := []) rfl (Nat.le_of_ble_eq_true rfl) ⟨rfl, rfl, ⟨Nat.le_of_ble_eq_true rfl, Nat.le_of_ble_eq_true rfl⟩, ⟨by omega, by omega⟩⟩) ?_))
                                              intro r415 h418 hp
                                              obtain ⟨e9, w⟩ := hp
                                              rw [e9]
                                              refine r_iload C 1 dL_law_1401 rfl (r_icmp_eq C 1408 dL_law_1403 (by decide) (fun c419 => ?_) (fun c419 => ?_))
                                              · have w := w.1 c419
                                                refine r_iload C 1 dL_law_1408 rfl (r_if_ne C 1425 dL_law_1410 (by decide) (fun c420 => ?_) (fun c420 => ?_))
                                                · have w := w.1 c420
                                                  exact r_goto C 2433 dL_law_1425 (by decide) (r_widen (by omega) (by omega) <| r_sub [2, 3, 4, 5, 6] rfl (t_L_law_2433 C hn hlt hX9 hb9 hret (by omega) (by omega) ih _ _ _ _ _ w))
                                                · have w := w.2 c420
                                                  obtain ⟨o421, e422, w⟩ := w
                                                  refine r_aload_n C 5 dL_law_1413 rfl (r_iconst C (v := 0) dL_law_1414 (by decide) (r_lald10 C dL_law_1415 e422 (r_iload C 0 dL_law_1416 rfl (r_i2l C dL_law_1418 (r_lcmp C dL_law_1419 (r_if_eq C 1425 dL_law_1420 (by decide) (fun c423 => ?_) (fun c423 => ?_)))))))
                                                  · have w := w.1 c423
                                                    exact r_goto C 2433 dL_law_1425 (by decide) (r_widen (by omega) (by omega) <| r_sub [2, 3, 4, 5, 6] rfl (t_L_law_2433 C hn hlt hX9 hb9 hret (by omega) (by omega) ih _ _ _ _ _ w))
                                                  · have w := w.2 c423
                                                    exact w.elim
                                              · have w := w.2 c419
                                                exact w.elim
                                            · have w := w.2 c401
                                              by_cases c424 : (sc x4.toNatClampNeg) &&& 63 = 20
                                              · have w := w.1 c424
                                                refine r_aload_n C 0 dL_law_33 rfl (r_iload C 4 dL_law_34 rfl (r_sld C hX9 hb9 i14 dL_law_36 (r_bipush C (v := 63) dL_law_37 (by decide) (r_iand C dL_law_39 (r_tsIn C 1428 c424 dL_law_40 (by decide) (by decide) rfl (by decide) ?_)))))
                                                obtain ⟨i425, w⟩ := w
                                                obtain ⟨i426, w⟩ := w
                                                obtain ⟨i427, w⟩ := w
                                                obtain ⟨i428, w⟩ := w
                                                obtain ⟨i429, w⟩ := w
                                                obtain ⟨i430, w⟩ := w
                                                obtain ⟨i431, w⟩ := w
                                                refine r_aload_n C 1 dL_law_1428 rfl (r_aload_n C 0 dL_law_1429 rfl (r_iload C 4 dL_law_1430 rfl (r_iconst C (v := 1) dL_law_1432 (by decide) (r_iadd C dL_law_1433 (r_sld C hX9 hb9 i425 dL_law_1434 (r_aload_n C 0 dL_law_1435 rfl (r_iload C 4 dL_law_1436 rfl (r_iconst C (v := 2) dL_law_1438 (by decide) (r_iadd C dL_law_1439 (r_sld C hX9 hb9 i426 dL_law_1440 (r_aload_n C 0 dL_law_1441 rfl (r_iload C 4 dL_law_1442 rfl (r_iconst C (v := 3) dL_law_1444 (by decide) (r_iadd C dL_law_1445 (r_sld C hX9 hb9 i427 dL_law_1446 (r_aload_n C 0 dL_law_1447 rfl (r_iload C 4 dL_law_1448 rfl (r_iconst C (v := 4) dL_law_1450 (by decide) (r_iadd C dL_law_1451 (r_sld C hX9 hb9 i428 dL_law_1452 (r_aload_n C 0 dL_law_1453 rfl (r_iload C 4 dL_law_1454 rfl (r_iconst C (v := 5) dL_law_1456 (by decide) (r_iadd C dL_law_1457 (r_sld C hX9 hb9 i429 dL_law_1458 (r_aload_n C 0 dL_law_1459 rfl (r_iload C 4 dL_law_1460 rfl (r_bipush C (v := 6) dL_law_1462 (by decide) (r_iadd C dL_law_1464 (r_sld C hX9 hb9 i430 dL_law_1465 (r_aload_n C 0 dL_law_1466 rfl (r_iload C 4 dL_law_1467 rfl (r_bipush C (v := 7) dL_law_1469 (by decide) (r_iadd C dL_law_1471 (r_sld C hX9 hb9 i431 dL_law_1472 (r_aload_n C 3 dL_law_1473 rfl (r_goi (r_runSW C dL_law_1474 (m_L_freeze hlt w) mt_L_freeze tw718 tw719 rfl (stk := []) rfl (Nat.le_of_ble_eq_true rfl) ⟨rfl, rfl, ⟨Nat.le_of_ble_eq_true rfl, Nat.le_of_ble_eq_true rfl⟩, ⟨by omega, by omega⟩⟩) ?_)))))))))))))))))))))))))))))))))))))
                                                intro r432 h434 hp
                                                obtain ⟨g433, rfl⟩ : ∃ z, z = h434 := ⟨_, rfl⟩
                                                have w := hp
                                                obtain ⟨i435, w⟩ := w
                                                obtain ⟨i436, w⟩ := w
                                                obtain ⟨i437, w⟩ := w
                                                obtain ⟨i438, w⟩ := w
                                                obtain ⟨i439, w⟩ := w
                                                obtain ⟨i440, w⟩ := w
                                                obtain ⟨i441, w⟩ := w
                                                obtain ⟨o443, e444, w⟩ := w
                                                refine r_istore C dL_law_1477 (nlt hn (by decide)) rfl (r_aload_n C 3 dL_law_1479 rfl (r_aload_n C 1 dL_law_1480 rfl (r_iload C 5 dL_law_1481 rfl (r_iconst C (v := 1) dL_law_1483 (by decide) (r_iadd C dL_law_1484 (r_sld C hX9 hb9 i435 dL_law_1485 (r_aload_n C 1 dL_law_1486 rfl (r_iload C 5 dL_law_1487 rfl (r_iconst C (v := 2) dL_law_1489 (by decide) (r_iadd C dL_law_1490 (r_sld C hX9 hb9 i436 dL_law_1491 (r_aload_n C 1 dL_law_1492 rfl (r_iload C 5 dL_law_1493 rfl (r_iconst C (v := 3) dL_law_1495 (by decide) (r_iadd C dL_law_1496 (r_sld C hX9 hb9 i437 dL_law_1497 (r_aload_n C 1 dL_law_1498 rfl (r_iload C 5 dL_law_1499 rfl (r_iconst C (v := 4) dL_law_1501 (by decide) (r_iadd C dL_law_1502 (r_sld C hX9 hb9 i438 dL_law_1503 (r_aload_n C 1 dL_law_1504 rfl (r_iload C 5 dL_law_1505 rfl (r_iconst C (v := 5) dL_law_1507 (by decide) (r_iadd C dL_law_1508 (r_sld C hX9 hb9 i439 dL_law_1509 (r_aload_n C 1 dL_law_1510 rfl (r_iload C 5 dL_law_1511 rfl (r_bipush C (v := 6) dL_law_1513 (by decide) (r_iadd C dL_law_1515 (r_sld C hX9 hb9 i440 dL_law_1516 (r_aload_n C 1 dL_law_1517 rfl (r_iload C 5 dL_law_1518 rfl (r_bipush C (v := 7) dL_law_1520 (by decide) (r_iadd C dL_law_1522 (r_sld C hX9 hb9 i441 dL_law_1523 (r_goi (r_runV C dL_law_1524 (m_X8_freeze e444 w) mt_X8_freeze tw1365 tw1366 tw1367 gcl_9.1 e444 rfl (stk := []) rfl (Nat.le_of_ble_eq_true rfl) ⟨rfl, rfl, ⟨Nat.le_of_ble_eq_true rfl, Nat.le_of_ble_eq_true rfl⟩, ⟨by omega, by omega⟩⟩) ?_)))))))))))))))))))))))))))))))))))))
                                                intro r442 h447 hp
                                                obtain ⟨o445, e9, w⟩ := hp
                                                obtain ⟨g446, rfl⟩ : ∃ z, z = h447 := ⟨_, rfl⟩
                                                have w := w _ e9
                                                obtain ⟨o449, e450, w⟩ := w
                                                refine r_istore C dL_law_1527 (nlt hn (by decide)) rfl (r_aload_n C 4 dL_law_1529 rfl (r_goi (r_runV C dL_law_1530 (m_X8_thrown e450 w) mt_X8_thrown tw1207 tw1208 tw1209 gcl_9.1 e450 rfl (stk := []) rfl (Nat.le_of_ble_eq_true rfl) ⟨rfl, rfl, ⟨Nat.le_of_ble_eq_true rfl, Nat.le_of_ble_eq_true rfl⟩, ⟨by omega, by omega⟩⟩) ?_))
                                                intro r448 h451 hp
                                                obtain ⟨e9, w⟩ := hp
                                                rw [e9]
                                                refine r_iload C 1 dL_law_1533 rfl (r_icmp_eq C 1540 dL_law_1535 (by decide) (fun c452 => ?_) (fun c452 => ?_))
                                                · have w := w.1 c452
                                                  refine r_iload C 1 dL_law_1540 rfl (r_if_ne C 1557 dL_law_1542 (by decide) (fun c453 => ?_) (fun c453 => ?_))
                                                  · have w := w.1 c453
                                                    exact r_goto C 2433 dL_law_1557 (by decide) (r_widen (by omega) (by omega) <| r_sub [2, 3, 4, 5, 6] rfl (t_L_law_2433 C hn hlt hX9 hb9 hret (by omega) (by omega) ih _ _ _ _ _ w))
                                                  · have w := w.2 c453
                                                    obtain ⟨o454, e455, w⟩ := w
                                                    refine r_aload_n C 5 dL_law_1545 rfl (r_iconst C (v := 0) dL_law_1546 (by decide) (r_lald10 C dL_law_1547 e455 (r_iload C 0 dL_law_1548 rfl (r_i2l C dL_law_1550 (r_lcmp C dL_law_1551 (r_if_eq C 1557 dL_law_1552 (by decide) (fun c456 => ?_) (fun c456 => ?_)))))))
                                                    · have w := w.1 c456
                                                      exact r_goto C 2433 dL_law_1557 (by decide) (r_widen (by omega) (by omega) <| r_sub [2, 3, 4, 5, 6] rfl (t_L_law_2433 C hn hlt hX9 hb9 hret (by omega) (by omega) ih _ _ _ _ _ w))
                                                    · have w := w.2 c456
                                                      exact w.elim
                                                · have w := w.2 c452
                                                  exact w.elim
                                              · have w := w.2 c424
                                                by_cases c457 : (sc x4.toNatClampNeg) &&& 63 = 21
                                                · have w := w.1 c457
                                                  refine r_aload_n C 0 dL_law_33 rfl (r_iload C 4 dL_law_34 rfl (r_sld C hX9 hb9 i14 dL_law_36 (r_bipush C (v := 63) dL_law_37 (by decide) (r_iand C dL_law_39 (r_tsIn C 1560 c457 dL_law_40 (by decide) (by decide) rfl (by decide) ?_)))))
                                                  obtain ⟨i458, w⟩ := w
                                                  refine r_aload_n C 1 dL_law_1560 rfl (r_aload_n C 0 dL_law_1561 rfl (r_iload C 4 dL_law_1562 rfl (r_iconst C (v := 1) dL_law_1564 (by decide) (r_iadd C dL_law_1565 (r_sld C hX9 hb9 i458 dL_law_1566 (r_aload_n C 3 dL_law_1567 rfl (r_goi (r_runSW C dL_law_1568 (m_L_withdraw hlt w) mt_L_withdraw tw881 tw882 rfl (stk := []) rfl (Nat.le_of_ble_eq_true rfl) ⟨rfl, rfl, ⟨Nat.le_of_ble_eq_true rfl, Nat.le_of_ble_eq_true rfl⟩, ⟨by omega, by omega⟩⟩) ?_)))))))
                                                  intro r459 h461 hp
                                                  obtain ⟨g460, rfl⟩ : ∃ z, z = h461 := ⟨_, rfl⟩
                                                  have w := hp
                                                  obtain ⟨i462, w⟩ := w
                                                  obtain ⟨o464, e465, w⟩ := w
                                                  refine r_istore C dL_law_1571 (nlt hn (by decide)) rfl (r_aload_n C 3 dL_law_1573 rfl (r_aload_n C 1 dL_law_1574 rfl (r_iload C 5 dL_law_1575 rfl (r_iconst C (v := 1) dL_law_1577 (by decide) (r_iadd C dL_law_1578 (r_sld C hX9 hb9 i462 dL_law_1579 (r_goi (r_runV C dL_law_1580 (m_X8_withdraw e465 w) mt_X8_withdraw tw1386 tw1387 tw1388 gcl_9.1 e465 rfl (stk := []) rfl (Nat.le_of_ble_eq_true rfl) ⟨rfl, rfl, ⟨Nat.le_of_ble_eq_true rfl, Nat.le_of_ble_eq_true rfl⟩, ⟨by omega, by omega⟩⟩) ?_)))))))
                                                  intro r463 h468 hp
                                                  obtain ⟨o466, e9, w⟩ := hp
                                                  obtain ⟨g467, rfl⟩ : ∃ z, z = h468 := ⟨_, rfl⟩
                                                  have w := w _ e9
                                                  obtain ⟨o470, e471, w⟩ := w
                                                  refine r_istore C dL_law_1583 (nlt hn (by decide)) rfl (r_aload_n C 4 dL_law_1585 rfl (r_goi (r_runV C dL_law_1586 (m_X8_thrown e471 w) mt_X8_thrown tw1207 tw1208 tw1209 gcl_9.1 e471 rfl (stk := []) rfl (Nat.le_of_ble_eq_true rfl) ⟨rfl, rfl, ⟨Nat.le_of_ble_eq_true rfl, Nat.le_of_ble_eq_true rfl⟩, ⟨by omega, by omega⟩⟩) ?_))
                                                  intro r469 h472 hp
                                                  obtain ⟨e9, w⟩ := hp
                                                  rw [e9]
                                                  refine r_iload C 1 dL_law_1589 rfl (r_icmp_eq C 1596 dL_law_1591 (by decide) (fun c473 => ?_) (fun c473 => ?_))
                                                  · have w := w.1 c473
                                                    refine r_iload C 1 dL_law_1596 rfl (r_if_ne C 1613 dL_law_1598 (by decide) (fun c474 => ?_) (fun c474 => ?_))
                                                    · have w := w.1 c474
                                                      exact r_goto C 2433 dL_law_1613 (by decide) (r_widen (by omega) (by omega) <| r_sub [2, 3, 4, 5, 6] rfl (t_L_law_2433 C hn hlt hX9 hb9 hret (by omega) (by omega) ih _ _ _ _ _ w))
                                                    · have w := w.2 c474
                                                      obtain ⟨o475, e476, w⟩ := w
                                                      refine r_aload_n C 5 dL_law_1601 rfl (r_iconst C (v := 0) dL_law_1602 (by decide) (r_lald10 C dL_law_1603 e476 (r_iload C 0 dL_law_1604 rfl (r_i2l C dL_law_1606 (r_lcmp C dL_law_1607 (r_if_eq C 1613 dL_law_1608 (by decide) (fun c477 => ?_) (fun c477 => ?_)))))))
                                                      · have w := w.1 c477
                                                        exact r_goto C 2433 dL_law_1613 (by decide) (r_widen (by omega) (by omega) <| r_sub [2, 3, 4, 5, 6] rfl (t_L_law_2433 C hn hlt hX9 hb9 hret (by omega) (by omega) ih _ _ _ _ _ w))
                                                      · have w := w.2 c477
                                                        exact w.elim
                                                  · have w := w.2 c473
                                                    exact w.elim
                                                · have w := w.2 c457
                                                  by_cases c478 : (sc x4.toNatClampNeg) &&& 63 = 22
                                                  · have w := w.1 c478
                                                    refine r_aload_n C 0 dL_law_33 rfl (r_iload C 4 dL_law_34 rfl (r_sld C hX9 hb9 i14 dL_law_36 (r_bipush C (v := 63) dL_law_37 (by decide) (r_iand C dL_law_39 (r_tsIn C 1616 c478 dL_law_40 (by decide) (by decide) rfl (by decide) ?_)))))
                                                    obtain ⟨i479, w⟩ := w
                                                    obtain ⟨i480, w⟩ := w
                                                    obtain ⟨i481, w⟩ := w
                                                    refine r_aload_n C 1 dL_law_1616 rfl (r_aload_n C 0 dL_law_1617 rfl (r_iload C 4 dL_law_1618 rfl (r_iconst C (v := 1) dL_law_1620 (by decide) (r_iadd C dL_law_1621 (r_sld C hX9 hb9 i479 dL_law_1622 (r_aload_n C 0 dL_law_1623 rfl (r_iload C 4 dL_law_1624 rfl (r_iconst C (v := 2) dL_law_1626 (by decide) (r_iadd C dL_law_1627 (r_sld C hX9 hb9 i480 dL_law_1628 (r_aload_n C 0 dL_law_1629 rfl (r_iload C 4 dL_law_1630 rfl (r_iconst C (v := 3) dL_law_1632 (by decide) (r_iadd C dL_law_1633 (r_sld C hX9 hb9 i481 dL_law_1634 (r_aload_n C 3 dL_law_1635 rfl (r_goi (r_runSW C dL_law_1636 (m_L_viewed hlt w) mt_L_viewed tw903 tw904 rfl (stk := []) rfl (Nat.le_of_ble_eq_true rfl) ⟨rfl, rfl, ⟨Nat.le_of_ble_eq_true rfl, Nat.le_of_ble_eq_true rfl⟩, ⟨by omega, by omega⟩⟩) ?_)))))))))))))))))
                                                    intro r482 h484 hp
                                                    obtain ⟨g483, rfl⟩ : ∃ z, z = h484 := ⟨_, rfl⟩
                                                    have w := hp
                                                    obtain ⟨i485, w⟩ := w
                                                    obtain ⟨i486, w⟩ := w
                                                    obtain ⟨i487, w⟩ := w
                                                    obtain ⟨o489, e490, w⟩ := w
                                                    refine r_istore C dL_law_1639 (nlt hn (by decide)) rfl (r_aload_n C 3 dL_law_1641 rfl (r_aload_n C 1 dL_law_1642 rfl (r_iload C 5 dL_law_1643 rfl (r_iconst C (v := 1) dL_law_1645 (by decide) (r_iadd C dL_law_1646 (r_sld C hX9 hb9 i485 dL_law_1647 (r_aload_n C 1 dL_law_1648 rfl (r_iload C 5 dL_law_1649 rfl (r_iconst C (v := 2) dL_law_1651 (by decide) (r_iadd C dL_law_1652 (r_sld C hX9 hb9 i486 dL_law_1653 (r_aload_n C 1 dL_law_1654 rfl (r_iload C 5 dL_law_1655 rfl (r_iconst C (v := 3) dL_law_1657 (by decide) (r_iadd C dL_law_1658 (r_sld C hX9 hb9 i487 dL_law_1659 (r_goi (r_runV C dL_law_1660 (m_X8_viewed e490 w) mt_X8_viewed tw1394 tw1395 tw1396 gcl_9.1 e490 rfl (stk := []) rfl (Nat.le_of_ble_eq_true rfl) ⟨rfl, rfl, ⟨Nat.le_of_ble_eq_true rfl, Nat.le_of_ble_eq_true rfl⟩, ⟨by omega, by omega⟩⟩) ?_)))))))))))))))))
                                                    intro r488 h493 hp
                                                    obtain ⟨o491, e9, w⟩ := hp
                                                    obtain ⟨g492, rfl⟩ : ∃ z, z = h493 := ⟨_, rfl⟩
                                                    have w := w _ e9
                                                    obtain ⟨o495, e496, w⟩ := w
                                                    refine r_istore C dL_law_1663 (nlt hn (by decide)) rfl (r_aload_n C 4 dL_law_1665 rfl (r_goi (r_runV C dL_law_1666 (m_X8_thrown e496 w) mt_X8_thrown tw1207 tw1208 tw1209 gcl_9.1 e496 rfl (stk := []) rfl (Nat.le_of_ble_eq_true rfl) ⟨rfl, rfl, ⟨Nat.le_of_ble_eq_true rfl, Nat.le_of_ble_eq_true rfl⟩, ⟨by omega, by omega⟩⟩) ?_))
                                                    intro r494 h497 hp
                                                    obtain ⟨e9, w⟩ := hp
                                                    rw [e9]
                                                    refine r_iload C 1 dL_law_1669 rfl (r_icmp_eq C 1676 dL_law_1671 (by decide) (fun c498 => ?_) (fun c498 => ?_))
                                                    · have w := w.1 c498
                                                      refine r_iload C 1 dL_law_1676 rfl (r_if_ne C 1693 dL_law_1678 (by decide) (fun c499 => ?_) (fun c499 => ?_))
                                                      · have w := w.1 c499
                                                        exact r_goto C 2433 dL_law_1693 (by decide) (r_widen (by omega) (by omega) <| r_sub [2, 3, 4, 5, 6] rfl (t_L_law_2433 C hn hlt hX9 hb9 hret (by omega) (by omega) ih _ _ _ _ _ w))
                                                      · have w := w.2 c499
                                                        obtain ⟨o500, e501, w⟩ := w
                                                        refine r_aload_n C 5 dL_law_1681 rfl (r_iconst C (v := 0) dL_law_1682 (by decide) (r_lald10 C dL_law_1683 e501 (r_iload C 0 dL_law_1684 rfl (r_i2l C dL_law_1686 (r_lcmp C dL_law_1687 (r_if_eq C 1693 dL_law_1688 (by decide) (fun c502 => ?_) (fun c502 => ?_)))))))
                                                        · have w := w.1 c502
                                                          exact r_goto C 2433 dL_law_1693 (by decide) (r_widen (by omega) (by omega) <| r_sub [2, 3, 4, 5, 6] rfl (t_L_law_2433 C hn hlt hX9 hb9 hret (by omega) (by omega) ih _ _ _ _ _ w))
                                                        · have w := w.2 c502
                                                          exact w.elim
                                                    · have w := w.2 c498
                                                      exact w.elim
                                                  · have w := w.2 c478
                                                    by_cases c503 : (sc x4.toNatClampNeg) &&& 63 = 23
                                                    · have w := w.1 c503
                                                      refine r_aload_n C 0 dL_law_33 rfl (r_iload C 4 dL_law_34 rfl (r_sld C hX9 hb9 i14 dL_law_36 (r_bipush C (v := 63) dL_law_37 (by decide) (r_iand C dL_law_39 (r_tsIn C 1696 c503 dL_law_40 (by decide) (by decide) rfl (by decide) ?_)))))
                                                      obtain ⟨i504, w⟩ := w
                                                      obtain ⟨i505, w⟩ := w
                                                      refine r_aload_n C 1 dL_law_1696 rfl (r_aload_n C 0 dL_law_1697 rfl (r_iload C 4 dL_law_1698 rfl (r_iconst C (v := 1) dL_law_1700 (by decide) (r_iadd C dL_law_1701 (r_sld C hX9 hb9 i504 dL_law_1702 (r_aload_n C 0 dL_law_1703 rfl (r_iload C 4 dL_law_1704 rfl (r_iconst C (v := 2) dL_law_1706 (by decide) (r_iadd C dL_law_1707 (r_sld C hX9 hb9 i505 dL_law_1708 (r_aload_n C 3 dL_law_1709 rfl (r_goi (r_runSW C dL_law_1710 (m_L_area hlt w) mt_L_area tw910 tw911 rfl (stk := []) rfl (Nat.le_of_ble_eq_true rfl) ⟨rfl, rfl, ⟨Nat.le_of_ble_eq_true rfl, Nat.le_of_ble_eq_true rfl⟩, ⟨by omega, by omega⟩⟩) ?_))))))))))))
                                                      intro r506 h508 hp
                                                      obtain ⟨g507, rfl⟩ : ∃ z, z = h508 := ⟨_, rfl⟩
                                                      have w := hp
                                                      obtain ⟨i509, w⟩ := w
                                                      obtain ⟨i510, w⟩ := w
                                                      obtain ⟨o512, e513, w⟩ := w
                                                      refine r_istore C dL_law_1713 (nlt hn (by decide)) rfl (r_aload_n C 3 dL_law_1715 rfl (r_aload_n C 1 dL_law_1716 rfl (r_iload C 5 dL_law_1717 rfl (r_iconst C (v := 1) dL_law_1719 (by decide) (r_iadd C dL_law_1720 (r_sld C hX9 hb9 i509 dL_law_1721 (r_aload_n C 1 dL_law_1722 rfl (r_iload C 5 dL_law_1723 rfl (r_iconst C (v := 2) dL_law_1725 (by decide) (r_iadd C dL_law_1726 (r_sld C hX9 hb9 i510 dL_law_1727 (r_goi (r_runV C dL_law_1728 (m_X8_area e513 w) mt_X8_area tw1398 tw1399 tw1400 gcl_9.1 e513 rfl (stk := []) rfl (Nat.le_of_ble_eq_true rfl) ⟨rfl, rfl, ⟨Nat.le_of_ble_eq_true rfl, Nat.le_of_ble_eq_true rfl⟩, ⟨by omega, by omega⟩⟩) ?_))))))))))))
                                                      intro r511 h516 hp
                                                      obtain ⟨o514, e9, w⟩ := hp
                                                      obtain ⟨g515, rfl⟩ : ∃ z, z = h516 := ⟨_, rfl⟩
                                                      have w := w _ e9
                                                      obtain ⟨o518, e519, w⟩ := w
                                                      refine r_istore C dL_law_1731 (nlt hn (by decide)) rfl (r_aload_n C 4 dL_law_1733 rfl (r_goi (r_runV C dL_law_1734 (m_X8_thrown e519 w) mt_X8_thrown tw1207 tw1208 tw1209 gcl_9.1 e519 rfl (stk := []) rfl (Nat.le_of_ble_eq_true rfl) ⟨rfl, rfl, ⟨Nat.le_of_ble_eq_true rfl, Nat.le_of_ble_eq_true rfl⟩, ⟨by omega, by omega⟩⟩) ?_))
                                                      intro r517 h520 hp
                                                      obtain ⟨e9, w⟩ := hp
                                                      rw [e9]
                                                      refine r_iload C 1 dL_law_1737 rfl (r_icmp_eq C 1744 dL_law_1739 (by decide) (fun c521 => ?_) (fun c521 => ?_))
                                                      · have w := w.1 c521
                                                        refine r_iload C 1 dL_law_1744 rfl (r_if_ne C 1761 dL_law_1746 (by decide) (fun c522 => ?_) (fun c522 => ?_))
                                                        · have w := w.1 c522
                                                          exact r_goto C 2433 dL_law_1761 (by decide) (r_widen (by omega) (by omega) <| r_sub [2, 3, 4, 5, 6] rfl (t_L_law_2433 C hn hlt hX9 hb9 hret (by omega) (by omega) ih _ _ _ _ _ w))
                                                        · have w := w.2 c522
                                                          obtain ⟨o523, e524, w⟩ := w
                                                          refine r_aload_n C 5 dL_law_1749 rfl (r_iconst C (v := 0) dL_law_1750 (by decide) (r_lald10 C dL_law_1751 e524 (r_iload C 0 dL_law_1752 rfl (r_i2l C dL_law_1754 (r_lcmp C dL_law_1755 (r_if_eq C 1761 dL_law_1756 (by decide) (fun c525 => ?_) (fun c525 => ?_)))))))
                                                          · have w := w.1 c525
                                                            exact r_goto C 2433 dL_law_1761 (by decide) (r_widen (by omega) (by omega) <| r_sub [2, 3, 4, 5, 6] rfl (t_L_law_2433 C hn hlt hX9 hb9 hret (by omega) (by omega) ih _ _ _ _ _ w))
                                                          · have w := w.2 c525
                                                            exact w.elim
                                                      · have w := w.2 c521
                                                        exact w.elim
                                                    · have w := w.2 c503
                                                      by_cases c526 : (sc x4.toNatClampNeg) &&& 63 = 24
                                                      · have w := w.1 c526
                                                        refine r_aload_n C 0 dL_law_33 rfl (r_iload C 4 dL_law_34 rfl (r_sld C hX9 hb9 i14 dL_law_36 (r_bipush C (v := 63) dL_law_37 (by decide) (r_iand C dL_law_39 (r_tsIn C 1764 c526 dL_law_40 (by decide) (by decide) rfl (by decide) ?_)))))
                                                        obtain ⟨i527, w⟩ := w
                                                        obtain ⟨i528, w⟩ := w
                                                        refine r_aload_n C 1 dL_law_1764 rfl (r_aload_n C 0 dL_law_1765 rfl (r_iload C 4 dL_law_1766 rfl (r_iconst C (v := 1) dL_law_1768 (by decide) (r_iadd C dL_law_1769 (r_sld C hX9 hb9 i527 dL_law_1770 (r_aload_n C 0 dL_law_1771 rfl (r_iload C 4 dL_law_1772 rfl (r_iconst C (v := 2) dL_law_1774 (by decide) (r_iadd C dL_law_1775 (r_sld C hX9 hb9 i528 dL_law_1776 (r_aload_n C 3 dL_law_1777 rfl (r_goi (r_runSW C dL_law_1778 (m_L_sell hlt w) mt_L_sell tw917 tw918 rfl (stk := []) rfl (Nat.le_of_ble_eq_true rfl) ⟨rfl, rfl, ⟨Nat.le_of_ble_eq_true rfl, Nat.le_of_ble_eq_true rfl⟩, ⟨by omega, by omega⟩⟩) ?_))))))))))))
                                                        intro r529 h531 hp
                                                        obtain ⟨g530, rfl⟩ : ∃ z, z = h531 := ⟨_, rfl⟩
                                                        have w := hp
                                                        obtain ⟨i532, w⟩ := w
                                                        obtain ⟨i533, w⟩ := w
                                                        obtain ⟨o535, e536, w⟩ := w
                                                        refine r_istore C dL_law_1781 (nlt hn (by decide)) rfl (r_aload_n C 3 dL_law_1783 rfl (r_aload_n C 1 dL_law_1784 rfl (r_iload C 5 dL_law_1785 rfl (r_iconst C (v := 1) dL_law_1787 (by decide) (r_iadd C dL_law_1788 (r_sld C hX9 hb9 i532 dL_law_1789 (r_aload_n C 1 dL_law_1790 rfl (r_iload C 5 dL_law_1791 rfl (r_iconst C (v := 2) dL_law_1793 (by decide) (r_iadd C dL_law_1794 (r_sld C hX9 hb9 i533 dL_law_1795 (r_goi (r_runV C dL_law_1796 (m_X8_sell e536 w) mt_X8_sell tw1402 tw1403 tw1404 gcl_9.1 e536 rfl (stk := []) rfl (Nat.le_of_ble_eq_true rfl) ⟨rfl, rfl, ⟨Nat.le_of_ble_eq_true rfl, Nat.le_of_ble_eq_true rfl⟩, ⟨by omega, by omega⟩⟩) ?_))))))))))))
                                                        intro r534 h539 hp
                                                        obtain ⟨o537, e9, w⟩ := hp
                                                        obtain ⟨g538, rfl⟩ : ∃ z, z = h539 := ⟨_, rfl⟩
                                                        have w := w _ e9
                                                        obtain ⟨o541, e542, w⟩ := w
                                                        refine r_istore C dL_law_1799 (nlt hn (by decide)) rfl (r_aload_n C 4 dL_law_1801 rfl (r_goi (r_runV C dL_law_1802 (m_X8_thrown e542 w) mt_X8_thrown tw1207 tw1208 tw1209 gcl_9.1 e542 rfl (stk := []) rfl (Nat.le_of_ble_eq_true rfl) ⟨rfl, rfl, ⟨Nat.le_of_ble_eq_true rfl, Nat.le_of_ble_eq_true rfl⟩, ⟨by omega, by omega⟩⟩) ?_))
                                                        intro r540 h543 hp
                                                        obtain ⟨e9, w⟩ := hp
                                                        rw [e9]
                                                        refine r_iload C 1 dL_law_1805 rfl (r_icmp_eq C 1812 dL_law_1807 (by decide) (fun c544 => ?_) (fun c544 => ?_))
                                                        · have w := w.1 c544
                                                          refine r_iload C 1 dL_law_1812 rfl (r_if_ne C 1829 dL_law_1814 (by decide) (fun c545 => ?_) (fun c545 => ?_))
                                                          · have w := w.1 c545
                                                            exact r_goto C 2433 dL_law_1829 (by decide) (r_widen (by omega) (by omega) <| r_sub [2, 3, 4, 5, 6] rfl (t_L_law_2433 C hn hlt hX9 hb9 hret (by omega) (by omega) ih _ _ _ _ _ w))
                                                          · have w := w.2 c545
                                                            obtain ⟨o546, e547, w⟩ := w
                                                            refine r_aload_n C 5 dL_law_1817 rfl (r_iconst C (v := 0) dL_law_1818 (by decide) (r_lald10 C dL_law_1819 e547 (r_iload C 0 dL_law_1820 rfl (r_i2l C dL_law_1822 (r_lcmp C dL_law_1823 (r_if_eq C 1829 dL_law_1824 (by decide) (fun c548 => ?_) (fun c548 => ?_)))))))
                                                            · have w := w.1 c548
                                                              exact r_goto C 2433 dL_law_1829 (by decide) (r_widen (by omega) (by omega) <| r_sub [2, 3, 4, 5, 6] rfl (t_L_law_2433 C hn hlt hX9 hb9 hret (by omega) (by omega) ih _ _ _ _ _ w))
                                                            · have w := w.2 c548
                                                              exact w.elim
                                                        · have w := w.2 c544
                                                          exact w.elim
                                                      · have w := w.2 c526
                                                        by_cases c549 : (sc x4.toNatClampNeg) &&& 63 = 25
                                                        · have w := w.1 c549
                                                          refine r_aload_n C 0 dL_law_33 rfl (r_iload C 4 dL_law_34 rfl (r_sld C hX9 hb9 i14 dL_law_36 (r_bipush C (v := 63) dL_law_37 (by decide) (r_iand C dL_law_39 (r_tsIn C 1832 c549 dL_law_40 (by decide) (by decide) rfl (by decide) ?_)))))
                                                          obtain ⟨i550, w⟩ := w
                                                          obtain ⟨i551, w⟩ := w
                                                          obtain ⟨i552, w⟩ := w
                                                          obtain ⟨i553, w⟩ := w
                                                          refine r_aload_n C 1 dL_law_1832 rfl (r_aload_n C 0 dL_law_1833 rfl (r_iload C 4 dL_law_1834 rfl (r_iconst C (v := 1) dL_law_1836 (by decide) (r_iadd C dL_law_1837 (r_sld C hX9 hb9 i550 dL_law_1838 (r_aload_n C 0 dL_law_1839 rfl (r_iload C 4 dL_law_1840 rfl (r_iconst C (v := 2) dL_law_1842 (by decide) (r_iadd C dL_law_1843 (r_sld C hX9 hb9 i551 dL_law_1844 (r_aload_n C 0 dL_law_1845 rfl (r_iload C 4 dL_law_1846 rfl (r_iconst C (v := 3) dL_law_1848 (by decide) (r_iadd C dL_law_1849 (r_sld C hX9 hb9 i552 dL_law_1850 (r_aload_n C 0 dL_law_1851 rfl (r_iload C 4 dL_law_1852 rfl (r_iconst C (v := 4) dL_law_1854 (by decide) (r_iadd C dL_law_1855 (r_sld C hX9 hb9 i553 dL_law_1856 (r_aload_n C 3 dL_law_1857 rfl (r_goi (r_runSW C dL_law_1858 (m_L_resell hlt w) mt_L_resell tw965 tw966 rfl (stk := []) rfl (Nat.le_of_ble_eq_true rfl) ⟨rfl, rfl, ⟨Nat.le_of_ble_eq_true rfl, Nat.le_of_ble_eq_true rfl⟩, ⟨by omega, by omega⟩⟩) ?_))))))))))))))))))))))
                                                          intro r554 h556 hp
                                                          obtain ⟨g555, rfl⟩ : ∃ z, z = h556 := ⟨_, rfl⟩
                                                          have w := hp
                                                          obtain ⟨i557, w⟩ := w
                                                          obtain ⟨i558, w⟩ := w
                                                          obtain ⟨i559, w⟩ := w
                                                          obtain ⟨i560, w⟩ := w
                                                          obtain ⟨o562, e563, w⟩ := w
                                                          refine r_istore C dL_law_1861 (nlt hn (by decide)) rfl (r_aload_n C 3 dL_law_1863 rfl (r_aload_n C 1 dL_law_1864 rfl (r_iload C 5 dL_law_1865 rfl (r_iconst C (v := 1) dL_law_1867 (by decide) (r_iadd C dL_law_1868 (r_sld C hX9 hb9 i557 dL_law_1869 (r_aload_n C 1 dL_law_1870 rfl (r_iload C 5 dL_law_1871 rfl (r_iconst C (v := 2) dL_law_1873 (by decide) (r_iadd C dL_law_1874 (r_sld C hX9 hb9 i558 dL_law_1875 (r_aload_n C 1 dL_law_1876 rfl (r_iload C 5 dL_law_1877 rfl (r_iconst C (v := 3) dL_law_1879 (by decide) (r_iadd C dL_law_1880 (r_sld C hX9 hb9 i559 dL_law_1881 (r_aload_n C 1 dL_law_1882 rfl (r_iload C 5 dL_law_1883 rfl (r_iconst C (v := 4) dL_law_1885 (by decide) (r_iadd C dL_law_1886 (r_sld C hX9 hb9 i560 dL_law_1887 (r_goi (r_runV C dL_law_1888 (m_X8_resell e563 w) mt_X8_resell tw1417 tw1418 tw1419 gcl_9.1 e563 rfl (stk := []) rfl (Nat.le_of_ble_eq_true rfl) ⟨rfl, rfl, ⟨Nat.le_of_ble_eq_true rfl, Nat.le_of_ble_eq_true rfl⟩, ⟨by omega, by omega⟩⟩) ?_))))))))))))))))))))))
                                                          intro r561 h566 hp
                                                          obtain ⟨o564, e9, w⟩ := hp
                                                          obtain ⟨g565, rfl⟩ : ∃ z, z = h566 := ⟨_, rfl⟩
                                                          have w := w _ e9
                                                          obtain ⟨o568, e569, w⟩ := w
                                                          refine r_istore C dL_law_1891 (nlt hn (by decide)) rfl (r_aload_n C 4 dL_law_1893 rfl (r_goi (r_runV C dL_law_1894 (m_X8_thrown e569 w) mt_X8_thrown tw1207 tw1208 tw1209 gcl_9.1 e569 rfl (stk := []) rfl (Nat.le_of_ble_eq_true rfl) ⟨rfl, rfl, ⟨Nat.le_of_ble_eq_true rfl, Nat.le_of_ble_eq_true rfl⟩, ⟨by omega, by omega⟩⟩) ?_))
                                                          intro r567 h570 hp
                                                          obtain ⟨e9, w⟩ := hp
                                                          rw [e9]
                                                          refine r_iload C 1 dL_law_1897 rfl (r_icmp_eq C 1904 dL_law_1899 (by decide) (fun c571 => ?_) (fun c571 => ?_))
                                                          · have w := w.1 c571
                                                            refine r_iload C 1 dL_law_1904 rfl (r_if_ne C 1921 dL_law_1906 (by decide) (fun c572 => ?_) (fun c572 => ?_))
                                                            · have w := w.1 c572
                                                              exact r_goto C 2433 dL_law_1921 (by decide) (r_widen (by omega) (by omega) <| r_sub [2, 3, 4, 5, 6] rfl (t_L_law_2433 C hn hlt hX9 hb9 hret (by omega) (by omega) ih _ _ _ _ _ w))
                                                            · have w := w.2 c572
                                                              obtain ⟨o573, e574, w⟩ := w
                                                              refine r_aload_n C 5 dL_law_1909 rfl (r_iconst C (v := 0) dL_law_1910 (by decide) (r_lald10 C dL_law_1911 e574 (r_iload C 0 dL_law_1912 rfl (r_i2l C dL_law_1914 (r_lcmp C dL_law_1915 (r_if_eq C 1921 dL_law_1916 (by decide) (fun c575 => ?_) (fun c575 => ?_)))))))
                                                              · have w := w.1 c575
                                                                exact r_goto C 2433 dL_law_1921 (by decide) (r_widen (by omega) (by omega) <| r_sub [2, 3, 4, 5, 6] rfl (t_L_law_2433 C hn hlt hX9 hb9 hret (by omega) (by omega) ih _ _ _ _ _ w))
                                                              · have w := w.2 c575
                                                                exact w.elim
                                                          · have w := w.2 c571
                                                            exact w.elim
                                                        · have w := w.2 c549
                                                          by_cases c576 : (sc x4.toNatClampNeg) &&& 63 = 26
                                                          · have w := w.1 c576
                                                            refine r_aload_n C 0 dL_law_33 rfl (r_iload C 4 dL_law_34 rfl (r_sld C hX9 hb9 i14 dL_law_36 (r_bipush C (v := 63) dL_law_37 (by decide) (r_iand C dL_law_39 (r_tsIn C 1924 c576 dL_law_40 (by decide) (by decide) rfl (by decide) ?_)))))
                                                            obtain ⟨i577, w⟩ := w
                                                            refine r_aload_n C 1 dL_law_1924 rfl (r_aload_n C 0 dL_law_1925 rfl (r_iload C 4 dL_law_1926 rfl (r_iconst C (v := 1) dL_law_1928 (by decide) (r_iadd C dL_law_1929 (r_sld C hX9 hb9 i577 dL_law_1930 (r_aload_n C 3 dL_law_1931 rfl (r_goi (r_runSW C dL_law_1932 (m_L_takeDown hlt w) mt_L_takeDown tw982 tw983 rfl (stk := []) rfl (Nat.le_of_ble_eq_true rfl) ⟨rfl, rfl, ⟨Nat.le_of_ble_eq_true rfl, Nat.le_of_ble_eq_true rfl⟩, ⟨by omega, by omega⟩⟩) ?_)))))))
                                                            intro r578 h580 hp
                                                            obtain ⟨g579, rfl⟩ : ∃ z, z = h580 := ⟨_, rfl⟩
                                                            have w := hp
                                                            obtain ⟨i581, w⟩ := w
                                                            obtain ⟨o583, e584, w⟩ := w
                                                            refine r_istore C dL_law_1935 (nlt hn (by decide)) rfl (r_aload_n C 3 dL_law_1937 rfl (r_aload_n C 1 dL_law_1938 rfl (r_iload C 5 dL_law_1939 rfl (r_iconst C (v := 1) dL_law_1941 (by decide) (r_iadd C dL_law_1942 (r_sld C hX9 hb9 i581 dL_law_1943 (r_goi (r_runV C dL_law_1944 (m_X8_takeDown e584 w) mt_X8_takeDown tw1425 tw1426 tw1427 gcl_9.1 e584 rfl (stk := []) rfl (Nat.le_of_ble_eq_true rfl) ⟨rfl, rfl, ⟨Nat.le_of_ble_eq_true rfl, Nat.le_of_ble_eq_true rfl⟩, ⟨by omega, by omega⟩⟩) ?_)))))))
                                                            intro r582 h587 hp
                                                            obtain ⟨o585, e9, w⟩ := hp
                                                            obtain ⟨g586, rfl⟩ : ∃ z, z = h587 := ⟨_, rfl⟩
                                                            have w := w _ e9
                                                            obtain ⟨o589, e590, w⟩ := w
                                                            refine r_istore C dL_law_1947 (nlt hn (by decide)) rfl (r_aload_n C 4 dL_law_1949 rfl (r_goi (r_runV C dL_law_1950 (m_X8_thrown e590 w) mt_X8_thrown tw1207 tw1208 tw1209 gcl_9.1 e590 rfl (stk := []) rfl (Nat.le_of_ble_eq_true rfl) ⟨rfl, rfl, ⟨Nat.le_of_ble_eq_true rfl, Nat.le_of_ble_eq_true rfl⟩, ⟨by omega, by omega⟩⟩) ?_))
                                                            intro r588 h591 hp
                                                            obtain ⟨e9, w⟩ := hp
                                                            rw [e9]
                                                            refine r_iload C 1 dL_law_1953 rfl (r_icmp_eq C 1960 dL_law_1955 (by decide) (fun c592 => ?_) (fun c592 => ?_))
                                                            · have w := w.1 c592
                                                              refine r_iload C 1 dL_law_1960 rfl (r_if_ne C 1977 dL_law_1962 (by decide) (fun c593 => ?_) (fun c593 => ?_))
                                                              · have w := w.1 c593
                                                                exact r_goto C 2433 dL_law_1977 (by decide) (r_widen (by omega) (by omega) <| r_sub [2, 3, 4, 5, 6] rfl (t_L_law_2433 C hn hlt hX9 hb9 hret (by omega) (by omega) ih _ _ _ _ _ w))
                                                              · have w := w.2 c593
                                                                obtain ⟨o594, e595, w⟩ := w
                                                                refine r_aload_n C 5 dL_law_1965 rfl (r_iconst C (v := 0) dL_law_1966 (by decide) (r_lald10 C dL_law_1967 e595 (r_iload C 0 dL_law_1968 rfl (r_i2l C dL_law_1970 (r_lcmp C dL_law_1971 (r_if_eq C 1977 dL_law_1972 (by decide) (fun c596 => ?_) (fun c596 => ?_)))))))
                                                                · have w := w.1 c596
                                                                  exact r_goto C 2433 dL_law_1977 (by decide) (r_widen (by omega) (by omega) <| r_sub [2, 3, 4, 5, 6] rfl (t_L_law_2433 C hn hlt hX9 hb9 hret (by omega) (by omega) ih _ _ _ _ _ w))
                                                                · have w := w.2 c596
                                                                  exact w.elim
                                                            · have w := w.2 c592
                                                              exact w.elim
                                                          · have w := w.2 c576
                                                            by_cases c597 : (sc x4.toNatClampNeg) &&& 63 = 27
                                                            · have w := w.1 c597
                                                              refine r_aload_n C 0 dL_law_33 rfl (r_iload C 4 dL_law_34 rfl (r_sld C hX9 hb9 i14 dL_law_36 (r_bipush C (v := 63) dL_law_37 (by decide) (r_iand C dL_law_39 (r_tsIn C 1980 c597 dL_law_40 (by decide) (by decide) rfl (by decide) ?_)))))
                                                              obtain ⟨i598, w⟩ := w
                                                              obtain ⟨i599, w⟩ := w
                                                              refine r_aload_n C 1 dL_law_1980 rfl (r_aload_n C 0 dL_law_1981 rfl (r_iload C 4 dL_law_1982 rfl (r_iconst C (v := 1) dL_law_1984 (by decide) (r_iadd C dL_law_1985 (r_sld C hX9 hb9 i598 dL_law_1986 (r_aload_n C 0 dL_law_1987 rfl (r_iload C 4 dL_law_1988 rfl (r_iconst C (v := 2) dL_law_1990 (by decide) (r_iadd C dL_law_1991 (r_sld C hX9 hb9 i599 dL_law_1992 (r_aload_n C 3 dL_law_1993 rfl (r_goi (r_runSW C dL_law_1994 (m_L_accept hlt w) mt_L_accept tw996 tw997 rfl (stk := []) rfl (Nat.le_of_ble_eq_true rfl) ⟨rfl, rfl, ⟨Nat.le_of_ble_eq_true rfl, Nat.le_of_ble_eq_true rfl⟩, ⟨by omega, by omega⟩⟩) ?_))))))))))))
                                                              intro r600 h602 hp
                                                              obtain ⟨g601, rfl⟩ : ∃ z, z = h602 := ⟨_, rfl⟩
                                                              have w := hp
                                                              obtain ⟨i603, w⟩ := w
                                                              obtain ⟨i604, w⟩ := w
                                                              obtain ⟨o606, e607, w⟩ := w
                                                              refine r_istore C dL_law_1997 (nlt hn (by decide)) rfl (r_aload_n C 3 dL_law_1999 rfl (r_aload_n C 1 dL_law_2000 rfl (r_iload C 5 dL_law_2001 rfl (r_iconst C (v := 1) dL_law_2003 (by decide) (r_iadd C dL_law_2004 (r_sld C hX9 hb9 i603 dL_law_2005 (r_aload_n C 1 dL_law_2006 rfl (r_iload C 5 dL_law_2007 rfl (r_iconst C (v := 2) dL_law_2009 (by decide) (r_iadd C dL_law_2010 (r_sld C hX9 hb9 i604 dL_law_2011 (r_goi (r_runV C dL_law_2012 (m_X8_accept e607 w) mt_X8_accept tw1429 tw1430 tw1431 gcl_9.1 e607 rfl (stk := []) rfl (Nat.le_of_ble_eq_true rfl) ⟨rfl, rfl, ⟨Nat.le_of_ble_eq_true rfl, Nat.le_of_ble_eq_true rfl⟩, ⟨by omega, by omega⟩⟩) ?_))))))))))))
                                                              intro r605 h610 hp
                                                              obtain ⟨o608, e9, w⟩ := hp
                                                              obtain ⟨g609, rfl⟩ : ∃ z, z = h610 := ⟨_, rfl⟩
                                                              have w := w _ e9
                                                              obtain ⟨o612, e613, w⟩ := w
                                                              refine r_istore C dL_law_2015 (nlt hn (by decide)) rfl (r_aload_n C 4 dL_law_2017 rfl (r_goi (r_runV C dL_law_2018 (m_X8_thrown e613 w) mt_X8_thrown tw1207 tw1208 tw1209 gcl_9.1 e613 rfl (stk := []) rfl (Nat.le_of_ble_eq_true rfl) ⟨rfl, rfl, ⟨Nat.le_of_ble_eq_true rfl, Nat.le_of_ble_eq_true rfl⟩, ⟨by omega, by omega⟩⟩) ?_))
                                                              intro r611 h614 hp
                                                              obtain ⟨e9, w⟩ := hp
                                                              rw [e9]
                                                              refine r_iload C 1 dL_law_2021 rfl (r_icmp_eq C 2028 dL_law_2023 (by decide) (fun c615 => ?_) (fun c615 => ?_))
                                                              · have w := w.1 c615
                                                                refine r_iload C 1 dL_law_2028 rfl (r_if_ne C 2045 dL_law_2030 (by decide) (fun c616 => ?_) (fun c616 => ?_))
                                                                · have w := w.1 c616
                                                                  exact r_goto C 2433 dL_law_2045 (by decide) (r_widen (by omega) (by omega) <| r_sub [2, 3, 4, 5, 6] rfl (t_L_law_2433 C hn hlt hX9 hb9 hret (by omega) (by omega) ih _ _ _ _ _ w))
                                                                · have w := w.2 c616
                                                                  obtain ⟨o617, e618, w⟩ := w
                                                                  refine r_aload_n C 5 dL_law_2033 rfl (r_iconst C (v := 0) dL_law_2034 (by decide) (r_lald10 C dL_law_2035 e618 (r_iload C 0 dL_law_2036 rfl (r_i2l C dL_law_2038 (r_lcmp C dL_law_2039 (r_if_eq C 2045 dL_law_2040 (by decide) (fun c619 => ?_) (fun c619 => ?_)))))))
                                                                  · have w := w.1 c619
                                                                    exact r_goto C 2433 dL_law_2045 (by decide) (r_widen (by omega) (by omega) <| r_sub [2, 3, 4, 5, 6] rfl (t_L_law_2433 C hn hlt hX9 hb9 hret (by omega) (by omega) ih _ _ _ _ _ w))
                                                                  · have w := w.2 c619
                                                                    exact w.elim
                                                              · have w := w.2 c615
                                                                exact w.elim
                                                            · have w := w.2 c597
                                                              by_cases c620 : (sc x4.toNatClampNeg) &&& 63 = 28
                                                              · have w := w.1 c620
                                                                refine r_aload_n C 0 dL_law_33 rfl (r_iload C 4 dL_law_34 rfl (r_sld C hX9 hb9 i14 dL_law_36 (r_bipush C (v := 63) dL_law_37 (by decide) (r_iand C dL_law_39 (r_tsIn C 2048 c620 dL_law_40 (by decide) (by decide) rfl (by decide) ?_)))))
                                                                obtain ⟨i621, w⟩ := w
                                                                obtain ⟨i622, w⟩ := w
                                                                refine r_aload_n C 1 dL_law_2048 rfl (r_aload_n C 0 dL_law_2049 rfl (r_iload C 4 dL_law_2050 rfl (r_iconst C (v := 1) dL_law_2052 (by decide) (r_iadd C dL_law_2053 (r_sld C hX9 hb9 i621 dL_law_2054 (r_aload_n C 0 dL_law_2055 rfl (r_iload C 4 dL_law_2056 rfl (r_iconst C (v := 2) dL_law_2058 (by decide) (r_iadd C dL_law_2059 (r_sld C hX9 hb9 i622 dL_law_2060 (r_aload_n C 3 dL_law_2061 rfl (r_goi (r_runSW C dL_law_2062 (m_L_giveBack hlt w) mt_L_giveBack tw1008 tw1009 rfl (stk := []) rfl (Nat.le_of_ble_eq_true rfl) ⟨rfl, rfl, ⟨Nat.le_of_ble_eq_true rfl, Nat.le_of_ble_eq_true rfl⟩, ⟨by omega, by omega⟩⟩) ?_))))))))))))
                                                                intro r623 h625 hp
                                                                obtain ⟨g624, rfl⟩ : ∃ z, z = h625 := ⟨_, rfl⟩
                                                                have w := hp
                                                                obtain ⟨i626, w⟩ := w
                                                                obtain ⟨i627, w⟩ := w
                                                                obtain ⟨o629, e630, w⟩ := w
                                                                refine r_istore C dL_law_2065 (nlt hn (by decide)) rfl (r_aload_n C 3 dL_law_2067 rfl (r_aload_n C 1 dL_law_2068 rfl (r_iload C 5 dL_law_2069 rfl (r_iconst C (v := 1) dL_law_2071 (by decide) (r_iadd C dL_law_2072 (r_sld C hX9 hb9 i626 dL_law_2073 (r_aload_n C 1 dL_law_2074 rfl (r_iload C 5 dL_law_2075 rfl (r_iconst C (v := 2) dL_law_2077 (by decide) (r_iadd C dL_law_2078 (r_sld C hX9 hb9 i627 dL_law_2079 (r_goi (r_runV C dL_law_2080 (m_X8_giveBack e630 w) mt_X8_giveBack tw1437 tw1438 tw1439 gcl_9.1 e630 rfl (stk := []) rfl (Nat.le_of_ble_eq_true rfl) ⟨rfl, rfl, ⟨Nat.le_of_ble_eq_true rfl, Nat.le_of_ble_eq_true rfl⟩, ⟨by omega, by omega⟩⟩) ?_))))))))))))
                                                                intro r628 h633 hp
                                                                obtain ⟨o631, e9, w⟩ := hp
                                                                obtain ⟨g632, rfl⟩ : ∃ z, z = h633 := ⟨_, rfl⟩
                                                                have w := w _ e9
                                                                obtain ⟨o635, e636, w⟩ := w
                                                                refine r_istore C dL_law_2083 (nlt hn (by decide)) rfl (r_aload_n C 4 dL_law_2085 rfl (r_goi (r_runV C dL_law_2086 (m_X8_thrown e636 w) mt_X8_thrown tw1207 tw1208 tw1209 gcl_9.1 e636 rfl (stk := []) rfl (Nat.le_of_ble_eq_true rfl) ⟨rfl, rfl, ⟨Nat.le_of_ble_eq_true rfl, Nat.le_of_ble_eq_true rfl⟩, ⟨by omega, by omega⟩⟩) ?_))
                                                                intro r634 h637 hp
                                                                obtain ⟨e9, w⟩ := hp
                                                                rw [e9]
                                                                refine r_iload C 1 dL_law_2089 rfl (r_icmp_eq C 2096 dL_law_2091 (by decide) (fun c638 => ?_) (fun c638 => ?_))
                                                                · have w := w.1 c638
                                                                  refine r_iload C 1 dL_law_2096 rfl (r_if_ne C 2113 dL_law_2098 (by decide) (fun c639 => ?_) (fun c639 => ?_))
                                                                  · have w := w.1 c639
                                                                    exact r_goto C 2433 dL_law_2113 (by decide) (r_widen (by omega) (by omega) <| r_sub [2, 3, 4, 5, 6] rfl (t_L_law_2433 C hn hlt hX9 hb9 hret (by omega) (by omega) ih _ _ _ _ _ w))
                                                                  · have w := w.2 c639
                                                                    obtain ⟨o640, e641, w⟩ := w
                                                                    refine r_aload_n C 5 dL_law_2101 rfl (r_iconst C (v := 0) dL_law_2102 (by decide) (r_lald10 C dL_law_2103 e641 (r_iload C 0 dL_law_2104 rfl (r_i2l C dL_law_2106 (r_lcmp C dL_law_2107 (r_if_eq C 2113 dL_law_2108 (by decide) (fun c642 => ?_) (fun c642 => ?_)))))))
                                                                    · have w := w.1 c642
                                                                      exact r_goto C 2433 dL_law_2113 (by decide) (r_widen (by omega) (by omega) <| r_sub [2, 3, 4, 5, 6] rfl (t_L_law_2433 C hn hlt hX9 hb9 hret (by omega) (by omega) ih _ _ _ _ _ w))
                                                                    · have w := w.2 c642
                                                                      exact w.elim
                                                                · have w := w.2 c638
                                                                  exact w.elim
                                                              · have w := w.2 c620
                                                                by_cases c643 : (sc x4.toNatClampNeg) &&& 63 = 29
                                                                · have w := w.1 c643
                                                                  refine r_aload_n C 0 dL_law_33 rfl (r_iload C 4 dL_law_34 rfl (r_sld C hX9 hb9 i14 dL_law_36 (r_bipush C (v := 63) dL_law_37 (by decide) (r_iand C dL_law_39 (r_tsIn C 2116 c643 dL_law_40 (by decide) (by decide) rfl (by decide) ?_)))))
                                                                  obtain ⟨i644, w⟩ := w
                                                                  obtain ⟨i645, w⟩ := w
                                                                  refine r_aload_n C 1 dL_law_2116 rfl (r_aload_n C 0 dL_law_2117 rfl (r_iload C 4 dL_law_2118 rfl (r_iconst C (v := 1) dL_law_2120 (by decide) (r_iadd C dL_law_2121 (r_sld C hX9 hb9 i644 dL_law_2122 (r_aload_n C 0 dL_law_2123 rfl (r_iload C 4 dL_law_2124 rfl (r_iconst C (v := 2) dL_law_2126 (by decide) (r_iadd C dL_law_2127 (r_sld C hX9 hb9 i645 dL_law_2128 (r_aload_n C 3 dL_law_2129 rfl (r_goi (r_runSW C dL_law_2130 (m_L_copyState hlt w) mt_L_copyState tw1015 tw1016 rfl (stk := []) rfl (Nat.le_of_ble_eq_true rfl) ⟨rfl, rfl, ⟨Nat.le_of_ble_eq_true rfl, Nat.le_of_ble_eq_true rfl⟩, ⟨by omega, by omega⟩⟩) ?_))))))))))))
                                                                  intro r646 h648 hp
                                                                  obtain ⟨g647, rfl⟩ : ∃ z, z = h648 := ⟨_, rfl⟩
                                                                  have w := hp
                                                                  obtain ⟨i649, w⟩ := w
                                                                  obtain ⟨i650, w⟩ := w
                                                                  obtain ⟨o652, e653, w⟩ := w
                                                                  refine r_istore C dL_law_2133 (nlt hn (by decide)) rfl (r_aload_n C 3 dL_law_2135 rfl (r_aload_n C 1 dL_law_2136 rfl (r_iload C 5 dL_law_2137 rfl (r_iconst C (v := 1) dL_law_2139 (by decide) (r_iadd C dL_law_2140 (r_sld C hX9 hb9 i649 dL_law_2141 (r_aload_n C 1 dL_law_2142 rfl (r_iload C 5 dL_law_2143 rfl (r_iconst C (v := 2) dL_law_2145 (by decide) (r_iadd C dL_law_2146 (r_sld C hX9 hb9 i650 dL_law_2147 (r_goi (r_runV C dL_law_2148 (m_X8_copyState e653 w) mt_X8_copyState tw1441 tw1442 tw1443 gcl_9.1 e653 rfl (stk := []) rfl (Nat.le_of_ble_eq_true rfl) ⟨rfl, rfl, ⟨Nat.le_of_ble_eq_true rfl, Nat.le_of_ble_eq_true rfl⟩, ⟨by omega, by omega⟩⟩) ?_))))))))))))
                                                                  intro r651 h656 hp
                                                                  obtain ⟨o654, e9, w⟩ := hp
                                                                  obtain ⟨g655, rfl⟩ : ∃ z, z = h656 := ⟨_, rfl⟩
                                                                  have w := w _ e9
                                                                  obtain ⟨o658, e659, w⟩ := w
                                                                  refine r_istore C dL_law_2151 (nlt hn (by decide)) rfl (r_aload_n C 4 dL_law_2153 rfl (r_goi (r_runV C dL_law_2154 (m_X8_thrown e659 w) mt_X8_thrown tw1207 tw1208 tw1209 gcl_9.1 e659 rfl (stk := []) rfl (Nat.le_of_ble_eq_true rfl) ⟨rfl, rfl, ⟨Nat.le_of_ble_eq_true rfl, Nat.le_of_ble_eq_true rfl⟩, ⟨by omega, by omega⟩⟩) ?_))
                                                                  intro r657 h660 hp
                                                                  obtain ⟨e9, w⟩ := hp
                                                                  rw [e9]
                                                                  refine r_iload C 1 dL_law_2157 rfl (r_icmp_eq C 2164 dL_law_2159 (by decide) (fun c661 => ?_) (fun c661 => ?_))
                                                                  · have w := w.1 c661
                                                                    refine r_iload C 1 dL_law_2164 rfl (r_if_ne C 2181 dL_law_2166 (by decide) (fun c662 => ?_) (fun c662 => ?_))
                                                                    · have w := w.1 c662
                                                                      exact r_goto C 2433 dL_law_2181 (by decide) (r_widen (by omega) (by omega) <| r_sub [2, 3, 4, 5, 6] rfl (t_L_law_2433 C hn hlt hX9 hb9 hret (by omega) (by omega) ih _ _ _ _ _ w))
                                                                    · have w := w.2 c662
                                                                      obtain ⟨o663, e664, w⟩ := w
                                                                      refine r_aload_n C 5 dL_law_2169 rfl (r_iconst C (v := 0) dL_law_2170 (by decide) (r_lald10 C dL_law_2171 e664 (r_iload C 0 dL_law_2172 rfl (r_i2l C dL_law_2174 (r_lcmp C dL_law_2175 (r_if_eq C 2181 dL_law_2176 (by decide) (fun c665 => ?_) (fun c665 => ?_)))))))
                                                                      · have w := w.1 c665
                                                                        exact r_goto C 2433 dL_law_2181 (by decide) (r_widen (by omega) (by omega) <| r_sub [2, 3, 4, 5, 6] rfl (t_L_law_2433 C hn hlt hX9 hb9 hret (by omega) (by omega) ih _ _ _ _ _ w))
                                                                      · have w := w.2 c665
                                                                        exact w.elim
                                                                  · have w := w.2 c661
                                                                    exact w.elim
                                                                · have w := w.2 c643
                                                                  by_cases c666 : (sc x4.toNatClampNeg) &&& 63 = 30
                                                                  · have w := w.1 c666
                                                                    refine r_aload_n C 0 dL_law_33 rfl (r_iload C 4 dL_law_34 rfl (r_sld C hX9 hb9 i14 dL_law_36 (r_bipush C (v := 63) dL_law_37 (by decide) (r_iand C dL_law_39 (r_tsIn C 2184 c666 dL_law_40 (by decide) (by decide) rfl (by decide) ?_)))))
                                                                    obtain ⟨i667, w⟩ := w
                                                                    obtain ⟨i668, w⟩ := w
                                                                    refine r_aload_n C 1 dL_law_2184 rfl (r_aload_n C 0 dL_law_2185 rfl (r_iload C 4 dL_law_2186 rfl (r_iconst C (v := 1) dL_law_2188 (by decide) (r_iadd C dL_law_2189 (r_sld C hX9 hb9 i667 dL_law_2190 (r_aload_n C 0 dL_law_2191 rfl (r_iload C 4 dL_law_2192 rfl (r_iconst C (v := 2) dL_law_2194 (by decide) (r_iadd C dL_law_2195 (r_sld C hX9 hb9 i668 dL_law_2196 (r_aload_n C 3 dL_law_2197 rfl (r_goi (r_runSW C dL_law_2198 (m_L_owner hlt w) mt_L_owner tw1022 tw1023 rfl (stk := []) rfl (Nat.le_of_ble_eq_true rfl) ⟨rfl, rfl, ⟨Nat.le_of_ble_eq_true rfl, Nat.le_of_ble_eq_true rfl⟩, ⟨by omega, by omega⟩⟩) ?_))))))))))))
                                                                    intro r669 h671 hp
                                                                    obtain ⟨g670, rfl⟩ : ∃ z, z = h671 := ⟨_, rfl⟩
                                                                    have w := hp
                                                                    obtain ⟨i672, w⟩ := w
                                                                    obtain ⟨i673, w⟩ := w
                                                                    obtain ⟨o675, e676, w⟩ := w
                                                                    refine r_istore C dL_law_2201 (nlt hn (by decide)) rfl (r_aload_n C 3 dL_law_2203 rfl (r_aload_n C 1 dL_law_2204 rfl (r_iload C 5 dL_law_2205 rfl (r_iconst C (v := 1) dL_law_2207 (by decide) (r_iadd C dL_law_2208 (r_sld C hX9 hb9 i672 dL_law_2209 (r_aload_n C 1 dL_law_2210 rfl (r_iload C 5 dL_law_2211 rfl (r_iconst C (v := 2) dL_law_2213 (by decide) (r_iadd C dL_law_2214 (r_sld C hX9 hb9 i673 dL_law_2215 (r_goi (r_runV C dL_law_2216 (m_X8_owner e676 w) mt_X8_owner tw1445 tw1446 tw1447 gcl_9.1 e676 rfl (stk := []) rfl (Nat.le_of_ble_eq_true rfl) ⟨rfl, rfl, ⟨Nat.le_of_ble_eq_true rfl, Nat.le_of_ble_eq_true rfl⟩, ⟨by omega, by omega⟩⟩) ?_))))))))))))
                                                                    intro r674 h679 hp
                                                                    obtain ⟨o677, e9, w⟩ := hp
                                                                    obtain ⟨g678, rfl⟩ : ∃ z, z = h679 := ⟨_, rfl⟩
                                                                    have w := w _ e9
                                                                    obtain ⟨o681, e682, w⟩ := w
                                                                    refine r_istore C dL_law_2219 (nlt hn (by decide)) rfl (r_aload_n C 4 dL_law_2221 rfl (r_goi (r_runV C dL_law_2222 (m_X8_thrown e682 w) mt_X8_thrown tw1207 tw1208 tw1209 gcl_9.1 e682 rfl (stk := []) rfl (Nat.le_of_ble_eq_true rfl) ⟨rfl, rfl, ⟨Nat.le_of_ble_eq_true rfl, Nat.le_of_ble_eq_true rfl⟩, ⟨by omega, by omega⟩⟩) ?_))
                                                                    intro r680 h683 hp
                                                                    obtain ⟨e9, w⟩ := hp
                                                                    rw [e9]
                                                                    refine r_iload C 1 dL_law_2225 rfl (r_icmp_eq C 2232 dL_law_2227 (by decide) (fun c684 => ?_) (fun c684 => ?_))
                                                                    · have w := w.1 c684
                                                                      refine r_iload C 1 dL_law_2232 rfl (r_if_ne C 2249 dL_law_2234 (by decide) (fun c685 => ?_) (fun c685 => ?_))
                                                                      · have w := w.1 c685
                                                                        exact r_goto C 2433 dL_law_2249 (by decide) (r_widen (by omega) (by omega) <| r_sub [2, 3, 4, 5, 6] rfl (t_L_law_2433 C hn hlt hX9 hb9 hret (by omega) (by omega) ih _ _ _ _ _ w))
                                                                      · have w := w.2 c685
                                                                        obtain ⟨o686, e687, w⟩ := w
                                                                        refine r_aload_n C 5 dL_law_2237 rfl (r_iconst C (v := 0) dL_law_2238 (by decide) (r_lald10 C dL_law_2239 e687 (r_iload C 0 dL_law_2240 rfl (r_i2l C dL_law_2242 (r_lcmp C dL_law_2243 (r_if_eq C 2249 dL_law_2244 (by decide) (fun c688 => ?_) (fun c688 => ?_)))))))
                                                                        · have w := w.1 c688
                                                                          exact r_goto C 2433 dL_law_2249 (by decide) (r_widen (by omega) (by omega) <| r_sub [2, 3, 4, 5, 6] rfl (t_L_law_2433 C hn hlt hX9 hb9 hret (by omega) (by omega) ih _ _ _ _ _ w))
                                                                        · have w := w.2 c688
                                                                          exact w.elim
                                                                    · have w := w.2 c684
                                                                      exact w.elim
                                                                  · have w := w.2 c666
                                                                    by_cases c689 : (sc x4.toNatClampNeg) &&& 63 = 31
                                                                    · have w := w.1 c689
                                                                      refine r_aload_n C 0 dL_law_33 rfl (r_iload C 4 dL_law_34 rfl (r_sld C hX9 hb9 i14 dL_law_36 (r_bipush C (v := 63) dL_law_37 (by decide) (r_iand C dL_law_39 (r_tsIn C 2252 c689 dL_law_40 (by decide) (by decide) rfl (by decide) ?_)))))
                                                                      obtain ⟨i690, w⟩ := w
                                                                      refine r_aload_n C 1 dL_law_2252 rfl (r_aload_n C 0 dL_law_2253 rfl (r_iload C 4 dL_law_2254 rfl (r_iconst C (v := 1) dL_law_2256 (by decide) (r_iadd C dL_law_2257 (r_sld C hX9 hb9 i690 dL_law_2258 (r_aload_n C 3 dL_law_2259 rfl (r_goi (r_runSW C dL_law_2260 (m_L_money hlt w) mt_L_money tw1029 tw1030 rfl (stk := []) rfl (Nat.le_of_ble_eq_true rfl) ⟨rfl, rfl, ⟨Nat.le_of_ble_eq_true rfl, Nat.le_of_ble_eq_true rfl⟩, ⟨by omega, by omega⟩⟩) ?_)))))))
                                                                      intro r691 h693 hp
                                                                      obtain ⟨g692, rfl⟩ : ∃ z, z = h693 := ⟨_, rfl⟩
                                                                      have w := hp
                                                                      obtain ⟨i694, w⟩ := w
                                                                      obtain ⟨o696, e697, w⟩ := w
                                                                      refine r_istore C dL_law_2263 (nlt hn (by decide)) rfl (r_aload_n C 3 dL_law_2265 rfl (r_aload_n C 1 dL_law_2266 rfl (r_iload C 5 dL_law_2267 rfl (r_iconst C (v := 1) dL_law_2269 (by decide) (r_iadd C dL_law_2270 (r_sld C hX9 hb9 i694 dL_law_2271 (r_goi (r_runV C dL_law_2272 (m_X8_money e697 w) mt_X8_money tw1449 tw1450 tw1451 gcl_9.1 e697 rfl (stk := []) rfl (Nat.le_of_ble_eq_true rfl) ⟨rfl, rfl, ⟨Nat.le_of_ble_eq_true rfl, Nat.le_of_ble_eq_true rfl⟩, ⟨by omega, by omega⟩⟩) ?_)))))))
                                                                      intro r695 h700 hp
                                                                      obtain ⟨o698, e9, w⟩ := hp
                                                                      obtain ⟨g699, rfl⟩ : ∃ z, z = h700 := ⟨_, rfl⟩
                                                                      have w := w _ e9
                                                                      obtain ⟨o702, e703, w⟩ := w
                                                                      refine r_istore C dL_law_2275 (nlt hn (by decide)) rfl (r_aload_n C 4 dL_law_2277 rfl (r_goi (r_runV C dL_law_2278 (m_X8_thrown e703 w) mt_X8_thrown tw1207 tw1208 tw1209 gcl_9.1 e703 rfl (stk := []) rfl (Nat.le_of_ble_eq_true rfl) ⟨rfl, rfl, ⟨Nat.le_of_ble_eq_true rfl, Nat.le_of_ble_eq_true rfl⟩, ⟨by omega, by omega⟩⟩) ?_))
                                                                      intro r701 h704 hp
                                                                      obtain ⟨e9, w⟩ := hp
                                                                      rw [e9]
                                                                      refine r_iload C 1 dL_law_2281 rfl (r_icmp_eq C 2288 dL_law_2283 (by decide) (fun c705 => ?_) (fun c705 => ?_))
                                                                      · have w := w.1 c705
                                                                        refine r_iload C 1 dL_law_2288 rfl (r_if_ne C 2305 dL_law_2290 (by decide) (fun c706 => ?_) (fun c706 => ?_))
                                                                        · have w := w.1 c706
                                                                          exact r_goto C 2433 dL_law_2305 (by decide) (r_widen (by omega) (by omega) <| r_sub [2, 3, 4, 5, 6] rfl (t_L_law_2433 C hn hlt hX9 hb9 hret (by omega) (by omega) ih _ _ _ _ _ w))
                                                                        · have w := w.2 c706
                                                                          obtain ⟨o707, e708, w⟩ := w
                                                                          refine r_aload_n C 5 dL_law_2293 rfl (r_iconst C (v := 0) dL_law_2294 (by decide) (r_lald10 C dL_law_2295 e708 (r_iload C 0 dL_law_2296 rfl (r_i2l C dL_law_2298 (r_lcmp C dL_law_2299 (r_if_eq C 2305 dL_law_2300 (by decide) (fun c709 => ?_) (fun c709 => ?_)))))))
                                                                          · have w := w.1 c709
                                                                            exact r_goto C 2433 dL_law_2305 (by decide) (r_widen (by omega) (by omega) <| r_sub [2, 3, 4, 5, 6] rfl (t_L_law_2433 C hn hlt hX9 hb9 hret (by omega) (by omega) ih _ _ _ _ _ w))
                                                                          · have w := w.2 c709
                                                                            exact w.elim
                                                                      · have w := w.2 c705
                                                                        exact w.elim
                                                                    · have w := w.2 c689
                                                                      by_cases c710 : (sc x4.toNatClampNeg) &&& 63 = 32
                                                                      · have w := w.1 c710
                                                                        refine r_aload_n C 0 dL_law_33 rfl (r_iload C 4 dL_law_34 rfl (r_sld C hX9 hb9 i14 dL_law_36 (r_bipush C (v := 63) dL_law_37 (by decide) (r_iand C dL_law_39 (r_tsIn C 2308 c710 dL_law_40 (by decide) (by decide) rfl (by decide) ?_)))))
                                                                        obtain ⟨i711, w⟩ := w
                                                                        refine r_aload_n C 1 dL_law_2308 rfl (r_aload_n C 0 dL_law_2309 rfl (r_iload C 4 dL_law_2310 rfl (r_iconst C (v := 1) dL_law_2312 (by decide) (r_iadd C dL_law_2313 (r_sld C hX9 hb9 i711 dL_law_2314 (r_aload_n C 3 dL_law_2315 rfl (r_goi (r_runSW C dL_law_2316 (m_L_moneyAnew hlt w) mt_L_moneyAnew tw1036 tw1037 rfl (stk := []) rfl (Nat.le_of_ble_eq_true rfl) ⟨rfl, rfl, ⟨Nat.le_of_ble_eq_true rfl, Nat.le_of_ble_eq_true rfl⟩, ⟨by omega, by omega⟩⟩) ?_)))))))
                                                                        intro r712 h714 hp
                                                                        obtain ⟨g713, rfl⟩ : ∃ z, z = h714 := ⟨_, rfl⟩
                                                                        have w := hp
                                                                        obtain ⟨i715, w⟩ := w
                                                                        obtain ⟨o717, e718, w⟩ := w
                                                                        refine r_istore C dL_law_2319 (nlt hn (by decide)) rfl (r_aload_n C 3 dL_law_2321 rfl (r_aload_n C 1 dL_law_2322 rfl (r_iload C 5 dL_law_2323 rfl (r_iconst C (v := 1) dL_law_2325 (by decide) (r_iadd C dL_law_2326 (r_sld C hX9 hb9 i715 dL_law_2327 (r_goi (r_runV C dL_law_2328 (m_X8_moneyAnew e718 w) mt_X8_moneyAnew tw1453 tw1454 tw1455 gcl_9.1 e718 rfl (stk := []) rfl (Nat.le_of_ble_eq_true rfl) ⟨rfl, rfl, ⟨Nat.le_of_ble_eq_true rfl, Nat.le_of_ble_eq_true rfl⟩, ⟨by omega, by omega⟩⟩) ?_)))))))
                                                                        intro r716 h721 hp
                                                                        obtain ⟨o719, e9, w⟩ := hp
                                                                        obtain ⟨g720, rfl⟩ : ∃ z, z = h721 := ⟨_, rfl⟩
                                                                        have w := w _ e9
                                                                        obtain ⟨o723, e724, w⟩ := w
                                                                        refine r_istore C dL_law_2331 (nlt hn (by decide)) rfl (r_aload_n C 4 dL_law_2333 rfl (r_goi (r_runV C dL_law_2334 (m_X8_thrown e724 w) mt_X8_thrown tw1207 tw1208 tw1209 gcl_9.1 e724 rfl (stk := []) rfl (Nat.le_of_ble_eq_true rfl) ⟨rfl, rfl, ⟨Nat.le_of_ble_eq_true rfl, Nat.le_of_ble_eq_true rfl⟩, ⟨by omega, by omega⟩⟩) ?_))
                                                                        intro r722 h725 hp
                                                                        obtain ⟨e9, w⟩ := hp
                                                                        rw [e9]
                                                                        refine r_iload C 1 dL_law_2337 rfl (r_icmp_eq C 2344 dL_law_2339 (by decide) (fun c726 => ?_) (fun c726 => ?_))
                                                                        · have w := w.1 c726
                                                                          refine r_iload C 1 dL_law_2344 rfl (r_if_ne C 2361 dL_law_2346 (by decide) (fun c727 => ?_) (fun c727 => ?_))
                                                                          · have w := w.1 c727
                                                                            exact r_goto C 2433 dL_law_2361 (by decide) (r_widen (by omega) (by omega) <| r_sub [2, 3, 4, 5, 6] rfl (t_L_law_2433 C hn hlt hX9 hb9 hret (by omega) (by omega) ih _ _ _ _ _ w))
                                                                          · have w := w.2 c727
                                                                            obtain ⟨o728, e729, w⟩ := w
                                                                            refine r_aload_n C 5 dL_law_2349 rfl (r_iconst C (v := 0) dL_law_2350 (by decide) (r_lald10 C dL_law_2351 e729 (r_iload C 0 dL_law_2352 rfl (r_i2l C dL_law_2354 (r_lcmp C dL_law_2355 (r_if_eq C 2361 dL_law_2356 (by decide) (fun c730 => ?_) (fun c730 => ?_)))))))
                                                                            · have w := w.1 c730
                                                                              exact r_goto C 2433 dL_law_2361 (by decide) (r_widen (by omega) (by omega) <| r_sub [2, 3, 4, 5, 6] rfl (t_L_law_2433 C hn hlt hX9 hb9 hret (by omega) (by omega) ih _ _ _ _ _ w))
                                                                            · have w := w.2 c730
                                                                              exact w.elim
                                                                        · have w := w.2 c726
                                                                          exact w.elim
                                                                      · have w := w.2 c710
                                                                        by_cases c731 : (sc x4.toNatClampNeg) &&& 63 = 33
                                                                        · have w := w.1 c731
                                                                          refine r_aload_n C 0 dL_law_33 rfl (r_iload C 4 dL_law_34 rfl (r_sld C hX9 hb9 i14 dL_law_36 (r_bipush C (v := 63) dL_law_37 (by decide) (r_iand C dL_law_39 (r_tsIn C 2364 c731 dL_law_40 (by decide) (by decide) rfl (by decide) ?_)))))
                                                                          obtain ⟨i732, w⟩ := w
                                                                          refine r_aload_n C 1 dL_law_2364 rfl (r_aload_n C 0 dL_law_2365 rfl (r_iload C 4 dL_law_2366 rfl (r_iconst C (v := 1) dL_law_2368 (by decide) (r_iadd C dL_law_2369 (r_sld C hX9 hb9 i732 dL_law_2370 (r_aload_n C 3 dL_law_2371 rfl (r_goi (r_runSW C dL_law_2372 (m_L_purse hlt w) mt_L_purse tw1046 tw1047 rfl (stk := []) rfl (Nat.le_of_ble_eq_true rfl) ⟨rfl, rfl, ⟨Nat.le_of_ble_eq_true rfl, Nat.le_of_ble_eq_true rfl⟩, ⟨by omega, by omega⟩⟩) ?_)))))))
                                                                          intro r733 h735 hp
                                                                          obtain ⟨g734, rfl⟩ : ∃ z, z = h735 := ⟨_, rfl⟩
                                                                          have w := hp
                                                                          obtain ⟨i736, w⟩ := w
                                                                          obtain ⟨o738, e739, w⟩ := w
                                                                          refine r_istore C dL_law_2375 (nlt hn (by decide)) rfl (r_aload_n C 3 dL_law_2377 rfl (r_aload_n C 1 dL_law_2378 rfl (r_iload C 5 dL_law_2379 rfl (r_iconst C (v := 1) dL_law_2381 (by decide) (r_iadd C dL_law_2382 (r_sld C hX9 hb9 i736 dL_law_2383 (r_goi (r_runV C dL_law_2384 (m_X8_purse e739 w) mt_X8_purse tw1457 tw1458 tw1459 gcl_9.1 e739 rfl (stk := []) rfl (Nat.le_of_ble_eq_true rfl) ⟨rfl, rfl, ⟨Nat.le_of_ble_eq_true rfl, Nat.le_of_ble_eq_true rfl⟩, ⟨by omega, by omega⟩⟩) ?_)))))))
                                                                          intro r737 h742 hp
                                                                          obtain ⟨o740, e9, w⟩ := hp
                                                                          obtain ⟨g741, rfl⟩ : ∃ z, z = h742 := ⟨_, rfl⟩
                                                                          have w := w _ e9
                                                                          obtain ⟨o744, e745, w⟩ := w
                                                                          refine r_istore C dL_law_2387 (nlt hn (by decide)) rfl (r_aload_n C 4 dL_law_2389 rfl (r_goi (r_runV C dL_law_2390 (m_X8_thrown e745 w) mt_X8_thrown tw1207 tw1208 tw1209 gcl_9.1 e745 rfl (stk := []) rfl (Nat.le_of_ble_eq_true rfl) ⟨rfl, rfl, ⟨Nat.le_of_ble_eq_true rfl, Nat.le_of_ble_eq_true rfl⟩, ⟨by omega, by omega⟩⟩) ?_))
                                                                          intro r743 h746 hp
                                                                          obtain ⟨e9, w⟩ := hp
                                                                          rw [e9]
                                                                          refine r_iload C 1 dL_law_2393 rfl (r_icmp_eq C 2400 dL_law_2395 (by decide) (fun c747 => ?_) (fun c747 => ?_))
                                                                          · have w := w.1 c747
                                                                            refine r_iload C 1 dL_law_2400 rfl (r_if_ne C 2417 dL_law_2402 (by decide) (fun c748 => ?_) (fun c748 => ?_))
                                                                            · have w := w.1 c748
                                                                              exact r_goto C 2433 dL_law_2417 (by decide) (r_widen (by omega) (by omega) <| r_sub [2, 3, 4, 5, 6] rfl (t_L_law_2433 C hn hlt hX9 hb9 hret (by omega) (by omega) ih _ _ _ _ _ w))
                                                                            · have w := w.2 c748
                                                                              obtain ⟨o749, e750, w⟩ := w
                                                                              refine r_aload_n C 5 dL_law_2405 rfl (r_iconst C (v := 0) dL_law_2406 (by decide) (r_lald10 C dL_law_2407 e750 (r_iload C 0 dL_law_2408 rfl (r_i2l C dL_law_2410 (r_lcmp C dL_law_2411 (r_if_eq C 2417 dL_law_2412 (by decide) (fun c751 => ?_) (fun c751 => ?_)))))))
                                                                              · have w := w.1 c751
                                                                                exact r_goto C 2433 dL_law_2417 (by decide) (r_widen (by omega) (by omega) <| r_sub [2, 3, 4, 5, 6] rfl (t_L_law_2433 C hn hlt hX9 hb9 hret (by omega) (by omega) ih _ _ _ _ _ w))
                                                                              · have w := w.2 c751
                                                                                exact w.elim
                                                                          · have w := w.2 c747
                                                                            exact w.elim
                                                                        · have w := w.2 c731
                                                                          by_cases c752 : (sc x4.toNatClampNeg) &&& 63 = 34
                                                                          · have w := w.1 c752
                                                                            refine r_aload_n C 0 dL_law_33 rfl (r_iload C 4 dL_law_34 rfl (r_sld C hX9 hb9 i14 dL_law_36 (r_bipush C (v := 63) dL_law_37 (by decide) (r_iand C dL_law_39 (r_tsIn C 2420 c752 dL_law_40 (by decide) (by decide) rfl (by decide) ?_)))))
                                                                            obtain ⟨o754, e755, w⟩ := w
                                                                            refine r_aload_n C 1 dL_law_2420 rfl (r_goi (r_runV C dL_law_2421 (m_X7_house e755 w) mt_X7_house tw213 tw214 tw215 gcl_8.1 e755 rfl (stk := []) rfl (Nat.le_of_ble_eq_true rfl) ⟨rfl, rfl, ⟨Nat.le_of_ble_eq_true rfl, Nat.le_of_ble_eq_true rfl⟩, ⟨by omega, by omega⟩⟩) ?_)
                                                                            intro r753 h756 hp
                                                                            obtain ⟨e9, w⟩ := hp
                                                                            rw [e9]
                                                                            obtain ⟨o758, e759, w⟩ := w
                                                                            refine r_aload_n C 2 dL_law_2424 rfl (r_goi (r_runV C dL_law_2425 (m_X8_house e759 w) mt_X8_house tw1461 tw1462 tw1463 gcl_9.1 e759 rfl (stk := [.int r753]) rfl (Nat.le_of_ble_eq_true rfl) ⟨rfl, rfl, ⟨Nat.le_of_ble_eq_true rfl, Nat.le_of_ble_eq_true rfl⟩, ⟨by omega, by omega⟩⟩) ?_)
                                                                            intro r757 h762 hp
                                                                            obtain ⟨o760, e9, w⟩ := hp
                                                                            obtain ⟨g761, rfl⟩ : ∃ z, z = h762 := ⟨_, rfl⟩
                                                                            have w := w _ e9
                                                                            refine r_icmp_eq C 2433 dL_law_2428 (by decide) (fun c763 => ?_) (fun c763 => ?_)
                                                                            · have w := w.1 c763
                                                                              exact r_widen (by omega) (by omega) <| r_sub [0, 1, 2, 3, 4] rfl (t_L_law_2433 C hn hlt hX9 hb9 hret (by omega) (by omega) ih _ _ _ _ _ w)
                                                                            · have w := w.2 c763
                                                                              exact w.elim
                                                                          · have w := w.2 c752
                                                                            refine r_aload_n C 0 dL_law_33 rfl (r_iload C 4 dL_law_34 rfl (r_sld C hX9 hb9 i14 dL_law_36 (r_bipush C (v := 63) dL_law_37 (by decide) (r_iand C dL_law_39 (r_tsOut C 2433 dL_law_40 (ts_out (lo := 0) (hi := 34) (fun v9 h9 h8 => by rcases (show v9 = 0 ∨ v9 = 1 ∨ v9 = 2 ∨ v9 = 3 ∨ v9 = 4 ∨ v9 = 5 ∨ v9 = 6 ∨ v9 = 7 ∨ v9 = 8 ∨ v9 = 9 ∨ v9 = 10 ∨ v9 = 11 ∨ v9 = 12 ∨ v9 = 13 ∨ v9 = 14 ∨ v9 = 15 ∨ v9 = 16 ∨ v9 = 17 ∨ v9 = 18 ∨ v9 = 19 ∨ v9 = 20 ∨ v9 = 21 ∨ v9 = 22 ∨ v9 = 23 ∨ v9 = 24 ∨ v9 = 25 ∨ v9 = 26 ∨ v9 = 27 ∨ v9 = 28 ∨ v9 = 29 ∨ v9 = 30 ∨ v9 = 31 ∨ v9 = 32 ∨ v9 = 33 ∨ v9 = 34 by omega) with rfl | rfl | rfl | rfl | rfl | rfl | rfl | rfl | rfl | rfl | rfl | rfl | rfl | rfl | rfl | rfl | rfl | rfl | rfl | rfl | rfl | rfl | rfl | rfl | rfl | rfl | rfl | rfl | rfl | rfl | rfl | rfl | rfl | rfl | rfl <;> first | exact c15 | exact c46 | exact c73 | exact c98 | exact c103 | exact c128 | exact c151 | exact c174 | exact c195 | exact c216 | exact c228 | exact c249 | exact c270 | exact c282 | exact c294 | exact c315 | exact c336 | exact c357 | exact c378 | exact c401 | exact c424 | exact c457 | exact c478 | exact c503 | exact c526 | exact c549 | exact c576 | exact c597 | exact c620 | exact c643 | exact c666 | exact c689 | exact c710 | exact c731 | exact c752)) (by decide) ?_)))))
                                                                            exact r_widen (by omega) (by omega) <| r_sub [0, 1, 2, 3, 4] rfl (t_L_law_2433 C hn hlt hX9 hb9 hret (by omega) (by omega) ih _ _ _ _ _ w)
set_option maxHeartbeats 16000000 in
set_option maxRecDepth 100000 in
theorem m_law {X : gCx} {b L : Nat} {sc : Nat → Int32} (C : gC X cL_law RL (some .boolean) room_1) (hn : xn X = 8) (hlt : (yl (xY X)).stackTraces = false) (hX9 : va_X b L sc (xs X) (xs X).heap) (hb9 : b < (xs X).heap.size ∧ b < yB0 (xY X)) (hret : ∀ (mc ms : Nat) (loc : List (Nat × Value)) (g : GH), mc ≤ room_1.cells ∧ ms ≤ room_1.slots → gX X mc ms 2440 loc [.int 1] g) {g : GH} (w : wp_law sc L g) : gX X 0 0 0 [(0, .ref b)] [] g := by
  unfold wp_law at w
  refine r_newR (pc5 := 4) C dL_law_0 tw85 tw87 dL_law_4 (Nat.le_of_ble_eq_true rfl) ⟨Nat.le_of_ble_eq_true rfl, Nat.le_of_ble_eq_true rfl⟩ ⟨Nat.le_of_ble_eq_true rfl, Nat.le_of_ble_eq_true rfl⟩ (fun a H locs ls mc ms hl k9 => lv_dup C.1 C.2.1 dL_law_3 rfl k9) (fun a1 n4 => ?_)
  obtain ⟨g2, e3⟩ : ∃ z, z = hu (hu (hu (hu (hu (hu (hu g (a1 + 1) (0, fo0)) (a1 + 2) (0, fo0)) (a1 + 3) (0, fo0)) (a1 + 4) (0, fo0)) (a1 + 5) (2, fo0)) (a1 + 13) (2, fo0)) a1 (8, (croom0 a1)) := ⟨_, rfl⟩
  have w := w a1 n4 g2 e3
  refine gX_eq e3.symm ?_
  refine r_astore_n C dL_law_7 (nlt hn (by decide)) rfl (r_newM (pc5 := 12) C dL_law_8 tw1053 tw1055 dL_law_12 (Nat.le_of_ble_eq_true rfl) ⟨Nat.le_of_ble_eq_true rfl, Nat.le_of_ble_eq_true rfl⟩ ⟨Nat.le_of_ble_eq_true rfl, Nat.le_of_ble_eq_true rfl⟩ (fun a H locs ls mc ms hl k9 => lv_dup C.1 C.2.1 dL_law_11 rfl k9) (fun a5 n8 => ?_))
  obtain ⟨g6, e7⟩ : ∃ z, z = hu g2 a5 (9, fo0) := ⟨_, rfl⟩
  have w := w a5 n8 g6 e7
  refine gX_eq e7.symm ?_
  refine r_astore_n C dL_law_15 (nlt hn (by decide)) rfl (r_iconst C (v := 1) dL_law_16 (by decide) (r_newJ C dL_law_17 rfl tw162 ⟨Nat.le_of_ble_eq_true rfl, Nat.le_of_ble_eq_true rfl⟩ (fun a9 n12 => ?_)))
  obtain ⟨g10, e11⟩ : ∃ z, z = hu g6 a9 (10, fo0) := ⟨_, rfl⟩
  have w := w a9 n12 g10 e11
  refine gX_eq e11.symm ?_
  exact r_astore_n C dL_law_19 (nlt hn (by decide)) rfl (r_iconst C (v := 0) dL_law_20 (by decide) (r_istore C dL_law_21 (nlt hn (by decide)) rfl (r_sub [4, 3, 2, 1, 0] rfl (t_L_law_23 C hn hlt hX9 hb9 hret 513 _ _ _ _ _ w _ _ (Nat.le_of_ble_eq_true rfl) (Nat.le_of_ble_eq_true rfl)))))

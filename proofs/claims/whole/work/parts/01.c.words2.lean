theorem tw_908 : (Jvm.Cond.methodLink "BetweenCountsModel" (168 : Nat) ({ cls := "BetweenCountsModel", name := "divisor", desc := "(JJ)J" } : Jvm.MethodName)) ∈ TS := TS_in (List.mem_of_getElem? (i := 908) (by decide +kernel)) rfl
theorem tw_909 : (Jvm.Cond.static ({ cls := "BetweenCountsModel", name := "divisor", desc := "(JJ)J" } : Jvm.MethodName)) ∈ TS := TS_in (List.mem_of_getElem? (i := 909) (by decide +kernel)) rfl
set_option maxRecDepth 20000 in
theorem tw_910 : (Jvm.Cond.code ({ cls := "BetweenCountsModel", name := "divisor", desc := "(JJ)J" } : Jvm.MethodName) prog_10_method_27_code (10 : Nat) (Option.some Jvm.ClassFile.FieldType.long)) ∈ TS := TS_in (List.mem_of_getElem? (i := 910) rfl) rfl
theorem tw_911 : (Jvm.Cond.methodLink "BetweenCountsModel" (172 : Nat) ({ cls := "BetweenCountsModel", name := "rest", desc := "([JJ)J" } : Jvm.MethodName)) ∈ TS := TS_in (List.mem_of_getElem? (i := 911) (by decide +kernel)) rfl
theorem tw_913 : (Jvm.Cond.instanceMethod ({ cls := "BetweenCountsModel", name := "rest", desc := "([JJ)J" } : Jvm.MethodName)) ∈ TS := TS_in (List.mem_of_getElem? (i := 913) (by decide +kernel)) rfl
set_option maxRecDepth 20000 in
theorem tw_914 : (Jvm.Cond.code ({ cls := "BetweenCountsModel", name := "rest", desc := "([JJ)J" } : Jvm.MethodName) prog_10_method_26_code (4 : Nat) (Option.some Jvm.ClassFile.FieldType.long)) ∈ TS := TS_in (List.mem_of_getElem? (i := 914) rfl) rfl
theorem tw_915 : (Jvm.Cond.methodLink "BetweenCountsModel" (157 : Nat) ({ cls := "BetweenCountsModel", name := "copy", desc := "([J[J)V" } : Jvm.MethodName)) ∈ TS := TS_in (List.mem_of_getElem? (i := 915) (by decide +kernel)) rfl
theorem tw_917 : (Jvm.Cond.instanceMethod ({ cls := "BetweenCountsModel", name := "copy", desc := "([J[J)V" } : Jvm.MethodName)) ∈ TS := TS_in (List.mem_of_getElem? (i := 917) (by decide +kernel)) rfl
set_option maxRecDepth 20000 in
theorem tw_918 : (Jvm.Cond.code ({ cls := "BetweenCountsModel", name := "copy", desc := "([J[J)V" } : Jvm.MethodName) prog_10_method_19_code (4 : Nat) (Option.none : Option Jvm.ClassFile.FieldType)) ∈ TS := TS_in (List.mem_of_getElem? (i := 918) rfl) rfl
theorem tw_919 : (Jvm.Cond.methodLink "BetweenCountsModel" (161 : Nat) ({ cls := "BetweenCountsModel", name := "by", desc := "([JJ)J" } : Jvm.MethodName)) ∈ TS := TS_in (List.mem_of_getElem? (i := 919) (by decide +kernel)) rfl
theorem tw_921 : (Jvm.Cond.instanceMethod ({ cls := "BetweenCountsModel", name := "by", desc := "([JJ)J" } : Jvm.MethodName)) ∈ TS := TS_in (List.mem_of_getElem? (i := 921) (by decide +kernel)) rfl
set_option maxRecDepth 20000 in
theorem tw_922 : (Jvm.Cond.code ({ cls := "BetweenCountsModel", name := "by", desc := "([JJ)J" } : Jvm.MethodName) prog_10_method_25_code (9 : Nat) (Option.some Jvm.ClassFile.FieldType.long)) ∈ TS := TS_in (List.mem_of_getElem? (i := 922) rfl) rfl
theorem tw_923 : (Jvm.Cond.methodLink "BetweenCountsModel" (175 : Nat) ({ cls := "BetweenCountsModel", name := "times", desc := "([JJ)V" } : Jvm.MethodName)) ∈ TS := TS_in (List.mem_of_getElem? (i := 923) (by decide +kernel)) rfl
theorem tw_925 : (Jvm.Cond.instanceMethod ({ cls := "BetweenCountsModel", name := "times", desc := "([JJ)V" } : Jvm.MethodName)) ∈ TS := TS_in (List.mem_of_getElem? (i := 925) (by decide +kernel)) rfl
set_option maxRecDepth 20000 in
theorem tw_926 : (Jvm.Cond.code ({ cls := "BetweenCountsModel", name := "times", desc := "([JJ)V" } : Jvm.MethodName) prog_10_method_20_code (9 : Nat) (Option.none : Option Jvm.ClassFile.FieldType)) ∈ TS := TS_in (List.mem_of_getElem? (i := 926) rfl) rfl
theorem tw_927 : (Jvm.Cond.methodLink "BetweenCountsModel" (178 : Nat) ({ cls := "BetweenCountsModel", name := "add", desc := "([J[J)V" } : Jvm.MethodName)) ∈ TS := TS_in (List.mem_of_getElem? (i := 927) (by decide +kernel)) rfl
theorem tw_929 : (Jvm.Cond.instanceMethod ({ cls := "BetweenCountsModel", name := "add", desc := "([J[J)V" } : Jvm.MethodName)) ∈ TS := TS_in (List.mem_of_getElem? (i := 929) (by decide +kernel)) rfl
set_option maxRecDepth 20000 in
theorem tw_930 : (Jvm.Cond.code ({ cls := "BetweenCountsModel", name := "add", desc := "([J[J)V" } : Jvm.MethodName) prog_10_method_21_code (8 : Nat) (Option.none : Option Jvm.ClassFile.FieldType)) ∈ TS := TS_in (List.mem_of_getElem? (i := 930) rfl) rfl
theorem tw_931 : (Jvm.Cond.methodLink "BetweenCountsModel" (181 : Nat) ({ cls := "BetweenCountsModel", name := "isZero", desc := "([J)Z" } : Jvm.MethodName)) ∈ TS := TS_in (List.mem_of_getElem? (i := 931) (by decide +kernel)) rfl
theorem tw_933 : (Jvm.Cond.instanceMethod ({ cls := "BetweenCountsModel", name := "isZero", desc := "([J)Z" } : Jvm.MethodName)) ∈ TS := TS_in (List.mem_of_getElem? (i := 933) (by decide +kernel)) rfl
set_option maxRecDepth 20000 in
theorem tw_934 : (Jvm.Cond.code ({ cls := "BetweenCountsModel", name := "isZero", desc := "([J)Z" } : Jvm.MethodName) prog_10_method_24_code (4 : Nat) (Option.some Jvm.ClassFile.FieldType.boolean)) ∈ TS := TS_in (List.mem_of_getElem? (i := 934) rfl) rfl
theorem tw_935 : (Jvm.Cond.methodLink "BetweenCountsModel" (219 : Nat) ({ cls := "BetweenCountsModel", name := "told", desc := "(II)J" } : Jvm.MethodName)) ∈ TS := TS_in (List.mem_of_getElem? (i := 935) (by decide +kernel)) rfl
theorem tw_937 : (Jvm.Cond.instanceMethod ({ cls := "BetweenCountsModel", name := "told", desc := "(II)J" } : Jvm.MethodName)) ∈ TS := TS_in (List.mem_of_getElem? (i := 937) (by decide +kernel)) rfl
set_option maxRecDepth 20000 in
theorem tw_938 : (Jvm.Cond.code ({ cls := "BetweenCountsModel", name := "told", desc := "(II)J" } : Jvm.MethodName) prog_10_method_33_code (3 : Nat) (Option.some Jvm.ClassFile.FieldType.long)) ∈ TS := TS_in (List.mem_of_getElem? (i := 938) rfl) rfl
theorem tw_939 : (Jvm.Cond.methodLink "BetweenCountsLaw" (54 : Nat) ({ cls := "BetweenCountsModel", name := "arcBetween", desc := "(III)J" } : Jvm.MethodName)) ∈ TS := TS_in (List.mem_of_getElem? (i := 939) (by decide +kernel)) rfl
theorem tw_940 : (Jvm.Cond.instanceMethod ({ cls := "BetweenCountsModel", name := "arcBetween", desc := "(III)J" } : Jvm.MethodName)) ∈ TS := TS_in (List.mem_of_getElem? (i := 940) (by decide +kernel)) rfl
theorem tw_941 : (Jvm.Cond.selects "BetweenCountsModel" ({ cls := "BetweenCountsModel", name := "arcBetween", desc := "(III)J" } : Jvm.MethodName) ({ cls := "BetweenCountsModel", name := "arcBetween", desc := "(III)J" } : Jvm.MethodName)) ∈ TS := TS_in (List.mem_of_getElem? (i := 941) (by decide +kernel)) rfl
set_option maxRecDepth 20000 in
theorem tw_942 : (Jvm.Cond.code ({ cls := "BetweenCountsModel", name := "arcBetween", desc := "(III)J" } : Jvm.MethodName) prog_10_method_38_code (6 : Nat) (Option.some Jvm.ClassFile.FieldType.long)) ∈ TS := TS_in (List.mem_of_getElem? (i := 942) rfl) rfl
theorem tw_943 : (Jvm.Cond.methodLink "BetweenCountsLaw" (59 : Nat) ({ cls := "BetweenCountsModel", name := "group", desc := "(II)J" } : Jvm.MethodName)) ∈ TS := TS_in (List.mem_of_getElem? (i := 943) (by decide +kernel)) rfl
theorem tw_944 : (Jvm.Cond.instanceMethod ({ cls := "BetweenCountsModel", name := "group", desc := "(II)J" } : Jvm.MethodName)) ∈ TS := TS_in (List.mem_of_getElem? (i := 944) (by decide +kernel)) rfl
theorem tw_945 : (Jvm.Cond.selects "BetweenCountsModel" ({ cls := "BetweenCountsModel", name := "group", desc := "(II)J" } : Jvm.MethodName) ({ cls := "BetweenCountsModel", name := "group", desc := "(II)J" } : Jvm.MethodName)) ∈ TS := TS_in (List.mem_of_getElem? (i := 945) (by decide +kernel)) rfl
set_option maxRecDepth 20000 in
theorem tw_946 : (Jvm.Cond.code ({ cls := "BetweenCountsModel", name := "group", desc := "(II)J" } : Jvm.MethodName) prog_10_method_39_code (7 : Nat) (Option.some Jvm.ClassFile.FieldType.long)) ∈ TS := TS_in (List.mem_of_getElem? (i := 946) rfl) rfl
theorem tw_947 : (Jvm.Cond.methodLink "BetweenCountsLaw" (63 : Nat) ({ cls := "BetweenCountsModel", name := "harmonic", desc := "(III)J" } : Jvm.MethodName)) ∈ TS := TS_in (List.mem_of_getElem? (i := 947) (by decide +kernel)) rfl
theorem tw_948 : (Jvm.Cond.instanceMethod ({ cls := "BetweenCountsModel", name := "harmonic", desc := "(III)J" } : Jvm.MethodName)) ∈ TS := TS_in (List.mem_of_getElem? (i := 948) (by decide +kernel)) rfl
theorem tw_949 : (Jvm.Cond.selects "BetweenCountsModel" ({ cls := "BetweenCountsModel", name := "harmonic", desc := "(III)J" } : Jvm.MethodName) ({ cls := "BetweenCountsModel", name := "harmonic", desc := "(III)J" } : Jvm.MethodName)) ∈ TS := TS_in (List.mem_of_getElem? (i := 949) (by decide +kernel)) rfl
set_option maxRecDepth 20000 in
theorem tw_950 : (Jvm.Cond.code ({ cls := "BetweenCountsModel", name := "harmonic", desc := "(III)J" } : Jvm.MethodName) prog_10_method_40_code (5 : Nat) (Option.some Jvm.ClassFile.FieldType.long)) ∈ TS := TS_in (List.mem_of_getElem? (i := 950) rfl) rfl
theorem tw_951 : (Jvm.Cond.methodLink "BetweenCountsLaw" (67 : Nat) ({ cls := "BetweenCountsModel", name := "close", desc := "(III)J" } : Jvm.MethodName)) ∈ TS := TS_in (List.mem_of_getElem? (i := 951) (by decide +kernel)) rfl
theorem tw_952 : (Jvm.Cond.instanceMethod ({ cls := "BetweenCountsModel", name := "close", desc := "(III)J" } : Jvm.MethodName)) ∈ TS := TS_in (List.mem_of_getElem? (i := 952) (by decide +kernel)) rfl
theorem tw_953 : (Jvm.Cond.selects "BetweenCountsModel" ({ cls := "BetweenCountsModel", name := "close", desc := "(III)J" } : Jvm.MethodName) ({ cls := "BetweenCountsModel", name := "close", desc := "(III)J" } : Jvm.MethodName)) ∈ TS := TS_in (List.mem_of_getElem? (i := 953) (by decide +kernel)) rfl
set_option maxRecDepth 20000 in
theorem tw_954 : (Jvm.Cond.code ({ cls := "BetweenCountsModel", name := "close", desc := "(III)J" } : Jvm.MethodName) prog_10_method_41_code (9 : Nat) (Option.some Jvm.ClassFile.FieldType.long)) ∈ TS := TS_in (List.mem_of_getElem? (i := 954) rfl) rfl
theorem tw_955 : (Jvm.Cond.methodLink "BetweenCountsLaw" (72 : Nat) ({ cls := "BetweenCountsModel", name := "top", desc := "(I)I" } : Jvm.MethodName)) ∈ TS := TS_in (List.mem_of_getElem? (i := 955) (by decide +kernel)) rfl
theorem tw_956 : (Jvm.Cond.instanceMethod ({ cls := "BetweenCountsModel", name := "top", desc := "(I)I" } : Jvm.MethodName)) ∈ TS := TS_in (List.mem_of_getElem? (i := 956) (by decide +kernel)) rfl
theorem tw_957 : (Jvm.Cond.selects "BetweenCountsModel" ({ cls := "BetweenCountsModel", name := "top", desc := "(I)I" } : Jvm.MethodName) ({ cls := "BetweenCountsModel", name := "top", desc := "(I)I" } : Jvm.MethodName)) ∈ TS := TS_in (List.mem_of_getElem? (i := 957) (by decide +kernel)) rfl
set_option maxRecDepth 20000 in
theorem tw_958 : (Jvm.Cond.code ({ cls := "BetweenCountsModel", name := "top", desc := "(I)I" } : Jvm.MethodName) prog_10_method_44_code (5 : Nat) (Option.some Jvm.ClassFile.FieldType.int)) ∈ TS := TS_in (List.mem_of_getElem? (i := 958) rfl) rfl
theorem tw_959 : (Jvm.Cond.methodLink "BetweenCountsModel" (227 : Nat) ({ cls := "BetweenCountsModel", name := "isGreater", desc := "(II)Z" } : Jvm.MethodName)) ∈ TS := TS_in (List.mem_of_getElem? (i := 959) (by decide +kernel)) rfl
theorem tw_961 : (Jvm.Cond.instanceMethod ({ cls := "BetweenCountsModel", name := "isGreater", desc := "(II)Z" } : Jvm.MethodName)) ∈ TS := TS_in (List.mem_of_getElem? (i := 961) (by decide +kernel)) rfl
set_option maxRecDepth 20000 in
theorem tw_962 : (Jvm.Cond.code ({ cls := "BetweenCountsModel", name := "isGreater", desc := "(II)Z" } : Jvm.MethodName) prog_10_method_43_code (4 : Nat) (Option.some Jvm.ClassFile.FieldType.boolean)) ∈ TS := TS_in (List.mem_of_getElem? (i := 962) rfl) rfl
theorem tw_963 : (Jvm.Cond.methodLink "BetweenCountsModel" (223 : Nat) ({ cls := "BetweenCountsModel", name := "product", desc := "([J[JI[JI)V" } : Jvm.MethodName)) ∈ TS := TS_in (List.mem_of_getElem? (i := 963) (by decide +kernel)) rfl
theorem tw_965 : (Jvm.Cond.instanceMethod ({ cls := "BetweenCountsModel", name := "product", desc := "([J[JI[JI)V" } : Jvm.MethodName)) ∈ TS := TS_in (List.mem_of_getElem? (i := 965) (by decide +kernel)) rfl
set_option maxRecDepth 20000 in
theorem tw_966 : (Jvm.Cond.code ({ cls := "BetweenCountsModel", name := "product", desc := "([J[JI[JI)V" } : Jvm.MethodName) prog_10_method_42_code (12 : Nat) (Option.none : Option Jvm.ClassFile.FieldType)) ∈ TS := TS_in (List.mem_of_getElem? (i := 966) rfl) rfl
theorem tw_967 : (Jvm.Cond.methodLink "BetweenCountsLaw" (77 : Nat) ({ cls := "BetweenCountsModel", name := "resistance", desc := "(IIII)J" } : Jvm.MethodName)) ∈ TS := TS_in (List.mem_of_getElem? (i := 967) (by decide +kernel)) rfl
theorem tw_968 : (Jvm.Cond.instanceMethod ({ cls := "BetweenCountsModel", name := "resistance", desc := "(IIII)J" } : Jvm.MethodName)) ∈ TS := TS_in (List.mem_of_getElem? (i := 968) (by decide +kernel)) rfl
theorem tw_969 : (Jvm.Cond.selects "BetweenCountsModel" ({ cls := "BetweenCountsModel", name := "resistance", desc := "(IIII)J" } : Jvm.MethodName) ({ cls := "BetweenCountsModel", name := "resistance", desc := "(IIII)J" } : Jvm.MethodName)) ∈ TS := TS_in (List.mem_of_getElem? (i := 969) (by decide +kernel)) rfl
set_option maxRecDepth 20000 in
theorem tw_970 : (Jvm.Cond.code ({ cls := "BetweenCountsModel", name := "resistance", desc := "(IIII)J" } : Jvm.MethodName) prog_10_method_52_code (6 : Nat) (Option.some Jvm.ClassFile.FieldType.long)) ∈ TS := TS_in (List.mem_of_getElem? (i := 970) rfl) rfl
theorem tw_971 : (Jvm.Cond.methodLink "BetweenCountsModel" (244 : Nat) ({ cls := "BetweenCountsModel", name := "lookAtPiece", desc := "(I)V" } : Jvm.MethodName)) ∈ TS := TS_in (List.mem_of_getElem? (i := 971) (by decide +kernel)) rfl
theorem tw_973 : (Jvm.Cond.instanceMethod ({ cls := "BetweenCountsModel", name := "lookAtPiece", desc := "(I)V" } : Jvm.MethodName)) ∈ TS := TS_in (List.mem_of_getElem? (i := 973) (by decide +kernel)) rfl
set_option maxRecDepth 20000 in
theorem tw_974 : (Jvm.Cond.code ({ cls := "BetweenCountsModel", name := "lookAtPiece", desc := "(I)V" } : Jvm.MethodName) prog_10_method_45_code (5 : Nat) (Option.none : Option Jvm.ClassFile.FieldType)) ∈ TS := TS_in (List.mem_of_getElem? (i := 974) rfl) rfl
theorem tw_975 : (Jvm.Cond.methodLink "BetweenCountsModel" (233 : Nat) ({ cls := "BetweenCountsModel", name := "invert", desc := "(IJ)Z" } : Jvm.MethodName)) ∈ TS := TS_in (List.mem_of_getElem? (i := 975) (by decide +kernel)) rfl
theorem tw_977 : (Jvm.Cond.instanceMethod ({ cls := "BetweenCountsModel", name := "invert", desc := "(IJ)Z" } : Jvm.MethodName)) ∈ TS := TS_in (List.mem_of_getElem? (i := 977) (by decide +kernel)) rfl
set_option maxRecDepth 20000 in
theorem tw_978 : (Jvm.Cond.code ({ cls := "BetweenCountsModel", name := "invert", desc := "(IJ)Z" } : Jvm.MethodName) prog_10_method_47_code (18 : Nat) (Option.some Jvm.ClassFile.FieldType.boolean)) ∈ TS := TS_in (List.mem_of_getElem? (i := 978) rfl) rfl
theorem tw_979 : (Jvm.Cond.constantLong "BetweenCountsModel" (196 : Nat) (2 : Int64)) ∈ TS := TS_in (List.mem_of_getElem? (i := 979) (by decide +kernel)) rfl
theorem tw_980 : (Jvm.Cond.methodLink "BetweenCountsModel" (237 : Nat) ({ cls := "BetweenCountsModel", name := "power", desc := "(JJJ)J" } : Jvm.MethodName)) ∈ TS := TS_in (List.mem_of_getElem? (i := 980) (by decide +kernel)) rfl
theorem tw_981 : (Jvm.Cond.static ({ cls := "BetweenCountsModel", name := "power", desc := "(JJJ)J" } : Jvm.MethodName)) ∈ TS := TS_in (List.mem_of_getElem? (i := 981) (by decide +kernel)) rfl
set_option maxRecDepth 20000 in
theorem tw_982 : (Jvm.Cond.code ({ cls := "BetweenCountsModel", name := "power", desc := "(JJJ)J" } : Jvm.MethodName) prog_10_method_46_code (12 : Nat) (Option.some Jvm.ClassFile.FieldType.long)) ∈ TS := TS_in (List.mem_of_getElem? (i := 982) rfl) rfl
theorem tw_983 : (Jvm.Cond.methodLink "BetweenCountsModel" (247 : Nat) ({ cls := "BetweenCountsModel", name := "begin", desc := "()V" } : Jvm.MethodName)) ∈ TS := TS_in (List.mem_of_getElem? (i := 983) (by decide +kernel)) rfl
theorem tw_985 : (Jvm.Cond.instanceMethod ({ cls := "BetweenCountsModel", name := "begin", desc := "()V" } : Jvm.MethodName)) ∈ TS := TS_in (List.mem_of_getElem? (i := 985) (by decide +kernel)) rfl
set_option maxRecDepth 20000 in
theorem tw_986 : (Jvm.Cond.code ({ cls := "BetweenCountsModel", name := "begin", desc := "()V" } : Jvm.MethodName) prog_10_method_50_code (1 : Nat) (Option.none : Option Jvm.ClassFile.FieldType)) ∈ TS := TS_in (List.mem_of_getElem? (i := 986) rfl) rfl
theorem tw_987 : (Jvm.Cond.methodLink "BetweenCountsModel" (250 : Nat) ({ cls := "BetweenCountsModel", name := "potential", desc := "(III)J" } : Jvm.MethodName)) ∈ TS := TS_in (List.mem_of_getElem? (i := 987) (by decide +kernel)) rfl
theorem tw_989 : (Jvm.Cond.instanceMethod ({ cls := "BetweenCountsModel", name := "potential", desc := "(III)J" } : Jvm.MethodName)) ∈ TS := TS_in (List.mem_of_getElem? (i := 989) (by decide +kernel)) rfl
set_option maxRecDepth 20000 in
theorem tw_990 : (Jvm.Cond.code ({ cls := "BetweenCountsModel", name := "potential", desc := "(III)J" } : Jvm.MethodName) prog_10_method_51_code (4 : Nat) (Option.some Jvm.ClassFile.FieldType.long)) ∈ TS := TS_in (List.mem_of_getElem? (i := 990) rfl) rfl
theorem tw_991 : (Jvm.Cond.methodLink "BetweenCountsModel" (241 : Nat) ({ cls := "BetweenCountsModel", name := "whole", desc := "([J)V" } : Jvm.MethodName)) ∈ TS := TS_in (List.mem_of_getElem? (i := 991) (by decide +kernel)) rfl
theorem tw_993 : (Jvm.Cond.instanceMethod ({ cls := "BetweenCountsModel", name := "whole", desc := "([J)V" } : Jvm.MethodName)) ∈ TS := TS_in (List.mem_of_getElem? (i := 993) (by decide +kernel)) rfl
set_option maxRecDepth 20000 in
theorem tw_994 : (Jvm.Cond.code ({ cls := "BetweenCountsModel", name := "whole", desc := "([J)V" } : Jvm.MethodName) prog_10_method_48_code (4 : Nat) (Option.none : Option Jvm.ClassFile.FieldType)) ∈ TS := TS_in (List.mem_of_getElem? (i := 994) rfl) rfl
theorem tw_995 : (Jvm.Cond.methodLink "BetweenCountsModel" (193 : Nat) ({ cls := "BetweenCountsModel", name := "less", desc := "([J[J)V" } : Jvm.MethodName)) ∈ TS := TS_in (List.mem_of_getElem? (i := 995) (by decide +kernel)) rfl
theorem tw_997 : (Jvm.Cond.instanceMethod ({ cls := "BetweenCountsModel", name := "less", desc := "([J[J)V" } : Jvm.MethodName)) ∈ TS := TS_in (List.mem_of_getElem? (i := 997) (by decide +kernel)) rfl
set_option maxRecDepth 20000 in
theorem tw_998 : (Jvm.Cond.code ({ cls := "BetweenCountsModel", name := "less", desc := "([J[J)V" } : Jvm.MethodName) prog_10_method_22_code (8 : Nat) (Option.none : Option Jvm.ClassFile.FieldType)) ∈ TS := TS_in (List.mem_of_getElem? (i := 998) rfl) rfl
theorem tw_999 : (Jvm.Cond.methodLink "BetweenCountsModel" (189 : Nat) ({ cls := "BetweenCountsModel", name := "compare", desc := "([J[J)I" } : Jvm.MethodName)) ∈ TS := TS_in (List.mem_of_getElem? (i := 999) (by decide +kernel)) rfl
theorem tw_1001 : (Jvm.Cond.instanceMethod ({ cls := "BetweenCountsModel", name := "compare", desc := "([J[J)I" } : Jvm.MethodName)) ∈ TS := TS_in (List.mem_of_getElem? (i := 1001) (by decide +kernel)) rfl
set_option maxRecDepth 20000 in
theorem tw_1002 : (Jvm.Cond.code ({ cls := "BetweenCountsModel", name := "compare", desc := "([J[J)I" } : Jvm.MethodName) prog_10_method_23_code (5 : Nat) (Option.some Jvm.ClassFile.FieldType.int)) ∈ TS := TS_in (List.mem_of_getElem? (i := 1002) rfl) rfl
theorem tw_1003 : (Jvm.Cond.methodLink "BetweenCountsModel" (253 : Nat) ({ cls := "BetweenCountsModel", name := "treesOf", desc := "([J)V" } : Jvm.MethodName)) ∈ TS := TS_in (List.mem_of_getElem? (i := 1003) (by decide +kernel)) rfl
theorem tw_1005 : (Jvm.Cond.instanceMethod ({ cls := "BetweenCountsModel", name := "treesOf", desc := "([J)V" } : Jvm.MethodName)) ∈ TS := TS_in (List.mem_of_getElem? (i := 1005) (by decide +kernel)) rfl
set_option maxRecDepth 20000 in
theorem tw_1006 : (Jvm.Cond.code ({ cls := "BetweenCountsModel", name := "treesOf", desc := "([J)V" } : Jvm.MethodName) prog_10_method_49_code (3 : Nat) (Option.none : Option Jvm.ClassFile.FieldType)) ∈ TS := TS_in (List.mem_of_getElem? (i := 1006) rfl) rfl
theorem tw_1007 : (Jvm.Cond.methodLink "BetweenCountsModel" (256 : Nat) ({ cls := "BetweenCountsModel", name := "lowest", desc := "()V" } : Jvm.MethodName)) ∈ TS := TS_in (List.mem_of_getElem? (i := 1007) (by decide +kernel)) rfl
theorem tw_1009 : (Jvm.Cond.instanceMethod ({ cls := "BetweenCountsModel", name := "lowest", desc := "()V" } : Jvm.MethodName)) ∈ TS := TS_in (List.mem_of_getElem? (i := 1009) (by decide +kernel)) rfl
set_option maxRecDepth 20000 in
theorem tw_1010 : (Jvm.Cond.code ({ cls := "BetweenCountsModel", name := "lowest", desc := "()V" } : Jvm.MethodName) prog_10_method_31_code (3 : Nat) (Option.none : Option Jvm.ClassFile.FieldType)) ∈ TS := TS_in (List.mem_of_getElem? (i := 1010) rfl) rfl
theorem tw_1011 : (Jvm.Cond.methodLink "BetweenCountsModel" (185 : Nat) ({ cls := "BetweenCountsModel", name := "half", desc := "([J)V" } : Jvm.MethodName)) ∈ TS := TS_in (List.mem_of_getElem? (i := 1011) (by decide +kernel)) rfl
theorem tw_1013 : (Jvm.Cond.instanceMethod ({ cls := "BetweenCountsModel", name := "half", desc := "([J)V" } : Jvm.MethodName)) ∈ TS := TS_in (List.mem_of_getElem? (i := 1013) (by decide +kernel)) rfl
set_option maxRecDepth 20000 in
theorem tw_1014 : (Jvm.Cond.code ({ cls := "BetweenCountsModel", name := "half", desc := "([J)V" } : Jvm.MethodName) prog_10_method_30_code (3 : Nat) (Option.none : Option Jvm.ClassFile.FieldType)) ∈ TS := TS_in (List.mem_of_getElem? (i := 1014) rfl) rfl
theorem tw_1015 : (Jvm.Cond.methodLink "BetweenCountsModel" (198 : Nat) ({ cls := "BetweenCountsModel", name := "divide", desc := "([J)V" } : Jvm.MethodName)) ∈ TS := TS_in (List.mem_of_getElem? (i := 1015) (by decide +kernel)) rfl
theorem tw_1017 : (Jvm.Cond.instanceMethod ({ cls := "BetweenCountsModel", name := "divide", desc := "([J)V" } : Jvm.MethodName)) ∈ TS := TS_in (List.mem_of_getElem? (i := 1017) (by decide +kernel)) rfl
set_option maxRecDepth 20000 in
theorem tw_1018 : (Jvm.Cond.code ({ cls := "BetweenCountsModel", name := "divide", desc := "([J)V" } : Jvm.MethodName) prog_10_method_32_code (3 : Nat) (Option.none : Option Jvm.ClassFile.FieldType)) ∈ TS := TS_in (List.mem_of_getElem? (i := 1018) rfl) rfl
theorem tw_1019 : (Jvm.Cond.methodLink "BetweenCountsLaw" (81 : Nat) ({ cls := "BetweenCountsModel", name := "carried", desc := "(III)J" } : Jvm.MethodName)) ∈ TS := TS_in (List.mem_of_getElem? (i := 1019) (by decide +kernel)) rfl
theorem tw_1020 : (Jvm.Cond.instanceMethod ({ cls := "BetweenCountsModel", name := "carried", desc := "(III)J" } : Jvm.MethodName)) ∈ TS := TS_in (List.mem_of_getElem? (i := 1020) (by decide +kernel)) rfl
theorem tw_1021 : (Jvm.Cond.selects "BetweenCountsModel" ({ cls := "BetweenCountsModel", name := "carried", desc := "(III)J" } : Jvm.MethodName) ({ cls := "BetweenCountsModel", name := "carried", desc := "(III)J" } : Jvm.MethodName)) ∈ TS := TS_in (List.mem_of_getElem? (i := 1021) (by decide +kernel)) rfl
set_option maxRecDepth 20000 in
theorem tw_1022 : (Jvm.Cond.code ({ cls := "BetweenCountsModel", name := "carried", desc := "(III)J" } : Jvm.MethodName) prog_10_method_53_code (6 : Nat) (Option.some Jvm.ClassFile.FieldType.long)) ∈ TS := TS_in (List.mem_of_getElem? (i := 1022) rfl) rfl
theorem tw_1023 : (Jvm.Cond.methodLink "BetweenCountsModel" (259 : Nat) ({ cls := "BetweenCountsModel", name := "addFlow", desc := "(III)V" } : Jvm.MethodName)) ∈ TS := TS_in (List.mem_of_getElem? (i := 1023) (by decide +kernel)) rfl
theorem tw_1025 : (Jvm.Cond.instanceMethod ({ cls := "BetweenCountsModel", name := "addFlow", desc := "(III)V" } : Jvm.MethodName)) ∈ TS := TS_in (List.mem_of_getElem? (i := 1025) (by decide +kernel)) rfl
set_option maxRecDepth 20000 in
theorem tw_1026 : (Jvm.Cond.code ({ cls := "BetweenCountsModel", name := "addFlow", desc := "(III)V" } : Jvm.MethodName) prog_10_method_54_code (8 : Nat) (Option.none : Option Jvm.ClassFile.FieldType)) ∈ TS := TS_in (List.mem_of_getElem? (i := 1026) rfl) rfl
theorem tw_1027 : (Jvm.Cond.methodLink "BetweenCountsLaw" (85 : Nat) ({ cls := "BetweenCountsModel", name := "told", desc := "(I)I" } : Jvm.MethodName)) ∈ TS := TS_in (List.mem_of_getElem? (i := 1027) (by decide +kernel)) rfl
theorem tw_1028 : (Jvm.Cond.instanceMethod ({ cls := "BetweenCountsModel", name := "told", desc := "(I)I" } : Jvm.MethodName)) ∈ TS := TS_in (List.mem_of_getElem? (i := 1028) (by decide +kernel)) rfl
theorem tw_1029 : (Jvm.Cond.selects "BetweenCountsModel" ({ cls := "BetweenCountsModel", name := "told", desc := "(I)I" } : Jvm.MethodName) ({ cls := "BetweenCountsModel", name := "told", desc := "(I)I" } : Jvm.MethodName)) ∈ TS := TS_in (List.mem_of_getElem? (i := 1029) (by decide +kernel)) rfl
set_option maxRecDepth 20000 in
theorem tw_1030 : (Jvm.Cond.code ({ cls := "BetweenCountsModel", name := "told", desc := "(I)I" } : Jvm.MethodName) prog_10_method_55_code (5 : Nat) (Option.some Jvm.ClassFile.FieldType.int)) ∈ TS := TS_in (List.mem_of_getElem? (i := 1030) rfl) rfl

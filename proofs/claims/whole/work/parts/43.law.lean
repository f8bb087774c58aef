def R_law : String := "VerandaWarLaw"
def lw_P (b : Addr) (xs : List Int32) (args : Array Value) (s : State) : Prop := args = #[.ref b] ∧ s.IntsAt b xs ∧ xs.length ≤ 3072 ∧ (Jvm.Cond.and given_1 narrow_1).before args s = true
def lw_Q (_ : Array Value) (s : State) (o : Outcome) (t : State) : Prop := o = .returned (some (.int 1)) ∧ Framed s o t [] 600000 7302250
def lw_Z (below : List Frame) (a : Array Value) (s : State) : State → Prop := fun t => ∃ o, t.status = .running ∧ Ended t below o ∧ lw_Q a s o t
/-- the law's own end, with 1 on the stack, nothing written that was there before, its room as the claim has it -/
theorem lw_ret {p : Program} {l : Launch} {e : Env} {s : State} {m : MethodId} {below : List Frame} {meth : Method} {c : Code} {b : Nat} (hx : p.tables.exec = Jvm.exec) (hb : c.code = code) (hr : meth.sig.returnType = ret) (hlocks : meth.locks = false) {pc : Nat} {H : Heap} {ls : Array Slot} (hdg : decode code pc = .ok (.ireturn, 1)) : W p l e room_1 s m #[Value.ref b] below meth c H [] 600000 7302250 (lw_Z below #[Value.ref b] s) (F0 m pc ls [.int 1]) := by
  intro T hT X
  obtain ⟨fs, hret, hrun, hended, hW, hframe⟩ := X.leave (v := some (.int 1)) (hlocks := hlocks) (fun h => by rw [hr] at h; cases h)
  have hmeth' : T.vm.method? m = some meth := X.method'
  refine ⟨T.setFrames fs, ?_, .returned (some (.int 1)), hrun, hended, rfl, ⟨_, rfl⟩, hW, hframe⟩
  jvm_step X.here [X.here.top, hx, hb, hdg, hmeth', hr, ret, narrow_b1]
  (try refine ⟨rfl, ?_⟩); (try refine ⟨rfl, ?_⟩)
  first | (intro acts; rw [hret _ acts rfl rfl rfl]) | rw [hret _ _ rfl rfl rfl]
  exact Steps.refl _
/-- what holds at the law's entry: the machine, the code, the tables' words (any of lw_tbl by 'hts w (by decide +kernel)'), the script of L ints xs at the cell b, what the Statement gives of the start (any of its parts by flat_of_before) -/
def lw_At (p : Program) (s : State) (m : MethodId) (meth : Method) (c : Code) (b L : Nat) (xs : Nat → Int32) : Prop :=
  p.tables.exec = Jvm.exec ∧ c.code = code ∧ meth.sig.returnType = ret ∧ c.maxLocals = 4 ∧ s.vm.findClass R_law = some m.cls ∧ (∀ w ∈ lw_tbl, w.before #[Value.ref b] s = true) ∧ va_X b L xs s s.heap ∧ b < s.heap.size ∧ meth.locks = false ∧ (Jvm.Cond.and given_1 narrow_1).before #[Value.ref b] s = true

def RL : String := "VerandaWarLaw"
theorem lwq_104 : Cond.initialized RX11 ∈ tb := tb_in (List.mem_of_getElem? (i := 104) (by decide +kernel)) (by decide)
theorem lwq_117 : Cond.initialized RX12 ∈ tb := tb_in (List.mem_of_getElem? (i := 117) (by decide +kernel)) (by decide)
theorem lwq_477 : Cond.methodLink RL 13 yX11_chair ∈ tb := tb_in (List.mem_of_getElem? (i := 477) (by decide +kernel)) (by decide)
theorem lwq_478 : Cond.instanceMethod yX11_chair ∈ tb := tb_in (List.mem_of_getElem? (i := 478) (by decide +kernel)) (by decide)
theorem lwq_479 : Cond.selects RX11 yX11_chair yX11_chair ∈ tb := tb_in (List.mem_of_getElem? (i := 479) (by decide +kernel)) (by decide)
theorem lwq_480 : Cond.code yX11_chair cX11_chair 6 (some .boolean) ∈ tb := tb_in (List.mem_of_getElem? (i := 480) (by decide +kernel)) (by decide)
theorem lwq_494 : Cond.methodLink RL 18 yX11_floor ∈ tb := tb_in (List.mem_of_getElem? (i := 494) (by decide +kernel)) (by decide)
theorem lwq_495 : Cond.instanceMethod yX11_floor ∈ tb := tb_in (List.mem_of_getElem? (i := 495) (by decide +kernel)) (by decide)
theorem lwq_496 : Cond.selects RX11 yX11_floor yX11_floor ∈ tb := tb_in (List.mem_of_getElem? (i := 496) (by decide +kernel)) (by decide)
theorem lwq_497 : Cond.code yX11_floor cX11_floor 3 (some .boolean) ∈ tb := tb_in (List.mem_of_getElem? (i := 497) (by decide +kernel)) (by decide)
theorem lwq_498 : Cond.methodLink RL 23 yX11_column ∈ tb := tb_in (List.mem_of_getElem? (i := 498) (by decide +kernel)) (by decide)
theorem lwq_499 : Cond.instanceMethod yX11_column ∈ tb := tb_in (List.mem_of_getElem? (i := 499) (by decide +kernel)) (by decide)
theorem lwq_500 : Cond.selects RX11 yX11_column yX11_column ∈ tb := tb_in (List.mem_of_getElem? (i := 500) (by decide +kernel)) (by decide)
theorem lwq_501 : Cond.code yX11_column cX11_column 3 (some .boolean) ∈ tb := tb_in (List.mem_of_getElem? (i := 501) (by decide +kernel)) (by decide)
theorem lwq_502 : Cond.methodLink RL 27 yX11_feed ∈ tb := tb_in (List.mem_of_getElem? (i := 502) (by decide +kernel)) (by decide)
theorem lwq_503 : Cond.instanceMethod yX11_feed ∈ tb := tb_in (List.mem_of_getElem? (i := 503) (by decide +kernel)) (by decide)
theorem lwq_504 : Cond.selects RX11 yX11_feed yX11_feed ∈ tb := tb_in (List.mem_of_getElem? (i := 504) (by decide +kernel)) (by decide)
theorem lwq_505 : Cond.code yX11_feed cX11_feed 6 (some .int) ∈ tb := tb_in (List.mem_of_getElem? (i := 505) (by decide +kernel)) (by decide)
theorem lwq_514 : Cond.methodLink RL 32 yX11_law ∈ tb := tb_in (List.mem_of_getElem? (i := 514) (by decide +kernel)) (by decide)
theorem lwq_515 : Cond.instanceMethod yX11_law ∈ tb := tb_in (List.mem_of_getElem? (i := 515) (by decide +kernel)) (by decide)
theorem lwq_516 : Cond.selects RX11 yX11_law yX11_law ∈ tb := tb_in (List.mem_of_getElem? (i := 516) (by decide +kernel)) (by decide)
theorem lwq_517 : Cond.code yX11_law cX11_law 4 (some .int) ∈ tb := tb_in (List.mem_of_getElem? (i := 517) (by decide +kernel)) (by decide)
theorem lwq_697 : Cond.methodLink RL 37 yX11_orders ∈ tb := tb_in (List.mem_of_getElem? (i := 697) (by decide +kernel)) (by decide)
theorem lwq_698 : Cond.instanceMethod yX11_orders ∈ tb := tb_in (List.mem_of_getElem? (i := 698) (by decide +kernel)) (by decide)
theorem lwq_699 : Cond.selects RX11 yX11_orders yX11_orders ∈ tb := tb_in (List.mem_of_getElem? (i := 699) (by decide +kernel)) (by decide)
theorem lwq_700 : Cond.code yX11_orders cX11_orders 3 (some .int) ∈ tb := tb_in (List.mem_of_getElem? (i := 700) (by decide +kernel)) (by decide)
theorem lwq_740 : Cond.methodLink RL 41 yX11_signals ∈ tb := tb_in (List.mem_of_getElem? (i := 740) (by decide +kernel)) (by decide)
theorem lwq_741 : Cond.instanceMethod yX11_signals ∈ tb := tb_in (List.mem_of_getElem? (i := 741) (by decide +kernel)) (by decide)
theorem lwq_742 : Cond.selects RX11 yX11_signals yX11_signals ∈ tb := tb_in (List.mem_of_getElem? (i := 742) (by decide +kernel)) (by decide)
theorem lwq_743 : Cond.code yX11_signals cX11_signals 5 (some .int) ∈ tb := tb_in (List.mem_of_getElem? (i := 743) (by decide +kernel)) (by decide)
theorem lwq_776 : Cond.methodLink RL 46 yX11_watches ∈ tb := tb_in (List.mem_of_getElem? (i := 776) (by decide +kernel)) (by decide)
theorem lwq_777 : Cond.instanceMethod yX11_watches ∈ tb := tb_in (List.mem_of_getElem? (i := 777) (by decide +kernel)) (by decide)
theorem lwq_778 : Cond.selects RX11 yX11_watches yX11_watches ∈ tb := tb_in (List.mem_of_getElem? (i := 778) (by decide +kernel)) (by decide)
theorem lwq_779 : Cond.code yX11_watches cX11_watches 2 (some .int) ∈ tb := tb_in (List.mem_of_getElem? (i := 779) (by decide +kernel)) (by decide)
theorem lwq_872 : Cond.methodLink RL 50 yX11_tried ∈ tb := tb_in (List.mem_of_getElem? (i := 872) (by decide +kernel)) (by decide)
theorem lwq_873 : Cond.instanceMethod yX11_tried ∈ tb := tb_in (List.mem_of_getElem? (i := 873) (by decide +kernel)) (by decide)
theorem lwq_874 : Cond.selects RX11 yX11_tried yX11_tried ∈ tb := tb_in (List.mem_of_getElem? (i := 874) (by decide +kernel)) (by decide)
theorem lwq_875 : Cond.code yX11_tried cX11_tried 5 (some .int) ∈ tb := tb_in (List.mem_of_getElem? (i := 875) (by decide +kernel)) (by decide)
theorem lwq_880 : Cond.methodLink RL 54 yX11_chairIs ∈ tb := tb_in (List.mem_of_getElem? (i := 880) (by decide +kernel)) (by decide)
theorem lwq_881 : Cond.instanceMethod yX11_chairIs ∈ tb := tb_in (List.mem_of_getElem? (i := 881) (by decide +kernel)) (by decide)
theorem lwq_882 : Cond.selects RX11 yX11_chairIs yX11_chairIs ∈ tb := tb_in (List.mem_of_getElem? (i := 882) (by decide +kernel)) (by decide)
theorem lwq_883 : Cond.code yX11_chairIs cX11_chairIs 5 (some .int) ∈ tb := tb_in (List.mem_of_getElem? (i := 883) (by decide +kernel)) (by decide)
theorem lwq_891 : Cond.methodLink RL 59 yX11_sees ∈ tb := tb_in (List.mem_of_getElem? (i := 891) (by decide +kernel)) (by decide)
theorem lwq_892 : Cond.instanceMethod yX11_sees ∈ tb := tb_in (List.mem_of_getElem? (i := 892) (by decide +kernel)) (by decide)
theorem lwq_893 : Cond.selects RX11 yX11_sees yX11_sees ∈ tb := tb_in (List.mem_of_getElem? (i := 893) (by decide +kernel)) (by decide)
theorem lwq_894 : Cond.code yX11_sees cX11_sees 3 (some .int) ∈ tb := tb_in (List.mem_of_getElem? (i := 894) (by decide +kernel)) (by decide)
theorem lwq_896 : Cond.methodLink RL 63 yX11_toSee ∈ tb := tb_in (List.mem_of_getElem? (i := 896) (by decide +kernel)) (by decide)
theorem lwq_897 : Cond.instanceMethod yX11_toSee ∈ tb := tb_in (List.mem_of_getElem? (i := 897) (by decide +kernel)) (by decide)
theorem lwq_898 : Cond.selects RX11 yX11_toSee yX11_toSee ∈ tb := tb_in (List.mem_of_getElem? (i := 898) (by decide +kernel)) (by decide)
theorem lwq_899 : Cond.code yX11_toSee cX11_toSee 9 (some .int) ∈ tb := tb_in (List.mem_of_getElem? (i := 899) (by decide +kernel)) (by decide)
theorem lwq_901 : Cond.methodLink RL 67 yX11_overTrees ∈ tb := tb_in (List.mem_of_getElem? (i := 901) (by decide +kernel)) (by decide)
theorem lwq_902 : Cond.instanceMethod yX11_overTrees ∈ tb := tb_in (List.mem_of_getElem? (i := 902) (by decide +kernel)) (by decide)
theorem lwq_903 : Cond.selects RX11 yX11_overTrees yX11_overTrees ∈ tb := tb_in (List.mem_of_getElem? (i := 903) (by decide +kernel)) (by decide)
theorem lwq_904 : Cond.code yX11_overTrees cX11_overTrees 7 (some .int) ∈ tb := tb_in (List.mem_of_getElem? (i := 904) (by decide +kernel)) (by decide)
theorem lwq_909 : Cond.methodLink RL 71 yX11_hidden ∈ tb := tb_in (List.mem_of_getElem? (i := 909) (by decide +kernel)) (by decide)
theorem lwq_910 : Cond.instanceMethod yX11_hidden ∈ tb := tb_in (List.mem_of_getElem? (i := 910) (by decide +kernel)) (by decide)
theorem lwq_911 : Cond.selects RX11 yX11_hidden yX11_hidden ∈ tb := tb_in (List.mem_of_getElem? (i := 911) (by decide +kernel)) (by decide)
theorem lwq_912 : Cond.code yX11_hidden cX11_hidden 10 (some .int) ∈ tb := tb_in (List.mem_of_getElem? (i := 912) (by decide +kernel)) (by decide)
theorem lwq_918 : Cond.methodLink RL 75 yX11_capture ∈ tb := tb_in (List.mem_of_getElem? (i := 918) (by decide +kernel)) (by decide)
theorem lwq_919 : Cond.instanceMethod yX11_capture ∈ tb := tb_in (List.mem_of_getElem? (i := 919) (by decide +kernel)) (by decide)
theorem lwq_920 : Cond.selects RX11 yX11_capture yX11_capture ∈ tb := tb_in (List.mem_of_getElem? (i := 920) (by decide +kernel)) (by decide)
theorem lwq_921 : Cond.code yX11_capture cX11_capture 7 (some .boolean) ∈ tb := tb_in (List.mem_of_getElem? (i := 921) (by decide +kernel)) (by decide)
theorem lwq_922 : Cond.methodLink RL 80 yX11_whenIn ∈ tb := tb_in (List.mem_of_getElem? (i := 922) (by decide +kernel)) (by decide)
theorem lwq_923 : Cond.instanceMethod yX11_whenIn ∈ tb := tb_in (List.mem_of_getElem? (i := 923) (by decide +kernel)) (by decide)
theorem lwq_924 : Cond.selects RX11 yX11_whenIn yX11_whenIn ∈ tb := tb_in (List.mem_of_getElem? (i := 924) (by decide +kernel)) (by decide)
theorem lwq_925 : Cond.code yX11_whenIn cX11_whenIn 5 (some .int) ∈ tb := tb_in (List.mem_of_getElem? (i := 925) (by decide +kernel)) (by decide)
theorem lwq_926 : Cond.methodLink RL 84 yX11_first ∈ tb := tb_in (List.mem_of_getElem? (i := 926) (by decide +kernel)) (by decide)
theorem lwq_927 : Cond.instanceMethod yX11_first ∈ tb := tb_in (List.mem_of_getElem? (i := 927) (by decide +kernel)) (by decide)
theorem lwq_928 : Cond.selects RX11 yX11_first yX11_first ∈ tb := tb_in (List.mem_of_getElem? (i := 928) (by decide +kernel)) (by decide)
theorem lwq_929 : Cond.code yX11_first cX11_first 4 (some .int) ∈ tb := tb_in (List.mem_of_getElem? (i := 929) (by decide +kernel)) (by decide)
theorem lwq_930 : Cond.methodLink RL 88 yX11_loses ∈ tb := tb_in (List.mem_of_getElem? (i := 930) (by decide +kernel)) (by decide)
theorem lwq_931 : Cond.instanceMethod yX11_loses ∈ tb := tb_in (List.mem_of_getElem? (i := 931) (by decide +kernel)) (by decide)
theorem lwq_932 : Cond.selects RX11 yX11_loses yX11_loses ∈ tb := tb_in (List.mem_of_getElem? (i := 932) (by decide +kernel)) (by decide)
theorem lwq_933 : Cond.code yX11_loses cX11_loses 3 (some .int) ∈ tb := tb_in (List.mem_of_getElem? (i := 933) (by decide +kernel)) (by decide)
theorem lwq_934 : Cond.methodLink RL 92 yX11_lasts ∈ tb := tb_in (List.mem_of_getElem? (i := 934) (by decide +kernel)) (by decide)
theorem lwq_935 : Cond.instanceMethod yX11_lasts ∈ tb := tb_in (List.mem_of_getElem? (i := 935) (by decide +kernel)) (by decide)
theorem lwq_936 : Cond.selects RX11 yX11_lasts yX11_lasts ∈ tb := tb_in (List.mem_of_getElem? (i := 936) (by decide +kernel)) (by decide)
theorem lwq_937 : Cond.code yX11_lasts cX11_lasts 6 (some .int) ∈ tb := tb_in (List.mem_of_getElem? (i := 937) (by decide +kernel)) (by decide)
theorem lwq_942 : Cond.methodLink RL 96 yX11_glasses ∈ tb := tb_in (List.mem_of_getElem? (i := 942) (by decide +kernel)) (by decide)
theorem lwq_943 : Cond.instanceMethod yX11_glasses ∈ tb := tb_in (List.mem_of_getElem? (i := 943) (by decide +kernel)) (by decide)
theorem lwq_944 : Cond.selects RX11 yX11_glasses yX11_glasses ∈ tb := tb_in (List.mem_of_getElem? (i := 944) (by decide +kernel)) (by decide)
theorem lwq_945 : Cond.code yX11_glasses cX11_glasses 2 (some .int) ∈ tb := tb_in (List.mem_of_getElem? (i := 945) (by decide +kernel)) (by decide)
theorem lwq_977 : Cond.methodLink RL 100 yX11_march ∈ tb := tb_in (List.mem_of_getElem? (i := 977) (by decide +kernel)) (by decide)
theorem lwq_978 : Cond.instanceMethod yX11_march ∈ tb := tb_in (List.mem_of_getElem? (i := 978) (by decide +kernel)) (by decide)
theorem lwq_979 : Cond.selects RX11 yX11_march yX11_march ∈ tb := tb_in (List.mem_of_getElem? (i := 979) (by decide +kernel)) (by decide)
theorem lwq_980 : Cond.code yX11_march cX11_march 7 (some .int) ∈ tb := tb_in (List.mem_of_getElem? (i := 980) (by decide +kernel)) (by decide)
theorem lwq_981 : Cond.methodLink RL 104 yX11_ridge ∈ tb := tb_in (List.mem_of_getElem? (i := 981) (by decide +kernel)) (by decide)
theorem lwq_982 : Cond.instanceMethod yX11_ridge ∈ tb := tb_in (List.mem_of_getElem? (i := 982) (by decide +kernel)) (by decide)
theorem lwq_983 : Cond.selects RX11 yX11_ridge yX11_ridge ∈ tb := tb_in (List.mem_of_getElem? (i := 983) (by decide +kernel)) (by decide)
theorem lwq_984 : Cond.code yX11_ridge cX11_ridge 2 (some .int) ∈ tb := tb_in (List.mem_of_getElem? (i := 984) (by decide +kernel)) (by decide)
theorem lwq_994 : Cond.methodLink RL 108 yX11_answered ∈ tb := tb_in (List.mem_of_getElem? (i := 994) (by decide +kernel)) (by decide)
theorem lwq_995 : Cond.instanceMethod yX11_answered ∈ tb := tb_in (List.mem_of_getElem? (i := 995) (by decide +kernel)) (by decide)
theorem lwq_996 : Cond.selects RX11 yX11_answered yX11_answered ∈ tb := tb_in (List.mem_of_getElem? (i := 996) (by decide +kernel)) (by decide)
theorem lwq_997 : Cond.code yX11_answered cX11_answered 3 (some .int) ∈ tb := tb_in (List.mem_of_getElem? (i := 997) (by decide +kernel)) (by decide)
theorem lwq_999 : Cond.methodLink RL 113 yX11_inCommon ∈ tb := tb_in (List.mem_of_getElem? (i := 999) (by decide +kernel)) (by decide)
theorem lwq_1000 : Cond.instanceMethod yX11_inCommon ∈ tb := tb_in (List.mem_of_getElem? (i := 1000) (by decide +kernel)) (by decide)
theorem lwq_1001 : Cond.selects RX11 yX11_inCommon yX11_inCommon ∈ tb := tb_in (List.mem_of_getElem? (i := 1001) (by decide +kernel)) (by decide)
theorem lwq_1002 : Cond.code yX11_inCommon cX11_inCommon 2 (some .int) ∈ tb := tb_in (List.mem_of_getElem? (i := 1002) (by decide +kernel)) (by decide)
theorem lwq_1030 : Cond.methodLink RL 117 yX11_beat ∈ tb := tb_in (List.mem_of_getElem? (i := 1030) (by decide +kernel)) (by decide)
theorem lwq_1031 : Cond.instanceMethod yX11_beat ∈ tb := tb_in (List.mem_of_getElem? (i := 1031) (by decide +kernel)) (by decide)
theorem lwq_1032 : Cond.selects RX11 yX11_beat yX11_beat ∈ tb := tb_in (List.mem_of_getElem? (i := 1032) (by decide +kernel)) (by decide)
theorem lwq_1033 : Cond.code yX11_beat cX11_beat 4 (some .int) ∈ tb := tb_in (List.mem_of_getElem? (i := 1033) (by decide +kernel)) (by decide)
theorem lwq_1038 : Cond.methodLink RL 121 yX11_lamps ∈ tb := tb_in (List.mem_of_getElem? (i := 1038) (by decide +kernel)) (by decide)
theorem lwq_1039 : Cond.instanceMethod yX11_lamps ∈ tb := tb_in (List.mem_of_getElem? (i := 1039) (by decide +kernel)) (by decide)
theorem lwq_1040 : Cond.selects RX11 yX11_lamps yX11_lamps ∈ tb := tb_in (List.mem_of_getElem? (i := 1040) (by decide +kernel)) (by decide)
theorem lwq_1041 : Cond.code yX11_lamps cX11_lamps 3 (some .int) ∈ tb := tb_in (List.mem_of_getElem? (i := 1041) (by decide +kernel)) (by decide)
theorem lwq_1046 : Cond.methodLink RL 125 yX11_bridge ∈ tb := tb_in (List.mem_of_getElem? (i := 1046) (by decide +kernel)) (by decide)
theorem lwq_1047 : Cond.instanceMethod yX11_bridge ∈ tb := tb_in (List.mem_of_getElem? (i := 1047) (by decide +kernel)) (by decide)
theorem lwq_1048 : Cond.selects RX11 yX11_bridge yX11_bridge ∈ tb := tb_in (List.mem_of_getElem? (i := 1048) (by decide +kernel)) (by decide)
theorem lwq_1049 : Cond.code yX11_bridge cX11_bridge 6 (some .int) ∈ tb := tb_in (List.mem_of_getElem? (i := 1049) (by decide +kernel)) (by decide)
theorem lwq_1089 : Cond.methodLink RL 130 yX11_parrots ∈ tb := tb_in (List.mem_of_getElem? (i := 1089) (by decide +kernel)) (by decide)
theorem lwq_1090 : Cond.instanceMethod yX11_parrots ∈ tb := tb_in (List.mem_of_getElem? (i := 1090) (by decide +kernel)) (by decide)
theorem lwq_1091 : Cond.selects RX11 yX11_parrots yX11_parrots ∈ tb := tb_in (List.mem_of_getElem? (i := 1091) (by decide +kernel)) (by decide)
theorem lwq_1092 : Cond.code yX11_parrots cX11_parrots 8 (some .int) ∈ tb := tb_in (List.mem_of_getElem? (i := 1092) (by decide +kernel)) (by decide)
theorem lwq_1102 : Cond.methodLink RL 134 yX11_ants ∈ tb := tb_in (List.mem_of_getElem? (i := 1102) (by decide +kernel)) (by decide)
theorem lwq_1103 : Cond.instanceMethod yX11_ants ∈ tb := tb_in (List.mem_of_getElem? (i := 1103) (by decide +kernel)) (by decide)
theorem lwq_1104 : Cond.selects RX11 yX11_ants yX11_ants ∈ tb := tb_in (List.mem_of_getElem? (i := 1104) (by decide +kernel)) (by decide)
theorem lwq_1105 : Cond.code yX11_ants cX11_ants 6 (some .int) ∈ tb := tb_in (List.mem_of_getElem? (i := 1105) (by decide +kernel)) (by decide)
theorem lwq_1106 : Cond.methodLink RL 138 yX11_seed ∈ tb := tb_in (List.mem_of_getElem? (i := 1106) (by decide +kernel)) (by decide)
theorem lwq_1107 : Cond.instanceMethod yX11_seed ∈ tb := tb_in (List.mem_of_getElem? (i := 1107) (by decide +kernel)) (by decide)
theorem lwq_1108 : Cond.selects RX11 yX11_seed yX11_seed ∈ tb := tb_in (List.mem_of_getElem? (i := 1108) (by decide +kernel)) (by decide)
theorem lwq_1109 : Cond.code yX11_seed cX11_seed 2 (some .boolean) ∈ tb := tb_in (List.mem_of_getElem? (i := 1109) (by decide +kernel)) (by decide)
theorem lwq_1111 : Cond.methodLink RL 143 yX11_keep ∈ tb := tb_in (List.mem_of_getElem? (i := 1111) (by decide +kernel)) (by decide)
theorem lwq_1112 : Cond.instanceMethod yX11_keep ∈ tb := tb_in (List.mem_of_getElem? (i := 1112) (by decide +kernel)) (by decide)
theorem lwq_1113 : Cond.selects RX11 yX11_keep yX11_keep ∈ tb := tb_in (List.mem_of_getElem? (i := 1113) (by decide +kernel)) (by decide)
theorem lwq_1114 : Cond.code yX11_keep cX11_keep 1 (some .int) ∈ tb := tb_in (List.mem_of_getElem? (i := 1114) (by decide +kernel)) (by decide)
theorem lwq_1115 : Cond.methodLink RL 147 yX11_undo ∈ tb := tb_in (List.mem_of_getElem? (i := 1115) (by decide +kernel)) (by decide)
theorem lwq_1116 : Cond.instanceMethod yX11_undo ∈ tb := tb_in (List.mem_of_getElem? (i := 1116) (by decide +kernel)) (by decide)
theorem lwq_1117 : Cond.selects RX11 yX11_undo yX11_undo ∈ tb := tb_in (List.mem_of_getElem? (i := 1117) (by decide +kernel)) (by decide)
theorem lwq_1118 : Cond.code yX11_undo cX11_undo 1 (some .boolean) ∈ tb := tb_in (List.mem_of_getElem? (i := 1118) (by decide +kernel)) (by decide)
theorem lwq_1119 : Cond.methodLink RL 152 yX11_check ∈ tb := tb_in (List.mem_of_getElem? (i := 1119) (by decide +kernel)) (by decide)
theorem lwq_1120 : Cond.instanceMethod yX11_check ∈ tb := tb_in (List.mem_of_getElem? (i := 1120) (by decide +kernel)) (by decide)
theorem lwq_1121 : Cond.selects RX11 yX11_check yX11_check ∈ tb := tb_in (List.mem_of_getElem? (i := 1121) (by decide +kernel)) (by decide)
theorem lwq_1122 : Cond.code yX11_check cX11_check 7 (some .int) ∈ tb := tb_in (List.mem_of_getElem? (i := 1122) (by decide +kernel)) (by decide)
theorem lwq_1123 : Cond.methodLink RL 156 yX11_count ∈ tb := tb_in (List.mem_of_getElem? (i := 1123) (by decide +kernel)) (by decide)
theorem lwq_1124 : Cond.instanceMethod yX11_count ∈ tb := tb_in (List.mem_of_getElem? (i := 1124) (by decide +kernel)) (by decide)
theorem lwq_1125 : Cond.selects RX11 yX11_count yX11_count ∈ tb := tb_in (List.mem_of_getElem? (i := 1125) (by decide +kernel)) (by decide)
theorem lwq_1126 : Cond.code yX11_count cX11_count 2 (some .int) ∈ tb := tb_in (List.mem_of_getElem? (i := 1126) (by decide +kernel)) (by decide)
theorem lwq_1329 : Cond.methodLink RL 17 yX12_chair ∈ tb := tb_in (List.mem_of_getElem? (i := 1329) (by decide +kernel)) (by decide)
theorem lwq_1330 : Cond.instanceMethod yX12_chair ∈ tb := tb_in (List.mem_of_getElem? (i := 1330) (by decide +kernel)) (by decide)
theorem lwq_1331 : Cond.selects RX12 yX12_chair yX12_chair ∈ tb := tb_in (List.mem_of_getElem? (i := 1331) (by decide +kernel)) (by decide)
theorem lwq_1332 : Cond.code yX12_chair cX12_chair 7 (some .boolean) ∈ tb := tb_in (List.mem_of_getElem? (i := 1332) (by decide +kernel)) (by decide)
theorem lwq_1339 : Cond.methodLink RL 22 yX12_floor ∈ tb := tb_in (List.mem_of_getElem? (i := 1339) (by decide +kernel)) (by decide)
theorem lwq_1340 : Cond.instanceMethod yX12_floor ∈ tb := tb_in (List.mem_of_getElem? (i := 1340) (by decide +kernel)) (by decide)
theorem lwq_1341 : Cond.selects RX12 yX12_floor yX12_floor ∈ tb := tb_in (List.mem_of_getElem? (i := 1341) (by decide +kernel)) (by decide)
theorem lwq_1342 : Cond.code yX12_floor cX12_floor 3 (some .boolean) ∈ tb := tb_in (List.mem_of_getElem? (i := 1342) (by decide +kernel)) (by decide)
theorem lwq_1343 : Cond.methodLink RL 26 yX12_column ∈ tb := tb_in (List.mem_of_getElem? (i := 1343) (by decide +kernel)) (by decide)
theorem lwq_1344 : Cond.instanceMethod yX12_column ∈ tb := tb_in (List.mem_of_getElem? (i := 1344) (by decide +kernel)) (by decide)
theorem lwq_1345 : Cond.selects RX12 yX12_column yX12_column ∈ tb := tb_in (List.mem_of_getElem? (i := 1345) (by decide +kernel)) (by decide)
theorem lwq_1346 : Cond.code yX12_column cX12_column 3 (some .boolean) ∈ tb := tb_in (List.mem_of_getElem? (i := 1346) (by decide +kernel)) (by decide)
theorem lwq_1347 : Cond.methodLink RL 31 yX12_feed ∈ tb := tb_in (List.mem_of_getElem? (i := 1347) (by decide +kernel)) (by decide)
theorem lwq_1348 : Cond.instanceMethod yX12_feed ∈ tb := tb_in (List.mem_of_getElem? (i := 1348) (by decide +kernel)) (by decide)
theorem lwq_1349 : Cond.selects RX12 yX12_feed yX12_feed ∈ tb := tb_in (List.mem_of_getElem? (i := 1349) (by decide +kernel)) (by decide)
theorem lwq_1350 : Cond.code yX12_feed cX12_feed 6 (some .int) ∈ tb := tb_in (List.mem_of_getElem? (i := 1350) (by decide +kernel)) (by decide)
theorem lwq_1355 : Cond.methodLink RL 36 yX12_law ∈ tb := tb_in (List.mem_of_getElem? (i := 1355) (by decide +kernel)) (by decide)
theorem lwq_1356 : Cond.instanceMethod yX12_law ∈ tb := tb_in (List.mem_of_getElem? (i := 1356) (by decide +kernel)) (by decide)
theorem lwq_1357 : Cond.selects RX12 yX12_law yX12_law ∈ tb := tb_in (List.mem_of_getElem? (i := 1357) (by decide +kernel)) (by decide)
theorem lwq_1358 : Cond.code yX12_law cX12_law 4 (some .int) ∈ tb := tb_in (List.mem_of_getElem? (i := 1358) (by decide +kernel)) (by decide)
theorem lwq_1442 : Cond.methodLink RL 40 yX12_orders ∈ tb := tb_in (List.mem_of_getElem? (i := 1442) (by decide +kernel)) (by decide)
theorem lwq_1443 : Cond.instanceMethod yX12_orders ∈ tb := tb_in (List.mem_of_getElem? (i := 1443) (by decide +kernel)) (by decide)
theorem lwq_1444 : Cond.selects RX12 yX12_orders yX12_orders ∈ tb := tb_in (List.mem_of_getElem? (i := 1444) (by decide +kernel)) (by decide)
theorem lwq_1445 : Cond.code yX12_orders cX12_orders 3 (some .int) ∈ tb := tb_in (List.mem_of_getElem? (i := 1445) (by decide +kernel)) (by decide)
theorem lwq_1484 : Cond.methodLink RL 45 yX12_signals ∈ tb := tb_in (List.mem_of_getElem? (i := 1484) (by decide +kernel)) (by decide)
theorem lwq_1485 : Cond.instanceMethod yX12_signals ∈ tb := tb_in (List.mem_of_getElem? (i := 1485) (by decide +kernel)) (by decide)
theorem lwq_1486 : Cond.selects RX12 yX12_signals yX12_signals ∈ tb := tb_in (List.mem_of_getElem? (i := 1486) (by decide +kernel)) (by decide)
theorem lwq_1487 : Cond.code yX12_signals cX12_signals 5 (some .int) ∈ tb := tb_in (List.mem_of_getElem? (i := 1487) (by decide +kernel)) (by decide)
theorem lwq_1500 : Cond.methodLink RL 49 yX12_watches ∈ tb := tb_in (List.mem_of_getElem? (i := 1500) (by decide +kernel)) (by decide)
theorem lwq_1501 : Cond.instanceMethod yX12_watches ∈ tb := tb_in (List.mem_of_getElem? (i := 1501) (by decide +kernel)) (by decide)
theorem lwq_1502 : Cond.selects RX12 yX12_watches yX12_watches ∈ tb := tb_in (List.mem_of_getElem? (i := 1502) (by decide +kernel)) (by decide)
theorem lwq_1503 : Cond.code yX12_watches cX12_watches 2 (some .int) ∈ tb := tb_in (List.mem_of_getElem? (i := 1503) (by decide +kernel)) (by decide)
theorem lwq_1581 : Cond.methodLink RL 53 yX12_tried ∈ tb := tb_in (List.mem_of_getElem? (i := 1581) (by decide +kernel)) (by decide)
theorem lwq_1582 : Cond.instanceMethod yX12_tried ∈ tb := tb_in (List.mem_of_getElem? (i := 1582) (by decide +kernel)) (by decide)
theorem lwq_1583 : Cond.selects RX12 yX12_tried yX12_tried ∈ tb := tb_in (List.mem_of_getElem? (i := 1583) (by decide +kernel)) (by decide)
theorem lwq_1584 : Cond.code yX12_tried cX12_tried 4 (some .int) ∈ tb := tb_in (List.mem_of_getElem? (i := 1584) (by decide +kernel)) (by decide)
theorem lwq_1589 : Cond.methodLink RL 58 yX12_chairIs ∈ tb := tb_in (List.mem_of_getElem? (i := 1589) (by decide +kernel)) (by decide)
theorem lwq_1590 : Cond.instanceMethod yX12_chairIs ∈ tb := tb_in (List.mem_of_getElem? (i := 1590) (by decide +kernel)) (by decide)
theorem lwq_1591 : Cond.selects RX12 yX12_chairIs yX12_chairIs ∈ tb := tb_in (List.mem_of_getElem? (i := 1591) (by decide +kernel)) (by decide)
theorem lwq_1592 : Cond.code yX12_chairIs cX12_chairIs 5 (some .int) ∈ tb := tb_in (List.mem_of_getElem? (i := 1592) (by decide +kernel)) (by decide)
theorem lwq_1593 : Cond.methodLink RL 62 yX12_sees ∈ tb := tb_in (List.mem_of_getElem? (i := 1593) (by decide +kernel)) (by decide)
theorem lwq_1594 : Cond.instanceMethod yX12_sees ∈ tb := tb_in (List.mem_of_getElem? (i := 1594) (by decide +kernel)) (by decide)
theorem lwq_1595 : Cond.selects RX12 yX12_sees yX12_sees ∈ tb := tb_in (List.mem_of_getElem? (i := 1595) (by decide +kernel)) (by decide)
theorem lwq_1596 : Cond.code yX12_sees cX12_sees 3 (some .int) ∈ tb := tb_in (List.mem_of_getElem? (i := 1596) (by decide +kernel)) (by decide)
theorem lwq_1597 : Cond.methodLink RL 66 yX12_toSee ∈ tb := tb_in (List.mem_of_getElem? (i := 1597) (by decide +kernel)) (by decide)
theorem lwq_1598 : Cond.instanceMethod yX12_toSee ∈ tb := tb_in (List.mem_of_getElem? (i := 1598) (by decide +kernel)) (by decide)
theorem lwq_1599 : Cond.selects RX12 yX12_toSee yX12_toSee ∈ tb := tb_in (List.mem_of_getElem? (i := 1599) (by decide +kernel)) (by decide)
theorem lwq_1600 : Cond.code yX12_toSee cX12_toSee 8 (some .int) ∈ tb := tb_in (List.mem_of_getElem? (i := 1600) (by decide +kernel)) (by decide)
theorem lwq_1601 : Cond.methodLink RL 70 yX12_overTrees ∈ tb := tb_in (List.mem_of_getElem? (i := 1601) (by decide +kernel)) (by decide)
theorem lwq_1602 : Cond.instanceMethod yX12_overTrees ∈ tb := tb_in (List.mem_of_getElem? (i := 1602) (by decide +kernel)) (by decide)
theorem lwq_1603 : Cond.selects RX12 yX12_overTrees yX12_overTrees ∈ tb := tb_in (List.mem_of_getElem? (i := 1603) (by decide +kernel)) (by decide)
theorem lwq_1604 : Cond.code yX12_overTrees cX12_overTrees 7 (some .int) ∈ tb := tb_in (List.mem_of_getElem? (i := 1604) (by decide +kernel)) (by decide)
theorem lwq_1613 : Cond.methodLink RL 74 yX12_hidden ∈ tb := tb_in (List.mem_of_getElem? (i := 1613) (by decide +kernel)) (by decide)
theorem lwq_1614 : Cond.instanceMethod yX12_hidden ∈ tb := tb_in (List.mem_of_getElem? (i := 1614) (by decide +kernel)) (by decide)
theorem lwq_1615 : Cond.selects RX12 yX12_hidden yX12_hidden ∈ tb := tb_in (List.mem_of_getElem? (i := 1615) (by decide +kernel)) (by decide)
theorem lwq_1616 : Cond.code yX12_hidden cX12_hidden 9 (some .int) ∈ tb := tb_in (List.mem_of_getElem? (i := 1616) (by decide +kernel)) (by decide)
theorem lwq_1618 : Cond.methodLink RL 79 yX12_capture ∈ tb := tb_in (List.mem_of_getElem? (i := 1618) (by decide +kernel)) (by decide)
theorem lwq_1619 : Cond.instanceMethod yX12_capture ∈ tb := tb_in (List.mem_of_getElem? (i := 1619) (by decide +kernel)) (by decide)
theorem lwq_1620 : Cond.selects RX12 yX12_capture yX12_capture ∈ tb := tb_in (List.mem_of_getElem? (i := 1620) (by decide +kernel)) (by decide)
theorem lwq_1621 : Cond.code yX12_capture cX12_capture 7 (some .boolean) ∈ tb := tb_in (List.mem_of_getElem? (i := 1621) (by decide +kernel)) (by decide)
theorem lwq_1622 : Cond.methodLink RL 83 yX12_whenIn ∈ tb := tb_in (List.mem_of_getElem? (i := 1622) (by decide +kernel)) (by decide)
theorem lwq_1623 : Cond.instanceMethod yX12_whenIn ∈ tb := tb_in (List.mem_of_getElem? (i := 1623) (by decide +kernel)) (by decide)
theorem lwq_1624 : Cond.selects RX12 yX12_whenIn yX12_whenIn ∈ tb := tb_in (List.mem_of_getElem? (i := 1624) (by decide +kernel)) (by decide)
theorem lwq_1625 : Cond.code yX12_whenIn cX12_whenIn 5 (some .int) ∈ tb := tb_in (List.mem_of_getElem? (i := 1625) (by decide +kernel)) (by decide)
theorem lwq_1626 : Cond.methodLink RL 87 yX12_first ∈ tb := tb_in (List.mem_of_getElem? (i := 1626) (by decide +kernel)) (by decide)
theorem lwq_1627 : Cond.instanceMethod yX12_first ∈ tb := tb_in (List.mem_of_getElem? (i := 1627) (by decide +kernel)) (by decide)
theorem lwq_1628 : Cond.selects RX12 yX12_first yX12_first ∈ tb := tb_in (List.mem_of_getElem? (i := 1628) (by decide +kernel)) (by decide)
theorem lwq_1629 : Cond.code yX12_first cX12_first 3 (some .int) ∈ tb := tb_in (List.mem_of_getElem? (i := 1629) (by decide +kernel)) (by decide)
theorem lwq_1630 : Cond.methodLink RL 91 yX12_loses ∈ tb := tb_in (List.mem_of_getElem? (i := 1630) (by decide +kernel)) (by decide)
theorem lwq_1631 : Cond.instanceMethod yX12_loses ∈ tb := tb_in (List.mem_of_getElem? (i := 1631) (by decide +kernel)) (by decide)
theorem lwq_1632 : Cond.selects RX12 yX12_loses yX12_loses ∈ tb := tb_in (List.mem_of_getElem? (i := 1632) (by decide +kernel)) (by decide)
theorem lwq_1633 : Cond.code yX12_loses cX12_loses 4 (some .int) ∈ tb := tb_in (List.mem_of_getElem? (i := 1633) (by decide +kernel)) (by decide)
theorem lwq_1634 : Cond.methodLink RL 95 yX12_lasts ∈ tb := tb_in (List.mem_of_getElem? (i := 1634) (by decide +kernel)) (by decide)
theorem lwq_1635 : Cond.instanceMethod yX12_lasts ∈ tb := tb_in (List.mem_of_getElem? (i := 1635) (by decide +kernel)) (by decide)
theorem lwq_1636 : Cond.selects RX12 yX12_lasts yX12_lasts ∈ tb := tb_in (List.mem_of_getElem? (i := 1636) (by decide +kernel)) (by decide)
theorem lwq_1637 : Cond.code yX12_lasts cX12_lasts 6 (some .int) ∈ tb := tb_in (List.mem_of_getElem? (i := 1637) (by decide +kernel)) (by decide)
theorem lwq_1642 : Cond.methodLink RL 99 yX12_glasses ∈ tb := tb_in (List.mem_of_getElem? (i := 1642) (by decide +kernel)) (by decide)
theorem lwq_1643 : Cond.instanceMethod yX12_glasses ∈ tb := tb_in (List.mem_of_getElem? (i := 1643) (by decide +kernel)) (by decide)
theorem lwq_1644 : Cond.selects RX12 yX12_glasses yX12_glasses ∈ tb := tb_in (List.mem_of_getElem? (i := 1644) (by decide +kernel)) (by decide)
theorem lwq_1645 : Cond.code yX12_glasses cX12_glasses 8 (some .int) ∈ tb := tb_in (List.mem_of_getElem? (i := 1645) (by decide +kernel)) (by decide)
theorem lwq_1653 : Cond.methodLink RL 103 yX12_march ∈ tb := tb_in (List.mem_of_getElem? (i := 1653) (by decide +kernel)) (by decide)
theorem lwq_1654 : Cond.instanceMethod yX12_march ∈ tb := tb_in (List.mem_of_getElem? (i := 1654) (by decide +kernel)) (by decide)
theorem lwq_1655 : Cond.selects RX12 yX12_march yX12_march ∈ tb := tb_in (List.mem_of_getElem? (i := 1655) (by decide +kernel)) (by decide)
theorem lwq_1656 : Cond.code yX12_march cX12_march 6 (some .int) ∈ tb := tb_in (List.mem_of_getElem? (i := 1656) (by decide +kernel)) (by decide)
theorem lwq_1657 : Cond.methodLink RL 107 yX12_ridge ∈ tb := tb_in (List.mem_of_getElem? (i := 1657) (by decide +kernel)) (by decide)
theorem lwq_1658 : Cond.instanceMethod yX12_ridge ∈ tb := tb_in (List.mem_of_getElem? (i := 1658) (by decide +kernel)) (by decide)
theorem lwq_1659 : Cond.selects RX12 yX12_ridge yX12_ridge ∈ tb := tb_in (List.mem_of_getElem? (i := 1659) (by decide +kernel)) (by decide)
theorem lwq_1660 : Cond.code yX12_ridge cX12_ridge 7 (some .int) ∈ tb := tb_in (List.mem_of_getElem? (i := 1660) (by decide +kernel)) (by decide)
theorem lwq_1661 : Cond.methodLink RL 112 yX12_answered ∈ tb := tb_in (List.mem_of_getElem? (i := 1661) (by decide +kernel)) (by decide)
theorem lwq_1662 : Cond.instanceMethod yX12_answered ∈ tb := tb_in (List.mem_of_getElem? (i := 1662) (by decide +kernel)) (by decide)
theorem lwq_1663 : Cond.selects RX12 yX12_answered yX12_answered ∈ tb := tb_in (List.mem_of_getElem? (i := 1663) (by decide +kernel)) (by decide)
theorem lwq_1664 : Cond.code yX12_answered cX12_answered 3 (some .int) ∈ tb := tb_in (List.mem_of_getElem? (i := 1664) (by decide +kernel)) (by decide)
theorem lwq_1665 : Cond.methodLink RL 116 yX12_inCommon ∈ tb := tb_in (List.mem_of_getElem? (i := 1665) (by decide +kernel)) (by decide)
theorem lwq_1666 : Cond.instanceMethod yX12_inCommon ∈ tb := tb_in (List.mem_of_getElem? (i := 1666) (by decide +kernel)) (by decide)
theorem lwq_1667 : Cond.selects RX12 yX12_inCommon yX12_inCommon ∈ tb := tb_in (List.mem_of_getElem? (i := 1667) (by decide +kernel)) (by decide)
theorem lwq_1668 : Cond.code yX12_inCommon cX12_inCommon 10 (some .int) ∈ tb := tb_in (List.mem_of_getElem? (i := 1668) (by decide +kernel)) (by decide)
theorem lwq_1677 : Cond.methodLink RL 120 yX12_beat ∈ tb := tb_in (List.mem_of_getElem? (i := 1677) (by decide +kernel)) (by decide)
theorem lwq_1678 : Cond.instanceMethod yX12_beat ∈ tb := tb_in (List.mem_of_getElem? (i := 1678) (by decide +kernel)) (by decide)
theorem lwq_1679 : Cond.selects RX12 yX12_beat yX12_beat ∈ tb := tb_in (List.mem_of_getElem? (i := 1679) (by decide +kernel)) (by decide)
theorem lwq_1680 : Cond.code yX12_beat cX12_beat 3 (some .int) ∈ tb := tb_in (List.mem_of_getElem? (i := 1680) (by decide +kernel)) (by decide)
theorem lwq_1685 : Cond.methodLink RL 124 yX12_lamps ∈ tb := tb_in (List.mem_of_getElem? (i := 1685) (by decide +kernel)) (by decide)
theorem lwq_1686 : Cond.instanceMethod yX12_lamps ∈ tb := tb_in (List.mem_of_getElem? (i := 1686) (by decide +kernel)) (by decide)
theorem lwq_1687 : Cond.selects RX12 yX12_lamps yX12_lamps ∈ tb := tb_in (List.mem_of_getElem? (i := 1687) (by decide +kernel)) (by decide)
theorem lwq_1688 : Cond.code yX12_lamps cX12_lamps 5 (some .int) ∈ tb := tb_in (List.mem_of_getElem? (i := 1688) (by decide +kernel)) (by decide)
theorem lwq_1689 : Cond.methodLink RL 129 yX12_bridge ∈ tb := tb_in (List.mem_of_getElem? (i := 1689) (by decide +kernel)) (by decide)
theorem lwq_1690 : Cond.instanceMethod yX12_bridge ∈ tb := tb_in (List.mem_of_getElem? (i := 1690) (by decide +kernel)) (by decide)
theorem lwq_1691 : Cond.selects RX12 yX12_bridge yX12_bridge ∈ tb := tb_in (List.mem_of_getElem? (i := 1691) (by decide +kernel)) (by decide)
theorem lwq_1692 : Cond.code yX12_bridge cX12_bridge 7 (some .int) ∈ tb := tb_in (List.mem_of_getElem? (i := 1692) (by decide +kernel)) (by decide)
theorem lwq_1729 : Cond.methodLink RL 133 yX12_parrots ∈ tb := tb_in (List.mem_of_getElem? (i := 1729) (by decide +kernel)) (by decide)
theorem lwq_1730 : Cond.instanceMethod yX12_parrots ∈ tb := tb_in (List.mem_of_getElem? (i := 1730) (by decide +kernel)) (by decide)
theorem lwq_1731 : Cond.selects RX12 yX12_parrots yX12_parrots ∈ tb := tb_in (List.mem_of_getElem? (i := 1731) (by decide +kernel)) (by decide)
theorem lwq_1732 : Cond.code yX12_parrots cX12_parrots 8 (some .int) ∈ tb := tb_in (List.mem_of_getElem? (i := 1732) (by decide +kernel)) (by decide)
theorem lwq_1736 : Cond.methodLink RL 137 yX12_ants ∈ tb := tb_in (List.mem_of_getElem? (i := 1736) (by decide +kernel)) (by decide)
theorem lwq_1737 : Cond.instanceMethod yX12_ants ∈ tb := tb_in (List.mem_of_getElem? (i := 1737) (by decide +kernel)) (by decide)
theorem lwq_1738 : Cond.selects RX12 yX12_ants yX12_ants ∈ tb := tb_in (List.mem_of_getElem? (i := 1738) (by decide +kernel)) (by decide)
theorem lwq_1739 : Cond.code yX12_ants cX12_ants 4 (some .int) ∈ tb := tb_in (List.mem_of_getElem? (i := 1739) (by decide +kernel)) (by decide)
theorem lwq_1740 : Cond.methodLink RL 142 yX12_seed ∈ tb := tb_in (List.mem_of_getElem? (i := 1740) (by decide +kernel)) (by decide)
theorem lwq_1741 : Cond.instanceMethod yX12_seed ∈ tb := tb_in (List.mem_of_getElem? (i := 1741) (by decide +kernel)) (by decide)
theorem lwq_1742 : Cond.selects RX12 yX12_seed yX12_seed ∈ tb := tb_in (List.mem_of_getElem? (i := 1742) (by decide +kernel)) (by decide)
theorem lwq_1743 : Cond.code yX12_seed cX12_seed 2 (some .boolean) ∈ tb := tb_in (List.mem_of_getElem? (i := 1743) (by decide +kernel)) (by decide)
theorem lwq_1745 : Cond.methodLink RL 146 yX12_keep ∈ tb := tb_in (List.mem_of_getElem? (i := 1745) (by decide +kernel)) (by decide)
theorem lwq_1746 : Cond.instanceMethod yX12_keep ∈ tb := tb_in (List.mem_of_getElem? (i := 1746) (by decide +kernel)) (by decide)
theorem lwq_1747 : Cond.selects RX12 yX12_keep yX12_keep ∈ tb := tb_in (List.mem_of_getElem? (i := 1747) (by decide +kernel)) (by decide)
theorem lwq_1748 : Cond.code yX12_keep cX12_keep 1 (some .int) ∈ tb := tb_in (List.mem_of_getElem? (i := 1748) (by decide +kernel)) (by decide)
theorem lwq_1749 : Cond.methodLink RL 151 yX12_undo ∈ tb := tb_in (List.mem_of_getElem? (i := 1749) (by decide +kernel)) (by decide)
theorem lwq_1750 : Cond.instanceMethod yX12_undo ∈ tb := tb_in (List.mem_of_getElem? (i := 1750) (by decide +kernel)) (by decide)
theorem lwq_1751 : Cond.selects RX12 yX12_undo yX12_undo ∈ tb := tb_in (List.mem_of_getElem? (i := 1751) (by decide +kernel)) (by decide)
theorem lwq_1752 : Cond.code yX12_undo cX12_undo 1 (some .boolean) ∈ tb := tb_in (List.mem_of_getElem? (i := 1752) (by decide +kernel)) (by decide)
theorem lwq_1753 : Cond.methodLink RL 155 yX12_check ∈ tb := tb_in (List.mem_of_getElem? (i := 1753) (by decide +kernel)) (by decide)
theorem lwq_1754 : Cond.instanceMethod yX12_check ∈ tb := tb_in (List.mem_of_getElem? (i := 1754) (by decide +kernel)) (by decide)
theorem lwq_1755 : Cond.selects RX12 yX12_check yX12_check ∈ tb := tb_in (List.mem_of_getElem? (i := 1755) (by decide +kernel)) (by decide)
theorem lwq_1756 : Cond.code yX12_check cX12_check 4 (some .int) ∈ tb := tb_in (List.mem_of_getElem? (i := 1756) (by decide +kernel)) (by decide)
theorem lwq_1757 : Cond.methodLink RL 159 yX12_count ∈ tb := tb_in (List.mem_of_getElem? (i := 1757) (by decide +kernel)) (by decide)
theorem lwq_1758 : Cond.instanceMethod yX12_count ∈ tb := tb_in (List.mem_of_getElem? (i := 1758) (by decide +kernel)) (by decide)
theorem lwq_1759 : Cond.selects RX12 yX12_count yX12_count ∈ tb := tb_in (List.mem_of_getElem? (i := 1759) (by decide +kernel)) (by decide)
theorem lwq_1760 : Cond.code yX12_count cX12_count 3 (some .int) ∈ tb := tb_in (List.mem_of_getElem? (i := 1760) (by decide +kernel)) (by decide)
theorem vo_law_13 : VOk RL 13 yX11_chair cX11_chair 6 (some .boolean) 5 := ⟨lwq_477, lwq_478, lwq_479, lwq_104, lwq_480, by decide +kernel, by decide⟩
theorem vo_law_17 : VOk RL 17 yX12_chair cX12_chair 7 (some .boolean) 5 := ⟨lwq_1329, lwq_1330, lwq_1331, lwq_117, lwq_1332, by decide +kernel, by decide⟩
theorem vo_law_18 : VOk RL 18 yX11_floor cX11_floor 3 (some .boolean) 2 := ⟨lwq_494, lwq_495, lwq_496, lwq_104, lwq_497, by decide +kernel, by decide⟩
theorem vo_law_22 : VOk RL 22 yX12_floor cX12_floor 3 (some .boolean) 2 := ⟨lwq_1339, lwq_1340, lwq_1341, lwq_117, lwq_1342, by decide +kernel, by decide⟩
theorem vo_law_23 : VOk RL 23 yX11_column cX11_column 3 (some .boolean) 2 := ⟨lwq_498, lwq_499, lwq_500, lwq_104, lwq_501, by decide +kernel, by decide⟩
theorem vo_law_26 : VOk RL 26 yX12_column cX12_column 3 (some .boolean) 2 := ⟨lwq_1343, lwq_1344, lwq_1345, lwq_117, lwq_1346, by decide +kernel, by decide⟩
theorem vo_law_27 : VOk RL 27 yX11_feed cX11_feed 6 (some .int) 5 := ⟨lwq_502, lwq_503, lwq_504, lwq_104, lwq_505, by decide +kernel, by decide⟩
theorem vo_law_31 : VOk RL 31 yX12_feed cX12_feed 6 (some .int) 5 := ⟨lwq_1347, lwq_1348, lwq_1349, lwq_117, lwq_1350, by decide +kernel, by decide⟩
theorem vo_law_32 : VOk RL 32 yX11_law cX11_law 4 (some .int) 1 := ⟨lwq_514, lwq_515, lwq_516, lwq_104, lwq_517, by decide +kernel, by decide⟩
theorem vo_law_36 : VOk RL 36 yX12_law cX12_law 4 (some .int) 1 := ⟨lwq_1355, lwq_1356, lwq_1357, lwq_117, lwq_1358, by decide +kernel, by decide⟩
theorem vo_law_37 : VOk RL 37 yX11_orders cX11_orders 3 (some .int) 1 := ⟨lwq_697, lwq_698, lwq_699, lwq_104, lwq_700, by decide +kernel, by decide⟩
theorem vo_law_40 : VOk RL 40 yX12_orders cX12_orders 3 (some .int) 1 := ⟨lwq_1442, lwq_1443, lwq_1444, lwq_117, lwq_1445, by decide +kernel, by decide⟩
theorem vo_law_41 : VOk RL 41 yX11_signals cX11_signals 5 (some .int) 2 := ⟨lwq_740, lwq_741, lwq_742, lwq_104, lwq_743, by decide +kernel, by decide⟩
theorem vo_law_45 : VOk RL 45 yX12_signals cX12_signals 5 (some .int) 2 := ⟨lwq_1484, lwq_1485, lwq_1486, lwq_117, lwq_1487, by decide +kernel, by decide⟩
theorem vo_law_46 : VOk RL 46 yX11_watches cX11_watches 2 (some .int) 1 := ⟨lwq_776, lwq_777, lwq_778, lwq_104, lwq_779, by decide +kernel, by decide⟩
theorem vo_law_49 : VOk RL 49 yX12_watches cX12_watches 2 (some .int) 1 := ⟨lwq_1500, lwq_1501, lwq_1502, lwq_117, lwq_1503, by decide +kernel, by decide⟩
theorem vo_law_50 : VOk RL 50 yX11_tried cX11_tried 5 (some .int) 2 := ⟨lwq_872, lwq_873, lwq_874, lwq_104, lwq_875, by decide +kernel, by decide⟩
theorem vo_law_53 : VOk RL 53 yX12_tried cX12_tried 4 (some .int) 2 := ⟨lwq_1581, lwq_1582, lwq_1583, lwq_117, lwq_1584, by decide +kernel, by decide⟩
theorem vo_law_54 : VOk RL 54 yX11_chairIs cX11_chairIs 5 (some .int) 3 := ⟨lwq_880, lwq_881, lwq_882, lwq_104, lwq_883, by decide +kernel, by decide⟩
theorem vo_law_58 : VOk RL 58 yX12_chairIs cX12_chairIs 5 (some .int) 3 := ⟨lwq_1589, lwq_1590, lwq_1591, lwq_117, lwq_1592, by decide +kernel, by decide⟩
theorem vo_law_59 : VOk RL 59 yX11_sees cX11_sees 3 (some .int) 2 := ⟨lwq_891, lwq_892, lwq_893, lwq_104, lwq_894, by decide +kernel, by decide⟩
theorem vo_law_62 : VOk RL 62 yX12_sees cX12_sees 3 (some .int) 2 := ⟨lwq_1593, lwq_1594, lwq_1595, lwq_117, lwq_1596, by decide +kernel, by decide⟩
theorem vo_law_63 : VOk RL 63 yX11_toSee cX11_toSee 9 (some .int) 3 := ⟨lwq_896, lwq_897, lwq_898, lwq_104, lwq_899, by decide +kernel, by decide⟩
theorem vo_law_66 : VOk RL 66 yX12_toSee cX12_toSee 8 (some .int) 3 := ⟨lwq_1597, lwq_1598, lwq_1599, lwq_117, lwq_1600, by decide +kernel, by decide⟩
theorem vo_law_67 : VOk RL 67 yX11_overTrees cX11_overTrees 7 (some .int) 1 := ⟨lwq_901, lwq_902, lwq_903, lwq_104, lwq_904, by decide +kernel, by decide⟩
theorem vo_law_70 : VOk RL 70 yX12_overTrees cX12_overTrees 7 (some .int) 1 := ⟨lwq_1601, lwq_1602, lwq_1603, lwq_117, lwq_1604, by decide +kernel, by decide⟩
theorem vo_law_71 : VOk RL 71 yX11_hidden cX11_hidden 10 (some .int) 1 := ⟨lwq_909, lwq_910, lwq_911, lwq_104, lwq_912, by decide +kernel, by decide⟩
theorem vo_law_74 : VOk RL 74 yX12_hidden cX12_hidden 9 (some .int) 1 := ⟨lwq_1613, lwq_1614, lwq_1615, lwq_117, lwq_1616, by decide +kernel, by decide⟩
theorem vo_law_75 : VOk RL 75 yX11_capture cX11_capture 7 (some .boolean) 3 := ⟨lwq_918, lwq_919, lwq_920, lwq_104, lwq_921, by decide +kernel, by decide⟩
theorem vo_law_79 : VOk RL 79 yX12_capture cX12_capture 7 (some .boolean) 3 := ⟨lwq_1618, lwq_1619, lwq_1620, lwq_117, lwq_1621, by decide +kernel, by decide⟩
theorem vo_law_80 : VOk RL 80 yX11_whenIn cX11_whenIn 5 (some .int) 3 := ⟨lwq_922, lwq_923, lwq_924, lwq_104, lwq_925, by decide +kernel, by decide⟩
theorem vo_law_83 : VOk RL 83 yX12_whenIn cX12_whenIn 5 (some .int) 3 := ⟨lwq_1622, lwq_1623, lwq_1624, lwq_117, lwq_1625, by decide +kernel, by decide⟩
theorem vo_law_84 : VOk RL 84 yX11_first cX11_first 4 (some .int) 2 := ⟨lwq_926, lwq_927, lwq_928, lwq_104, lwq_929, by decide +kernel, by decide⟩
theorem vo_law_87 : VOk RL 87 yX12_first cX12_first 3 (some .int) 2 := ⟨lwq_1626, lwq_1627, lwq_1628, lwq_117, lwq_1629, by decide +kernel, by decide⟩
theorem vo_law_88 : VOk RL 88 yX11_loses cX11_loses 3 (some .int) 2 := ⟨lwq_930, lwq_931, lwq_932, lwq_104, lwq_933, by decide +kernel, by decide⟩
theorem vo_law_91 : VOk RL 91 yX12_loses cX12_loses 4 (some .int) 2 := ⟨lwq_1630, lwq_1631, lwq_1632, lwq_117, lwq_1633, by decide +kernel, by decide⟩
theorem vo_law_92 : VOk RL 92 yX11_lasts cX11_lasts 6 (some .int) 3 := ⟨lwq_934, lwq_935, lwq_936, lwq_104, lwq_937, by decide +kernel, by decide⟩
theorem vo_law_95 : VOk RL 95 yX12_lasts cX12_lasts 6 (some .int) 3 := ⟨lwq_1634, lwq_1635, lwq_1636, lwq_117, lwq_1637, by decide +kernel, by decide⟩
theorem vo_law_96 : VOk RL 96 yX11_glasses cX11_glasses 2 (some .int) 1 := ⟨lwq_942, lwq_943, lwq_944, lwq_104, lwq_945, by decide +kernel, by decide⟩
theorem vo_law_99 : VOk RL 99 yX12_glasses cX12_glasses 8 (some .int) 1 := ⟨lwq_1642, lwq_1643, lwq_1644, lwq_117, lwq_1645, by decide +kernel, by decide⟩
theorem vo_law_100 : VOk RL 100 yX11_march cX11_march 7 (some .int) 1 := ⟨lwq_977, lwq_978, lwq_979, lwq_104, lwq_980, by decide +kernel, by decide⟩
theorem vo_law_103 : VOk RL 103 yX12_march cX12_march 6 (some .int) 1 := ⟨lwq_1653, lwq_1654, lwq_1655, lwq_117, lwq_1656, by decide +kernel, by decide⟩
theorem vo_law_104 : VOk RL 104 yX11_ridge cX11_ridge 2 (some .int) 1 := ⟨lwq_981, lwq_982, lwq_983, lwq_104, lwq_984, by decide +kernel, by decide⟩
theorem vo_law_107 : VOk RL 107 yX12_ridge cX12_ridge 7 (some .int) 1 := ⟨lwq_1657, lwq_1658, lwq_1659, lwq_117, lwq_1660, by decide +kernel, by decide⟩
theorem vo_law_108 : VOk RL 108 yX11_answered cX11_answered 3 (some .int) 0 := ⟨lwq_994, lwq_995, lwq_996, lwq_104, lwq_997, by decide +kernel, by decide⟩
theorem vo_law_112 : VOk RL 112 yX12_answered cX12_answered 3 (some .int) 0 := ⟨lwq_1661, lwq_1662, lwq_1663, lwq_117, lwq_1664, by decide +kernel, by decide⟩
theorem vo_law_113 : VOk RL 113 yX11_inCommon cX11_inCommon 2 (some .int) 1 := ⟨lwq_999, lwq_1000, lwq_1001, lwq_104, lwq_1002, by decide +kernel, by decide⟩
theorem vo_law_116 : VOk RL 116 yX12_inCommon cX12_inCommon 10 (some .int) 1 := ⟨lwq_1665, lwq_1666, lwq_1667, lwq_117, lwq_1668, by decide +kernel, by decide⟩
theorem vo_law_117 : VOk RL 117 yX11_beat cX11_beat 4 (some .int) 1 := ⟨lwq_1030, lwq_1031, lwq_1032, lwq_104, lwq_1033, by decide +kernel, by decide⟩
theorem vo_law_120 : VOk RL 120 yX12_beat cX12_beat 3 (some .int) 1 := ⟨lwq_1677, lwq_1678, lwq_1679, lwq_117, lwq_1680, by decide +kernel, by decide⟩
theorem vo_law_121 : VOk RL 121 yX11_lamps cX11_lamps 3 (some .int) 2 := ⟨lwq_1038, lwq_1039, lwq_1040, lwq_104, lwq_1041, by decide +kernel, by decide⟩
theorem vo_law_124 : VOk RL 124 yX12_lamps cX12_lamps 5 (some .int) 2 := ⟨lwq_1685, lwq_1686, lwq_1687, lwq_117, lwq_1688, by decide +kernel, by decide⟩
theorem vo_law_125 : VOk RL 125 yX11_bridge cX11_bridge 6 (some .int) 4 := ⟨lwq_1046, lwq_1047, lwq_1048, lwq_104, lwq_1049, by decide +kernel, by decide⟩
theorem vo_law_129 : VOk RL 129 yX12_bridge cX12_bridge 7 (some .int) 4 := ⟨lwq_1689, lwq_1690, lwq_1691, lwq_117, lwq_1692, by decide +kernel, by decide⟩
theorem vo_law_130 : VOk RL 130 yX11_parrots cX11_parrots 8 (some .int) 3 := ⟨lwq_1089, lwq_1090, lwq_1091, lwq_104, lwq_1092, by decide +kernel, by decide⟩
theorem vo_law_133 : VOk RL 133 yX12_parrots cX12_parrots 8 (some .int) 3 := ⟨lwq_1729, lwq_1730, lwq_1731, lwq_117, lwq_1732, by decide +kernel, by decide⟩
theorem vo_law_134 : VOk RL 134 yX11_ants cX11_ants 6 (some .int) 2 := ⟨lwq_1102, lwq_1103, lwq_1104, lwq_104, lwq_1105, by decide +kernel, by decide⟩
theorem vo_law_137 : VOk RL 137 yX12_ants cX12_ants 4 (some .int) 2 := ⟨lwq_1736, lwq_1737, lwq_1738, lwq_117, lwq_1739, by decide +kernel, by decide⟩
theorem vo_law_138 : VOk RL 138 yX11_seed cX11_seed 2 (some .boolean) 1 := ⟨lwq_1106, lwq_1107, lwq_1108, lwq_104, lwq_1109, by decide +kernel, by decide⟩
theorem vo_law_142 : VOk RL 142 yX12_seed cX12_seed 2 (some .boolean) 1 := ⟨lwq_1740, lwq_1741, lwq_1742, lwq_117, lwq_1743, by decide +kernel, by decide⟩
theorem vo_law_143 : VOk RL 143 yX11_keep cX11_keep 1 (some .int) 0 := ⟨lwq_1111, lwq_1112, lwq_1113, lwq_104, lwq_1114, by decide +kernel, by decide⟩
theorem vo_law_146 : VOk RL 146 yX12_keep cX12_keep 1 (some .int) 0 := ⟨lwq_1745, lwq_1746, lwq_1747, lwq_117, lwq_1748, by decide +kernel, by decide⟩
theorem vo_law_147 : VOk RL 147 yX11_undo cX11_undo 1 (some .boolean) 0 := ⟨lwq_1115, lwq_1116, lwq_1117, lwq_104, lwq_1118, by decide +kernel, by decide⟩
theorem vo_law_151 : VOk RL 151 yX12_undo cX12_undo 1 (some .boolean) 0 := ⟨lwq_1749, lwq_1750, lwq_1751, lwq_117, lwq_1752, by decide +kernel, by decide⟩
theorem vo_law_152 : VOk RL 152 yX11_check cX11_check 7 (some .int) 2 := ⟨lwq_1119, lwq_1120, lwq_1121, lwq_104, lwq_1122, by decide +kernel, by decide⟩
theorem vo_law_155 : VOk RL 155 yX12_check cX12_check 4 (some .int) 2 := ⟨lwq_1753, lwq_1754, lwq_1755, lwq_117, lwq_1756, by decide +kernel, by decide⟩
theorem vo_law_156 : VOk RL 156 yX11_count cX11_count 2 (some .int) 1 := ⟨lwq_1123, lwq_1124, lwq_1125, lwq_104, lwq_1126, by decide +kernel, by decide⟩
theorem vo_law_159 : VOk RL 159 yX12_count cX12_count 3 (some .int) 1 := ⟨lwq_1757, lwq_1758, lwq_1759, lwq_117, lwq_1760, by decide +kernel, by decide⟩
/-- a call of the class, of the reference, by its number in the law -/
def stepC (k : Nat) (a : Nat → Int32) (σ : Hp) : Option (Int32 × Hp) := match k with
  | 0 => F_V_chair (a 1) (a 2) (a 3) (a 4) (a 5) σ
  | 1 => F_V_floor (a 1) (a 2) σ
  | 2 => F_V_column (a 1) (a 2) σ
  | 3 => F_V_feed (a 1) (a 2) (a 3) (a 4) (a 5) σ
  | 4 => F_V_law (a 1) σ
  | 5 => F_V_orders (a 1) σ
  | 6 => F_V_signals (a 1) (a 2) σ
  | 7 => F_V_watches (a 1) σ
  | 8 => F_V_tried (a 1) (a 2) σ
  | 9 => F_V_chairIs (a 1) (a 2) (a 3) σ
  | 10 => F_V_sees (a 1) (a 2) σ
  | 11 => F_V_toSee (a 1) (a 2) (a 3) σ
  | 12 => F_V_overTrees (a 1) σ
  | 13 => F_V_hidden (a 1) σ
  | 14 => F_V_capture (a 1) (a 2) (a 3) σ
  | 15 => F_V_whenIn (a 1) (a 2) (a 3) σ
  | 16 => F_V_first (a 1) (a 2) σ
  | 17 => F_V_loses (a 1) (a 2) σ
  | 18 => F_V_lasts (a 1) (a 2) (a 3) σ
  | 19 => F_V_glasses (a 1) σ
  | 20 => F_V_march (a 1) σ
  | 21 => F_V_ridge (a 1) σ
  | 22 => F_V_answered  σ
  | 23 => F_V_inCommon (a 1) σ
  | 24 => F_V_beat (a 1) σ
  | 25 => F_V_lamps (a 1) (a 2) σ
  | 26 => F_V_bridge (a 1) (a 2) (a 3) (a 4) σ
  | 27 => F_V_parrots (a 1) (a 2) (a 3) σ
  | 28 => F_V_ants (a 1) (a 2) σ
  | 29 => F_V_seed (a 1) σ
  | 30 => F_V_keep  σ
  | 31 => F_V_undo  σ
  | 32 => F_V_check (a 1) (a 2) σ
  | 33 => F_V_count (a 1) σ
  | _ => some (0, σ)
def stepM (k : Nat) (a : Nat → Int32) (σ : Hp) : Option (Int32 × Hp) := match k with
  | 0 => F_M_chair (a 1) (a 2) (a 3) (a 4) (a 5) σ
  | 1 => F_M_floor (a 1) (a 2) σ
  | 2 => F_M_column (a 1) (a 2) σ
  | 3 => F_M_feed (a 1) (a 2) (a 3) (a 4) (a 5) σ
  | 4 => F_M_law (a 1) σ
  | 5 => F_M_orders (a 1) σ
  | 6 => F_M_signals (a 1) (a 2) σ
  | 7 => F_M_watches (a 1) σ
  | 8 => F_M_tried (a 1) (a 2) σ
  | 9 => F_M_chairIs (a 1) (a 2) (a 3) σ
  | 10 => F_M_sees (a 1) (a 2) σ
  | 11 => F_M_toSee (a 1) (a 2) (a 3) σ
  | 12 => F_M_overTrees (a 1) σ
  | 13 => F_M_hidden (a 1) σ
  | 14 => F_M_capture (a 1) (a 2) (a 3) σ
  | 15 => F_M_whenIn (a 1) (a 2) (a 3) σ
  | 16 => F_M_first (a 1) (a 2) σ
  | 17 => F_M_loses (a 1) (a 2) σ
  | 18 => F_M_lasts (a 1) (a 2) (a 3) σ
  | 19 => F_M_glasses (a 1) σ
  | 20 => F_M_march (a 1) σ
  | 21 => F_M_ridge (a 1) σ
  | 22 => F_M_answered  σ
  | 23 => F_M_inCommon (a 1) σ
  | 24 => F_M_beat (a 1) σ
  | 25 => F_M_lamps (a 1) (a 2) σ
  | 26 => F_M_bridge (a 1) (a 2) (a 3) (a 4) σ
  | 27 => F_M_parrots (a 1) (a 2) (a 3) σ
  | 28 => F_M_ants (a 1) (a 2) σ
  | 29 => F_M_seed (a 1) σ
  | 30 => F_M_keep  σ
  | 31 => F_M_undo  σ
  | 32 => F_M_check (a 1) (a 2) σ
  | 33 => F_M_count (a 1) σ
  | _ => some (0, σ)
def T_law_0 : DT := [(0, .new 7, 3), (3, .dup, 1), (4, .invokespecial 9, 3), (7, .astore_n 1, 1), (8, .new 10, 3), (11, .dup, 1), (12, .invokespecial 12, 3), (15, .astore_n 2, 1), (16, .iconst 0, 1), (17, .istore_n 3, 1), (18, .iload_n 3, 1), (19, .aload_n 0, 1), (20, .arraylength, 1), (21, .bipush 6, 2), (23, .isub, 1), (24, .if_icmp .gt 1248, 3)]
theorem dt_law_0 : dOk code T_law_0 := by unfold dOk; decide +kernel
def T_law_1 : DT := [(27, .aload_n 0, 1), (28, .iload_n 3, 1), (29, .iaload, 1), (30, .bipush 63, 2), (32, .iand, 1), (33, .tableswitch 1233 0 33 #[151, 214, 247, 280, 343, 366, 389, 422, 445, 478, 521, 554, 597, 620, 643, 686, 729, 762, 795, 838, 861, 884, 907, 920, 943, 966, 999, 1052, 1095, 1128, 1151, 1164, 1177, 1210], 151), (184, .aload_n 1, 1), (185, .aload_n 0, 1), (186, .iload_n 3, 1), (187, .iconst 1, 1), (188, .iadd, 1), (189, .iaload, 1), (190, .aload_n 0, 1), (191, .iload_n 3, 1), (192, .iconst 2, 1), (193, .iadd, 1)]
theorem dt_law_1 : dOk code T_law_1 := by unfold dOk; decide +kernel
def T_law_2 : DT := [(194, .iaload, 1), (195, .aload_n 0, 1), (196, .iload_n 3, 1), (197, .iconst 3, 1), (198, .iadd, 1), (199, .iaload, 1), (200, .aload_n 0, 1), (201, .iload_n 3, 1), (202, .iconst 4, 1), (203, .iadd, 1), (204, .iaload, 1), (205, .aload_n 0, 1), (206, .iload_n 3, 1), (207, .iconst 5, 1), (208, .iadd, 1), (209, .iaload, 1)]
theorem dt_law_2 : dOk code T_law_2 := by unfold dOk; decide +kernel
def T_law_3 : DT := [(210, .invokevirtual 13, 3), (213, .aload_n 2, 1), (214, .aload_n 0, 1), (215, .iload_n 3, 1), (216, .iconst 1, 1), (217, .iadd, 1), (218, .iaload, 1), (219, .aload_n 0, 1), (220, .iload_n 3, 1), (221, .iconst 2, 1), (222, .iadd, 1), (223, .iaload, 1), (224, .aload_n 0, 1), (225, .iload_n 3, 1), (226, .iconst 3, 1), (227, .iadd, 1)]
theorem dt_law_3 : dOk code T_law_3 := by unfold dOk; decide +kernel
def T_law_4 : DT := [(228, .iaload, 1), (229, .aload_n 0, 1), (230, .iload_n 3, 1), (231, .iconst 4, 1), (232, .iadd, 1), (233, .iaload, 1), (234, .aload_n 0, 1), (235, .iload_n 3, 1), (236, .iconst 5, 1), (237, .iadd, 1), (238, .iaload, 1), (239, .invokevirtual 17, 3), (242, .if_icmp .eq 1024, 3), (245, .iconst 0, 1), (246, .ireturn, 1), (247, .aload_n 1, 1)]
theorem dt_law_4 : dOk code T_law_4 := by unfold dOk; decide +kernel
def T_law_5 : DT := [(248, .aload_n 0, 1), (249, .iload_n 3, 1), (250, .iconst 1, 1), (251, .iadd, 1), (252, .iaload, 1), (253, .aload_n 0, 1), (254, .iload_n 3, 1), (255, .iconst 2, 1), (256, .iadd, 1), (257, .iaload, 1), (258, .invokevirtual 18, 3), (261, .aload_n 2, 1), (262, .aload_n 0, 1), (263, .iload_n 3, 1), (264, .iconst 1, 1), (265, .iadd, 1)]
theorem dt_law_5 : dOk code T_law_5 := by unfold dOk; decide +kernel
def T_law_6 : DT := [(266, .iaload, 1), (267, .aload_n 0, 1), (268, .iload_n 3, 1), (269, .iconst 2, 1), (270, .iadd, 1), (271, .iaload, 1), (272, .invokevirtual 22, 3), (275, .if_icmp .eq 991, 3), (278, .iconst 0, 1), (279, .ireturn, 1), (280, .aload_n 1, 1), (281, .aload_n 0, 1), (282, .iload_n 3, 1), (283, .iconst 1, 1), (284, .iadd, 1), (285, .iaload, 1)]
theorem dt_law_6 : dOk code T_law_6 := by unfold dOk; decide +kernel
def T_law_7 : DT := [(286, .aload_n 0, 1), (287, .iload_n 3, 1), (288, .iconst 2, 1), (289, .iadd, 1), (290, .iaload, 1), (291, .invokevirtual 23, 3), (294, .aload_n 2, 1), (295, .aload_n 0, 1), (296, .iload_n 3, 1), (297, .iconst 1, 1), (298, .iadd, 1), (299, .iaload, 1), (300, .aload_n 0, 1), (301, .iload_n 3, 1), (302, .iconst 2, 1), (303, .iadd, 1)]
theorem dt_law_7 : dOk code T_law_7 := by unfold dOk; decide +kernel
def T_law_8 : DT := [(304, .iaload, 1), (305, .invokevirtual 26, 3), (308, .if_icmp .eq 958, 3), (311, .iconst 0, 1), (312, .ireturn, 1), (313, .aload_n 1, 1), (314, .aload_n 0, 1), (315, .iload_n 3, 1), (316, .iconst 1, 1), (317, .iadd, 1), (318, .iaload, 1), (319, .aload_n 0, 1), (320, .iload_n 3, 1), (321, .iconst 2, 1), (322, .iadd, 1), (323, .iaload, 1)]
theorem dt_law_8 : dOk code T_law_8 := by unfold dOk; decide +kernel
def T_law_9 : DT := [(324, .aload_n 0, 1), (325, .iload_n 3, 1), (326, .iconst 3, 1), (327, .iadd, 1), (328, .iaload, 1), (329, .aload_n 0, 1), (330, .iload_n 3, 1), (331, .iconst 4, 1), (332, .iadd, 1), (333, .iaload, 1), (334, .aload_n 0, 1), (335, .iload_n 3, 1), (336, .iconst 5, 1), (337, .iadd, 1), (338, .iaload, 1), (339, .invokevirtual 27, 3)]
theorem dt_law_9 : dOk code T_law_9 := by unfold dOk; decide +kernel
def T_law_10 : DT := [(342, .aload_n 2, 1), (343, .aload_n 0, 1), (344, .iload_n 3, 1), (345, .iconst 1, 1), (346, .iadd, 1), (347, .iaload, 1), (348, .aload_n 0, 1), (349, .iload_n 3, 1), (350, .iconst 2, 1), (351, .iadd, 1), (352, .iaload, 1), (353, .aload_n 0, 1), (354, .iload_n 3, 1), (355, .iconst 3, 1), (356, .iadd, 1), (357, .iaload, 1)]
theorem dt_law_10 : dOk code T_law_10 := by unfold dOk; decide +kernel
def T_law_11 : DT := [(358, .aload_n 0, 1), (359, .iload_n 3, 1), (360, .iconst 4, 1), (361, .iadd, 1), (362, .iaload, 1), (363, .aload_n 0, 1), (364, .iload_n 3, 1), (365, .iconst 5, 1), (366, .iadd, 1), (367, .iaload, 1), (368, .invokevirtual 31, 3), (371, .if_icmp .eq 895, 3), (374, .iconst 0, 1), (375, .ireturn, 1), (376, .aload_n 1, 1), (377, .aload_n 0, 1)]
theorem dt_law_11 : dOk code T_law_11 := by unfold dOk; decide +kernel
def T_law_12 : DT := [(378, .iload_n 3, 1), (379, .iconst 1, 1), (380, .iadd, 1), (381, .iaload, 1), (382, .invokevirtual 32, 3), (385, .aload_n 2, 1), (386, .aload_n 0, 1), (387, .iload_n 3, 1), (388, .iconst 1, 1), (389, .iadd, 1), (390, .iaload, 1), (391, .invokevirtual 36, 3), (394, .if_icmp .eq 872, 3), (397, .iconst 0, 1), (398, .ireturn, 1), (399, .aload_n 1, 1)]
theorem dt_law_12 : dOk code T_law_12 := by unfold dOk; decide +kernel
def T_law_13 : DT := [(400, .aload_n 0, 1), (401, .iload_n 3, 1), (402, .iconst 1, 1), (403, .iadd, 1), (404, .iaload, 1), (405, .invokevirtual 37, 3), (408, .aload_n 2, 1), (409, .aload_n 0, 1), (410, .iload_n 3, 1), (411, .iconst 1, 1), (412, .iadd, 1), (413, .iaload, 1), (414, .invokevirtual 40, 3), (417, .if_icmp .eq 849, 3), (420, .iconst 0, 1), (421, .ireturn, 1)]
theorem dt_law_13 : dOk code T_law_13 := by unfold dOk; decide +kernel
def T_law_14 : DT := [(422, .aload_n 1, 1), (423, .aload_n 0, 1), (424, .iload_n 3, 1), (425, .iconst 1, 1), (426, .iadd, 1), (427, .iaload, 1), (428, .aload_n 0, 1), (429, .iload_n 3, 1), (430, .iconst 2, 1), (431, .iadd, 1), (432, .iaload, 1), (433, .invokevirtual 41, 3), (436, .aload_n 2, 1), (437, .aload_n 0, 1), (438, .iload_n 3, 1), (439, .iconst 1, 1)]
theorem dt_law_14 : dOk code T_law_14 := by unfold dOk; decide +kernel
def T_law_15 : DT := [(440, .iadd, 1), (441, .iaload, 1), (442, .aload_n 0, 1), (443, .iload_n 3, 1), (444, .iconst 2, 1), (445, .iadd, 1), (446, .iaload, 1), (447, .invokevirtual 45, 3), (450, .if_icmp .eq 816, 3), (453, .iconst 0, 1), (454, .ireturn, 1), (455, .aload_n 1, 1), (456, .aload_n 0, 1), (457, .iload_n 3, 1), (458, .iconst 1, 1), (459, .iadd, 1)]
theorem dt_law_15 : dOk code T_law_15 := by unfold dOk; decide +kernel
def T_law_16 : DT := [(460, .iaload, 1), (461, .invokevirtual 46, 3), (464, .aload_n 2, 1), (465, .aload_n 0, 1), (466, .iload_n 3, 1), (467, .iconst 1, 1), (468, .iadd, 1), (469, .iaload, 1), (470, .invokevirtual 49, 3), (473, .if_icmp .eq 793, 3), (476, .iconst 0, 1), (477, .ireturn, 1), (478, .aload_n 1, 1), (479, .aload_n 0, 1), (480, .iload_n 3, 1), (481, .iconst 1, 1)]
theorem dt_law_16 : dOk code T_law_16 := by unfold dOk; decide +kernel
def T_law_17 : DT := [(482, .iadd, 1), (483, .iaload, 1), (484, .aload_n 0, 1), (485, .iload_n 3, 1), (486, .iconst 2, 1), (487, .iadd, 1), (488, .iaload, 1), (489, .invokevirtual 50, 3), (492, .aload_n 2, 1), (493, .aload_n 0, 1), (494, .iload_n 3, 1), (495, .iconst 1, 1), (496, .iadd, 1), (497, .iaload, 1), (498, .aload_n 0, 1), (499, .iload_n 3, 1)]
theorem dt_law_17 : dOk code T_law_17 := by unfold dOk; decide +kernel
def T_law_18 : DT := [(500, .iconst 2, 1), (501, .iadd, 1), (502, .iaload, 1), (503, .invokevirtual 53, 3), (506, .if_icmp .eq 760, 3), (509, .iconst 0, 1), (510, .ireturn, 1), (511, .aload_n 1, 1), (512, .aload_n 0, 1), (513, .iload_n 3, 1), (514, .iconst 1, 1), (515, .iadd, 1), (516, .iaload, 1), (517, .aload_n 0, 1), (518, .iload_n 3, 1), (519, .iconst 2, 1)]
theorem dt_law_18 : dOk code T_law_18 := by unfold dOk; decide +kernel
def T_law_19 : DT := [(520, .iadd, 1), (521, .iaload, 1), (522, .aload_n 0, 1), (523, .iload_n 3, 1), (524, .iconst 3, 1), (525, .iadd, 1), (526, .iaload, 1), (527, .invokevirtual 54, 3), (530, .aload_n 2, 1), (531, .aload_n 0, 1), (532, .iload_n 3, 1), (533, .iconst 1, 1), (534, .iadd, 1), (535, .iaload, 1), (536, .aload_n 0, 1), (537, .iload_n 3, 1)]
theorem dt_law_19 : dOk code T_law_19 := by unfold dOk; decide +kernel
def T_law_20 : DT := [(538, .iconst 2, 1), (539, .iadd, 1), (540, .iaload, 1), (541, .aload_n 0, 1), (542, .iload_n 3, 1), (543, .iconst 3, 1), (544, .iadd, 1), (545, .iaload, 1), (546, .invokevirtual 58, 3), (549, .if_icmp .eq 717, 3), (552, .iconst 0, 1), (553, .ireturn, 1), (554, .aload_n 1, 1), (555, .aload_n 0, 1), (556, .iload_n 3, 1), (557, .iconst 1, 1)]
theorem dt_law_20 : dOk code T_law_20 := by unfold dOk; decide +kernel
def T_law_21 : DT := [(558, .iadd, 1), (559, .iaload, 1), (560, .aload_n 0, 1), (561, .iload_n 3, 1), (562, .iconst 2, 1), (563, .iadd, 1), (564, .iaload, 1), (565, .invokevirtual 59, 3), (568, .aload_n 2, 1), (569, .aload_n 0, 1), (570, .iload_n 3, 1), (571, .iconst 1, 1), (572, .iadd, 1), (573, .iaload, 1), (574, .aload_n 0, 1), (575, .iload_n 3, 1)]
theorem dt_law_21 : dOk code T_law_21 := by unfold dOk; decide +kernel
def T_law_22 : DT := [(576, .iconst 2, 1), (577, .iadd, 1), (578, .iaload, 1), (579, .invokevirtual 62, 3), (582, .if_icmp .eq 684, 3), (585, .iconst 0, 1), (586, .ireturn, 1), (587, .aload_n 1, 1), (588, .aload_n 0, 1), (589, .iload_n 3, 1), (590, .iconst 1, 1), (591, .iadd, 1), (592, .iaload, 1), (593, .aload_n 0, 1), (594, .iload_n 3, 1), (595, .iconst 2, 1)]
theorem dt_law_22 : dOk code T_law_22 := by unfold dOk; decide +kernel
def T_law_23 : DT := [(596, .iadd, 1), (597, .iaload, 1), (598, .aload_n 0, 1), (599, .iload_n 3, 1), (600, .iconst 3, 1), (601, .iadd, 1), (602, .iaload, 1), (603, .invokevirtual 63, 3), (606, .aload_n 2, 1), (607, .aload_n 0, 1), (608, .iload_n 3, 1), (609, .iconst 1, 1), (610, .iadd, 1), (611, .iaload, 1), (612, .aload_n 0, 1), (613, .iload_n 3, 1)]
theorem dt_law_23 : dOk code T_law_23 := by unfold dOk; decide +kernel
def T_law_24 : DT := [(614, .iconst 2, 1), (615, .iadd, 1), (616, .iaload, 1), (617, .aload_n 0, 1), (618, .iload_n 3, 1), (619, .iconst 3, 1), (620, .iadd, 1), (621, .iaload, 1), (622, .invokevirtual 66, 3), (625, .if_icmp .eq 641, 3), (628, .iconst 0, 1), (629, .ireturn, 1), (630, .aload_n 1, 1), (631, .aload_n 0, 1), (632, .iload_n 3, 1), (633, .iconst 1, 1)]
theorem dt_law_24 : dOk code T_law_24 := by unfold dOk; decide +kernel
def T_law_25 : DT := [(634, .iadd, 1), (635, .iaload, 1), (636, .invokevirtual 67, 3), (639, .aload_n 2, 1), (640, .aload_n 0, 1), (641, .iload_n 3, 1), (642, .iconst 1, 1), (643, .iadd, 1), (644, .iaload, 1), (645, .invokevirtual 70, 3), (648, .if_icmp .eq 618, 3), (651, .iconst 0, 1), (652, .ireturn, 1), (653, .aload_n 1, 1), (654, .aload_n 0, 1), (655, .iload_n 3, 1)]
theorem dt_law_25 : dOk code T_law_25 := by unfold dOk; decide +kernel
def T_law_26 : DT := [(656, .iconst 1, 1), (657, .iadd, 1), (658, .iaload, 1), (659, .invokevirtual 71, 3), (662, .aload_n 2, 1), (663, .aload_n 0, 1), (664, .iload_n 3, 1), (665, .iconst 1, 1), (666, .iadd, 1), (667, .iaload, 1), (668, .invokevirtual 74, 3), (671, .if_icmp .eq 595, 3), (674, .iconst 0, 1), (675, .ireturn, 1), (676, .aload_n 1, 1), (677, .aload_n 0, 1)]
theorem dt_law_26 : dOk code T_law_26 := by unfold dOk; decide +kernel
def T_law_27 : DT := [(678, .iload_n 3, 1), (679, .iconst 1, 1), (680, .iadd, 1), (681, .iaload, 1), (682, .aload_n 0, 1), (683, .iload_n 3, 1), (684, .iconst 2, 1), (685, .iadd, 1), (686, .iaload, 1), (687, .aload_n 0, 1), (688, .iload_n 3, 1), (689, .iconst 3, 1), (690, .iadd, 1), (691, .iaload, 1), (692, .invokevirtual 75, 3), (695, .aload_n 2, 1)]
theorem dt_law_27 : dOk code T_law_27 := by unfold dOk; decide +kernel
def T_law_28 : DT := [(696, .aload_n 0, 1), (697, .iload_n 3, 1), (698, .iconst 1, 1), (699, .iadd, 1), (700, .iaload, 1), (701, .aload_n 0, 1), (702, .iload_n 3, 1), (703, .iconst 2, 1), (704, .iadd, 1), (705, .iaload, 1), (706, .aload_n 0, 1), (707, .iload_n 3, 1), (708, .iconst 3, 1), (709, .iadd, 1), (710, .iaload, 1), (711, .invokevirtual 79, 3)]
theorem dt_law_28 : dOk code T_law_28 := by unfold dOk; decide +kernel
def T_law_29 : DT := [(714, .if_icmp .eq 552, 3), (717, .iconst 0, 1), (718, .ireturn, 1), (719, .aload_n 1, 1), (720, .aload_n 0, 1), (721, .iload_n 3, 1), (722, .iconst 1, 1), (723, .iadd, 1), (724, .iaload, 1), (725, .aload_n 0, 1), (726, .iload_n 3, 1), (727, .iconst 2, 1), (728, .iadd, 1), (729, .iaload, 1), (730, .aload_n 0, 1), (731, .iload_n 3, 1)]
theorem dt_law_29 : dOk code T_law_29 := by unfold dOk; decide +kernel
def T_law_30 : DT := [(732, .iconst 3, 1), (733, .iadd, 1), (734, .iaload, 1), (735, .invokevirtual 80, 3), (738, .aload_n 2, 1), (739, .aload_n 0, 1), (740, .iload_n 3, 1), (741, .iconst 1, 1), (742, .iadd, 1), (743, .iaload, 1), (744, .aload_n 0, 1), (745, .iload_n 3, 1), (746, .iconst 2, 1), (747, .iadd, 1), (748, .iaload, 1), (749, .aload_n 0, 1)]
theorem dt_law_30 : dOk code T_law_30 := by unfold dOk; decide +kernel
def T_law_31 : DT := [(750, .iload_n 3, 1), (751, .iconst 3, 1), (752, .iadd, 1), (753, .iaload, 1), (754, .invokevirtual 83, 3), (757, .if_icmp .eq 509, 3), (760, .iconst 0, 1), (761, .ireturn, 1), (762, .aload_n 1, 1), (763, .aload_n 0, 1), (764, .iload_n 3, 1), (765, .iconst 1, 1), (766, .iadd, 1), (767, .iaload, 1), (768, .aload_n 0, 1), (769, .iload_n 3, 1)]
theorem dt_law_31 : dOk code T_law_31 := by unfold dOk; decide +kernel
def T_law_32 : DT := [(770, .iconst 2, 1), (771, .iadd, 1), (772, .iaload, 1), (773, .invokevirtual 84, 3), (776, .aload_n 2, 1), (777, .aload_n 0, 1), (778, .iload_n 3, 1), (779, .iconst 1, 1), (780, .iadd, 1), (781, .iaload, 1), (782, .aload_n 0, 1), (783, .iload_n 3, 1), (784, .iconst 2, 1), (785, .iadd, 1), (786, .iaload, 1), (787, .invokevirtual 87, 3)]
theorem dt_law_32 : dOk code T_law_32 := by unfold dOk; decide +kernel
def T_law_33 : DT := [(790, .if_icmp .eq 476, 3), (793, .iconst 0, 1), (794, .ireturn, 1), (795, .aload_n 1, 1), (796, .aload_n 0, 1), (797, .iload_n 3, 1), (798, .iconst 1, 1), (799, .iadd, 1), (800, .iaload, 1), (801, .aload_n 0, 1), (802, .iload_n 3, 1), (803, .iconst 2, 1), (804, .iadd, 1), (805, .iaload, 1), (806, .invokevirtual 88, 3), (809, .aload_n 2, 1)]
theorem dt_law_33 : dOk code T_law_33 := by unfold dOk; decide +kernel
def T_law_34 : DT := [(810, .aload_n 0, 1), (811, .iload_n 3, 1), (812, .iconst 1, 1), (813, .iadd, 1), (814, .iaload, 1), (815, .aload_n 0, 1), (816, .iload_n 3, 1), (817, .iconst 2, 1), (818, .iadd, 1), (819, .iaload, 1), (820, .invokevirtual 91, 3), (823, .if_icmp .eq 443, 3), (826, .iconst 0, 1), (827, .ireturn, 1), (828, .aload_n 1, 1), (829, .aload_n 0, 1)]
theorem dt_law_34 : dOk code T_law_34 := by unfold dOk; decide +kernel
def T_law_35 : DT := [(830, .iload_n 3, 1), (831, .iconst 1, 1), (832, .iadd, 1), (833, .iaload, 1), (834, .aload_n 0, 1), (835, .iload_n 3, 1), (836, .iconst 2, 1), (837, .iadd, 1), (838, .iaload, 1), (839, .aload_n 0, 1), (840, .iload_n 3, 1), (841, .iconst 3, 1), (842, .iadd, 1), (843, .iaload, 1), (844, .invokevirtual 92, 3), (847, .aload_n 2, 1)]
theorem dt_law_35 : dOk code T_law_35 := by unfold dOk; decide +kernel
def T_law_36 : DT := [(848, .aload_n 0, 1), (849, .iload_n 3, 1), (850, .iconst 1, 1), (851, .iadd, 1), (852, .iaload, 1), (853, .aload_n 0, 1), (854, .iload_n 3, 1), (855, .iconst 2, 1), (856, .iadd, 1), (857, .iaload, 1), (858, .aload_n 0, 1), (859, .iload_n 3, 1), (860, .iconst 3, 1), (861, .iadd, 1), (862, .iaload, 1), (863, .invokevirtual 95, 3)]
theorem dt_law_36 : dOk code T_law_36 := by unfold dOk; decide +kernel
def T_law_37 : DT := [(866, .if_icmp .eq 400, 3), (869, .iconst 0, 1), (870, .ireturn, 1), (871, .aload_n 1, 1), (872, .aload_n 0, 1), (873, .iload_n 3, 1), (874, .iconst 1, 1), (875, .iadd, 1), (876, .iaload, 1), (877, .invokevirtual 96, 3), (880, .aload_n 2, 1), (881, .aload_n 0, 1), (882, .iload_n 3, 1), (883, .iconst 1, 1), (884, .iadd, 1), (885, .iaload, 1)]
theorem dt_law_37 : dOk code T_law_37 := by unfold dOk; decide +kernel
def T_law_38 : DT := [(886, .invokevirtual 99, 3), (889, .if_icmp .eq 377, 3), (892, .iconst 0, 1), (893, .ireturn, 1), (894, .aload_n 1, 1), (895, .aload_n 0, 1), (896, .iload_n 3, 1), (897, .iconst 1, 1), (898, .iadd, 1), (899, .iaload, 1), (900, .invokevirtual 100, 3), (903, .aload_n 2, 1), (904, .aload_n 0, 1), (905, .iload_n 3, 1), (906, .iconst 1, 1), (907, .iadd, 1)]
theorem dt_law_38 : dOk code T_law_38 := by unfold dOk; decide +kernel
def T_law_39 : DT := [(908, .iaload, 1), (909, .invokevirtual 103, 3), (912, .if_icmp .eq 354, 3), (915, .iconst 0, 1), (916, .ireturn, 1), (917, .aload_n 1, 1), (918, .aload_n 0, 1), (919, .iload_n 3, 1), (920, .iconst 1, 1), (921, .iadd, 1), (922, .iaload, 1), (923, .invokevirtual 104, 3), (926, .aload_n 2, 1), (927, .aload_n 0, 1), (928, .iload_n 3, 1), (929, .iconst 1, 1)]
theorem dt_law_39 : dOk code T_law_39 := by unfold dOk; decide +kernel
def T_law_40 : DT := [(930, .iadd, 1), (931, .iaload, 1), (932, .invokevirtual 107, 3), (935, .if_icmp .eq 331, 3), (938, .iconst 0, 1), (939, .ireturn, 1), (940, .aload_n 1, 1), (941, .invokevirtual 108, 3), (944, .aload_n 2, 1), (945, .invokevirtual 112, 3), (948, .if_icmp .eq 318, 3), (951, .iconst 0, 1), (952, .ireturn, 1), (953, .aload_n 1, 1), (954, .aload_n 0, 1), (955, .iload_n 3, 1)]
theorem dt_law_40 : dOk code T_law_40 := by unfold dOk; decide +kernel
def T_law_41 : DT := [(956, .iconst 1, 1), (957, .iadd, 1), (958, .iaload, 1), (959, .invokevirtual 113, 3), (962, .aload_n 2, 1), (963, .aload_n 0, 1), (964, .iload_n 3, 1), (965, .iconst 1, 1), (966, .iadd, 1), (967, .iaload, 1), (968, .invokevirtual 116, 3), (971, .if_icmp .eq 295, 3), (974, .iconst 0, 1), (975, .ireturn, 1), (976, .aload_n 1, 1), (977, .aload_n 0, 1)]
theorem dt_law_41 : dOk code T_law_41 := by unfold dOk; decide +kernel
def T_law_42 : DT := [(978, .iload_n 3, 1), (979, .iconst 1, 1), (980, .iadd, 1), (981, .iaload, 1), (982, .invokevirtual 117, 3), (985, .aload_n 2, 1), (986, .aload_n 0, 1), (987, .iload_n 3, 1), (988, .iconst 1, 1), (989, .iadd, 1), (990, .iaload, 1), (991, .invokevirtual 120, 3), (994, .if_icmp .eq 272, 3), (997, .iconst 0, 1), (998, .ireturn, 1), (999, .aload_n 1, 1)]
theorem dt_law_42 : dOk code T_law_42 := by unfold dOk; decide +kernel
def T_law_43 : DT := [(1000, .aload_n 0, 1), (1001, .iload_n 3, 1), (1002, .iconst 1, 1), (1003, .iadd, 1), (1004, .iaload, 1), (1005, .aload_n 0, 1), (1006, .iload_n 3, 1), (1007, .iconst 2, 1), (1008, .iadd, 1), (1009, .iaload, 1), (1010, .invokevirtual 121, 3), (1013, .aload_n 2, 1), (1014, .aload_n 0, 1), (1015, .iload_n 3, 1), (1016, .iconst 1, 1), (1017, .iadd, 1)]
theorem dt_law_43 : dOk code T_law_43 := by unfold dOk; decide +kernel
def T_law_44 : DT := [(1018, .iaload, 1), (1019, .aload_n 0, 1), (1020, .iload_n 3, 1), (1021, .iconst 2, 1), (1022, .iadd, 1), (1023, .iaload, 1), (1024, .invokevirtual 124, 3), (1027, .if_icmp .eq 239, 3), (1030, .iconst 0, 1), (1031, .ireturn, 1), (1032, .aload_n 1, 1), (1033, .aload_n 0, 1), (1034, .iload_n 3, 1), (1035, .iconst 1, 1), (1036, .iadd, 1), (1037, .iaload, 1)]
theorem dt_law_44 : dOk code T_law_44 := by unfold dOk; decide +kernel
def T_law_45 : DT := [(1038, .aload_n 0, 1), (1039, .iload_n 3, 1), (1040, .iconst 2, 1), (1041, .iadd, 1), (1042, .iaload, 1), (1043, .aload_n 0, 1), (1044, .iload_n 3, 1), (1045, .iconst 3, 1), (1046, .iadd, 1), (1047, .iaload, 1), (1048, .aload_n 0, 1), (1049, .iload_n 3, 1), (1050, .iconst 4, 1), (1051, .iadd, 1), (1052, .iaload, 1), (1053, .invokevirtual 125, 3)]
theorem dt_law_45 : dOk code T_law_45 := by unfold dOk; decide +kernel
def T_law_46 : DT := [(1056, .aload_n 2, 1), (1057, .aload_n 0, 1), (1058, .iload_n 3, 1), (1059, .iconst 1, 1), (1060, .iadd, 1), (1061, .iaload, 1), (1062, .aload_n 0, 1), (1063, .iload_n 3, 1), (1064, .iconst 2, 1), (1065, .iadd, 1), (1066, .iaload, 1), (1067, .aload_n 0, 1), (1068, .iload_n 3, 1), (1069, .iconst 3, 1), (1070, .iadd, 1), (1071, .iaload, 1)]
theorem dt_law_46 : dOk code T_law_46 := by unfold dOk; decide +kernel
def T_law_47 : DT := [(1072, .aload_n 0, 1), (1073, .iload_n 3, 1), (1074, .iconst 4, 1), (1075, .iadd, 1), (1076, .iaload, 1), (1077, .invokevirtual 129, 3), (1080, .if_icmp .eq 186, 3), (1083, .iconst 0, 1), (1084, .ireturn, 1), (1085, .aload_n 1, 1), (1086, .aload_n 0, 1), (1087, .iload_n 3, 1), (1088, .iconst 1, 1), (1089, .iadd, 1), (1090, .iaload, 1), (1091, .aload_n 0, 1)]
theorem dt_law_47 : dOk code T_law_47 := by unfold dOk; decide +kernel
def T_law_48 : DT := [(1092, .iload_n 3, 1), (1093, .iconst 2, 1), (1094, .iadd, 1), (1095, .iaload, 1), (1096, .aload_n 0, 1), (1097, .iload_n 3, 1), (1098, .iconst 3, 1), (1099, .iadd, 1), (1100, .iaload, 1), (1101, .invokevirtual 130, 3), (1104, .aload_n 2, 1), (1105, .aload_n 0, 1), (1106, .iload_n 3, 1), (1107, .iconst 1, 1), (1108, .iadd, 1), (1109, .iaload, 1)]
theorem dt_law_48 : dOk code T_law_48 := by unfold dOk; decide +kernel
def T_law_49 : DT := [(1110, .aload_n 0, 1), (1111, .iload_n 3, 1), (1112, .iconst 2, 1), (1113, .iadd, 1), (1114, .iaload, 1), (1115, .aload_n 0, 1), (1116, .iload_n 3, 1), (1117, .iconst 3, 1), (1118, .iadd, 1), (1119, .iaload, 1), (1120, .invokevirtual 133, 3), (1123, .if_icmp .eq 143, 3), (1126, .iconst 0, 1), (1127, .ireturn, 1), (1128, .aload_n 1, 1), (1129, .aload_n 0, 1)]
theorem dt_law_49 : dOk code T_law_49 := by unfold dOk; decide +kernel
def T_law_50 : DT := [(1130, .iload_n 3, 1), (1131, .iconst 1, 1), (1132, .iadd, 1), (1133, .iaload, 1), (1134, .aload_n 0, 1), (1135, .iload_n 3, 1), (1136, .iconst 2, 1), (1137, .iadd, 1), (1138, .iaload, 1), (1139, .invokevirtual 134, 3), (1142, .aload_n 2, 1), (1143, .aload_n 0, 1), (1144, .iload_n 3, 1), (1145, .iconst 1, 1), (1146, .iadd, 1), (1147, .iaload, 1)]
theorem dt_law_50 : dOk code T_law_50 := by unfold dOk; decide +kernel
def T_law_51 : DT := [(1148, .aload_n 0, 1), (1149, .iload_n 3, 1), (1150, .iconst 2, 1), (1151, .iadd, 1), (1152, .iaload, 1), (1153, .invokevirtual 137, 3), (1156, .if_icmp .eq 110, 3), (1159, .iconst 0, 1), (1160, .ireturn, 1), (1161, .aload_n 1, 1), (1162, .aload_n 0, 1), (1163, .iload_n 3, 1), (1164, .iconst 1, 1), (1165, .iadd, 1), (1166, .iaload, 1), (1167, .invokevirtual 138, 3)]
theorem dt_law_51 : dOk code T_law_51 := by unfold dOk; decide +kernel
def T_law_52 : DT := [(1170, .aload_n 2, 1), (1171, .aload_n 0, 1), (1172, .iload_n 3, 1), (1173, .iconst 1, 1), (1174, .iadd, 1), (1175, .iaload, 1), (1176, .invokevirtual 142, 3), (1179, .if_icmp .eq 87, 3), (1182, .iconst 0, 1), (1183, .ireturn, 1), (1184, .aload_n 1, 1), (1185, .invokevirtual 143, 3), (1188, .aload_n 2, 1), (1189, .invokevirtual 146, 3), (1192, .if_icmp .eq 74, 3), (1195, .iconst 0, 1)]
theorem dt_law_52 : dOk code T_law_52 := by unfold dOk; decide +kernel
def T_law_53 : DT := [(1196, .ireturn, 1), (1197, .aload_n 1, 1), (1198, .invokevirtual 147, 3), (1201, .aload_n 2, 1), (1202, .invokevirtual 151, 3), (1205, .if_icmp .eq 61, 3), (1208, .iconst 0, 1), (1209, .ireturn, 1), (1210, .aload_n 1, 1), (1211, .aload_n 0, 1), (1212, .iload_n 3, 1), (1213, .iconst 1, 1), (1214, .iadd, 1), (1215, .iaload, 1), (1216, .aload_n 0, 1), (1217, .iload_n 3, 1)]
theorem dt_law_53 : dOk code T_law_53 := by unfold dOk; decide +kernel
def T_law_54 : DT := [(1218, .iconst 2, 1), (1219, .iadd, 1), (1220, .iaload, 1), (1221, .invokevirtual 152, 3), (1224, .aload_n 2, 1), (1225, .aload_n 0, 1), (1226, .iload_n 3, 1), (1227, .iconst 1, 1), (1228, .iadd, 1), (1229, .iaload, 1), (1230, .aload_n 0, 1), (1231, .iload_n 3, 1), (1232, .iconst 2, 1), (1233, .iadd, 1), (1234, .iaload, 1), (1235, .invokevirtual 155, 3)]
theorem dt_law_54 : dOk code T_law_54 := by unfold dOk; decide +kernel
def T_law_55 : DT := [(1238, .if_icmp .eq 28, 3), (1241, .iconst 0, 1), (1242, .ireturn, 1), (1243, .aload_n 1, 1), (1244, .aload_n 0, 1), (1245, .iload_n 3, 1), (1246, .iconst 1, 1), (1247, .iadd, 1), (1248, .iaload, 1), (1249, .invokevirtual 156, 3), (1252, .aload_n 2, 1), (1253, .aload_n 0, 1), (1254, .iload_n 3, 1), (1255, .iconst 1, 1), (1256, .iadd, 1), (1257, .iaload, 1)]
theorem dt_law_55 : dOk code T_law_55 := by unfold dOk; decide +kernel
def T_law_56 : DT := [(1258, .invokevirtual 159, 3), (1261, .if_icmp .eq 5, 3), (1264, .iconst 0, 1), (1265, .ireturn, 1), (1266, .iinc 3 6, 3), (1269, .goto (-1251), 3), (1272, .iconst 1, 1), (1273, .ireturn, 1)]
theorem dt_law_56 : dOk code T_law_56 := by unfold dOk; decide +kernel
/-- THE PURE CLAIM: a relation of both heaps that every call keeps, with like answers -/
def SimP (Rl : Hp → Hp → Prop) : Prop := ∀ (k : Nat), k < 34 → ∀ (a : Nat → Int32) (σ τ : Hp), Rl σ τ → ∃ (r : Int32) (σ' τ' : Hp), stepC k a σ = some (r, σ') ∧ stepM k a τ = some (r, τ') ∧ Rl σ' τ'
/-- what stands all along the law -/
def LX (p : Program) (s : State) (m : MethodId) (args : Array Value) (c : Code) (b L : Nat) (xs : Nat → Int32) (v u : ZV) : Prop :=
  p.tables.exec = Jvm.exec ∧ c.code = code ∧ c.maxLocals = 4 ∧ s.vm.findClass RL = some m.cls ∧ (∀ x ∈ tb, x.before args s = true) ∧ (zK v s ∧ zK u s ∧ zInj wC v ∧ zInj wM u ∧ XC wC v ∧ XC wM u ∧ zX v s ∧ zX u s) ∧ ((∀ k, k < wC.1 → s.heap.size ≤ v.1 k) ∧ (∀ k, k < wM.1 → s.heap.size ≤ u.1 k) ∧ (∀ i j, i < wC.1 → j < wM.1 → v.1 i ≠ u.1 j)) ∧ (va_X b L xs s s.heap ∧ b < s.heap.size) ∧ NXC v
abbrev lA (s : State) : Nat → Prop := fun q => s.heap.size ≤ q
section LAW
variable {p : Program} {l : Launch} {e : Env} {s : State} {m : MethodId} {below : List Frame} {meth : Method} {c : Code} {cells slots : Nat} {Q : State → Prop} {pc : Nat} {ls : Array Slot} {st : List Value} {H : Heap} {locs : List Loc} {args : Array Value}
theorem lw_tsw (hx : p.tables.exec = Jvm.exec) (hb : c.code = code) {dflt lo hi : Int} {offs : Array Int} {len : Nat} {x : Int32} {off : Int} {tgt : Nat} (hd : decode code pc = .ok (.tableswitch dflt lo hi offs, len)) (hsz : (hi - lo).toNat < offs.size) (ho : swo dflt lo hi offs x.toInt = off) (ht : (pc : Int) + off = (tgt : Int)) (k : W p l e room_1 s m args below meth c H locs cells slots Q (F0 m tgt ls st)) : W p l e room_1 s m args below meth c H locs cells slots Q (F0 m pc ls (.int x :: st)) := by
  unfold swo at ho
  split at ho
  · rename_i hh
    subst ho
    exact lv_tableOut hx hb hd hh ht k
  · rename_i hh
    have h1 : ¬ x.toInt < lo := fun q => hh (Or.inl q)
    have h2 : ¬ hi < x.toInt := fun q => hh (Or.inr q)
    have h3 : (x.toInt - lo).toNat < offs.size := by omega
    refine lv_tableIn (off := off) hx hb hd h1 h2 ?_ ht k
    rw [← ho, Array.getElem?_eq_getElem h3]
    simp [Array.getD, h3]
/-- a call of one of the two, the other one's cells stay -/
theorem lw_call {w : ZS} {v : ZV} {y : MethodName} {bytes : ByteArray} {maxL ix d' n ci nf : Nat} {ret : Option FieldType} {As rest : List Value} {r : Int32} {σ σ' : Hp} {Tt : u_T} {D' : va_G} {wo : va_W}
    (hx : p.tables.exec = Jvm.exec) (hb : c.code = code) (hml : c.maxLocals = 4) (hown : s.vm.findClass RL = some m.cls) (hts : ∀ x ∈ tb, x.before args s = true) (hK : zK v s) (hX : zX v s) (xc : XC w v) (hge : ∀ k, k < w.1 → s.heap.size ≤ v.1 k)
    (ok : VOk RL ix y bytes maxL ret n) (hM : Ct w v l y bytes maxL ret d' (.ref 0 :: As) σ (some (.int r)) σ') (hAs : As.map (cv v.1) = As) (hdf : d' + 1 ≤ 2048) (hdl : 8 + (maxL + 11) + 60 * d' ≤ 84000) (hn : As.length = n) (hb0 : 0 < w.1) (hs : w.2.1 0 = (ci + 2, nf)) (hc : vwCl[ci]? = some (y.cls, Tt, nf)) (hr : (rest.map fun x => x.category).sum ≤ 8) (hls : ls.size = 4) (hcl : cells ≤ 600000) (hsl : slots ≤ 7302250) (hd : decode code pc = .ok (.invokevirtual ix, 3))
    (hP : zP w v σ H) (hO : va_P D' vwCl wo H) (hdis : ∀ (k : Nat) (q : Nat × va_E), wo[k]? = some q → ¬ ∃ j, j < w.1 ∧ q.1 = v.1 j) (hS : va_S (lA s) s.heap H locs)
    (kk : ∀ (H1 : Heap) (locs1 : List Loc), zP w v σ' H1 → va_P D' vwCl wo H1 → va_S (lA s) s.heap H1 locs1 → W p l e room_1 s m args below meth c H1 locs1 cells slots Q (F0 m (pc + 3) ls (.int r :: rest))) : W p l e room_1 s m args below meth c H locs cells slots Q (F0 m pc ls (As.reverse ++ .ref (v.1 0) :: rest)) := by
  obtain ⟨o1, o2, o3, o4, o5, o6, o7⟩ := ok
  have hA : ∀ q, zA w v H.size q → lA s q := fun q h => by
    rcases h with ⟨k, hk, rfl⟩ | h
    · exact hge k hk
    · exact Nat.le_trans hS.1 h
  have hS' : va_S (zA w v s.heap.size) s.heap H locs := ⟨hS.1, fun q h1 h2 => hS.2.1 q h1 (fun h => by have : s.heap.size ≤ q := h; omega), fun q hq => Or.inr (hS.2.2 q hq)⟩
  have hp := preS (As := .ref 0 :: As) hK hX xc hP hS'
  have hM' := hM H.size
  simp only [List.map_cons, hAs] at hp hM'
  have hrun := va_runV (p := p) (e := e) (R := room_1) (args := args) (below := below) (meth := meth) (locs := locs) (cells := cells) (slots := slots) (g := F0 m pc ls (As.reverse ++ .ref (v.1 0) :: rest)) (rest := rest) (C := y.cls) (b := v.1 0) (As := As) (Ts := tb) ⟨hx, hb, hml, hown, hts⟩ hM' (cwV n hts (goodIn_tb (fun x hx => by
    simp only [wsV, List.mem_append, List.mem_cons, List.not_mem_nil, or_false] at hx
    rcases hx with (rfl | rfl | rfl | rfl) | (rfl | hx)
    · exact o1
    · exact o2
    · exact o3
    · exact o4
    · exact o5
    · exact hx)) rfl rfl rfl ⟨rfl, o6⟩ ⟨hdf, hdl⟩) ⟨hp.1, va_recv hK hP hc (zobj hb0 hs), hp.2⟩ rfl hn hls rfl (by show 2 * 0 + _ ≤ 8; omega) hd ⟨hcl, hsl⟩
  intro T hT X
  obtain ⟨rr, st₀, t, T', L, h0, X', hL, e1, e2, ⟨⟨hv, hp1⟩, hz, hk⟩, stp⟩ := hrun T hT X
  cases hv
  rw [h0] at hz hk
  have hS1 : va_S (lA s) s.heap T'.heap (locs ++ L) := ⟨Nat.le_trans hS.1 (by rw [e1]; exact hz), fun q h1 h2 => by rw [e1, hk q (Nat.lt_of_lt_of_le h1 hS.1) (fun z => h2 (hA q z))]; exact hS.2.1 q h1 h2, fun q hq => by
      rcases List.mem_append.mp hq with h | h
      · exact hS.2.2 q h
      · exact hA _ (hL q h)⟩
  have hO1 : va_P D' vwCl wo T'.heap := by
    rw [e1]
    intro k q hq
    refine (hO k q hq).kept (hk q.1 (hO k q hq).lt (fun h => ?_))
    rcases h with h | h
    · exact hdis k q hq h
    · have := (hO k q hq).lt
      omega
  obtain ⟨t2, a1, b1⟩ := kk T'.heap (locs ++ L) (by rw [e1]; exact hp1) hO1 hS1 T' rfl X'
  exact ⟨t2, stp t2 a1, b1⟩
/-- an argument out of the script -/
theorem lw_arg {v u : ZV} {b L : Nat} {xs : Nat → Int32} (X : LX p s m args c b L xs v u) {i k : Nat} {kk : Int} {lv : List (Nat × Value)} (hl : lv_has ls 4 lv) (h0 : ls[0]? = some (.val (.ref b))) (h3 : ls[3]? = some (.val (.int (nI i)))) (hS : va_S (lA s) s.heap H locs) (hk : Int32.ofInt kk = nI k) (hi : i + k < L) (hL : L ≤ 3072) (d0 : decode code pc = .ok (.aload_n 0, 1)) (d1 : decode code (pc + 1) = .ok (.iload_n 3, 1)) (d2 : decode code (pc + 2) = .ok (.iconst kk, 1)) (d3 : decode code (pc + 3) = .ok (.iadd, 1)) (d4 : decode code (pc + 4) = .ok (.iaload, 1)) (g : W p l e room_1 s m args below meth c H locs cells slots Q (F0 m (pc + 5) ls (.int (xs (i + k)) :: st))) : W p l e room_1 s m args below meth c H locs cells slots Q (F0 m pc ls st) := by
  obtain ⟨hx, hb, -, -, -, -, -, ⟨hXs, hbl⟩, -⟩ := X
  refine lv_aload_n hx hb d0 rfl h0 ?_
  refine lv_iload_n hx hb d1 rfl h3 ?_
  refine lv_iconst (v := nI k) hx hb d2 hk ?_
  refine lv_iadd hx hb d3 ?_
  rw [nI_add]
  refine va_sld hx hb hXs hbl (by show ¬ s.heap.size ≤ b; omega) hS (vp_in_nI hi (by omega)) d4 ?_
  rw [nI_clamp (by omega)]
  exact g
theorem lw_dis1 {v u : ZV} {τ : Hp} (h : ∀ i j, i < wC.1 → j < wM.1 → v.1 i ≠ u.1 j) : ∀ (k : Nat) (q : Nat × va_E), (zw wM u τ)[k]? = some q → ¬ ∃ j, j < wC.1 ∧ q.1 = v.1 j := by
  intro k q hq hh
  have hl := zw_lt hq
  rw [zw_at hl] at hq
  cases hq
  obtain ⟨j, h1, h2⟩ := hh
  exact h j k h1 hl h2.symm
theorem lw_dis2 {v u : ZV} {σ : Hp} (h : ∀ i j, i < wC.1 → j < wM.1 → v.1 i ≠ u.1 j) : ∀ (k : Nat) (q : Nat × va_E), (zw wC v σ)[k]? = some q → ¬ ∃ j, j < wM.1 ∧ q.1 = u.1 j := by
  intro k q hq hh
  have hl := zw_lt hq
  rw [zw_at hl] at hq
  cases hq
  obtain ⟨j, h1, h2⟩ := hh
  exact h k j hl h1 h2
theorem lwc_0 {v u : ZV} {b L : Nat} {xs : Nat → Int32} (X : LX p s m args c b L xs v u) (hL : L ≤ 3072) (hcl : cells ≤ 600000) (hsl : slots ≤ 7302250) {i : Nat} (hi : i + 6 ≤ L) {σ τ : Hp} {Rl : Hp → Hp → Prop} (sim : SimP Rl) (hR : Rl σ τ) (hl : lv_has ls 4 [(3, .int (nI i)), (2, .ref (u.1 0)), (1, .ref (v.1 0)), (0, .ref b)]) (hP : zP wC v σ H) (hO : zP wM u τ H) (hS : va_S (lA s) s.heap H locs) (kk : ∀ (σ1 τ1 : Hp), Rl σ1 τ1 → ∀ (H1 : Heap) (locs1 : List Loc), zP wC v σ1 H1 → zP wM u τ1 H1 → va_S (lA s) s.heap H1 locs1 → W p l e room_1 s m args below meth c H1 locs1 cells slots Q (F0 m 1266 ls [])) : W p l e room_1 s m args below meth c H locs cells slots Q (F0 m 184 ls []) := by
  obtain ⟨r, σ1, τ1, e1, e2, hR1⟩ := sim 0 (by decide) (fun j => xs (i + j)) σ τ hR
  obtain ⟨hx, hb, hml, hown, hts, ⟨hKv, hKu, hiv, hiu, xcv, xcu, hXv, hXu⟩, ⟨hgv, hgu, hdd⟩, hXs, nx⟩ := id X
  refine lv_aload_n hx hb (dk dt_law_1 6 rfl) rfl (lv_at hl 2 rfl) ?_
  refine lw_arg (k := 1) X hl (lv_at hl 3 rfl) (lv_at hl 0 rfl) hS (by decide) (by omega) hL (dk dt_law_1 7 rfl) (dk dt_law_1 8 rfl) (dk dt_law_1 9 rfl) (dk dt_law_1 10 rfl) (dk dt_law_1 11 rfl) ?_
  refine lw_arg (k := 2) X hl (lv_at hl 3 rfl) (lv_at hl 0 rfl) hS (by decide) (by omega) hL (dk dt_law_1 12 rfl) (dk dt_law_1 13 rfl) (dk dt_law_1 14 rfl) (dk dt_law_1 15 rfl) (dk dt_law_2 0 rfl) ?_
  refine lw_arg (k := 3) X hl (lv_at hl 3 rfl) (lv_at hl 0 rfl) hS (by decide) (by omega) hL (dk dt_law_2 1 rfl) (dk dt_law_2 2 rfl) (dk dt_law_2 3 rfl) (dk dt_law_2 4 rfl) (dk dt_law_2 5 rfl) ?_
  refine lw_arg (k := 4) X hl (lv_at hl 3 rfl) (lv_at hl 0 rfl) hS (by decide) (by omega) hL (dk dt_law_2 6 rfl) (dk dt_law_2 7 rfl) (dk dt_law_2 8 rfl) (dk dt_law_2 9 rfl) (dk dt_law_2 10 rfl) ?_
  refine lw_arg (k := 5) X hl (lv_at hl 3 rfl) (lv_at hl 0 rfl) hS (by decide) (by omega) hL (dk dt_law_2 11 rfl) (dk dt_law_2 12 rfl) (dk dt_law_2 13 rfl) (dk dt_law_2 14 rfl) (dk dt_law_2 15 rfl) ?_
  refine lw_call (As := [.int (xs (i + 1)), .int (xs (i + 2)), .int (xs (i + 3)), .int (xs (i + 4)), .int (xs (i + 5))]) (rest := []) (wo := zw wM u τ) (D' := u.2.1) hx hb hml hown hts hKv hXv xcv hgv vo_law_13 (ct_V_chair hiv xcv nx e1) rfl (Nat.le_of_ble_eq_true rfl) (Nat.le_of_ble_eq_true rfl) rfl (by decide) rfl rfl (Nat.zero_le _) hl.1 hcl hsl (dk dt_law_3 0 rfl) hP hO (lw_dis1 hdd) hS (fun H locs hP hO hS => ?_)
  refine lv_aload_n hx hb (dk dt_law_3 1 rfl) rfl (lv_at hl 1 rfl) ?_
  refine lw_arg (k := 1) X hl (lv_at hl 3 rfl) (lv_at hl 0 rfl) hS (by decide) (by omega) hL (dk dt_law_3 2 rfl) (dk dt_law_3 3 rfl) (dk dt_law_3 4 rfl) (dk dt_law_3 5 rfl) (dk dt_law_3 6 rfl) ?_
  refine lw_arg (k := 2) X hl (lv_at hl 3 rfl) (lv_at hl 0 rfl) hS (by decide) (by omega) hL (dk dt_law_3 7 rfl) (dk dt_law_3 8 rfl) (dk dt_law_3 9 rfl) (dk dt_law_3 10 rfl) (dk dt_law_3 11 rfl) ?_
  refine lw_arg (k := 3) X hl (lv_at hl 3 rfl) (lv_at hl 0 rfl) hS (by decide) (by omega) hL (dk dt_law_3 12 rfl) (dk dt_law_3 13 rfl) (dk dt_law_3 14 rfl) (dk dt_law_3 15 rfl) (dk dt_law_4 0 rfl) ?_
  refine lw_arg (k := 4) X hl (lv_at hl 3 rfl) (lv_at hl 0 rfl) hS (by decide) (by omega) hL (dk dt_law_4 1 rfl) (dk dt_law_4 2 rfl) (dk dt_law_4 3 rfl) (dk dt_law_4 4 rfl) (dk dt_law_4 5 rfl) ?_
  refine lw_arg (k := 5) X hl (lv_at hl 3 rfl) (lv_at hl 0 rfl) hS (by decide) (by omega) hL (dk dt_law_4 6 rfl) (dk dt_law_4 7 rfl) (dk dt_law_4 8 rfl) (dk dt_law_4 9 rfl) (dk dt_law_4 10 rfl) ?_
  refine lw_call (As := [.int (xs (i + 1)), .int (xs (i + 2)), .int (xs (i + 3)), .int (xs (i + 4)), .int (xs (i + 5))]) (rest := [.int r]) (wo := zw wC v σ1) (D' := v.2.1) hx hb hml hown hts hKu hXu xcu hgu vo_law_17 (ct_M_chair hiu xcu trivial e2) rfl (Nat.le_of_ble_eq_true rfl) (Nat.le_of_ble_eq_true rfl) rfl (by decide) rfl rfl (Nat.le_of_ble_eq_true rfl) hl.1 hcl hsl (dk dt_law_4 11 rfl) hO hP (lw_dis2 hdd) hS (fun H locs hO hP hS => ?_)
  refine lv_icmp_eq (tgt := 1266) hx hb (dk dt_law_4 12 rfl) (by decide) (fun hc => ?_) (fun hc => absurd rfl hc)
  exact kk σ1 τ1 hR1 H locs hP hO hS
theorem lwc_1 {v u : ZV} {b L : Nat} {xs : Nat → Int32} (X : LX p s m args c b L xs v u) (hL : L ≤ 3072) (hcl : cells ≤ 600000) (hsl : slots ≤ 7302250) {i : Nat} (hi : i + 6 ≤ L) {σ τ : Hp} {Rl : Hp → Hp → Prop} (sim : SimP Rl) (hR : Rl σ τ) (hl : lv_has ls 4 [(3, .int (nI i)), (2, .ref (u.1 0)), (1, .ref (v.1 0)), (0, .ref b)]) (hP : zP wC v σ H) (hO : zP wM u τ H) (hS : va_S (lA s) s.heap H locs) (kk : ∀ (σ1 τ1 : Hp), Rl σ1 τ1 → ∀ (H1 : Heap) (locs1 : List Loc), zP wC v σ1 H1 → zP wM u τ1 H1 → va_S (lA s) s.heap H1 locs1 → W p l e room_1 s m args below meth c H1 locs1 cells slots Q (F0 m 1266 ls [])) : W p l e room_1 s m args below meth c H locs cells slots Q (F0 m 247 ls []) := by
  obtain ⟨r, σ1, τ1, e1, e2, hR1⟩ := sim 1 (by decide) (fun j => xs (i + j)) σ τ hR
  obtain ⟨hx, hb, hml, hown, hts, ⟨hKv, hKu, hiv, hiu, xcv, xcu, hXv, hXu⟩, ⟨hgv, hgu, hdd⟩, hXs, nx⟩ := id X
  refine lv_aload_n hx hb (dk dt_law_4 15 rfl) rfl (lv_at hl 2 rfl) ?_
  refine lw_arg (k := 1) X hl (lv_at hl 3 rfl) (lv_at hl 0 rfl) hS (by decide) (by omega) hL (dk dt_law_5 0 rfl) (dk dt_law_5 1 rfl) (dk dt_law_5 2 rfl) (dk dt_law_5 3 rfl) (dk dt_law_5 4 rfl) ?_
  refine lw_arg (k := 2) X hl (lv_at hl 3 rfl) (lv_at hl 0 rfl) hS (by decide) (by omega) hL (dk dt_law_5 5 rfl) (dk dt_law_5 6 rfl) (dk dt_law_5 7 rfl) (dk dt_law_5 8 rfl) (dk dt_law_5 9 rfl) ?_
  refine lw_call (As := [.int (xs (i + 1)), .int (xs (i + 2))]) (rest := []) (wo := zw wM u τ) (D' := u.2.1) hx hb hml hown hts hKv hXv xcv hgv vo_law_18 (ct_V_floor hiv xcv nx e1) rfl (Nat.le_of_ble_eq_true rfl) (Nat.le_of_ble_eq_true rfl) rfl (by decide) rfl rfl (Nat.zero_le _) hl.1 hcl hsl (dk dt_law_5 10 rfl) hP hO (lw_dis1 hdd) hS (fun H locs hP hO hS => ?_)
  refine lv_aload_n hx hb (dk dt_law_5 11 rfl) rfl (lv_at hl 1 rfl) ?_
  refine lw_arg (k := 1) X hl (lv_at hl 3 rfl) (lv_at hl 0 rfl) hS (by decide) (by omega) hL (dk dt_law_5 12 rfl) (dk dt_law_5 13 rfl) (dk dt_law_5 14 rfl) (dk dt_law_5 15 rfl) (dk dt_law_6 0 rfl) ?_
  refine lw_arg (k := 2) X hl (lv_at hl 3 rfl) (lv_at hl 0 rfl) hS (by decide) (by omega) hL (dk dt_law_6 1 rfl) (dk dt_law_6 2 rfl) (dk dt_law_6 3 rfl) (dk dt_law_6 4 rfl) (dk dt_law_6 5 rfl) ?_
  refine lw_call (As := [.int (xs (i + 1)), .int (xs (i + 2))]) (rest := [.int r]) (wo := zw wC v σ1) (D' := v.2.1) hx hb hml hown hts hKu hXu xcu hgu vo_law_22 (ct_M_floor hiu xcu trivial e2) rfl (Nat.le_of_ble_eq_true rfl) (Nat.le_of_ble_eq_true rfl) rfl (by decide) rfl rfl (Nat.le_of_ble_eq_true rfl) hl.1 hcl hsl (dk dt_law_6 6 rfl) hO hP (lw_dis2 hdd) hS (fun H locs hO hP hS => ?_)
  refine lv_icmp_eq (tgt := 1266) hx hb (dk dt_law_6 7 rfl) (by decide) (fun hc => ?_) (fun hc => absurd rfl hc)
  exact kk σ1 τ1 hR1 H locs hP hO hS
theorem lwc_2 {v u : ZV} {b L : Nat} {xs : Nat → Int32} (X : LX p s m args c b L xs v u) (hL : L ≤ 3072) (hcl : cells ≤ 600000) (hsl : slots ≤ 7302250) {i : Nat} (hi : i + 6 ≤ L) {σ τ : Hp} {Rl : Hp → Hp → Prop} (sim : SimP Rl) (hR : Rl σ τ) (hl : lv_has ls 4 [(3, .int (nI i)), (2, .ref (u.1 0)), (1, .ref (v.1 0)), (0, .ref b)]) (hP : zP wC v σ H) (hO : zP wM u τ H) (hS : va_S (lA s) s.heap H locs) (kk : ∀ (σ1 τ1 : Hp), Rl σ1 τ1 → ∀ (H1 : Heap) (locs1 : List Loc), zP wC v σ1 H1 → zP wM u τ1 H1 → va_S (lA s) s.heap H1 locs1 → W p l e room_1 s m args below meth c H1 locs1 cells slots Q (F0 m 1266 ls [])) : W p l e room_1 s m args below meth c H locs cells slots Q (F0 m 280 ls []) := by
  obtain ⟨r, σ1, τ1, e1, e2, hR1⟩ := sim 2 (by decide) (fun j => xs (i + j)) σ τ hR
  obtain ⟨hx, hb, hml, hown, hts, ⟨hKv, hKu, hiv, hiu, xcv, xcu, hXv, hXu⟩, ⟨hgv, hgu, hdd⟩, hXs, nx⟩ := id X
  refine lv_aload_n hx hb (dk dt_law_6 10 rfl) rfl (lv_at hl 2 rfl) ?_
  refine lw_arg (k := 1) X hl (lv_at hl 3 rfl) (lv_at hl 0 rfl) hS (by decide) (by omega) hL (dk dt_law_6 11 rfl) (dk dt_law_6 12 rfl) (dk dt_law_6 13 rfl) (dk dt_law_6 14 rfl) (dk dt_law_6 15 rfl) ?_
  refine lw_arg (k := 2) X hl (lv_at hl 3 rfl) (lv_at hl 0 rfl) hS (by decide) (by omega) hL (dk dt_law_7 0 rfl) (dk dt_law_7 1 rfl) (dk dt_law_7 2 rfl) (dk dt_law_7 3 rfl) (dk dt_law_7 4 rfl) ?_
  refine lw_call (As := [.int (xs (i + 1)), .int (xs (i + 2))]) (rest := []) (wo := zw wM u τ) (D' := u.2.1) hx hb hml hown hts hKv hXv xcv hgv vo_law_23 (ct_V_column hiv xcv nx e1) rfl (Nat.le_of_ble_eq_true rfl) (Nat.le_of_ble_eq_true rfl) rfl (by decide) rfl rfl (Nat.zero_le _) hl.1 hcl hsl (dk dt_law_7 5 rfl) hP hO (lw_dis1 hdd) hS (fun H locs hP hO hS => ?_)
  refine lv_aload_n hx hb (dk dt_law_7 6 rfl) rfl (lv_at hl 1 rfl) ?_
  refine lw_arg (k := 1) X hl (lv_at hl 3 rfl) (lv_at hl 0 rfl) hS (by decide) (by omega) hL (dk dt_law_7 7 rfl) (dk dt_law_7 8 rfl) (dk dt_law_7 9 rfl) (dk dt_law_7 10 rfl) (dk dt_law_7 11 rfl) ?_
  refine lw_arg (k := 2) X hl (lv_at hl 3 rfl) (lv_at hl 0 rfl) hS (by decide) (by omega) hL (dk dt_law_7 12 rfl) (dk dt_law_7 13 rfl) (dk dt_law_7 14 rfl) (dk dt_law_7 15 rfl) (dk dt_law_8 0 rfl) ?_
  refine lw_call (As := [.int (xs (i + 1)), .int (xs (i + 2))]) (rest := [.int r]) (wo := zw wC v σ1) (D' := v.2.1) hx hb hml hown hts hKu hXu xcu hgu vo_law_26 (ct_M_column hiu xcu trivial e2) rfl (Nat.le_of_ble_eq_true rfl) (Nat.le_of_ble_eq_true rfl) rfl (by decide) rfl rfl (Nat.le_of_ble_eq_true rfl) hl.1 hcl hsl (dk dt_law_8 1 rfl) hO hP (lw_dis2 hdd) hS (fun H locs hO hP hS => ?_)
  refine lv_icmp_eq (tgt := 1266) hx hb (dk dt_law_8 2 rfl) (by decide) (fun hc => ?_) (fun hc => absurd rfl hc)
  exact kk σ1 τ1 hR1 H locs hP hO hS
theorem lwc_3 {v u : ZV} {b L : Nat} {xs : Nat → Int32} (X : LX p s m args c b L xs v u) (hL : L ≤ 3072) (hcl : cells ≤ 600000) (hsl : slots ≤ 7302250) {i : Nat} (hi : i + 6 ≤ L) {σ τ : Hp} {Rl : Hp → Hp → Prop} (sim : SimP Rl) (hR : Rl σ τ) (hl : lv_has ls 4 [(3, .int (nI i)), (2, .ref (u.1 0)), (1, .ref (v.1 0)), (0, .ref b)]) (hP : zP wC v σ H) (hO : zP wM u τ H) (hS : va_S (lA s) s.heap H locs) (kk : ∀ (σ1 τ1 : Hp), Rl σ1 τ1 → ∀ (H1 : Heap) (locs1 : List Loc), zP wC v σ1 H1 → zP wM u τ1 H1 → va_S (lA s) s.heap H1 locs1 → W p l e room_1 s m args below meth c H1 locs1 cells slots Q (F0 m 1266 ls [])) : W p l e room_1 s m args below meth c H locs cells slots Q (F0 m 313 ls []) := by
  obtain ⟨r, σ1, τ1, e1, e2, hR1⟩ := sim 3 (by decide) (fun j => xs (i + j)) σ τ hR
  obtain ⟨hx, hb, hml, hown, hts, ⟨hKv, hKu, hiv, hiu, xcv, xcu, hXv, hXu⟩, ⟨hgv, hgu, hdd⟩, hXs, nx⟩ := id X
  refine lv_aload_n hx hb (dk dt_law_8 5 rfl) rfl (lv_at hl 2 rfl) ?_
  refine lw_arg (k := 1) X hl (lv_at hl 3 rfl) (lv_at hl 0 rfl) hS (by decide) (by omega) hL (dk dt_law_8 6 rfl) (dk dt_law_8 7 rfl) (dk dt_law_8 8 rfl) (dk dt_law_8 9 rfl) (dk dt_law_8 10 rfl) ?_
  refine lw_arg (k := 2) X hl (lv_at hl 3 rfl) (lv_at hl 0 rfl) hS (by decide) (by omega) hL (dk dt_law_8 11 rfl) (dk dt_law_8 12 rfl) (dk dt_law_8 13 rfl) (dk dt_law_8 14 rfl) (dk dt_law_8 15 rfl) ?_
  refine lw_arg (k := 3) X hl (lv_at hl 3 rfl) (lv_at hl 0 rfl) hS (by decide) (by omega) hL (dk dt_law_9 0 rfl) (dk dt_law_9 1 rfl) (dk dt_law_9 2 rfl) (dk dt_law_9 3 rfl) (dk dt_law_9 4 rfl) ?_
  refine lw_arg (k := 4) X hl (lv_at hl 3 rfl) (lv_at hl 0 rfl) hS (by decide) (by omega) hL (dk dt_law_9 5 rfl) (dk dt_law_9 6 rfl) (dk dt_law_9 7 rfl) (dk dt_law_9 8 rfl) (dk dt_law_9 9 rfl) ?_
  refine lw_arg (k := 5) X hl (lv_at hl 3 rfl) (lv_at hl 0 rfl) hS (by decide) (by omega) hL (dk dt_law_9 10 rfl) (dk dt_law_9 11 rfl) (dk dt_law_9 12 rfl) (dk dt_law_9 13 rfl) (dk dt_law_9 14 rfl) ?_
  refine lw_call (As := [.int (xs (i + 1)), .int (xs (i + 2)), .int (xs (i + 3)), .int (xs (i + 4)), .int (xs (i + 5))]) (rest := []) (wo := zw wM u τ) (D' := u.2.1) hx hb hml hown hts hKv hXv xcv hgv vo_law_27 (ct_V_feed hiv xcv nx e1) rfl (Nat.le_of_ble_eq_true rfl) (Nat.le_of_ble_eq_true rfl) rfl (by decide) rfl rfl (Nat.zero_le _) hl.1 hcl hsl (dk dt_law_9 15 rfl) hP hO (lw_dis1 hdd) hS (fun H locs hP hO hS => ?_)
  refine lv_aload_n hx hb (dk dt_law_10 0 rfl) rfl (lv_at hl 1 rfl) ?_
  refine lw_arg (k := 1) X hl (lv_at hl 3 rfl) (lv_at hl 0 rfl) hS (by decide) (by omega) hL (dk dt_law_10 1 rfl) (dk dt_law_10 2 rfl) (dk dt_law_10 3 rfl) (dk dt_law_10 4 rfl) (dk dt_law_10 5 rfl) ?_
  refine lw_arg (k := 2) X hl (lv_at hl 3 rfl) (lv_at hl 0 rfl) hS (by decide) (by omega) hL (dk dt_law_10 6 rfl) (dk dt_law_10 7 rfl) (dk dt_law_10 8 rfl) (dk dt_law_10 9 rfl) (dk dt_law_10 10 rfl) ?_
  refine lw_arg (k := 3) X hl (lv_at hl 3 rfl) (lv_at hl 0 rfl) hS (by decide) (by omega) hL (dk dt_law_10 11 rfl) (dk dt_law_10 12 rfl) (dk dt_law_10 13 rfl) (dk dt_law_10 14 rfl) (dk dt_law_10 15 rfl) ?_
  refine lw_arg (k := 4) X hl (lv_at hl 3 rfl) (lv_at hl 0 rfl) hS (by decide) (by omega) hL (dk dt_law_11 0 rfl) (dk dt_law_11 1 rfl) (dk dt_law_11 2 rfl) (dk dt_law_11 3 rfl) (dk dt_law_11 4 rfl) ?_
  refine lw_arg (k := 5) X hl (lv_at hl 3 rfl) (lv_at hl 0 rfl) hS (by decide) (by omega) hL (dk dt_law_11 5 rfl) (dk dt_law_11 6 rfl) (dk dt_law_11 7 rfl) (dk dt_law_11 8 rfl) (dk dt_law_11 9 rfl) ?_
  refine lw_call (As := [.int (xs (i + 1)), .int (xs (i + 2)), .int (xs (i + 3)), .int (xs (i + 4)), .int (xs (i + 5))]) (rest := [.int r]) (wo := zw wC v σ1) (D' := v.2.1) hx hb hml hown hts hKu hXu xcu hgu vo_law_31 (ct_M_feed hiu xcu trivial e2) rfl (Nat.le_of_ble_eq_true rfl) (Nat.le_of_ble_eq_true rfl) rfl (by decide) rfl rfl (Nat.le_of_ble_eq_true rfl) hl.1 hcl hsl (dk dt_law_11 10 rfl) hO hP (lw_dis2 hdd) hS (fun H locs hO hP hS => ?_)
  refine lv_icmp_eq (tgt := 1266) hx hb (dk dt_law_11 11 rfl) (by decide) (fun hc => ?_) (fun hc => absurd rfl hc)
  exact kk σ1 τ1 hR1 H locs hP hO hS
theorem lwc_4 {v u : ZV} {b L : Nat} {xs : Nat → Int32} (X : LX p s m args c b L xs v u) (hL : L ≤ 3072) (hcl : cells ≤ 600000) (hsl : slots ≤ 7302250) {i : Nat} (hi : i + 6 ≤ L) {σ τ : Hp} {Rl : Hp → Hp → Prop} (sim : SimP Rl) (hR : Rl σ τ) (hl : lv_has ls 4 [(3, .int (nI i)), (2, .ref (u.1 0)), (1, .ref (v.1 0)), (0, .ref b)]) (hP : zP wC v σ H) (hO : zP wM u τ H) (hS : va_S (lA s) s.heap H locs) (kk : ∀ (σ1 τ1 : Hp), Rl σ1 τ1 → ∀ (H1 : Heap) (locs1 : List Loc), zP wC v σ1 H1 → zP wM u τ1 H1 → va_S (lA s) s.heap H1 locs1 → W p l e room_1 s m args below meth c H1 locs1 cells slots Q (F0 m 1266 ls [])) : W p l e room_1 s m args below meth c H locs cells slots Q (F0 m 376 ls []) := by
  obtain ⟨r, σ1, τ1, e1, e2, hR1⟩ := sim 4 (by decide) (fun j => xs (i + j)) σ τ hR
  obtain ⟨hx, hb, hml, hown, hts, ⟨hKv, hKu, hiv, hiu, xcv, xcu, hXv, hXu⟩, ⟨hgv, hgu, hdd⟩, hXs, nx⟩ := id X
  refine lv_aload_n hx hb (dk dt_law_11 14 rfl) rfl (lv_at hl 2 rfl) ?_
  refine lw_arg (k := 1) X hl (lv_at hl 3 rfl) (lv_at hl 0 rfl) hS (by decide) (by omega) hL (dk dt_law_11 15 rfl) (dk dt_law_12 0 rfl) (dk dt_law_12 1 rfl) (dk dt_law_12 2 rfl) (dk dt_law_12 3 rfl) ?_
  refine lw_call (As := [.int (xs (i + 1))]) (rest := []) (wo := zw wM u τ) (D' := u.2.1) hx hb hml hown hts hKv hXv xcv hgv vo_law_32 (ct_V_law hiv xcv nx e1) rfl (Nat.le_of_ble_eq_true rfl) (Nat.le_of_ble_eq_true rfl) rfl (by decide) rfl rfl (Nat.zero_le _) hl.1 hcl hsl (dk dt_law_12 4 rfl) hP hO (lw_dis1 hdd) hS (fun H locs hP hO hS => ?_)
  refine lv_aload_n hx hb (dk dt_law_12 5 rfl) rfl (lv_at hl 1 rfl) ?_
  refine lw_arg (k := 1) X hl (lv_at hl 3 rfl) (lv_at hl 0 rfl) hS (by decide) (by omega) hL (dk dt_law_12 6 rfl) (dk dt_law_12 7 rfl) (dk dt_law_12 8 rfl) (dk dt_law_12 9 rfl) (dk dt_law_12 10 rfl) ?_
  refine lw_call (As := [.int (xs (i + 1))]) (rest := [.int r]) (wo := zw wC v σ1) (D' := v.2.1) hx hb hml hown hts hKu hXu xcu hgu vo_law_36 (ct_M_law hiu xcu trivial e2) rfl (Nat.le_of_ble_eq_true rfl) (Nat.le_of_ble_eq_true rfl) rfl (by decide) rfl rfl (Nat.le_of_ble_eq_true rfl) hl.1 hcl hsl (dk dt_law_12 11 rfl) hO hP (lw_dis2 hdd) hS (fun H locs hO hP hS => ?_)
  refine lv_icmp_eq (tgt := 1266) hx hb (dk dt_law_12 12 rfl) (by decide) (fun hc => ?_) (fun hc => absurd rfl hc)
  exact kk σ1 τ1 hR1 H locs hP hO hS
theorem lwc_5 {v u : ZV} {b L : Nat} {xs : Nat → Int32} (X : LX p s m args c b L xs v u) (hL : L ≤ 3072) (hcl : cells ≤ 600000) (hsl : slots ≤ 7302250) {i : Nat} (hi : i + 6 ≤ L) {σ τ : Hp} {Rl : Hp → Hp → Prop} (sim : SimP Rl) (hR : Rl σ τ) (hl : lv_has ls 4 [(3, .int (nI i)), (2, .ref (u.1 0)), (1, .ref (v.1 0)), (0, .ref b)]) (hP : zP wC v σ H) (hO : zP wM u τ H) (hS : va_S (lA s) s.heap H locs) (kk : ∀ (σ1 τ1 : Hp), Rl σ1 τ1 → ∀ (H1 : Heap) (locs1 : List Loc), zP wC v σ1 H1 → zP wM u τ1 H1 → va_S (lA s) s.heap H1 locs1 → W p l e room_1 s m args below meth c H1 locs1 cells slots Q (F0 m 1266 ls [])) : W p l e room_1 s m args below meth c H locs cells slots Q (F0 m 399 ls []) := by
  obtain ⟨r, σ1, τ1, e1, e2, hR1⟩ := sim 5 (by decide) (fun j => xs (i + j)) σ τ hR
  obtain ⟨hx, hb, hml, hown, hts, ⟨hKv, hKu, hiv, hiu, xcv, xcu, hXv, hXu⟩, ⟨hgv, hgu, hdd⟩, hXs, nx⟩ := id X
  refine lv_aload_n hx hb (dk dt_law_12 15 rfl) rfl (lv_at hl 2 rfl) ?_
  refine lw_arg (k := 1) X hl (lv_at hl 3 rfl) (lv_at hl 0 rfl) hS (by decide) (by omega) hL (dk dt_law_13 0 rfl) (dk dt_law_13 1 rfl) (dk dt_law_13 2 rfl) (dk dt_law_13 3 rfl) (dk dt_law_13 4 rfl) ?_
  refine lw_call (As := [.int (xs (i + 1))]) (rest := []) (wo := zw wM u τ) (D' := u.2.1) hx hb hml hown hts hKv hXv xcv hgv vo_law_37 (ct_V_orders hiv xcv nx e1) rfl (Nat.le_of_ble_eq_true rfl) (Nat.le_of_ble_eq_true rfl) rfl (by decide) rfl rfl (Nat.zero_le _) hl.1 hcl hsl (dk dt_law_13 5 rfl) hP hO (lw_dis1 hdd) hS (fun H locs hP hO hS => ?_)
  refine lv_aload_n hx hb (dk dt_law_13 6 rfl) rfl (lv_at hl 1 rfl) ?_
  refine lw_arg (k := 1) X hl (lv_at hl 3 rfl) (lv_at hl 0 rfl) hS (by decide) (by omega) hL (dk dt_law_13 7 rfl) (dk dt_law_13 8 rfl) (dk dt_law_13 9 rfl) (dk dt_law_13 10 rfl) (dk dt_law_13 11 rfl) ?_
  refine lw_call (As := [.int (xs (i + 1))]) (rest := [.int r]) (wo := zw wC v σ1) (D' := v.2.1) hx hb hml hown hts hKu hXu xcu hgu vo_law_40 (ct_M_orders hiu xcu trivial e2) rfl (Nat.le_of_ble_eq_true rfl) (Nat.le_of_ble_eq_true rfl) rfl (by decide) rfl rfl (Nat.le_of_ble_eq_true rfl) hl.1 hcl hsl (dk dt_law_13 12 rfl) hO hP (lw_dis2 hdd) hS (fun H locs hO hP hS => ?_)
  refine lv_icmp_eq (tgt := 1266) hx hb (dk dt_law_13 13 rfl) (by decide) (fun hc => ?_) (fun hc => absurd rfl hc)
  exact kk σ1 τ1 hR1 H locs hP hO hS
theorem lwc_6 {v u : ZV} {b L : Nat} {xs : Nat → Int32} (X : LX p s m args c b L xs v u) (hL : L ≤ 3072) (hcl : cells ≤ 600000) (hsl : slots ≤ 7302250) {i : Nat} (hi : i + 6 ≤ L) {σ τ : Hp} {Rl : Hp → Hp → Prop} (sim : SimP Rl) (hR : Rl σ τ) (hl : lv_has ls 4 [(3, .int (nI i)), (2, .ref (u.1 0)), (1, .ref (v.1 0)), (0, .ref b)]) (hP : zP wC v σ H) (hO : zP wM u τ H) (hS : va_S (lA s) s.heap H locs) (kk : ∀ (σ1 τ1 : Hp), Rl σ1 τ1 → ∀ (H1 : Heap) (locs1 : List Loc), zP wC v σ1 H1 → zP wM u τ1 H1 → va_S (lA s) s.heap H1 locs1 → W p l e room_1 s m args below meth c H1 locs1 cells slots Q (F0 m 1266 ls [])) : W p l e room_1 s m args below meth c H locs cells slots Q (F0 m 422 ls []) := by
  obtain ⟨r, σ1, τ1, e1, e2, hR1⟩ := sim 6 (by decide) (fun j => xs (i + j)) σ τ hR
  obtain ⟨hx, hb, hml, hown, hts, ⟨hKv, hKu, hiv, hiu, xcv, xcu, hXv, hXu⟩, ⟨hgv, hgu, hdd⟩, hXs, nx⟩ := id X
  refine lv_aload_n hx hb (dk dt_law_14 0 rfl) rfl (lv_at hl 2 rfl) ?_
  refine lw_arg (k := 1) X hl (lv_at hl 3 rfl) (lv_at hl 0 rfl) hS (by decide) (by omega) hL (dk dt_law_14 1 rfl) (dk dt_law_14 2 rfl) (dk dt_law_14 3 rfl) (dk dt_law_14 4 rfl) (dk dt_law_14 5 rfl) ?_
  refine lw_arg (k := 2) X hl (lv_at hl 3 rfl) (lv_at hl 0 rfl) hS (by decide) (by omega) hL (dk dt_law_14 6 rfl) (dk dt_law_14 7 rfl) (dk dt_law_14 8 rfl) (dk dt_law_14 9 rfl) (dk dt_law_14 10 rfl) ?_
  refine lw_call (As := [.int (xs (i + 1)), .int (xs (i + 2))]) (rest := []) (wo := zw wM u τ) (D' := u.2.1) hx hb hml hown hts hKv hXv xcv hgv vo_law_41 (ct_V_signals hiv xcv nx e1) rfl (Nat.le_of_ble_eq_true rfl) (Nat.le_of_ble_eq_true rfl) rfl (by decide) rfl rfl (Nat.zero_le _) hl.1 hcl hsl (dk dt_law_14 11 rfl) hP hO (lw_dis1 hdd) hS (fun H locs hP hO hS => ?_)
  refine lv_aload_n hx hb (dk dt_law_14 12 rfl) rfl (lv_at hl 1 rfl) ?_
  refine lw_arg (k := 1) X hl (lv_at hl 3 rfl) (lv_at hl 0 rfl) hS (by decide) (by omega) hL (dk dt_law_14 13 rfl) (dk dt_law_14 14 rfl) (dk dt_law_14 15 rfl) (dk dt_law_15 0 rfl) (dk dt_law_15 1 rfl) ?_
  refine lw_arg (k := 2) X hl (lv_at hl 3 rfl) (lv_at hl 0 rfl) hS (by decide) (by omega) hL (dk dt_law_15 2 rfl) (dk dt_law_15 3 rfl) (dk dt_law_15 4 rfl) (dk dt_law_15 5 rfl) (dk dt_law_15 6 rfl) ?_
  refine lw_call (As := [.int (xs (i + 1)), .int (xs (i + 2))]) (rest := [.int r]) (wo := zw wC v σ1) (D' := v.2.1) hx hb hml hown hts hKu hXu xcu hgu vo_law_45 (ct_M_signals hiu xcu trivial e2) rfl (Nat.le_of_ble_eq_true rfl) (Nat.le_of_ble_eq_true rfl) rfl (by decide) rfl rfl (Nat.le_of_ble_eq_true rfl) hl.1 hcl hsl (dk dt_law_15 7 rfl) hO hP (lw_dis2 hdd) hS (fun H locs hO hP hS => ?_)
  refine lv_icmp_eq (tgt := 1266) hx hb (dk dt_law_15 8 rfl) (by decide) (fun hc => ?_) (fun hc => absurd rfl hc)
  exact kk σ1 τ1 hR1 H locs hP hO hS
theorem lwc_7 {v u : ZV} {b L : Nat} {xs : Nat → Int32} (X : LX p s m args c b L xs v u) (hL : L ≤ 3072) (hcl : cells ≤ 600000) (hsl : slots ≤ 7302250) {i : Nat} (hi : i + 6 ≤ L) {σ τ : Hp} {Rl : Hp → Hp → Prop} (sim : SimP Rl) (hR : Rl σ τ) (hl : lv_has ls 4 [(3, .int (nI i)), (2, .ref (u.1 0)), (1, .ref (v.1 0)), (0, .ref b)]) (hP : zP wC v σ H) (hO : zP wM u τ H) (hS : va_S (lA s) s.heap H locs) (kk : ∀ (σ1 τ1 : Hp), Rl σ1 τ1 → ∀ (H1 : Heap) (locs1 : List Loc), zP wC v σ1 H1 → zP wM u τ1 H1 → va_S (lA s) s.heap H1 locs1 → W p l e room_1 s m args below meth c H1 locs1 cells slots Q (F0 m 1266 ls [])) : W p l e room_1 s m args below meth c H locs cells slots Q (F0 m 455 ls []) := by
  obtain ⟨r, σ1, τ1, e1, e2, hR1⟩ := sim 7 (by decide) (fun j => xs (i + j)) σ τ hR
  obtain ⟨hx, hb, hml, hown, hts, ⟨hKv, hKu, hiv, hiu, xcv, xcu, hXv, hXu⟩, ⟨hgv, hgu, hdd⟩, hXs, nx⟩ := id X
  refine lv_aload_n hx hb (dk dt_law_15 11 rfl) rfl (lv_at hl 2 rfl) ?_
  refine lw_arg (k := 1) X hl (lv_at hl 3 rfl) (lv_at hl 0 rfl) hS (by decide) (by omega) hL (dk dt_law_15 12 rfl) (dk dt_law_15 13 rfl) (dk dt_law_15 14 rfl) (dk dt_law_15 15 rfl) (dk dt_law_16 0 rfl) ?_
  refine lw_call (As := [.int (xs (i + 1))]) (rest := []) (wo := zw wM u τ) (D' := u.2.1) hx hb hml hown hts hKv hXv xcv hgv vo_law_46 (ct_V_watches hiv xcv nx e1) rfl (Nat.le_of_ble_eq_true rfl) (Nat.le_of_ble_eq_true rfl) rfl (by decide) rfl rfl (Nat.zero_le _) hl.1 hcl hsl (dk dt_law_16 1 rfl) hP hO (lw_dis1 hdd) hS (fun H locs hP hO hS => ?_)
  refine lv_aload_n hx hb (dk dt_law_16 2 rfl) rfl (lv_at hl 1 rfl) ?_
  refine lw_arg (k := 1) X hl (lv_at hl 3 rfl) (lv_at hl 0 rfl) hS (by decide) (by omega) hL (dk dt_law_16 3 rfl) (dk dt_law_16 4 rfl) (dk dt_law_16 5 rfl) (dk dt_law_16 6 rfl) (dk dt_law_16 7 rfl) ?_
  refine lw_call (As := [.int (xs (i + 1))]) (rest := [.int r]) (wo := zw wC v σ1) (D' := v.2.1) hx hb hml hown hts hKu hXu xcu hgu vo_law_49 (ct_M_watches hiu xcu trivial e2) rfl (Nat.le_of_ble_eq_true rfl) (Nat.le_of_ble_eq_true rfl) rfl (by decide) rfl rfl (Nat.le_of_ble_eq_true rfl) hl.1 hcl hsl (dk dt_law_16 8 rfl) hO hP (lw_dis2 hdd) hS (fun H locs hO hP hS => ?_)
  refine lv_icmp_eq (tgt := 1266) hx hb (dk dt_law_16 9 rfl) (by decide) (fun hc => ?_) (fun hc => absurd rfl hc)
  exact kk σ1 τ1 hR1 H locs hP hO hS
theorem lwc_8 {v u : ZV} {b L : Nat} {xs : Nat → Int32} (X : LX p s m args c b L xs v u) (hL : L ≤ 3072) (hcl : cells ≤ 600000) (hsl : slots ≤ 7302250) {i : Nat} (hi : i + 6 ≤ L) {σ τ : Hp} {Rl : Hp → Hp → Prop} (sim : SimP Rl) (hR : Rl σ τ) (hl : lv_has ls 4 [(3, .int (nI i)), (2, .ref (u.1 0)), (1, .ref (v.1 0)), (0, .ref b)]) (hP : zP wC v σ H) (hO : zP wM u τ H) (hS : va_S (lA s) s.heap H locs) (kk : ∀ (σ1 τ1 : Hp), Rl σ1 τ1 → ∀ (H1 : Heap) (locs1 : List Loc), zP wC v σ1 H1 → zP wM u τ1 H1 → va_S (lA s) s.heap H1 locs1 → W p l e room_1 s m args below meth c H1 locs1 cells slots Q (F0 m 1266 ls [])) : W p l e room_1 s m args below meth c H locs cells slots Q (F0 m 478 ls []) := by
  obtain ⟨r, σ1, τ1, e1, e2, hR1⟩ := sim 8 (by decide) (fun j => xs (i + j)) σ τ hR
  obtain ⟨hx, hb, hml, hown, hts, ⟨hKv, hKu, hiv, hiu, xcv, xcu, hXv, hXu⟩, ⟨hgv, hgu, hdd⟩, hXs, nx⟩ := id X
  refine lv_aload_n hx hb (dk dt_law_16 12 rfl) rfl (lv_at hl 2 rfl) ?_
  refine lw_arg (k := 1) X hl (lv_at hl 3 rfl) (lv_at hl 0 rfl) hS (by decide) (by omega) hL (dk dt_law_16 13 rfl) (dk dt_law_16 14 rfl) (dk dt_law_16 15 rfl) (dk dt_law_17 0 rfl) (dk dt_law_17 1 rfl) ?_
  refine lw_arg (k := 2) X hl (lv_at hl 3 rfl) (lv_at hl 0 rfl) hS (by decide) (by omega) hL (dk dt_law_17 2 rfl) (dk dt_law_17 3 rfl) (dk dt_law_17 4 rfl) (dk dt_law_17 5 rfl) (dk dt_law_17 6 rfl) ?_
  refine lw_call (As := [.int (xs (i + 1)), .int (xs (i + 2))]) (rest := []) (wo := zw wM u τ) (D' := u.2.1) hx hb hml hown hts hKv hXv xcv hgv vo_law_50 (ct_V_tried hiv xcv nx e1) rfl (Nat.le_of_ble_eq_true rfl) (Nat.le_of_ble_eq_true rfl) rfl (by decide) rfl rfl (Nat.zero_le _) hl.1 hcl hsl (dk dt_law_17 7 rfl) hP hO (lw_dis1 hdd) hS (fun H locs hP hO hS => ?_)
  refine lv_aload_n hx hb (dk dt_law_17 8 rfl) rfl (lv_at hl 1 rfl) ?_
  refine lw_arg (k := 1) X hl (lv_at hl 3 rfl) (lv_at hl 0 rfl) hS (by decide) (by omega) hL (dk dt_law_17 9 rfl) (dk dt_law_17 10 rfl) (dk dt_law_17 11 rfl) (dk dt_law_17 12 rfl) (dk dt_law_17 13 rfl) ?_
  refine lw_arg (k := 2) X hl (lv_at hl 3 rfl) (lv_at hl 0 rfl) hS (by decide) (by omega) hL (dk dt_law_17 14 rfl) (dk dt_law_17 15 rfl) (dk dt_law_18 0 rfl) (dk dt_law_18 1 rfl) (dk dt_law_18 2 rfl) ?_
  refine lw_call (As := [.int (xs (i + 1)), .int (xs (i + 2))]) (rest := [.int r]) (wo := zw wC v σ1) (D' := v.2.1) hx hb hml hown hts hKu hXu xcu hgu vo_law_53 (ct_M_tried hiu xcu trivial e2) rfl (Nat.le_of_ble_eq_true rfl) (Nat.le_of_ble_eq_true rfl) rfl (by decide) rfl rfl (Nat.le_of_ble_eq_true rfl) hl.1 hcl hsl (dk dt_law_18 3 rfl) hO hP (lw_dis2 hdd) hS (fun H locs hO hP hS => ?_)
  refine lv_icmp_eq (tgt := 1266) hx hb (dk dt_law_18 4 rfl) (by decide) (fun hc => ?_) (fun hc => absurd rfl hc)
  exact kk σ1 τ1 hR1 H locs hP hO hS
theorem lwc_9 {v u : ZV} {b L : Nat} {xs : Nat → Int32} (X : LX p s m args c b L xs v u) (hL : L ≤ 3072) (hcl : cells ≤ 600000) (hsl : slots ≤ 7302250) {i : Nat} (hi : i + 6 ≤ L) {σ τ : Hp} {Rl : Hp → Hp → Prop} (sim : SimP Rl) (hR : Rl σ τ) (hl : lv_has ls 4 [(3, .int (nI i)), (2, .ref (u.1 0)), (1, .ref (v.1 0)), (0, .ref b)]) (hP : zP wC v σ H) (hO : zP wM u τ H) (hS : va_S (lA s) s.heap H locs) (kk : ∀ (σ1 τ1 : Hp), Rl σ1 τ1 → ∀ (H1 : Heap) (locs1 : List Loc), zP wC v σ1 H1 → zP wM u τ1 H1 → va_S (lA s) s.heap H1 locs1 → W p l e room_1 s m args below meth c H1 locs1 cells slots Q (F0 m 1266 ls [])) : W p l e room_1 s m args below meth c H locs cells slots Q (F0 m 511 ls []) := by
  obtain ⟨r, σ1, τ1, e1, e2, hR1⟩ := sim 9 (by decide) (fun j => xs (i + j)) σ τ hR
  obtain ⟨hx, hb, hml, hown, hts, ⟨hKv, hKu, hiv, hiu, xcv, xcu, hXv, hXu⟩, ⟨hgv, hgu, hdd⟩, hXs, nx⟩ := id X
  refine lv_aload_n hx hb (dk dt_law_18 7 rfl) rfl (lv_at hl 2 rfl) ?_
  refine lw_arg (k := 1) X hl (lv_at hl 3 rfl) (lv_at hl 0 rfl) hS (by decide) (by omega) hL (dk dt_law_18 8 rfl) (dk dt_law_18 9 rfl) (dk dt_law_18 10 rfl) (dk dt_law_18 11 rfl) (dk dt_law_18 12 rfl) ?_
  refine lw_arg (k := 2) X hl (lv_at hl 3 rfl) (lv_at hl 0 rfl) hS (by decide) (by omega) hL (dk dt_law_18 13 rfl) (dk dt_law_18 14 rfl) (dk dt_law_18 15 rfl) (dk dt_law_19 0 rfl) (dk dt_law_19 1 rfl) ?_
  refine lw_arg (k := 3) X hl (lv_at hl 3 rfl) (lv_at hl 0 rfl) hS (by decide) (by omega) hL (dk dt_law_19 2 rfl) (dk dt_law_19 3 rfl) (dk dt_law_19 4 rfl) (dk dt_law_19 5 rfl) (dk dt_law_19 6 rfl) ?_
  refine lw_call (As := [.int (xs (i + 1)), .int (xs (i + 2)), .int (xs (i + 3))]) (rest := []) (wo := zw wM u τ) (D' := u.2.1) hx hb hml hown hts hKv hXv xcv hgv vo_law_54 (ct_V_chairIs hiv xcv nx e1) rfl (Nat.le_of_ble_eq_true rfl) (Nat.le_of_ble_eq_true rfl) rfl (by decide) rfl rfl (Nat.zero_le _) hl.1 hcl hsl (dk dt_law_19 7 rfl) hP hO (lw_dis1 hdd) hS (fun H locs hP hO hS => ?_)
  refine lv_aload_n hx hb (dk dt_law_19 8 rfl) rfl (lv_at hl 1 rfl) ?_
  refine lw_arg (k := 1) X hl (lv_at hl 3 rfl) (lv_at hl 0 rfl) hS (by decide) (by omega) hL (dk dt_law_19 9 rfl) (dk dt_law_19 10 rfl) (dk dt_law_19 11 rfl) (dk dt_law_19 12 rfl) (dk dt_law_19 13 rfl) ?_
  refine lw_arg (k := 2) X hl (lv_at hl 3 rfl) (lv_at hl 0 rfl) hS (by decide) (by omega) hL (dk dt_law_19 14 rfl) (dk dt_law_19 15 rfl) (dk dt_law_20 0 rfl) (dk dt_law_20 1 rfl) (dk dt_law_20 2 rfl) ?_
  refine lw_arg (k := 3) X hl (lv_at hl 3 rfl) (lv_at hl 0 rfl) hS (by decide) (by omega) hL (dk dt_law_20 3 rfl) (dk dt_law_20 4 rfl) (dk dt_law_20 5 rfl) (dk dt_law_20 6 rfl) (dk dt_law_20 7 rfl) ?_
  refine lw_call (As := [.int (xs (i + 1)), .int (xs (i + 2)), .int (xs (i + 3))]) (rest := [.int r]) (wo := zw wC v σ1) (D' := v.2.1) hx hb hml hown hts hKu hXu xcu hgu vo_law_58 (ct_M_chairIs hiu xcu trivial e2) rfl (Nat.le_of_ble_eq_true rfl) (Nat.le_of_ble_eq_true rfl) rfl (by decide) rfl rfl (Nat.le_of_ble_eq_true rfl) hl.1 hcl hsl (dk dt_law_20 8 rfl) hO hP (lw_dis2 hdd) hS (fun H locs hO hP hS => ?_)
  refine lv_icmp_eq (tgt := 1266) hx hb (dk dt_law_20 9 rfl) (by decide) (fun hc => ?_) (fun hc => absurd rfl hc)
  exact kk σ1 τ1 hR1 H locs hP hO hS
theorem lwc_10 {v u : ZV} {b L : Nat} {xs : Nat → Int32} (X : LX p s m args c b L xs v u) (hL : L ≤ 3072) (hcl : cells ≤ 600000) (hsl : slots ≤ 7302250) {i : Nat} (hi : i + 6 ≤ L) {σ τ : Hp} {Rl : Hp → Hp → Prop} (sim : SimP Rl) (hR : Rl σ τ) (hl : lv_has ls 4 [(3, .int (nI i)), (2, .ref (u.1 0)), (1, .ref (v.1 0)), (0, .ref b)]) (hP : zP wC v σ H) (hO : zP wM u τ H) (hS : va_S (lA s) s.heap H locs) (kk : ∀ (σ1 τ1 : Hp), Rl σ1 τ1 → ∀ (H1 : Heap) (locs1 : List Loc), zP wC v σ1 H1 → zP wM u τ1 H1 → va_S (lA s) s.heap H1 locs1 → W p l e room_1 s m args below meth c H1 locs1 cells slots Q (F0 m 1266 ls [])) : W p l e room_1 s m args below meth c H locs cells slots Q (F0 m 554 ls []) := by
  obtain ⟨r, σ1, τ1, e1, e2, hR1⟩ := sim 10 (by decide) (fun j => xs (i + j)) σ τ hR
  obtain ⟨hx, hb, hml, hown, hts, ⟨hKv, hKu, hiv, hiu, xcv, xcu, hXv, hXu⟩, ⟨hgv, hgu, hdd⟩, hXs, nx⟩ := id X
  refine lv_aload_n hx hb (dk dt_law_20 12 rfl) rfl (lv_at hl 2 rfl) ?_
  refine lw_arg (k := 1) X hl (lv_at hl 3 rfl) (lv_at hl 0 rfl) hS (by decide) (by omega) hL (dk dt_law_20 13 rfl) (dk dt_law_20 14 rfl) (dk dt_law_20 15 rfl) (dk dt_law_21 0 rfl) (dk dt_law_21 1 rfl) ?_
  refine lw_arg (k := 2) X hl (lv_at hl 3 rfl) (lv_at hl 0 rfl) hS (by decide) (by omega) hL (dk dt_law_21 2 rfl) (dk dt_law_21 3 rfl) (dk dt_law_21 4 rfl) (dk dt_law_21 5 rfl) (dk dt_law_21 6 rfl) ?_
  refine lw_call (As := [.int (xs (i + 1)), .int (xs (i + 2))]) (rest := []) (wo := zw wM u τ) (D' := u.2.1) hx hb hml hown hts hKv hXv xcv hgv vo_law_59 (ct_V_sees hiv xcv nx e1) rfl (Nat.le_of_ble_eq_true rfl) (Nat.le_of_ble_eq_true rfl) rfl (by decide) rfl rfl (Nat.zero_le _) hl.1 hcl hsl (dk dt_law_21 7 rfl) hP hO (lw_dis1 hdd) hS (fun H locs hP hO hS => ?_)
  refine lv_aload_n hx hb (dk dt_law_21 8 rfl) rfl (lv_at hl 1 rfl) ?_
  refine lw_arg (k := 1) X hl (lv_at hl 3 rfl) (lv_at hl 0 rfl) hS (by decide) (by omega) hL (dk dt_law_21 9 rfl) (dk dt_law_21 10 rfl) (dk dt_law_21 11 rfl) (dk dt_law_21 12 rfl) (dk dt_law_21 13 rfl) ?_
  refine lw_arg (k := 2) X hl (lv_at hl 3 rfl) (lv_at hl 0 rfl) hS (by decide) (by omega) hL (dk dt_law_21 14 rfl) (dk dt_law_21 15 rfl) (dk dt_law_22 0 rfl) (dk dt_law_22 1 rfl) (dk dt_law_22 2 rfl) ?_
  refine lw_call (As := [.int (xs (i + 1)), .int (xs (i + 2))]) (rest := [.int r]) (wo := zw wC v σ1) (D' := v.2.1) hx hb hml hown hts hKu hXu xcu hgu vo_law_62 (ct_M_sees hiu xcu trivial e2) rfl (Nat.le_of_ble_eq_true rfl) (Nat.le_of_ble_eq_true rfl) rfl (by decide) rfl rfl (Nat.le_of_ble_eq_true rfl) hl.1 hcl hsl (dk dt_law_22 3 rfl) hO hP (lw_dis2 hdd) hS (fun H locs hO hP hS => ?_)
  refine lv_icmp_eq (tgt := 1266) hx hb (dk dt_law_22 4 rfl) (by decide) (fun hc => ?_) (fun hc => absurd rfl hc)
  exact kk σ1 τ1 hR1 H locs hP hO hS
theorem lwc_11 {v u : ZV} {b L : Nat} {xs : Nat → Int32} (X : LX p s m args c b L xs v u) (hL : L ≤ 3072) (hcl : cells ≤ 600000) (hsl : slots ≤ 7302250) {i : Nat} (hi : i + 6 ≤ L) {σ τ : Hp} {Rl : Hp → Hp → Prop} (sim : SimP Rl) (hR : Rl σ τ) (hl : lv_has ls 4 [(3, .int (nI i)), (2, .ref (u.1 0)), (1, .ref (v.1 0)), (0, .ref b)]) (hP : zP wC v σ H) (hO : zP wM u τ H) (hS : va_S (lA s) s.heap H locs) (kk : ∀ (σ1 τ1 : Hp), Rl σ1 τ1 → ∀ (H1 : Heap) (locs1 : List Loc), zP wC v σ1 H1 → zP wM u τ1 H1 → va_S (lA s) s.heap H1 locs1 → W p l e room_1 s m args below meth c H1 locs1 cells slots Q (F0 m 1266 ls [])) : W p l e room_1 s m args below meth c H locs cells slots Q (F0 m 587 ls []) := by
  obtain ⟨r, σ1, τ1, e1, e2, hR1⟩ := sim 11 (by decide) (fun j => xs (i + j)) σ τ hR
  obtain ⟨hx, hb, hml, hown, hts, ⟨hKv, hKu, hiv, hiu, xcv, xcu, hXv, hXu⟩, ⟨hgv, hgu, hdd⟩, hXs, nx⟩ := id X
  refine lv_aload_n hx hb (dk dt_law_22 7 rfl) rfl (lv_at hl 2 rfl) ?_
  refine lw_arg (k := 1) X hl (lv_at hl 3 rfl) (lv_at hl 0 rfl) hS (by decide) (by omega) hL (dk dt_law_22 8 rfl) (dk dt_law_22 9 rfl) (dk dt_law_22 10 rfl) (dk dt_law_22 11 rfl) (dk dt_law_22 12 rfl) ?_
  refine lw_arg (k := 2) X hl (lv_at hl 3 rfl) (lv_at hl 0 rfl) hS (by decide) (by omega) hL (dk dt_law_22 13 rfl) (dk dt_law_22 14 rfl) (dk dt_law_22 15 rfl) (dk dt_law_23 0 rfl) (dk dt_law_23 1 rfl) ?_
  refine lw_arg (k := 3) X hl (lv_at hl 3 rfl) (lv_at hl 0 rfl) hS (by decide) (by omega) hL (dk dt_law_23 2 rfl) (dk dt_law_23 3 rfl) (dk dt_law_23 4 rfl) (dk dt_law_23 5 rfl) (dk dt_law_23 6 rfl) ?_
  refine lw_call (As := [.int (xs (i + 1)), .int (xs (i + 2)), .int (xs (i + 3))]) (rest := []) (wo := zw wM u τ) (D' := u.2.1) hx hb hml hown hts hKv hXv xcv hgv vo_law_63 (ct_V_toSee hiv xcv nx e1) rfl (Nat.le_of_ble_eq_true rfl) (Nat.le_of_ble_eq_true rfl) rfl (by decide) rfl rfl (Nat.zero_le _) hl.1 hcl hsl (dk dt_law_23 7 rfl) hP hO (lw_dis1 hdd) hS (fun H locs hP hO hS => ?_)
  refine lv_aload_n hx hb (dk dt_law_23 8 rfl) rfl (lv_at hl 1 rfl) ?_
  refine lw_arg (k := 1) X hl (lv_at hl 3 rfl) (lv_at hl 0 rfl) hS (by decide) (by omega) hL (dk dt_law_23 9 rfl) (dk dt_law_23 10 rfl) (dk dt_law_23 11 rfl) (dk dt_law_23 12 rfl) (dk dt_law_23 13 rfl) ?_
  refine lw_arg (k := 2) X hl (lv_at hl 3 rfl) (lv_at hl 0 rfl) hS (by decide) (by omega) hL (dk dt_law_23 14 rfl) (dk dt_law_23 15 rfl) (dk dt_law_24 0 rfl) (dk dt_law_24 1 rfl) (dk dt_law_24 2 rfl) ?_
  refine lw_arg (k := 3) X hl (lv_at hl 3 rfl) (lv_at hl 0 rfl) hS (by decide) (by omega) hL (dk dt_law_24 3 rfl) (dk dt_law_24 4 rfl) (dk dt_law_24 5 rfl) (dk dt_law_24 6 rfl) (dk dt_law_24 7 rfl) ?_
  refine lw_call (As := [.int (xs (i + 1)), .int (xs (i + 2)), .int (xs (i + 3))]) (rest := [.int r]) (wo := zw wC v σ1) (D' := v.2.1) hx hb hml hown hts hKu hXu xcu hgu vo_law_66 (ct_M_toSee hiu xcu trivial e2) rfl (Nat.le_of_ble_eq_true rfl) (Nat.le_of_ble_eq_true rfl) rfl (by decide) rfl rfl (Nat.le_of_ble_eq_true rfl) hl.1 hcl hsl (dk dt_law_24 8 rfl) hO hP (lw_dis2 hdd) hS (fun H locs hO hP hS => ?_)
  refine lv_icmp_eq (tgt := 1266) hx hb (dk dt_law_24 9 rfl) (by decide) (fun hc => ?_) (fun hc => absurd rfl hc)
  exact kk σ1 τ1 hR1 H locs hP hO hS
theorem lwc_12 {v u : ZV} {b L : Nat} {xs : Nat → Int32} (X : LX p s m args c b L xs v u) (hL : L ≤ 3072) (hcl : cells ≤ 600000) (hsl : slots ≤ 7302250) {i : Nat} (hi : i + 6 ≤ L) {σ τ : Hp} {Rl : Hp → Hp → Prop} (sim : SimP Rl) (hR : Rl σ τ) (hl : lv_has ls 4 [(3, .int (nI i)), (2, .ref (u.1 0)), (1, .ref (v.1 0)), (0, .ref b)]) (hP : zP wC v σ H) (hO : zP wM u τ H) (hS : va_S (lA s) s.heap H locs) (kk : ∀ (σ1 τ1 : Hp), Rl σ1 τ1 → ∀ (H1 : Heap) (locs1 : List Loc), zP wC v σ1 H1 → zP wM u τ1 H1 → va_S (lA s) s.heap H1 locs1 → W p l e room_1 s m args below meth c H1 locs1 cells slots Q (F0 m 1266 ls [])) : W p l e room_1 s m args below meth c H locs cells slots Q (F0 m 630 ls []) := by
  obtain ⟨r, σ1, τ1, e1, e2, hR1⟩ := sim 12 (by decide) (fun j => xs (i + j)) σ τ hR
  obtain ⟨hx, hb, hml, hown, hts, ⟨hKv, hKu, hiv, hiu, xcv, xcu, hXv, hXu⟩, ⟨hgv, hgu, hdd⟩, hXs, nx⟩ := id X
  refine lv_aload_n hx hb (dk dt_law_24 12 rfl) rfl (lv_at hl 2 rfl) ?_
  refine lw_arg (k := 1) X hl (lv_at hl 3 rfl) (lv_at hl 0 rfl) hS (by decide) (by omega) hL (dk dt_law_24 13 rfl) (dk dt_law_24 14 rfl) (dk dt_law_24 15 rfl) (dk dt_law_25 0 rfl) (dk dt_law_25 1 rfl) ?_
  refine lw_call (As := [.int (xs (i + 1))]) (rest := []) (wo := zw wM u τ) (D' := u.2.1) hx hb hml hown hts hKv hXv xcv hgv vo_law_67 (ct_V_overTrees hiv xcv nx e1) rfl (Nat.le_of_ble_eq_true rfl) (Nat.le_of_ble_eq_true rfl) rfl (by decide) rfl rfl (Nat.zero_le _) hl.1 hcl hsl (dk dt_law_25 2 rfl) hP hO (lw_dis1 hdd) hS (fun H locs hP hO hS => ?_)
  refine lv_aload_n hx hb (dk dt_law_25 3 rfl) rfl (lv_at hl 1 rfl) ?_
  refine lw_arg (k := 1) X hl (lv_at hl 3 rfl) (lv_at hl 0 rfl) hS (by decide) (by omega) hL (dk dt_law_25 4 rfl) (dk dt_law_25 5 rfl) (dk dt_law_25 6 rfl) (dk dt_law_25 7 rfl) (dk dt_law_25 8 rfl) ?_
  refine lw_call (As := [.int (xs (i + 1))]) (rest := [.int r]) (wo := zw wC v σ1) (D' := v.2.1) hx hb hml hown hts hKu hXu xcu hgu vo_law_70 (ct_M_overTrees hiu xcu trivial e2) rfl (Nat.le_of_ble_eq_true rfl) (Nat.le_of_ble_eq_true rfl) rfl (by decide) rfl rfl (Nat.le_of_ble_eq_true rfl) hl.1 hcl hsl (dk dt_law_25 9 rfl) hO hP (lw_dis2 hdd) hS (fun H locs hO hP hS => ?_)
  refine lv_icmp_eq (tgt := 1266) hx hb (dk dt_law_25 10 rfl) (by decide) (fun hc => ?_) (fun hc => absurd rfl hc)
  exact kk σ1 τ1 hR1 H locs hP hO hS
theorem lwc_13 {v u : ZV} {b L : Nat} {xs : Nat → Int32} (X : LX p s m args c b L xs v u) (hL : L ≤ 3072) (hcl : cells ≤ 600000) (hsl : slots ≤ 7302250) {i : Nat} (hi : i + 6 ≤ L) {σ τ : Hp} {Rl : Hp → Hp → Prop} (sim : SimP Rl) (hR : Rl σ τ) (hl : lv_has ls 4 [(3, .int (nI i)), (2, .ref (u.1 0)), (1, .ref (v.1 0)), (0, .ref b)]) (hP : zP wC v σ H) (hO : zP wM u τ H) (hS : va_S (lA s) s.heap H locs) (kk : ∀ (σ1 τ1 : Hp), Rl σ1 τ1 → ∀ (H1 : Heap) (locs1 : List Loc), zP wC v σ1 H1 → zP wM u τ1 H1 → va_S (lA s) s.heap H1 locs1 → W p l e room_1 s m args below meth c H1 locs1 cells slots Q (F0 m 1266 ls [])) : W p l e room_1 s m args below meth c H locs cells slots Q (F0 m 653 ls []) := by
  obtain ⟨r, σ1, τ1, e1, e2, hR1⟩ := sim 13 (by decide) (fun j => xs (i + j)) σ τ hR
  obtain ⟨hx, hb, hml, hown, hts, ⟨hKv, hKu, hiv, hiu, xcv, xcu, hXv, hXu⟩, ⟨hgv, hgu, hdd⟩, hXs, nx⟩ := id X
  refine lv_aload_n hx hb (dk dt_law_25 13 rfl) rfl (lv_at hl 2 rfl) ?_
  refine lw_arg (k := 1) X hl (lv_at hl 3 rfl) (lv_at hl 0 rfl) hS (by decide) (by omega) hL (dk dt_law_25 14 rfl) (dk dt_law_25 15 rfl) (dk dt_law_26 0 rfl) (dk dt_law_26 1 rfl) (dk dt_law_26 2 rfl) ?_
  refine lw_call (As := [.int (xs (i + 1))]) (rest := []) (wo := zw wM u τ) (D' := u.2.1) hx hb hml hown hts hKv hXv xcv hgv vo_law_71 (ct_V_hidden hiv xcv nx e1) rfl (Nat.le_of_ble_eq_true rfl) (Nat.le_of_ble_eq_true rfl) rfl (by decide) rfl rfl (Nat.zero_le _) hl.1 hcl hsl (dk dt_law_26 3 rfl) hP hO (lw_dis1 hdd) hS (fun H locs hP hO hS => ?_)
  refine lv_aload_n hx hb (dk dt_law_26 4 rfl) rfl (lv_at hl 1 rfl) ?_
  refine lw_arg (k := 1) X hl (lv_at hl 3 rfl) (lv_at hl 0 rfl) hS (by decide) (by omega) hL (dk dt_law_26 5 rfl) (dk dt_law_26 6 rfl) (dk dt_law_26 7 rfl) (dk dt_law_26 8 rfl) (dk dt_law_26 9 rfl) ?_
  refine lw_call (As := [.int (xs (i + 1))]) (rest := [.int r]) (wo := zw wC v σ1) (D' := v.2.1) hx hb hml hown hts hKu hXu xcu hgu vo_law_74 (ct_M_hidden hiu xcu trivial e2) rfl (Nat.le_of_ble_eq_true rfl) (Nat.le_of_ble_eq_true rfl) rfl (by decide) rfl rfl (Nat.le_of_ble_eq_true rfl) hl.1 hcl hsl (dk dt_law_26 10 rfl) hO hP (lw_dis2 hdd) hS (fun H locs hO hP hS => ?_)
  refine lv_icmp_eq (tgt := 1266) hx hb (dk dt_law_26 11 rfl) (by decide) (fun hc => ?_) (fun hc => absurd rfl hc)
  exact kk σ1 τ1 hR1 H locs hP hO hS
theorem lwc_14 {v u : ZV} {b L : Nat} {xs : Nat → Int32} (X : LX p s m args c b L xs v u) (hL : L ≤ 3072) (hcl : cells ≤ 600000) (hsl : slots ≤ 7302250) {i : Nat} (hi : i + 6 ≤ L) {σ τ : Hp} {Rl : Hp → Hp → Prop} (sim : SimP Rl) (hR : Rl σ τ) (hl : lv_has ls 4 [(3, .int (nI i)), (2, .ref (u.1 0)), (1, .ref (v.1 0)), (0, .ref b)]) (hP : zP wC v σ H) (hO : zP wM u τ H) (hS : va_S (lA s) s.heap H locs) (kk : ∀ (σ1 τ1 : Hp), Rl σ1 τ1 → ∀ (H1 : Heap) (locs1 : List Loc), zP wC v σ1 H1 → zP wM u τ1 H1 → va_S (lA s) s.heap H1 locs1 → W p l e room_1 s m args below meth c H1 locs1 cells slots Q (F0 m 1266 ls [])) : W p l e room_1 s m args below meth c H locs cells slots Q (F0 m 676 ls []) := by
  obtain ⟨r, σ1, τ1, e1, e2, hR1⟩ := sim 14 (by decide) (fun j => xs (i + j)) σ τ hR
  obtain ⟨hx, hb, hml, hown, hts, ⟨hKv, hKu, hiv, hiu, xcv, xcu, hXv, hXu⟩, ⟨hgv, hgu, hdd⟩, hXs, nx⟩ := id X
  refine lv_aload_n hx hb (dk dt_law_26 14 rfl) rfl (lv_at hl 2 rfl) ?_
  refine lw_arg (k := 1) X hl (lv_at hl 3 rfl) (lv_at hl 0 rfl) hS (by decide) (by omega) hL (dk dt_law_26 15 rfl) (dk dt_law_27 0 rfl) (dk dt_law_27 1 rfl) (dk dt_law_27 2 rfl) (dk dt_law_27 3 rfl) ?_
  refine lw_arg (k := 2) X hl (lv_at hl 3 rfl) (lv_at hl 0 rfl) hS (by decide) (by omega) hL (dk dt_law_27 4 rfl) (dk dt_law_27 5 rfl) (dk dt_law_27 6 rfl) (dk dt_law_27 7 rfl) (dk dt_law_27 8 rfl) ?_
  refine lw_arg (k := 3) X hl (lv_at hl 3 rfl) (lv_at hl 0 rfl) hS (by decide) (by omega) hL (dk dt_law_27 9 rfl) (dk dt_law_27 10 rfl) (dk dt_law_27 11 rfl) (dk dt_law_27 12 rfl) (dk dt_law_27 13 rfl) ?_
  refine lw_call (As := [.int (xs (i + 1)), .int (xs (i + 2)), .int (xs (i + 3))]) (rest := []) (wo := zw wM u τ) (D' := u.2.1) hx hb hml hown hts hKv hXv xcv hgv vo_law_75 (ct_V_capture hiv xcv nx e1) rfl (Nat.le_of_ble_eq_true rfl) (Nat.le_of_ble_eq_true rfl) rfl (by decide) rfl rfl (Nat.zero_le _) hl.1 hcl hsl (dk dt_law_27 14 rfl) hP hO (lw_dis1 hdd) hS (fun H locs hP hO hS => ?_)
  refine lv_aload_n hx hb (dk dt_law_27 15 rfl) rfl (lv_at hl 1 rfl) ?_
  refine lw_arg (k := 1) X hl (lv_at hl 3 rfl) (lv_at hl 0 rfl) hS (by decide) (by omega) hL (dk dt_law_28 0 rfl) (dk dt_law_28 1 rfl) (dk dt_law_28 2 rfl) (dk dt_law_28 3 rfl) (dk dt_law_28 4 rfl) ?_
  refine lw_arg (k := 2) X hl (lv_at hl 3 rfl) (lv_at hl 0 rfl) hS (by decide) (by omega) hL (dk dt_law_28 5 rfl) (dk dt_law_28 6 rfl) (dk dt_law_28 7 rfl) (dk dt_law_28 8 rfl) (dk dt_law_28 9 rfl) ?_
  refine lw_arg (k := 3) X hl (lv_at hl 3 rfl) (lv_at hl 0 rfl) hS (by decide) (by omega) hL (dk dt_law_28 10 rfl) (dk dt_law_28 11 rfl) (dk dt_law_28 12 rfl) (dk dt_law_28 13 rfl) (dk dt_law_28 14 rfl) ?_
  refine lw_call (As := [.int (xs (i + 1)), .int (xs (i + 2)), .int (xs (i + 3))]) (rest := [.int r]) (wo := zw wC v σ1) (D' := v.2.1) hx hb hml hown hts hKu hXu xcu hgu vo_law_79 (ct_M_capture hiu xcu trivial e2) rfl (Nat.le_of_ble_eq_true rfl) (Nat.le_of_ble_eq_true rfl) rfl (by decide) rfl rfl (Nat.le_of_ble_eq_true rfl) hl.1 hcl hsl (dk dt_law_28 15 rfl) hO hP (lw_dis2 hdd) hS (fun H locs hO hP hS => ?_)
  refine lv_icmp_eq (tgt := 1266) hx hb (dk dt_law_29 0 rfl) (by decide) (fun hc => ?_) (fun hc => absurd rfl hc)
  exact kk σ1 τ1 hR1 H locs hP hO hS
theorem lwc_15 {v u : ZV} {b L : Nat} {xs : Nat → Int32} (X : LX p s m args c b L xs v u) (hL : L ≤ 3072) (hcl : cells ≤ 600000) (hsl : slots ≤ 7302250) {i : Nat} (hi : i + 6 ≤ L) {σ τ : Hp} {Rl : Hp → Hp → Prop} (sim : SimP Rl) (hR : Rl σ τ) (hl : lv_has ls 4 [(3, .int (nI i)), (2, .ref (u.1 0)), (1, .ref (v.1 0)), (0, .ref b)]) (hP : zP wC v σ H) (hO : zP wM u τ H) (hS : va_S (lA s) s.heap H locs) (kk : ∀ (σ1 τ1 : Hp), Rl σ1 τ1 → ∀ (H1 : Heap) (locs1 : List Loc), zP wC v σ1 H1 → zP wM u τ1 H1 → va_S (lA s) s.heap H1 locs1 → W p l e room_1 s m args below meth c H1 locs1 cells slots Q (F0 m 1266 ls [])) : W p l e room_1 s m args below meth c H locs cells slots Q (F0 m 719 ls []) := by
  obtain ⟨r, σ1, τ1, e1, e2, hR1⟩ := sim 15 (by decide) (fun j => xs (i + j)) σ τ hR
  obtain ⟨hx, hb, hml, hown, hts, ⟨hKv, hKu, hiv, hiu, xcv, xcu, hXv, hXu⟩, ⟨hgv, hgu, hdd⟩, hXs, nx⟩ := id X
  refine lv_aload_n hx hb (dk dt_law_29 3 rfl) rfl (lv_at hl 2 rfl) ?_
  refine lw_arg (k := 1) X hl (lv_at hl 3 rfl) (lv_at hl 0 rfl) hS (by decide) (by omega) hL (dk dt_law_29 4 rfl) (dk dt_law_29 5 rfl) (dk dt_law_29 6 rfl) (dk dt_law_29 7 rfl) (dk dt_law_29 8 rfl) ?_
  refine lw_arg (k := 2) X hl (lv_at hl 3 rfl) (lv_at hl 0 rfl) hS (by decide) (by omega) hL (dk dt_law_29 9 rfl) (dk dt_law_29 10 rfl) (dk dt_law_29 11 rfl) (dk dt_law_29 12 rfl) (dk dt_law_29 13 rfl) ?_
  refine lw_arg (k := 3) X hl (lv_at hl 3 rfl) (lv_at hl 0 rfl) hS (by decide) (by omega) hL (dk dt_law_29 14 rfl) (dk dt_law_29 15 rfl) (dk dt_law_30 0 rfl) (dk dt_law_30 1 rfl) (dk dt_law_30 2 rfl) ?_
  refine lw_call (As := [.int (xs (i + 1)), .int (xs (i + 2)), .int (xs (i + 3))]) (rest := []) (wo := zw wM u τ) (D' := u.2.1) hx hb hml hown hts hKv hXv xcv hgv vo_law_80 (ct_V_whenIn hiv xcv nx e1) rfl (Nat.le_of_ble_eq_true rfl) (Nat.le_of_ble_eq_true rfl) rfl (by decide) rfl rfl (Nat.zero_le _) hl.1 hcl hsl (dk dt_law_30 3 rfl) hP hO (lw_dis1 hdd) hS (fun H locs hP hO hS => ?_)
  refine lv_aload_n hx hb (dk dt_law_30 4 rfl) rfl (lv_at hl 1 rfl) ?_
  refine lw_arg (k := 1) X hl (lv_at hl 3 rfl) (lv_at hl 0 rfl) hS (by decide) (by omega) hL (dk dt_law_30 5 rfl) (dk dt_law_30 6 rfl) (dk dt_law_30 7 rfl) (dk dt_law_30 8 rfl) (dk dt_law_30 9 rfl) ?_
  refine lw_arg (k := 2) X hl (lv_at hl 3 rfl) (lv_at hl 0 rfl) hS (by decide) (by omega) hL (dk dt_law_30 10 rfl) (dk dt_law_30 11 rfl) (dk dt_law_30 12 rfl) (dk dt_law_30 13 rfl) (dk dt_law_30 14 rfl) ?_
  refine lw_arg (k := 3) X hl (lv_at hl 3 rfl) (lv_at hl 0 rfl) hS (by decide) (by omega) hL (dk dt_law_30 15 rfl) (dk dt_law_31 0 rfl) (dk dt_law_31 1 rfl) (dk dt_law_31 2 rfl) (dk dt_law_31 3 rfl) ?_
  refine lw_call (As := [.int (xs (i + 1)), .int (xs (i + 2)), .int (xs (i + 3))]) (rest := [.int r]) (wo := zw wC v σ1) (D' := v.2.1) hx hb hml hown hts hKu hXu xcu hgu vo_law_83 (ct_M_whenIn hiu xcu trivial e2) rfl (Nat.le_of_ble_eq_true rfl) (Nat.le_of_ble_eq_true rfl) rfl (by decide) rfl rfl (Nat.le_of_ble_eq_true rfl) hl.1 hcl hsl (dk dt_law_31 4 rfl) hO hP (lw_dis2 hdd) hS (fun H locs hO hP hS => ?_)
  refine lv_icmp_eq (tgt := 1266) hx hb (dk dt_law_31 5 rfl) (by decide) (fun hc => ?_) (fun hc => absurd rfl hc)
  exact kk σ1 τ1 hR1 H locs hP hO hS
theorem lwc_16 {v u : ZV} {b L : Nat} {xs : Nat → Int32} (X : LX p s m args c b L xs v u) (hL : L ≤ 3072) (hcl : cells ≤ 600000) (hsl : slots ≤ 7302250) {i : Nat} (hi : i + 6 ≤ L) {σ τ : Hp} {Rl : Hp → Hp → Prop} (sim : SimP Rl) (hR : Rl σ τ) (hl : lv_has ls 4 [(3, .int (nI i)), (2, .ref (u.1 0)), (1, .ref (v.1 0)), (0, .ref b)]) (hP : zP wC v σ H) (hO : zP wM u τ H) (hS : va_S (lA s) s.heap H locs) (kk : ∀ (σ1 τ1 : Hp), Rl σ1 τ1 → ∀ (H1 : Heap) (locs1 : List Loc), zP wC v σ1 H1 → zP wM u τ1 H1 → va_S (lA s) s.heap H1 locs1 → W p l e room_1 s m args below meth c H1 locs1 cells slots Q (F0 m 1266 ls [])) : W p l e room_1 s m args below meth c H locs cells slots Q (F0 m 762 ls []) := by
  obtain ⟨r, σ1, τ1, e1, e2, hR1⟩ := sim 16 (by decide) (fun j => xs (i + j)) σ τ hR
  obtain ⟨hx, hb, hml, hown, hts, ⟨hKv, hKu, hiv, hiu, xcv, xcu, hXv, hXu⟩, ⟨hgv, hgu, hdd⟩, hXs, nx⟩ := id X
  refine lv_aload_n hx hb (dk dt_law_31 8 rfl) rfl (lv_at hl 2 rfl) ?_
  refine lw_arg (k := 1) X hl (lv_at hl 3 rfl) (lv_at hl 0 rfl) hS (by decide) (by omega) hL (dk dt_law_31 9 rfl) (dk dt_law_31 10 rfl) (dk dt_law_31 11 rfl) (dk dt_law_31 12 rfl) (dk dt_law_31 13 rfl) ?_
  refine lw_arg (k := 2) X hl (lv_at hl 3 rfl) (lv_at hl 0 rfl) hS (by decide) (by omega) hL (dk dt_law_31 14 rfl) (dk dt_law_31 15 rfl) (dk dt_law_32 0 rfl) (dk dt_law_32 1 rfl) (dk dt_law_32 2 rfl) ?_
  refine lw_call (As := [.int (xs (i + 1)), .int (xs (i + 2))]) (rest := []) (wo := zw wM u τ) (D' := u.2.1) hx hb hml hown hts hKv hXv xcv hgv vo_law_84 (ct_V_first hiv xcv nx e1) rfl (Nat.le_of_ble_eq_true rfl) (Nat.le_of_ble_eq_true rfl) rfl (by decide) rfl rfl (Nat.zero_le _) hl.1 hcl hsl (dk dt_law_32 3 rfl) hP hO (lw_dis1 hdd) hS (fun H locs hP hO hS => ?_)
  refine lv_aload_n hx hb (dk dt_law_32 4 rfl) rfl (lv_at hl 1 rfl) ?_
  refine lw_arg (k := 1) X hl (lv_at hl 3 rfl) (lv_at hl 0 rfl) hS (by decide) (by omega) hL (dk dt_law_32 5 rfl) (dk dt_law_32 6 rfl) (dk dt_law_32 7 rfl) (dk dt_law_32 8 rfl) (dk dt_law_32 9 rfl) ?_
  refine lw_arg (k := 2) X hl (lv_at hl 3 rfl) (lv_at hl 0 rfl) hS (by decide) (by omega) hL (dk dt_law_32 10 rfl) (dk dt_law_32 11 rfl) (dk dt_law_32 12 rfl) (dk dt_law_32 13 rfl) (dk dt_law_32 14 rfl) ?_
  refine lw_call (As := [.int (xs (i + 1)), .int (xs (i + 2))]) (rest := [.int r]) (wo := zw wC v σ1) (D' := v.2.1) hx hb hml hown hts hKu hXu xcu hgu vo_law_87 (ct_M_first hiu xcu trivial e2) rfl (Nat.le_of_ble_eq_true rfl) (Nat.le_of_ble_eq_true rfl) rfl (by decide) rfl rfl (Nat.le_of_ble_eq_true rfl) hl.1 hcl hsl (dk dt_law_32 15 rfl) hO hP (lw_dis2 hdd) hS (fun H locs hO hP hS => ?_)
  refine lv_icmp_eq (tgt := 1266) hx hb (dk dt_law_33 0 rfl) (by decide) (fun hc => ?_) (fun hc => absurd rfl hc)
  exact kk σ1 τ1 hR1 H locs hP hO hS
theorem lwc_17 {v u : ZV} {b L : Nat} {xs : Nat → Int32} (X : LX p s m args c b L xs v u) (hL : L ≤ 3072) (hcl : cells ≤ 600000) (hsl : slots ≤ 7302250) {i : Nat} (hi : i + 6 ≤ L) {σ τ : Hp} {Rl : Hp → Hp → Prop} (sim : SimP Rl) (hR : Rl σ τ) (hl : lv_has ls 4 [(3, .int (nI i)), (2, .ref (u.1 0)), (1, .ref (v.1 0)), (0, .ref b)]) (hP : zP wC v σ H) (hO : zP wM u τ H) (hS : va_S (lA s) s.heap H locs) (kk : ∀ (σ1 τ1 : Hp), Rl σ1 τ1 → ∀ (H1 : Heap) (locs1 : List Loc), zP wC v σ1 H1 → zP wM u τ1 H1 → va_S (lA s) s.heap H1 locs1 → W p l e room_1 s m args below meth c H1 locs1 cells slots Q (F0 m 1266 ls [])) : W p l e room_1 s m args below meth c H locs cells slots Q (F0 m 795 ls []) := by
  obtain ⟨r, σ1, τ1, e1, e2, hR1⟩ := sim 17 (by decide) (fun j => xs (i + j)) σ τ hR
  obtain ⟨hx, hb, hml, hown, hts, ⟨hKv, hKu, hiv, hiu, xcv, xcu, hXv, hXu⟩, ⟨hgv, hgu, hdd⟩, hXs, nx⟩ := id X
  refine lv_aload_n hx hb (dk dt_law_33 3 rfl) rfl (lv_at hl 2 rfl) ?_
  refine lw_arg (k := 1) X hl (lv_at hl 3 rfl) (lv_at hl 0 rfl) hS (by decide) (by omega) hL (dk dt_law_33 4 rfl) (dk dt_law_33 5 rfl) (dk dt_law_33 6 rfl) (dk dt_law_33 7 rfl) (dk dt_law_33 8 rfl) ?_
  refine lw_arg (k := 2) X hl (lv_at hl 3 rfl) (lv_at hl 0 rfl) hS (by decide) (by omega) hL (dk dt_law_33 9 rfl) (dk dt_law_33 10 rfl) (dk dt_law_33 11 rfl) (dk dt_law_33 12 rfl) (dk dt_law_33 13 rfl) ?_
  refine lw_call (As := [.int (xs (i + 1)), .int (xs (i + 2))]) (rest := []) (wo := zw wM u τ) (D' := u.2.1) hx hb hml hown hts hKv hXv xcv hgv vo_law_88 (ct_V_loses hiv xcv nx e1) rfl (Nat.le_of_ble_eq_true rfl) (Nat.le_of_ble_eq_true rfl) rfl (by decide) rfl rfl (Nat.zero_le _) hl.1 hcl hsl (dk dt_law_33 14 rfl) hP hO (lw_dis1 hdd) hS (fun H locs hP hO hS => ?_)
  refine lv_aload_n hx hb (dk dt_law_33 15 rfl) rfl (lv_at hl 1 rfl) ?_
  refine lw_arg (k := 1) X hl (lv_at hl 3 rfl) (lv_at hl 0 rfl) hS (by decide) (by omega) hL (dk dt_law_34 0 rfl) (dk dt_law_34 1 rfl) (dk dt_law_34 2 rfl) (dk dt_law_34 3 rfl) (dk dt_law_34 4 rfl) ?_
  refine lw_arg (k := 2) X hl (lv_at hl 3 rfl) (lv_at hl 0 rfl) hS (by decide) (by omega) hL (dk dt_law_34 5 rfl) (dk dt_law_34 6 rfl) (dk dt_law_34 7 rfl) (dk dt_law_34 8 rfl) (dk dt_law_34 9 rfl) ?_
  refine lw_call (As := [.int (xs (i + 1)), .int (xs (i + 2))]) (rest := [.int r]) (wo := zw wC v σ1) (D' := v.2.1) hx hb hml hown hts hKu hXu xcu hgu vo_law_91 (ct_M_loses hiu xcu trivial e2) rfl (Nat.le_of_ble_eq_true rfl) (Nat.le_of_ble_eq_true rfl) rfl (by decide) rfl rfl (Nat.le_of_ble_eq_true rfl) hl.1 hcl hsl (dk dt_law_34 10 rfl) hO hP (lw_dis2 hdd) hS (fun H locs hO hP hS => ?_)
  refine lv_icmp_eq (tgt := 1266) hx hb (dk dt_law_34 11 rfl) (by decide) (fun hc => ?_) (fun hc => absurd rfl hc)
  exact kk σ1 τ1 hR1 H locs hP hO hS
theorem lwc_18 {v u : ZV} {b L : Nat} {xs : Nat → Int32} (X : LX p s m args c b L xs v u) (hL : L ≤ 3072) (hcl : cells ≤ 600000) (hsl : slots ≤ 7302250) {i : Nat} (hi : i + 6 ≤ L) {σ τ : Hp} {Rl : Hp → Hp → Prop} (sim : SimP Rl) (hR : Rl σ τ) (hl : lv_has ls 4 [(3, .int (nI i)), (2, .ref (u.1 0)), (1, .ref (v.1 0)), (0, .ref b)]) (hP : zP wC v σ H) (hO : zP wM u τ H) (hS : va_S (lA s) s.heap H locs) (kk : ∀ (σ1 τ1 : Hp), Rl σ1 τ1 → ∀ (H1 : Heap) (locs1 : List Loc), zP wC v σ1 H1 → zP wM u τ1 H1 → va_S (lA s) s.heap H1 locs1 → W p l e room_1 s m args below meth c H1 locs1 cells slots Q (F0 m 1266 ls [])) : W p l e room_1 s m args below meth c H locs cells slots Q (F0 m 828 ls []) := by
  obtain ⟨r, σ1, τ1, e1, e2, hR1⟩ := sim 18 (by decide) (fun j => xs (i + j)) σ τ hR
  obtain ⟨hx, hb, hml, hown, hts, ⟨hKv, hKu, hiv, hiu, xcv, xcu, hXv, hXu⟩, ⟨hgv, hgu, hdd⟩, hXs, nx⟩ := id X
  refine lv_aload_n hx hb (dk dt_law_34 14 rfl) rfl (lv_at hl 2 rfl) ?_
  refine lw_arg (k := 1) X hl (lv_at hl 3 rfl) (lv_at hl 0 rfl) hS (by decide) (by omega) hL (dk dt_law_34 15 rfl) (dk dt_law_35 0 rfl) (dk dt_law_35 1 rfl) (dk dt_law_35 2 rfl) (dk dt_law_35 3 rfl) ?_
  refine lw_arg (k := 2) X hl (lv_at hl 3 rfl) (lv_at hl 0 rfl) hS (by decide) (by omega) hL (dk dt_law_35 4 rfl) (dk dt_law_35 5 rfl) (dk dt_law_35 6 rfl) (dk dt_law_35 7 rfl) (dk dt_law_35 8 rfl) ?_
  refine lw_arg (k := 3) X hl (lv_at hl 3 rfl) (lv_at hl 0 rfl) hS (by decide) (by omega) hL (dk dt_law_35 9 rfl) (dk dt_law_35 10 rfl) (dk dt_law_35 11 rfl) (dk dt_law_35 12 rfl) (dk dt_law_35 13 rfl) ?_
  refine lw_call (As := [.int (xs (i + 1)), .int (xs (i + 2)), .int (xs (i + 3))]) (rest := []) (wo := zw wM u τ) (D' := u.2.1) hx hb hml hown hts hKv hXv xcv hgv vo_law_92 (ct_V_lasts hiv xcv nx e1) rfl (Nat.le_of_ble_eq_true rfl) (Nat.le_of_ble_eq_true rfl) rfl (by decide) rfl rfl (Nat.zero_le _) hl.1 hcl hsl (dk dt_law_35 14 rfl) hP hO (lw_dis1 hdd) hS (fun H locs hP hO hS => ?_)
  refine lv_aload_n hx hb (dk dt_law_35 15 rfl) rfl (lv_at hl 1 rfl) ?_
  refine lw_arg (k := 1) X hl (lv_at hl 3 rfl) (lv_at hl 0 rfl) hS (by decide) (by omega) hL (dk dt_law_36 0 rfl) (dk dt_law_36 1 rfl) (dk dt_law_36 2 rfl) (dk dt_law_36 3 rfl) (dk dt_law_36 4 rfl) ?_
  refine lw_arg (k := 2) X hl (lv_at hl 3 rfl) (lv_at hl 0 rfl) hS (by decide) (by omega) hL (dk dt_law_36 5 rfl) (dk dt_law_36 6 rfl) (dk dt_law_36 7 rfl) (dk dt_law_36 8 rfl) (dk dt_law_36 9 rfl) ?_
  refine lw_arg (k := 3) X hl (lv_at hl 3 rfl) (lv_at hl 0 rfl) hS (by decide) (by omega) hL (dk dt_law_36 10 rfl) (dk dt_law_36 11 rfl) (dk dt_law_36 12 rfl) (dk dt_law_36 13 rfl) (dk dt_law_36 14 rfl) ?_
  refine lw_call (As := [.int (xs (i + 1)), .int (xs (i + 2)), .int (xs (i + 3))]) (rest := [.int r]) (wo := zw wC v σ1) (D' := v.2.1) hx hb hml hown hts hKu hXu xcu hgu vo_law_95 (ct_M_lasts hiu xcu trivial e2) rfl (Nat.le_of_ble_eq_true rfl) (Nat.le_of_ble_eq_true rfl) rfl (by decide) rfl rfl (Nat.le_of_ble_eq_true rfl) hl.1 hcl hsl (dk dt_law_36 15 rfl) hO hP (lw_dis2 hdd) hS (fun H locs hO hP hS => ?_)
  refine lv_icmp_eq (tgt := 1266) hx hb (dk dt_law_37 0 rfl) (by decide) (fun hc => ?_) (fun hc => absurd rfl hc)
  exact kk σ1 τ1 hR1 H locs hP hO hS
theorem lwc_19 {v u : ZV} {b L : Nat} {xs : Nat → Int32} (X : LX p s m args c b L xs v u) (hL : L ≤ 3072) (hcl : cells ≤ 600000) (hsl : slots ≤ 7302250) {i : Nat} (hi : i + 6 ≤ L) {σ τ : Hp} {Rl : Hp → Hp → Prop} (sim : SimP Rl) (hR : Rl σ τ) (hl : lv_has ls 4 [(3, .int (nI i)), (2, .ref (u.1 0)), (1, .ref (v.1 0)), (0, .ref b)]) (hP : zP wC v σ H) (hO : zP wM u τ H) (hS : va_S (lA s) s.heap H locs) (kk : ∀ (σ1 τ1 : Hp), Rl σ1 τ1 → ∀ (H1 : Heap) (locs1 : List Loc), zP wC v σ1 H1 → zP wM u τ1 H1 → va_S (lA s) s.heap H1 locs1 → W p l e room_1 s m args below meth c H1 locs1 cells slots Q (F0 m 1266 ls [])) : W p l e room_1 s m args below meth c H locs cells slots Q (F0 m 871 ls []) := by
  obtain ⟨r, σ1, τ1, e1, e2, hR1⟩ := sim 19 (by decide) (fun j => xs (i + j)) σ τ hR
  obtain ⟨hx, hb, hml, hown, hts, ⟨hKv, hKu, hiv, hiu, xcv, xcu, hXv, hXu⟩, ⟨hgv, hgu, hdd⟩, hXs, nx⟩ := id X
  refine lv_aload_n hx hb (dk dt_law_37 3 rfl) rfl (lv_at hl 2 rfl) ?_
  refine lw_arg (k := 1) X hl (lv_at hl 3 rfl) (lv_at hl 0 rfl) hS (by decide) (by omega) hL (dk dt_law_37 4 rfl) (dk dt_law_37 5 rfl) (dk dt_law_37 6 rfl) (dk dt_law_37 7 rfl) (dk dt_law_37 8 rfl) ?_
  refine lw_call (As := [.int (xs (i + 1))]) (rest := []) (wo := zw wM u τ) (D' := u.2.1) hx hb hml hown hts hKv hXv xcv hgv vo_law_96 (ct_V_glasses hiv xcv nx e1) rfl (Nat.le_of_ble_eq_true rfl) (Nat.le_of_ble_eq_true rfl) rfl (by decide) rfl rfl (Nat.zero_le _) hl.1 hcl hsl (dk dt_law_37 9 rfl) hP hO (lw_dis1 hdd) hS (fun H locs hP hO hS => ?_)
  refine lv_aload_n hx hb (dk dt_law_37 10 rfl) rfl (lv_at hl 1 rfl) ?_
  refine lw_arg (k := 1) X hl (lv_at hl 3 rfl) (lv_at hl 0 rfl) hS (by decide) (by omega) hL (dk dt_law_37 11 rfl) (dk dt_law_37 12 rfl) (dk dt_law_37 13 rfl) (dk dt_law_37 14 rfl) (dk dt_law_37 15 rfl) ?_
  refine lw_call (As := [.int (xs (i + 1))]) (rest := [.int r]) (wo := zw wC v σ1) (D' := v.2.1) hx hb hml hown hts hKu hXu xcu hgu vo_law_99 (ct_M_glasses hiu xcu trivial e2) rfl (Nat.le_of_ble_eq_true rfl) (Nat.le_of_ble_eq_true rfl) rfl (by decide) rfl rfl (Nat.le_of_ble_eq_true rfl) hl.1 hcl hsl (dk dt_law_38 0 rfl) hO hP (lw_dis2 hdd) hS (fun H locs hO hP hS => ?_)
  refine lv_icmp_eq (tgt := 1266) hx hb (dk dt_law_38 1 rfl) (by decide) (fun hc => ?_) (fun hc => absurd rfl hc)
  exact kk σ1 τ1 hR1 H locs hP hO hS
theorem lwc_20 {v u : ZV} {b L : Nat} {xs : Nat → Int32} (X : LX p s m args c b L xs v u) (hL : L ≤ 3072) (hcl : cells ≤ 600000) (hsl : slots ≤ 7302250) {i : Nat} (hi : i + 6 ≤ L) {σ τ : Hp} {Rl : Hp → Hp → Prop} (sim : SimP Rl) (hR : Rl σ τ) (hl : lv_has ls 4 [(3, .int (nI i)), (2, .ref (u.1 0)), (1, .ref (v.1 0)), (0, .ref b)]) (hP : zP wC v σ H) (hO : zP wM u τ H) (hS : va_S (lA s) s.heap H locs) (kk : ∀ (σ1 τ1 : Hp), Rl σ1 τ1 → ∀ (H1 : Heap) (locs1 : List Loc), zP wC v σ1 H1 → zP wM u τ1 H1 → va_S (lA s) s.heap H1 locs1 → W p l e room_1 s m args below meth c H1 locs1 cells slots Q (F0 m 1266 ls [])) : W p l e room_1 s m args below meth c H locs cells slots Q (F0 m 894 ls []) := by
  obtain ⟨r, σ1, τ1, e1, e2, hR1⟩ := sim 20 (by decide) (fun j => xs (i + j)) σ τ hR
  obtain ⟨hx, hb, hml, hown, hts, ⟨hKv, hKu, hiv, hiu, xcv, xcu, hXv, hXu⟩, ⟨hgv, hgu, hdd⟩, hXs, nx⟩ := id X
  refine lv_aload_n hx hb (dk dt_law_38 4 rfl) rfl (lv_at hl 2 rfl) ?_
  refine lw_arg (k := 1) X hl (lv_at hl 3 rfl) (lv_at hl 0 rfl) hS (by decide) (by omega) hL (dk dt_law_38 5 rfl) (dk dt_law_38 6 rfl) (dk dt_law_38 7 rfl) (dk dt_law_38 8 rfl) (dk dt_law_38 9 rfl) ?_
  refine lw_call (As := [.int (xs (i + 1))]) (rest := []) (wo := zw wM u τ) (D' := u.2.1) hx hb hml hown hts hKv hXv xcv hgv vo_law_100 (ct_V_march hiv xcv nx e1) rfl (Nat.le_of_ble_eq_true rfl) (Nat.le_of_ble_eq_true rfl) rfl (by decide) rfl rfl (Nat.zero_le _) hl.1 hcl hsl (dk dt_law_38 10 rfl) hP hO (lw_dis1 hdd) hS (fun H locs hP hO hS => ?_)
  refine lv_aload_n hx hb (dk dt_law_38 11 rfl) rfl (lv_at hl 1 rfl) ?_
  refine lw_arg (k := 1) X hl (lv_at hl 3 rfl) (lv_at hl 0 rfl) hS (by decide) (by omega) hL (dk dt_law_38 12 rfl) (dk dt_law_38 13 rfl) (dk dt_law_38 14 rfl) (dk dt_law_38 15 rfl) (dk dt_law_39 0 rfl) ?_
  refine lw_call (As := [.int (xs (i + 1))]) (rest := [.int r]) (wo := zw wC v σ1) (D' := v.2.1) hx hb hml hown hts hKu hXu xcu hgu vo_law_103 (ct_M_march hiu xcu trivial e2) rfl (Nat.le_of_ble_eq_true rfl) (Nat.le_of_ble_eq_true rfl) rfl (by decide) rfl rfl (Nat.le_of_ble_eq_true rfl) hl.1 hcl hsl (dk dt_law_39 1 rfl) hO hP (lw_dis2 hdd) hS (fun H locs hO hP hS => ?_)
  refine lv_icmp_eq (tgt := 1266) hx hb (dk dt_law_39 2 rfl) (by decide) (fun hc => ?_) (fun hc => absurd rfl hc)
  exact kk σ1 τ1 hR1 H locs hP hO hS
theorem lwc_21 {v u : ZV} {b L : Nat} {xs : Nat → Int32} (X : LX p s m args c b L xs v u) (hL : L ≤ 3072) (hcl : cells ≤ 600000) (hsl : slots ≤ 7302250) {i : Nat} (hi : i + 6 ≤ L) {σ τ : Hp} {Rl : Hp → Hp → Prop} (sim : SimP Rl) (hR : Rl σ τ) (hl : lv_has ls 4 [(3, .int (nI i)), (2, .ref (u.1 0)), (1, .ref (v.1 0)), (0, .ref b)]) (hP : zP wC v σ H) (hO : zP wM u τ H) (hS : va_S (lA s) s.heap H locs) (kk : ∀ (σ1 τ1 : Hp), Rl σ1 τ1 → ∀ (H1 : Heap) (locs1 : List Loc), zP wC v σ1 H1 → zP wM u τ1 H1 → va_S (lA s) s.heap H1 locs1 → W p l e room_1 s m args below meth c H1 locs1 cells slots Q (F0 m 1266 ls [])) : W p l e room_1 s m args below meth c H locs cells slots Q (F0 m 917 ls []) := by
  obtain ⟨r, σ1, τ1, e1, e2, hR1⟩ := sim 21 (by decide) (fun j => xs (i + j)) σ τ hR
  obtain ⟨hx, hb, hml, hown, hts, ⟨hKv, hKu, hiv, hiu, xcv, xcu, hXv, hXu⟩, ⟨hgv, hgu, hdd⟩, hXs, nx⟩ := id X
  refine lv_aload_n hx hb (dk dt_law_39 5 rfl) rfl (lv_at hl 2 rfl) ?_
  refine lw_arg (k := 1) X hl (lv_at hl 3 rfl) (lv_at hl 0 rfl) hS (by decide) (by omega) hL (dk dt_law_39 6 rfl) (dk dt_law_39 7 rfl) (dk dt_law_39 8 rfl) (dk dt_law_39 9 rfl) (dk dt_law_39 10 rfl) ?_
  refine lw_call (As := [.int (xs (i + 1))]) (rest := []) (wo := zw wM u τ) (D' := u.2.1) hx hb hml hown hts hKv hXv xcv hgv vo_law_104 (ct_V_ridge hiv xcv nx e1) rfl (Nat.le_of_ble_eq_true rfl) (Nat.le_of_ble_eq_true rfl) rfl (by decide) rfl rfl (Nat.zero_le _) hl.1 hcl hsl (dk dt_law_39 11 rfl) hP hO (lw_dis1 hdd) hS (fun H locs hP hO hS => ?_)
  refine lv_aload_n hx hb (dk dt_law_39 12 rfl) rfl (lv_at hl 1 rfl) ?_
  refine lw_arg (k := 1) X hl (lv_at hl 3 rfl) (lv_at hl 0 rfl) hS (by decide) (by omega) hL (dk dt_law_39 13 rfl) (dk dt_law_39 14 rfl) (dk dt_law_39 15 rfl) (dk dt_law_40 0 rfl) (dk dt_law_40 1 rfl) ?_
  refine lw_call (As := [.int (xs (i + 1))]) (rest := [.int r]) (wo := zw wC v σ1) (D' := v.2.1) hx hb hml hown hts hKu hXu xcu hgu vo_law_107 (ct_M_ridge hiu xcu trivial e2) rfl (Nat.le_of_ble_eq_true rfl) (Nat.le_of_ble_eq_true rfl) rfl (by decide) rfl rfl (Nat.le_of_ble_eq_true rfl) hl.1 hcl hsl (dk dt_law_40 2 rfl) hO hP (lw_dis2 hdd) hS (fun H locs hO hP hS => ?_)
  refine lv_icmp_eq (tgt := 1266) hx hb (dk dt_law_40 3 rfl) (by decide) (fun hc => ?_) (fun hc => absurd rfl hc)
  exact kk σ1 τ1 hR1 H locs hP hO hS
theorem lwc_22 {v u : ZV} {b L : Nat} {xs : Nat → Int32} (X : LX p s m args c b L xs v u) (hL : L ≤ 3072) (hcl : cells ≤ 600000) (hsl : slots ≤ 7302250) {i : Nat} (hi : i + 6 ≤ L) {σ τ : Hp} {Rl : Hp → Hp → Prop} (sim : SimP Rl) (hR : Rl σ τ) (hl : lv_has ls 4 [(3, .int (nI i)), (2, .ref (u.1 0)), (1, .ref (v.1 0)), (0, .ref b)]) (hP : zP wC v σ H) (hO : zP wM u τ H) (hS : va_S (lA s) s.heap H locs) (kk : ∀ (σ1 τ1 : Hp), Rl σ1 τ1 → ∀ (H1 : Heap) (locs1 : List Loc), zP wC v σ1 H1 → zP wM u τ1 H1 → va_S (lA s) s.heap H1 locs1 → W p l e room_1 s m args below meth c H1 locs1 cells slots Q (F0 m 1266 ls [])) : W p l e room_1 s m args below meth c H locs cells slots Q (F0 m 940 ls []) := by
  obtain ⟨r, σ1, τ1, e1, e2, hR1⟩ := sim 22 (by decide) (fun j => xs (i + j)) σ τ hR
  obtain ⟨hx, hb, hml, hown, hts, ⟨hKv, hKu, hiv, hiu, xcv, xcu, hXv, hXu⟩, ⟨hgv, hgu, hdd⟩, hXs, nx⟩ := id X
  refine lv_aload_n hx hb (dk dt_law_40 6 rfl) rfl (lv_at hl 2 rfl) ?_
  refine lw_call (As := []) (rest := []) (wo := zw wM u τ) (D' := u.2.1) hx hb hml hown hts hKv hXv xcv hgv vo_law_108 (ct_V_answered hiv xcv nx e1) rfl (Nat.le_of_ble_eq_true rfl) (Nat.le_of_ble_eq_true rfl) rfl (by decide) rfl rfl (Nat.zero_le _) hl.1 hcl hsl (dk dt_law_40 7 rfl) hP hO (lw_dis1 hdd) hS (fun H locs hP hO hS => ?_)
  refine lv_aload_n hx hb (dk dt_law_40 8 rfl) rfl (lv_at hl 1 rfl) ?_
  refine lw_call (As := []) (rest := [.int r]) (wo := zw wC v σ1) (D' := v.2.1) hx hb hml hown hts hKu hXu xcu hgu vo_law_112 (ct_M_answered hiu xcu trivial e2) rfl (Nat.le_of_ble_eq_true rfl) (Nat.le_of_ble_eq_true rfl) rfl (by decide) rfl rfl (Nat.le_of_ble_eq_true rfl) hl.1 hcl hsl (dk dt_law_40 9 rfl) hO hP (lw_dis2 hdd) hS (fun H locs hO hP hS => ?_)
  refine lv_icmp_eq (tgt := 1266) hx hb (dk dt_law_40 10 rfl) (by decide) (fun hc => ?_) (fun hc => absurd rfl hc)
  exact kk σ1 τ1 hR1 H locs hP hO hS
theorem lwc_23 {v u : ZV} {b L : Nat} {xs : Nat → Int32} (X : LX p s m args c b L xs v u) (hL : L ≤ 3072) (hcl : cells ≤ 600000) (hsl : slots ≤ 7302250) {i : Nat} (hi : i + 6 ≤ L) {σ τ : Hp} {Rl : Hp → Hp → Prop} (sim : SimP Rl) (hR : Rl σ τ) (hl : lv_has ls 4 [(3, .int (nI i)), (2, .ref (u.1 0)), (1, .ref (v.1 0)), (0, .ref b)]) (hP : zP wC v σ H) (hO : zP wM u τ H) (hS : va_S (lA s) s.heap H locs) (kk : ∀ (σ1 τ1 : Hp), Rl σ1 τ1 → ∀ (H1 : Heap) (locs1 : List Loc), zP wC v σ1 H1 → zP wM u τ1 H1 → va_S (lA s) s.heap H1 locs1 → W p l e room_1 s m args below meth c H1 locs1 cells slots Q (F0 m 1266 ls [])) : W p l e room_1 s m args below meth c H locs cells slots Q (F0 m 953 ls []) := by
  obtain ⟨r, σ1, τ1, e1, e2, hR1⟩ := sim 23 (by decide) (fun j => xs (i + j)) σ τ hR
  obtain ⟨hx, hb, hml, hown, hts, ⟨hKv, hKu, hiv, hiu, xcv, xcu, hXv, hXu⟩, ⟨hgv, hgu, hdd⟩, hXs, nx⟩ := id X
  refine lv_aload_n hx hb (dk dt_law_40 13 rfl) rfl (lv_at hl 2 rfl) ?_
  refine lw_arg (k := 1) X hl (lv_at hl 3 rfl) (lv_at hl 0 rfl) hS (by decide) (by omega) hL (dk dt_law_40 14 rfl) (dk dt_law_40 15 rfl) (dk dt_law_41 0 rfl) (dk dt_law_41 1 rfl) (dk dt_law_41 2 rfl) ?_
  refine lw_call (As := [.int (xs (i + 1))]) (rest := []) (wo := zw wM u τ) (D' := u.2.1) hx hb hml hown hts hKv hXv xcv hgv vo_law_113 (ct_V_inCommon hiv xcv nx e1) rfl (Nat.le_of_ble_eq_true rfl) (Nat.le_of_ble_eq_true rfl) rfl (by decide) rfl rfl (Nat.zero_le _) hl.1 hcl hsl (dk dt_law_41 3 rfl) hP hO (lw_dis1 hdd) hS (fun H locs hP hO hS => ?_)
  refine lv_aload_n hx hb (dk dt_law_41 4 rfl) rfl (lv_at hl 1 rfl) ?_
  refine lw_arg (k := 1) X hl (lv_at hl 3 rfl) (lv_at hl 0 rfl) hS (by decide) (by omega) hL (dk dt_law_41 5 rfl) (dk dt_law_41 6 rfl) (dk dt_law_41 7 rfl) (dk dt_law_41 8 rfl) (dk dt_law_41 9 rfl) ?_
  refine lw_call (As := [.int (xs (i + 1))]) (rest := [.int r]) (wo := zw wC v σ1) (D' := v.2.1) hx hb hml hown hts hKu hXu xcu hgu vo_law_116 (ct_M_inCommon hiu xcu trivial e2) rfl (Nat.le_of_ble_eq_true rfl) (Nat.le_of_ble_eq_true rfl) rfl (by decide) rfl rfl (Nat.le_of_ble_eq_true rfl) hl.1 hcl hsl (dk dt_law_41 10 rfl) hO hP (lw_dis2 hdd) hS (fun H locs hO hP hS => ?_)
  refine lv_icmp_eq (tgt := 1266) hx hb (dk dt_law_41 11 rfl) (by decide) (fun hc => ?_) (fun hc => absurd rfl hc)
  exact kk σ1 τ1 hR1 H locs hP hO hS
theorem lwc_24 {v u : ZV} {b L : Nat} {xs : Nat → Int32} (X : LX p s m args c b L xs v u) (hL : L ≤ 3072) (hcl : cells ≤ 600000) (hsl : slots ≤ 7302250) {i : Nat} (hi : i + 6 ≤ L) {σ τ : Hp} {Rl : Hp → Hp → Prop} (sim : SimP Rl) (hR : Rl σ τ) (hl : lv_has ls 4 [(3, .int (nI i)), (2, .ref (u.1 0)), (1, .ref (v.1 0)), (0, .ref b)]) (hP : zP wC v σ H) (hO : zP wM u τ H) (hS : va_S (lA s) s.heap H locs) (kk : ∀ (σ1 τ1 : Hp), Rl σ1 τ1 → ∀ (H1 : Heap) (locs1 : List Loc), zP wC v σ1 H1 → zP wM u τ1 H1 → va_S (lA s) s.heap H1 locs1 → W p l e room_1 s m args below meth c H1 locs1 cells slots Q (F0 m 1266 ls [])) : W p l e room_1 s m args below meth c H locs cells slots Q (F0 m 976 ls []) := by
  obtain ⟨r, σ1, τ1, e1, e2, hR1⟩ := sim 24 (by decide) (fun j => xs (i + j)) σ τ hR
  obtain ⟨hx, hb, hml, hown, hts, ⟨hKv, hKu, hiv, hiu, xcv, xcu, hXv, hXu⟩, ⟨hgv, hgu, hdd⟩, hXs, nx⟩ := id X
  refine lv_aload_n hx hb (dk dt_law_41 14 rfl) rfl (lv_at hl 2 rfl) ?_
  refine lw_arg (k := 1) X hl (lv_at hl 3 rfl) (lv_at hl 0 rfl) hS (by decide) (by omega) hL (dk dt_law_41 15 rfl) (dk dt_law_42 0 rfl) (dk dt_law_42 1 rfl) (dk dt_law_42 2 rfl) (dk dt_law_42 3 rfl) ?_
  refine lw_call (As := [.int (xs (i + 1))]) (rest := []) (wo := zw wM u τ) (D' := u.2.1) hx hb hml hown hts hKv hXv xcv hgv vo_law_117 (ct_V_beat hiv xcv nx e1) rfl (Nat.le_of_ble_eq_true rfl) (Nat.le_of_ble_eq_true rfl) rfl (by decide) rfl rfl (Nat.zero_le _) hl.1 hcl hsl (dk dt_law_42 4 rfl) hP hO (lw_dis1 hdd) hS (fun H locs hP hO hS => ?_)
  refine lv_aload_n hx hb (dk dt_law_42 5 rfl) rfl (lv_at hl 1 rfl) ?_
  refine lw_arg (k := 1) X hl (lv_at hl 3 rfl) (lv_at hl 0 rfl) hS (by decide) (by omega) hL (dk dt_law_42 6 rfl) (dk dt_law_42 7 rfl) (dk dt_law_42 8 rfl) (dk dt_law_42 9 rfl) (dk dt_law_42 10 rfl) ?_
  refine lw_call (As := [.int (xs (i + 1))]) (rest := [.int r]) (wo := zw wC v σ1) (D' := v.2.1) hx hb hml hown hts hKu hXu xcu hgu vo_law_120 (ct_M_beat hiu xcu trivial e2) rfl (Nat.le_of_ble_eq_true rfl) (Nat.le_of_ble_eq_true rfl) rfl (by decide) rfl rfl (Nat.le_of_ble_eq_true rfl) hl.1 hcl hsl (dk dt_law_42 11 rfl) hO hP (lw_dis2 hdd) hS (fun H locs hO hP hS => ?_)
  refine lv_icmp_eq (tgt := 1266) hx hb (dk dt_law_42 12 rfl) (by decide) (fun hc => ?_) (fun hc => absurd rfl hc)
  exact kk σ1 τ1 hR1 H locs hP hO hS
theorem lwc_25 {v u : ZV} {b L : Nat} {xs : Nat → Int32} (X : LX p s m args c b L xs v u) (hL : L ≤ 3072) (hcl : cells ≤ 600000) (hsl : slots ≤ 7302250) {i : Nat} (hi : i + 6 ≤ L) {σ τ : Hp} {Rl : Hp → Hp → Prop} (sim : SimP Rl) (hR : Rl σ τ) (hl : lv_has ls 4 [(3, .int (nI i)), (2, .ref (u.1 0)), (1, .ref (v.1 0)), (0, .ref b)]) (hP : zP wC v σ H) (hO : zP wM u τ H) (hS : va_S (lA s) s.heap H locs) (kk : ∀ (σ1 τ1 : Hp), Rl σ1 τ1 → ∀ (H1 : Heap) (locs1 : List Loc), zP wC v σ1 H1 → zP wM u τ1 H1 → va_S (lA s) s.heap H1 locs1 → W p l e room_1 s m args below meth c H1 locs1 cells slots Q (F0 m 1266 ls [])) : W p l e room_1 s m args below meth c H locs cells slots Q (F0 m 999 ls []) := by
  obtain ⟨r, σ1, τ1, e1, e2, hR1⟩ := sim 25 (by decide) (fun j => xs (i + j)) σ τ hR
  obtain ⟨hx, hb, hml, hown, hts, ⟨hKv, hKu, hiv, hiu, xcv, xcu, hXv, hXu⟩, ⟨hgv, hgu, hdd⟩, hXs, nx⟩ := id X
  refine lv_aload_n hx hb (dk dt_law_42 15 rfl) rfl (lv_at hl 2 rfl) ?_
  refine lw_arg (k := 1) X hl (lv_at hl 3 rfl) (lv_at hl 0 rfl) hS (by decide) (by omega) hL (dk dt_law_43 0 rfl) (dk dt_law_43 1 rfl) (dk dt_law_43 2 rfl) (dk dt_law_43 3 rfl) (dk dt_law_43 4 rfl) ?_
  refine lw_arg (k := 2) X hl (lv_at hl 3 rfl) (lv_at hl 0 rfl) hS (by decide) (by omega) hL (dk dt_law_43 5 rfl) (dk dt_law_43 6 rfl) (dk dt_law_43 7 rfl) (dk dt_law_43 8 rfl) (dk dt_law_43 9 rfl) ?_
  refine lw_call (As := [.int (xs (i + 1)), .int (xs (i + 2))]) (rest := []) (wo := zw wM u τ) (D' := u.2.1) hx hb hml hown hts hKv hXv xcv hgv vo_law_121 (ct_V_lamps hiv xcv nx e1) rfl (Nat.le_of_ble_eq_true rfl) (Nat.le_of_ble_eq_true rfl) rfl (by decide) rfl rfl (Nat.zero_le _) hl.1 hcl hsl (dk dt_law_43 10 rfl) hP hO (lw_dis1 hdd) hS (fun H locs hP hO hS => ?_)
  refine lv_aload_n hx hb (dk dt_law_43 11 rfl) rfl (lv_at hl 1 rfl) ?_
  refine lw_arg (k := 1) X hl (lv_at hl 3 rfl) (lv_at hl 0 rfl) hS (by decide) (by omega) hL (dk dt_law_43 12 rfl) (dk dt_law_43 13 rfl) (dk dt_law_43 14 rfl) (dk dt_law_43 15 rfl) (dk dt_law_44 0 rfl) ?_
  refine lw_arg (k := 2) X hl (lv_at hl 3 rfl) (lv_at hl 0 rfl) hS (by decide) (by omega) hL (dk dt_law_44 1 rfl) (dk dt_law_44 2 rfl) (dk dt_law_44 3 rfl) (dk dt_law_44 4 rfl) (dk dt_law_44 5 rfl) ?_
  refine lw_call (As := [.int (xs (i + 1)), .int (xs (i + 2))]) (rest := [.int r]) (wo := zw wC v σ1) (D' := v.2.1) hx hb hml hown hts hKu hXu xcu hgu vo_law_124 (ct_M_lamps hiu xcu trivial e2) rfl (Nat.le_of_ble_eq_true rfl) (Nat.le_of_ble_eq_true rfl) rfl (by decide) rfl rfl (Nat.le_of_ble_eq_true rfl) hl.1 hcl hsl (dk dt_law_44 6 rfl) hO hP (lw_dis2 hdd) hS (fun H locs hO hP hS => ?_)
  refine lv_icmp_eq (tgt := 1266) hx hb (dk dt_law_44 7 rfl) (by decide) (fun hc => ?_) (fun hc => absurd rfl hc)
  exact kk σ1 τ1 hR1 H locs hP hO hS
theorem lwc_26 {v u : ZV} {b L : Nat} {xs : Nat → Int32} (X : LX p s m args c b L xs v u) (hL : L ≤ 3072) (hcl : cells ≤ 600000) (hsl : slots ≤ 7302250) {i : Nat} (hi : i + 6 ≤ L) {σ τ : Hp} {Rl : Hp → Hp → Prop} (sim : SimP Rl) (hR : Rl σ τ) (hl : lv_has ls 4 [(3, .int (nI i)), (2, .ref (u.1 0)), (1, .ref (v.1 0)), (0, .ref b)]) (hP : zP wC v σ H) (hO : zP wM u τ H) (hS : va_S (lA s) s.heap H locs) (kk : ∀ (σ1 τ1 : Hp), Rl σ1 τ1 → ∀ (H1 : Heap) (locs1 : List Loc), zP wC v σ1 H1 → zP wM u τ1 H1 → va_S (lA s) s.heap H1 locs1 → W p l e room_1 s m args below meth c H1 locs1 cells slots Q (F0 m 1266 ls [])) : W p l e room_1 s m args below meth c H locs cells slots Q (F0 m 1032 ls []) := by
  obtain ⟨r, σ1, τ1, e1, e2, hR1⟩ := sim 26 (by decide) (fun j => xs (i + j)) σ τ hR
  obtain ⟨hx, hb, hml, hown, hts, ⟨hKv, hKu, hiv, hiu, xcv, xcu, hXv, hXu⟩, ⟨hgv, hgu, hdd⟩, hXs, nx⟩ := id X
  refine lv_aload_n hx hb (dk dt_law_44 10 rfl) rfl (lv_at hl 2 rfl) ?_
  refine lw_arg (k := 1) X hl (lv_at hl 3 rfl) (lv_at hl 0 rfl) hS (by decide) (by omega) hL (dk dt_law_44 11 rfl) (dk dt_law_44 12 rfl) (dk dt_law_44 13 rfl) (dk dt_law_44 14 rfl) (dk dt_law_44 15 rfl) ?_
  refine lw_arg (k := 2) X hl (lv_at hl 3 rfl) (lv_at hl 0 rfl) hS (by decide) (by omega) hL (dk dt_law_45 0 rfl) (dk dt_law_45 1 rfl) (dk dt_law_45 2 rfl) (dk dt_law_45 3 rfl) (dk dt_law_45 4 rfl) ?_
  refine lw_arg (k := 3) X hl (lv_at hl 3 rfl) (lv_at hl 0 rfl) hS (by decide) (by omega) hL (dk dt_law_45 5 rfl) (dk dt_law_45 6 rfl) (dk dt_law_45 7 rfl) (dk dt_law_45 8 rfl) (dk dt_law_45 9 rfl) ?_
  refine lw_arg (k := 4) X hl (lv_at hl 3 rfl) (lv_at hl 0 rfl) hS (by decide) (by omega) hL (dk dt_law_45 10 rfl) (dk dt_law_45 11 rfl) (dk dt_law_45 12 rfl) (dk dt_law_45 13 rfl) (dk dt_law_45 14 rfl) ?_
  refine lw_call (As := [.int (xs (i + 1)), .int (xs (i + 2)), .int (xs (i + 3)), .int (xs (i + 4))]) (rest := []) (wo := zw wM u τ) (D' := u.2.1) hx hb hml hown hts hKv hXv xcv hgv vo_law_125 (ct_V_bridge hiv xcv nx e1) rfl (Nat.le_of_ble_eq_true rfl) (Nat.le_of_ble_eq_true rfl) rfl (by decide) rfl rfl (Nat.zero_le _) hl.1 hcl hsl (dk dt_law_45 15 rfl) hP hO (lw_dis1 hdd) hS (fun H locs hP hO hS => ?_)
  refine lv_aload_n hx hb (dk dt_law_46 0 rfl) rfl (lv_at hl 1 rfl) ?_
  refine lw_arg (k := 1) X hl (lv_at hl 3 rfl) (lv_at hl 0 rfl) hS (by decide) (by omega) hL (dk dt_law_46 1 rfl) (dk dt_law_46 2 rfl) (dk dt_law_46 3 rfl) (dk dt_law_46 4 rfl) (dk dt_law_46 5 rfl) ?_
  refine lw_arg (k := 2) X hl (lv_at hl 3 rfl) (lv_at hl 0 rfl) hS (by decide) (by omega) hL (dk dt_law_46 6 rfl) (dk dt_law_46 7 rfl) (dk dt_law_46 8 rfl) (dk dt_law_46 9 rfl) (dk dt_law_46 10 rfl) ?_
  refine lw_arg (k := 3) X hl (lv_at hl 3 rfl) (lv_at hl 0 rfl) hS (by decide) (by omega) hL (dk dt_law_46 11 rfl) (dk dt_law_46 12 rfl) (dk dt_law_46 13 rfl) (dk dt_law_46 14 rfl) (dk dt_law_46 15 rfl) ?_
  refine lw_arg (k := 4) X hl (lv_at hl 3 rfl) (lv_at hl 0 rfl) hS (by decide) (by omega) hL (dk dt_law_47 0 rfl) (dk dt_law_47 1 rfl) (dk dt_law_47 2 rfl) (dk dt_law_47 3 rfl) (dk dt_law_47 4 rfl) ?_
  refine lw_call (As := [.int (xs (i + 1)), .int (xs (i + 2)), .int (xs (i + 3)), .int (xs (i + 4))]) (rest := [.int r]) (wo := zw wC v σ1) (D' := v.2.1) hx hb hml hown hts hKu hXu xcu hgu vo_law_129 (ct_M_bridge hiu xcu trivial e2) rfl (Nat.le_of_ble_eq_true rfl) (Nat.le_of_ble_eq_true rfl) rfl (by decide) rfl rfl (Nat.le_of_ble_eq_true rfl) hl.1 hcl hsl (dk dt_law_47 5 rfl) hO hP (lw_dis2 hdd) hS (fun H locs hO hP hS => ?_)
  refine lv_icmp_eq (tgt := 1266) hx hb (dk dt_law_47 6 rfl) (by decide) (fun hc => ?_) (fun hc => absurd rfl hc)
  exact kk σ1 τ1 hR1 H locs hP hO hS
theorem lwc_27 {v u : ZV} {b L : Nat} {xs : Nat → Int32} (X : LX p s m args c b L xs v u) (hL : L ≤ 3072) (hcl : cells ≤ 600000) (hsl : slots ≤ 7302250) {i : Nat} (hi : i + 6 ≤ L) {σ τ : Hp} {Rl : Hp → Hp → Prop} (sim : SimP Rl) (hR : Rl σ τ) (hl : lv_has ls 4 [(3, .int (nI i)), (2, .ref (u.1 0)), (1, .ref (v.1 0)), (0, .ref b)]) (hP : zP wC v σ H) (hO : zP wM u τ H) (hS : va_S (lA s) s.heap H locs) (kk : ∀ (σ1 τ1 : Hp), Rl σ1 τ1 → ∀ (H1 : Heap) (locs1 : List Loc), zP wC v σ1 H1 → zP wM u τ1 H1 → va_S (lA s) s.heap H1 locs1 → W p l e room_1 s m args below meth c H1 locs1 cells slots Q (F0 m 1266 ls [])) : W p l e room_1 s m args below meth c H locs cells slots Q (F0 m 1085 ls []) := by
  obtain ⟨r, σ1, τ1, e1, e2, hR1⟩ := sim 27 (by decide) (fun j => xs (i + j)) σ τ hR
  obtain ⟨hx, hb, hml, hown, hts, ⟨hKv, hKu, hiv, hiu, xcv, xcu, hXv, hXu⟩, ⟨hgv, hgu, hdd⟩, hXs, nx⟩ := id X
  refine lv_aload_n hx hb (dk dt_law_47 9 rfl) rfl (lv_at hl 2 rfl) ?_
  refine lw_arg (k := 1) X hl (lv_at hl 3 rfl) (lv_at hl 0 rfl) hS (by decide) (by omega) hL (dk dt_law_47 10 rfl) (dk dt_law_47 11 rfl) (dk dt_law_47 12 rfl) (dk dt_law_47 13 rfl) (dk dt_law_47 14 rfl) ?_
  refine lw_arg (k := 2) X hl (lv_at hl 3 rfl) (lv_at hl 0 rfl) hS (by decide) (by omega) hL (dk dt_law_47 15 rfl) (dk dt_law_48 0 rfl) (dk dt_law_48 1 rfl) (dk dt_law_48 2 rfl) (dk dt_law_48 3 rfl) ?_
  refine lw_arg (k := 3) X hl (lv_at hl 3 rfl) (lv_at hl 0 rfl) hS (by decide) (by omega) hL (dk dt_law_48 4 rfl) (dk dt_law_48 5 rfl) (dk dt_law_48 6 rfl) (dk dt_law_48 7 rfl) (dk dt_law_48 8 rfl) ?_
  refine lw_call (As := [.int (xs (i + 1)), .int (xs (i + 2)), .int (xs (i + 3))]) (rest := []) (wo := zw wM u τ) (D' := u.2.1) hx hb hml hown hts hKv hXv xcv hgv vo_law_130 (ct_V_parrots hiv xcv nx e1) rfl (Nat.le_of_ble_eq_true rfl) (Nat.le_of_ble_eq_true rfl) rfl (by decide) rfl rfl (Nat.zero_le _) hl.1 hcl hsl (dk dt_law_48 9 rfl) hP hO (lw_dis1 hdd) hS (fun H locs hP hO hS => ?_)
  refine lv_aload_n hx hb (dk dt_law_48 10 rfl) rfl (lv_at hl 1 rfl) ?_
  refine lw_arg (k := 1) X hl (lv_at hl 3 rfl) (lv_at hl 0 rfl) hS (by decide) (by omega) hL (dk dt_law_48 11 rfl) (dk dt_law_48 12 rfl) (dk dt_law_48 13 rfl) (dk dt_law_48 14 rfl) (dk dt_law_48 15 rfl) ?_
  refine lw_arg (k := 2) X hl (lv_at hl 3 rfl) (lv_at hl 0 rfl) hS (by decide) (by omega) hL (dk dt_law_49 0 rfl) (dk dt_law_49 1 rfl) (dk dt_law_49 2 rfl) (dk dt_law_49 3 rfl) (dk dt_law_49 4 rfl) ?_
  refine lw_arg (k := 3) X hl (lv_at hl 3 rfl) (lv_at hl 0 rfl) hS (by decide) (by omega) hL (dk dt_law_49 5 rfl) (dk dt_law_49 6 rfl) (dk dt_law_49 7 rfl) (dk dt_law_49 8 rfl) (dk dt_law_49 9 rfl) ?_
  refine lw_call (As := [.int (xs (i + 1)), .int (xs (i + 2)), .int (xs (i + 3))]) (rest := [.int r]) (wo := zw wC v σ1) (D' := v.2.1) hx hb hml hown hts hKu hXu xcu hgu vo_law_133 (ct_M_parrots hiu xcu trivial e2) rfl (Nat.le_of_ble_eq_true rfl) (Nat.le_of_ble_eq_true rfl) rfl (by decide) rfl rfl (Nat.le_of_ble_eq_true rfl) hl.1 hcl hsl (dk dt_law_49 10 rfl) hO hP (lw_dis2 hdd) hS (fun H locs hO hP hS => ?_)
  refine lv_icmp_eq (tgt := 1266) hx hb (dk dt_law_49 11 rfl) (by decide) (fun hc => ?_) (fun hc => absurd rfl hc)
  exact kk σ1 τ1 hR1 H locs hP hO hS
theorem lwc_28 {v u : ZV} {b L : Nat} {xs : Nat → Int32} (X : LX p s m args c b L xs v u) (hL : L ≤ 3072) (hcl : cells ≤ 600000) (hsl : slots ≤ 7302250) {i : Nat} (hi : i + 6 ≤ L) {σ τ : Hp} {Rl : Hp → Hp → Prop} (sim : SimP Rl) (hR : Rl σ τ) (hl : lv_has ls 4 [(3, .int (nI i)), (2, .ref (u.1 0)), (1, .ref (v.1 0)), (0, .ref b)]) (hP : zP wC v σ H) (hO : zP wM u τ H) (hS : va_S (lA s) s.heap H locs) (kk : ∀ (σ1 τ1 : Hp), Rl σ1 τ1 → ∀ (H1 : Heap) (locs1 : List Loc), zP wC v σ1 H1 → zP wM u τ1 H1 → va_S (lA s) s.heap H1 locs1 → W p l e room_1 s m args below meth c H1 locs1 cells slots Q (F0 m 1266 ls [])) : W p l e room_1 s m args below meth c H locs cells slots Q (F0 m 1128 ls []) := by
  obtain ⟨r, σ1, τ1, e1, e2, hR1⟩ := sim 28 (by decide) (fun j => xs (i + j)) σ τ hR
  obtain ⟨hx, hb, hml, hown, hts, ⟨hKv, hKu, hiv, hiu, xcv, xcu, hXv, hXu⟩, ⟨hgv, hgu, hdd⟩, hXs, nx⟩ := id X
  refine lv_aload_n hx hb (dk dt_law_49 14 rfl) rfl (lv_at hl 2 rfl) ?_
  refine lw_arg (k := 1) X hl (lv_at hl 3 rfl) (lv_at hl 0 rfl) hS (by decide) (by omega) hL (dk dt_law_49 15 rfl) (dk dt_law_50 0 rfl) (dk dt_law_50 1 rfl) (dk dt_law_50 2 rfl) (dk dt_law_50 3 rfl) ?_
  refine lw_arg (k := 2) X hl (lv_at hl 3 rfl) (lv_at hl 0 rfl) hS (by decide) (by omega) hL (dk dt_law_50 4 rfl) (dk dt_law_50 5 rfl) (dk dt_law_50 6 rfl) (dk dt_law_50 7 rfl) (dk dt_law_50 8 rfl) ?_
  refine lw_call (As := [.int (xs (i + 1)), .int (xs (i + 2))]) (rest := []) (wo := zw wM u τ) (D' := u.2.1) hx hb hml hown hts hKv hXv xcv hgv vo_law_134 (ct_V_ants hiv xcv nx e1) rfl (Nat.le_of_ble_eq_true rfl) (Nat.le_of_ble_eq_true rfl) rfl (by decide) rfl rfl (Nat.zero_le _) hl.1 hcl hsl (dk dt_law_50 9 rfl) hP hO (lw_dis1 hdd) hS (fun H locs hP hO hS => ?_)
  refine lv_aload_n hx hb (dk dt_law_50 10 rfl) rfl (lv_at hl 1 rfl) ?_
  refine lw_arg (k := 1) X hl (lv_at hl 3 rfl) (lv_at hl 0 rfl) hS (by decide) (by omega) hL (dk dt_law_50 11 rfl) (dk dt_law_50 12 rfl) (dk dt_law_50 13 rfl) (dk dt_law_50 14 rfl) (dk dt_law_50 15 rfl) ?_
  refine lw_arg (k := 2) X hl (lv_at hl 3 rfl) (lv_at hl 0 rfl) hS (by decide) (by omega) hL (dk dt_law_51 0 rfl) (dk dt_law_51 1 rfl) (dk dt_law_51 2 rfl) (dk dt_law_51 3 rfl) (dk dt_law_51 4 rfl) ?_
  refine lw_call (As := [.int (xs (i + 1)), .int (xs (i + 2))]) (rest := [.int r]) (wo := zw wC v σ1) (D' := v.2.1) hx hb hml hown hts hKu hXu xcu hgu vo_law_137 (ct_M_ants hiu xcu trivial e2) rfl (Nat.le_of_ble_eq_true rfl) (Nat.le_of_ble_eq_true rfl) rfl (by decide) rfl rfl (Nat.le_of_ble_eq_true rfl) hl.1 hcl hsl (dk dt_law_51 5 rfl) hO hP (lw_dis2 hdd) hS (fun H locs hO hP hS => ?_)
  refine lv_icmp_eq (tgt := 1266) hx hb (dk dt_law_51 6 rfl) (by decide) (fun hc => ?_) (fun hc => absurd rfl hc)
  exact kk σ1 τ1 hR1 H locs hP hO hS
theorem lwc_29 {v u : ZV} {b L : Nat} {xs : Nat → Int32} (X : LX p s m args c b L xs v u) (hL : L ≤ 3072) (hcl : cells ≤ 600000) (hsl : slots ≤ 7302250) {i : Nat} (hi : i + 6 ≤ L) {σ τ : Hp} {Rl : Hp → Hp → Prop} (sim : SimP Rl) (hR : Rl σ τ) (hl : lv_has ls 4 [(3, .int (nI i)), (2, .ref (u.1 0)), (1, .ref (v.1 0)), (0, .ref b)]) (hP : zP wC v σ H) (hO : zP wM u τ H) (hS : va_S (lA s) s.heap H locs) (kk : ∀ (σ1 τ1 : Hp), Rl σ1 τ1 → ∀ (H1 : Heap) (locs1 : List Loc), zP wC v σ1 H1 → zP wM u τ1 H1 → va_S (lA s) s.heap H1 locs1 → W p l e room_1 s m args below meth c H1 locs1 cells slots Q (F0 m 1266 ls [])) : W p l e room_1 s m args below meth c H locs cells slots Q (F0 m 1161 ls []) := by
  obtain ⟨r, σ1, τ1, e1, e2, hR1⟩ := sim 29 (by decide) (fun j => xs (i + j)) σ τ hR
  obtain ⟨hx, hb, hml, hown, hts, ⟨hKv, hKu, hiv, hiu, xcv, xcu, hXv, hXu⟩, ⟨hgv, hgu, hdd⟩, hXs, nx⟩ := id X
  refine lv_aload_n hx hb (dk dt_law_51 9 rfl) rfl (lv_at hl 2 rfl) ?_
  refine lw_arg (k := 1) X hl (lv_at hl 3 rfl) (lv_at hl 0 rfl) hS (by decide) (by omega) hL (dk dt_law_51 10 rfl) (dk dt_law_51 11 rfl) (dk dt_law_51 12 rfl) (dk dt_law_51 13 rfl) (dk dt_law_51 14 rfl) ?_
  refine lw_call (As := [.int (xs (i + 1))]) (rest := []) (wo := zw wM u τ) (D' := u.2.1) hx hb hml hown hts hKv hXv xcv hgv vo_law_138 (ct_V_seed hiv xcv nx e1) rfl (Nat.le_of_ble_eq_true rfl) (Nat.le_of_ble_eq_true rfl) rfl (by decide) rfl rfl (Nat.zero_le _) hl.1 hcl hsl (dk dt_law_51 15 rfl) hP hO (lw_dis1 hdd) hS (fun H locs hP hO hS => ?_)
  refine lv_aload_n hx hb (dk dt_law_52 0 rfl) rfl (lv_at hl 1 rfl) ?_
  refine lw_arg (k := 1) X hl (lv_at hl 3 rfl) (lv_at hl 0 rfl) hS (by decide) (by omega) hL (dk dt_law_52 1 rfl) (dk dt_law_52 2 rfl) (dk dt_law_52 3 rfl) (dk dt_law_52 4 rfl) (dk dt_law_52 5 rfl) ?_
  refine lw_call (As := [.int (xs (i + 1))]) (rest := [.int r]) (wo := zw wC v σ1) (D' := v.2.1) hx hb hml hown hts hKu hXu xcu hgu vo_law_142 (ct_M_seed hiu xcu trivial e2) rfl (Nat.le_of_ble_eq_true rfl) (Nat.le_of_ble_eq_true rfl) rfl (by decide) rfl rfl (Nat.le_of_ble_eq_true rfl) hl.1 hcl hsl (dk dt_law_52 6 rfl) hO hP (lw_dis2 hdd) hS (fun H locs hO hP hS => ?_)
  refine lv_icmp_eq (tgt := 1266) hx hb (dk dt_law_52 7 rfl) (by decide) (fun hc => ?_) (fun hc => absurd rfl hc)
  exact kk σ1 τ1 hR1 H locs hP hO hS
theorem lwc_30 {v u : ZV} {b L : Nat} {xs : Nat → Int32} (X : LX p s m args c b L xs v u) (hL : L ≤ 3072) (hcl : cells ≤ 600000) (hsl : slots ≤ 7302250) {i : Nat} (hi : i + 6 ≤ L) {σ τ : Hp} {Rl : Hp → Hp → Prop} (sim : SimP Rl) (hR : Rl σ τ) (hl : lv_has ls 4 [(3, .int (nI i)), (2, .ref (u.1 0)), (1, .ref (v.1 0)), (0, .ref b)]) (hP : zP wC v σ H) (hO : zP wM u τ H) (hS : va_S (lA s) s.heap H locs) (kk : ∀ (σ1 τ1 : Hp), Rl σ1 τ1 → ∀ (H1 : Heap) (locs1 : List Loc), zP wC v σ1 H1 → zP wM u τ1 H1 → va_S (lA s) s.heap H1 locs1 → W p l e room_1 s m args below meth c H1 locs1 cells slots Q (F0 m 1266 ls [])) : W p l e room_1 s m args below meth c H locs cells slots Q (F0 m 1184 ls []) := by
  obtain ⟨r, σ1, τ1, e1, e2, hR1⟩ := sim 30 (by decide) (fun j => xs (i + j)) σ τ hR
  obtain ⟨hx, hb, hml, hown, hts, ⟨hKv, hKu, hiv, hiu, xcv, xcu, hXv, hXu⟩, ⟨hgv, hgu, hdd⟩, hXs, nx⟩ := id X
  refine lv_aload_n hx hb (dk dt_law_52 10 rfl) rfl (lv_at hl 2 rfl) ?_
  refine lw_call (As := []) (rest := []) (wo := zw wM u τ) (D' := u.2.1) hx hb hml hown hts hKv hXv xcv hgv vo_law_143 (ct_V_keep hiv xcv nx e1) rfl (Nat.le_of_ble_eq_true rfl) (Nat.le_of_ble_eq_true rfl) rfl (by decide) rfl rfl (Nat.zero_le _) hl.1 hcl hsl (dk dt_law_52 11 rfl) hP hO (lw_dis1 hdd) hS (fun H locs hP hO hS => ?_)
  refine lv_aload_n hx hb (dk dt_law_52 12 rfl) rfl (lv_at hl 1 rfl) ?_
  refine lw_call (As := []) (rest := [.int r]) (wo := zw wC v σ1) (D' := v.2.1) hx hb hml hown hts hKu hXu xcu hgu vo_law_146 (ct_M_keep hiu xcu trivial e2) rfl (Nat.le_of_ble_eq_true rfl) (Nat.le_of_ble_eq_true rfl) rfl (by decide) rfl rfl (Nat.le_of_ble_eq_true rfl) hl.1 hcl hsl (dk dt_law_52 13 rfl) hO hP (lw_dis2 hdd) hS (fun H locs hO hP hS => ?_)
  refine lv_icmp_eq (tgt := 1266) hx hb (dk dt_law_52 14 rfl) (by decide) (fun hc => ?_) (fun hc => absurd rfl hc)
  exact kk σ1 τ1 hR1 H locs hP hO hS
theorem lwc_31 {v u : ZV} {b L : Nat} {xs : Nat → Int32} (X : LX p s m args c b L xs v u) (hL : L ≤ 3072) (hcl : cells ≤ 600000) (hsl : slots ≤ 7302250) {i : Nat} (hi : i + 6 ≤ L) {σ τ : Hp} {Rl : Hp → Hp → Prop} (sim : SimP Rl) (hR : Rl σ τ) (hl : lv_has ls 4 [(3, .int (nI i)), (2, .ref (u.1 0)), (1, .ref (v.1 0)), (0, .ref b)]) (hP : zP wC v σ H) (hO : zP wM u τ H) (hS : va_S (lA s) s.heap H locs) (kk : ∀ (σ1 τ1 : Hp), Rl σ1 τ1 → ∀ (H1 : Heap) (locs1 : List Loc), zP wC v σ1 H1 → zP wM u τ1 H1 → va_S (lA s) s.heap H1 locs1 → W p l e room_1 s m args below meth c H1 locs1 cells slots Q (F0 m 1266 ls [])) : W p l e room_1 s m args below meth c H locs cells slots Q (F0 m 1197 ls []) := by
  obtain ⟨r, σ1, τ1, e1, e2, hR1⟩ := sim 31 (by decide) (fun j => xs (i + j)) σ τ hR
  obtain ⟨hx, hb, hml, hown, hts, ⟨hKv, hKu, hiv, hiu, xcv, xcu, hXv, hXu⟩, ⟨hgv, hgu, hdd⟩, hXs, nx⟩ := id X
  refine lv_aload_n hx hb (dk dt_law_53 1 rfl) rfl (lv_at hl 2 rfl) ?_
  refine lw_call (As := []) (rest := []) (wo := zw wM u τ) (D' := u.2.1) hx hb hml hown hts hKv hXv xcv hgv vo_law_147 (ct_V_undo hiv xcv nx e1) rfl (Nat.le_of_ble_eq_true rfl) (Nat.le_of_ble_eq_true rfl) rfl (by decide) rfl rfl (Nat.zero_le _) hl.1 hcl hsl (dk dt_law_53 2 rfl) hP hO (lw_dis1 hdd) hS (fun H locs hP hO hS => ?_)
  refine lv_aload_n hx hb (dk dt_law_53 3 rfl) rfl (lv_at hl 1 rfl) ?_
  refine lw_call (As := []) (rest := [.int r]) (wo := zw wC v σ1) (D' := v.2.1) hx hb hml hown hts hKu hXu xcu hgu vo_law_151 (ct_M_undo hiu xcu trivial e2) rfl (Nat.le_of_ble_eq_true rfl) (Nat.le_of_ble_eq_true rfl) rfl (by decide) rfl rfl (Nat.le_of_ble_eq_true rfl) hl.1 hcl hsl (dk dt_law_53 4 rfl) hO hP (lw_dis2 hdd) hS (fun H locs hO hP hS => ?_)
  refine lv_icmp_eq (tgt := 1266) hx hb (dk dt_law_53 5 rfl) (by decide) (fun hc => ?_) (fun hc => absurd rfl hc)
  exact kk σ1 τ1 hR1 H locs hP hO hS
theorem lwc_32 {v u : ZV} {b L : Nat} {xs : Nat → Int32} (X : LX p s m args c b L xs v u) (hL : L ≤ 3072) (hcl : cells ≤ 600000) (hsl : slots ≤ 7302250) {i : Nat} (hi : i + 6 ≤ L) {σ τ : Hp} {Rl : Hp → Hp → Prop} (sim : SimP Rl) (hR : Rl σ τ) (hl : lv_has ls 4 [(3, .int (nI i)), (2, .ref (u.1 0)), (1, .ref (v.1 0)), (0, .ref b)]) (hP : zP wC v σ H) (hO : zP wM u τ H) (hS : va_S (lA s) s.heap H locs) (kk : ∀ (σ1 τ1 : Hp), Rl σ1 τ1 → ∀ (H1 : Heap) (locs1 : List Loc), zP wC v σ1 H1 → zP wM u τ1 H1 → va_S (lA s) s.heap H1 locs1 → W p l e room_1 s m args below meth c H1 locs1 cells slots Q (F0 m 1266 ls [])) : W p l e room_1 s m args below meth c H locs cells slots Q (F0 m 1210 ls []) := by
  obtain ⟨r, σ1, τ1, e1, e2, hR1⟩ := sim 32 (by decide) (fun j => xs (i + j)) σ τ hR
  obtain ⟨hx, hb, hml, hown, hts, ⟨hKv, hKu, hiv, hiu, xcv, xcu, hXv, hXu⟩, ⟨hgv, hgu, hdd⟩, hXs, nx⟩ := id X
  refine lv_aload_n hx hb (dk dt_law_53 8 rfl) rfl (lv_at hl 2 rfl) ?_
  refine lw_arg (k := 1) X hl (lv_at hl 3 rfl) (lv_at hl 0 rfl) hS (by decide) (by omega) hL (dk dt_law_53 9 rfl) (dk dt_law_53 10 rfl) (dk dt_law_53 11 rfl) (dk dt_law_53 12 rfl) (dk dt_law_53 13 rfl) ?_
  refine lw_arg (k := 2) X hl (lv_at hl 3 rfl) (lv_at hl 0 rfl) hS (by decide) (by omega) hL (dk dt_law_53 14 rfl) (dk dt_law_53 15 rfl) (dk dt_law_54 0 rfl) (dk dt_law_54 1 rfl) (dk dt_law_54 2 rfl) ?_
  refine lw_call (As := [.int (xs (i + 1)), .int (xs (i + 2))]) (rest := []) (wo := zw wM u τ) (D' := u.2.1) hx hb hml hown hts hKv hXv xcv hgv vo_law_152 (ct_V_check hiv xcv nx e1) rfl (Nat.le_of_ble_eq_true rfl) (Nat.le_of_ble_eq_true rfl) rfl (by decide) rfl rfl (Nat.zero_le _) hl.1 hcl hsl (dk dt_law_54 3 rfl) hP hO (lw_dis1 hdd) hS (fun H locs hP hO hS => ?_)
  refine lv_aload_n hx hb (dk dt_law_54 4 rfl) rfl (lv_at hl 1 rfl) ?_
  refine lw_arg (k := 1) X hl (lv_at hl 3 rfl) (lv_at hl 0 rfl) hS (by decide) (by omega) hL (dk dt_law_54 5 rfl) (dk dt_law_54 6 rfl) (dk dt_law_54 7 rfl) (dk dt_law_54 8 rfl) (dk dt_law_54 9 rfl) ?_
  refine lw_arg (k := 2) X hl (lv_at hl 3 rfl) (lv_at hl 0 rfl) hS (by decide) (by omega) hL (dk dt_law_54 10 rfl) (dk dt_law_54 11 rfl) (dk dt_law_54 12 rfl) (dk dt_law_54 13 rfl) (dk dt_law_54 14 rfl) ?_
  refine lw_call (As := [.int (xs (i + 1)), .int (xs (i + 2))]) (rest := [.int r]) (wo := zw wC v σ1) (D' := v.2.1) hx hb hml hown hts hKu hXu xcu hgu vo_law_155 (ct_M_check hiu xcu trivial e2) rfl (Nat.le_of_ble_eq_true rfl) (Nat.le_of_ble_eq_true rfl) rfl (by decide) rfl rfl (Nat.le_of_ble_eq_true rfl) hl.1 hcl hsl (dk dt_law_54 15 rfl) hO hP (lw_dis2 hdd) hS (fun H locs hO hP hS => ?_)
  refine lv_icmp_eq (tgt := 1266) hx hb (dk dt_law_55 0 rfl) (by decide) (fun hc => ?_) (fun hc => absurd rfl hc)
  exact kk σ1 τ1 hR1 H locs hP hO hS
theorem lwc_33 {v u : ZV} {b L : Nat} {xs : Nat → Int32} (X : LX p s m args c b L xs v u) (hL : L ≤ 3072) (hcl : cells ≤ 600000) (hsl : slots ≤ 7302250) {i : Nat} (hi : i + 6 ≤ L) {σ τ : Hp} {Rl : Hp → Hp → Prop} (sim : SimP Rl) (hR : Rl σ τ) (hl : lv_has ls 4 [(3, .int (nI i)), (2, .ref (u.1 0)), (1, .ref (v.1 0)), (0, .ref b)]) (hP : zP wC v σ H) (hO : zP wM u τ H) (hS : va_S (lA s) s.heap H locs) (kk : ∀ (σ1 τ1 : Hp), Rl σ1 τ1 → ∀ (H1 : Heap) (locs1 : List Loc), zP wC v σ1 H1 → zP wM u τ1 H1 → va_S (lA s) s.heap H1 locs1 → W p l e room_1 s m args below meth c H1 locs1 cells slots Q (F0 m 1266 ls [])) : W p l e room_1 s m args below meth c H locs cells slots Q (F0 m 1243 ls []) := by
  obtain ⟨r, σ1, τ1, e1, e2, hR1⟩ := sim 33 (by decide) (fun j => xs (i + j)) σ τ hR
  obtain ⟨hx, hb, hml, hown, hts, ⟨hKv, hKu, hiv, hiu, xcv, xcu, hXv, hXu⟩, ⟨hgv, hgu, hdd⟩, hXs, nx⟩ := id X
  refine lv_aload_n hx hb (dk dt_law_55 3 rfl) rfl (lv_at hl 2 rfl) ?_
  refine lw_arg (k := 1) X hl (lv_at hl 3 rfl) (lv_at hl 0 rfl) hS (by decide) (by omega) hL (dk dt_law_55 4 rfl) (dk dt_law_55 5 rfl) (dk dt_law_55 6 rfl) (dk dt_law_55 7 rfl) (dk dt_law_55 8 rfl) ?_
  refine lw_call (As := [.int (xs (i + 1))]) (rest := []) (wo := zw wM u τ) (D' := u.2.1) hx hb hml hown hts hKv hXv xcv hgv vo_law_156 (ct_V_count hiv xcv nx e1) rfl (Nat.le_of_ble_eq_true rfl) (Nat.le_of_ble_eq_true rfl) rfl (by decide) rfl rfl (Nat.zero_le _) hl.1 hcl hsl (dk dt_law_55 9 rfl) hP hO (lw_dis1 hdd) hS (fun H locs hP hO hS => ?_)
  refine lv_aload_n hx hb (dk dt_law_55 10 rfl) rfl (lv_at hl 1 rfl) ?_
  refine lw_arg (k := 1) X hl (lv_at hl 3 rfl) (lv_at hl 0 rfl) hS (by decide) (by omega) hL (dk dt_law_55 11 rfl) (dk dt_law_55 12 rfl) (dk dt_law_55 13 rfl) (dk dt_law_55 14 rfl) (dk dt_law_55 15 rfl) ?_
  refine lw_call (As := [.int (xs (i + 1))]) (rest := [.int r]) (wo := zw wC v σ1) (D' := v.2.1) hx hb hml hown hts hKu hXu xcu hgu vo_law_159 (ct_M_count hiu xcu trivial e2) rfl (Nat.le_of_ble_eq_true rfl) (Nat.le_of_ble_eq_true rfl) rfl (by decide) rfl rfl (Nat.le_of_ble_eq_true rfl) hl.1 hcl hsl (dk dt_law_56 0 rfl) hO hP (lw_dis2 hdd) hS (fun H locs hO hP hS => ?_)
  refine lv_icmp_eq (tgt := 1266) hx hb (dk dt_law_56 1 rfl) (by decide) (fun hc => ?_) (fun hc => absurd rfl hc)
  exact kk σ1 τ1 hR1 H locs hP hO hS
theorem lw_more {i L : Nat} (hL : L ≤ 3072) (hi : i ≤ 3078) (h : ¬ (Int32.ofNat L - 6 < nI i)) : i + 6 ≤ L := by
  have e : (Int32.ofNat L - 6).toInt = (L : Int) - 6 := pk_sub_toInt (a := L) (b := 6) (by omega) (by omega)
  rw [Int32.lt_iff_toInt_lt, e, nI_toInt (by omega)] at h
  omega
set_option maxHeartbeats 8000000 in
set_option maxRecDepth 100000 in
theorem law_loop {v u : ZV} {b L : Nat} {xs : Nat → Int32} {Rl : Hp → Hp → Prop} (X : LX p s m #[Value.ref b] c b L xs v u) (hr : meth.sig.returnType = ret) (hlocks : meth.locks = false) (hL : L ≤ 3072) (hcl : cells ≤ 600000) (hsl : slots ≤ 7302250) (sim : SimP Rl) : ∀ (n i : Nat) (σ τ : Hp), Rl σ τ → 3084 - i < n → i ≤ 3078 → ∀ (H : Heap) (locs : List Loc) (ls : Array Slot), lv_has ls 4 [(3, .int (nI i)), (2, .ref (u.1 0)), (1, .ref (v.1 0)), (0, .ref b)] → zP wC v σ H → zP wM u τ H → va_S (lA s) s.heap H locs → W p l e room_1 s m #[Value.ref b] below meth c H locs cells slots (lw_Z below #[Value.ref b] s) (F0 m 18 ls []) := by
  intro n
  induction n with
  | zero => intro i σ τ hR hn hiL H locs ls hl hP hO hS; omega
  | succ n ih =>
    intro i σ τ hR hn hiL H locs ls hl hP hO hS
    obtain ⟨hx, hb, hml, hown, hts, ⟨hKv, hKu, hiv, hiu, xcv, xcu, hXv, hXu⟩, ⟨hgv, hgu, hdd⟩, ⟨hXs, hbl⟩, nx⟩ := id X
    refine lv_iload_n hx hb (dk dt_law_0 10 rfl) rfl (lv_at hl 0 rfl) ?_
    refine lv_aload_n hx hb (dk dt_law_0 11 rfl) rfl (lv_at hl 3 rfl) ?_
    refine va_slen hx hb hXs hbl (by show ¬ s.heap.size ≤ b; omega) hS (dk dt_law_0 12 rfl) ?_
    refine lv_bipush (v := 6) hx hb (dk dt_law_0 13 rfl) (by decide) ?_
    refine lv_isub hx hb (dk dt_law_0 14 rfl) ?_
    refine lv_icmp_gt (tgt := 1272) hx hb (dk dt_law_0 15 rfl) (by decide) (fun hc => ?_) (fun hc => ?_)
    · refine lv_iconst (v := 1) hx hb (dk dt_law_56 6 rfl) (by decide) ?_
      refine va_forget (fun q hq => hS.2.2 q hq) ?_
      refine W.widen (k := 600000) (n := 7302250) hcl hsl ?_
      exact lw_ret hx hb hr hlocks (dk dt_law_56 7 rfl)
    have hi : i + 6 ≤ L := lw_more hL hiL hc
    refine lv_aload_n hx hb (dk dt_law_1 0 rfl) rfl (lv_at hl 3 rfl) ?_
    refine lv_iload_n hx hb (dk dt_law_1 1 rfl) rfl (lv_at hl 0 rfl) ?_
    refine va_sld hx hb hXs hbl (by show ¬ s.heap.size ≤ b; omega) hS (vp_in_nI (n := i) (by omega) (by omega)) (dk dt_law_1 2 rfl) ?_
    refine lv_bipush (v := 63) hx hb (dk dt_law_1 3 rfl) (by decide) ?_
    refine lv_iand hx hb (dk dt_law_1 4 rfl) ?_
    generalize xs (nI i).toNatClampNeg &&& 63 = x
    have next : ∀ (σ1 τ1 : Hp), Rl σ1 τ1 → ∀ (H1 : Heap) (locs1 : List Loc), zP wC v σ1 H1 → zP wM u τ1 H1 → va_S (lA s) s.heap H1 locs1 → W p l e room_1 s m #[Value.ref b] below meth c H1 locs1 cells slots (lw_Z below #[Value.ref b] s) (F0 m 1266 ls []) := by
      intro σ1 τ1 hR1 H1 locs1 hP1 hO1 hS1
      refine lv_iinc (v := nI (i + 6)) (lv' := [(3, .int (nI (i + 6))), (2, .ref (u.1 0)), (1, .ref (v.1 0)), (0, .ref b)]) hx hb (dk dt_law_56 4 rfl) hl (k := 0) rfl (by rw [← nI_add]; rfl) (by decide) rfl (fun ls hl => ?_)
      refine lv_goto (tgt := 18) hx hb (dk dt_law_56 5 rfl) (by decide) ?_
      exact ih (i + 6) σ1 τ1 hR1 (by omega) (by omega) H1 locs1 ls hl hP1 hO1 hS1
    by_cases h0 : x = 0
    · refine lw_tsw (tgt := 184) hx hb (dk dt_law_1 5 rfl) (by decide) (by rw [h0]) (by decide) ?_
      exact lwc_0 X hL hcl hsl hi sim hR hl hP hO hS next
    by_cases h1 : x = 1
    · refine lw_tsw (tgt := 247) hx hb (dk dt_law_1 5 rfl) (by decide) (by rw [h1]) (by decide) ?_
      exact lwc_1 X hL hcl hsl hi sim hR hl hP hO hS next
    by_cases h2 : x = 2
    · refine lw_tsw (tgt := 280) hx hb (dk dt_law_1 5 rfl) (by decide) (by rw [h2]) (by decide) ?_
      exact lwc_2 X hL hcl hsl hi sim hR hl hP hO hS next
    by_cases h3 : x = 3
    · refine lw_tsw (tgt := 313) hx hb (dk dt_law_1 5 rfl) (by decide) (by rw [h3]) (by decide) ?_
      exact lwc_3 X hL hcl hsl hi sim hR hl hP hO hS next
    by_cases h4 : x = 4
    · refine lw_tsw (tgt := 376) hx hb (dk dt_law_1 5 rfl) (by decide) (by rw [h4]) (by decide) ?_
      exact lwc_4 X hL hcl hsl hi sim hR hl hP hO hS next
    by_cases h5 : x = 5
    · refine lw_tsw (tgt := 399) hx hb (dk dt_law_1 5 rfl) (by decide) (by rw [h5]) (by decide) ?_
      exact lwc_5 X hL hcl hsl hi sim hR hl hP hO hS next
    by_cases h6 : x = 6
    · refine lw_tsw (tgt := 422) hx hb (dk dt_law_1 5 rfl) (by decide) (by rw [h6]) (by decide) ?_
      exact lwc_6 X hL hcl hsl hi sim hR hl hP hO hS next
    by_cases h7 : x = 7
    · refine lw_tsw (tgt := 455) hx hb (dk dt_law_1 5 rfl) (by decide) (by rw [h7]) (by decide) ?_
      exact lwc_7 X hL hcl hsl hi sim hR hl hP hO hS next
    by_cases h8 : x = 8
    · refine lw_tsw (tgt := 478) hx hb (dk dt_law_1 5 rfl) (by decide) (by rw [h8]) (by decide) ?_
      exact lwc_8 X hL hcl hsl hi sim hR hl hP hO hS next
    by_cases h9 : x = 9
    · refine lw_tsw (tgt := 511) hx hb (dk dt_law_1 5 rfl) (by decide) (by rw [h9]) (by decide) ?_
      exact lwc_9 X hL hcl hsl hi sim hR hl hP hO hS next
    by_cases h10 : x = 10
    · refine lw_tsw (tgt := 554) hx hb (dk dt_law_1 5 rfl) (by decide) (by rw [h10]) (by decide) ?_
      exact lwc_10 X hL hcl hsl hi sim hR hl hP hO hS next
    by_cases h11 : x = 11
    · refine lw_tsw (tgt := 587) hx hb (dk dt_law_1 5 rfl) (by decide) (by rw [h11]) (by decide) ?_
      exact lwc_11 X hL hcl hsl hi sim hR hl hP hO hS next
    by_cases h12 : x = 12
    · refine lw_tsw (tgt := 630) hx hb (dk dt_law_1 5 rfl) (by decide) (by rw [h12]) (by decide) ?_
      exact lwc_12 X hL hcl hsl hi sim hR hl hP hO hS next
    by_cases h13 : x = 13
    · refine lw_tsw (tgt := 653) hx hb (dk dt_law_1 5 rfl) (by decide) (by rw [h13]) (by decide) ?_
      exact lwc_13 X hL hcl hsl hi sim hR hl hP hO hS next
    by_cases h14 : x = 14
    · refine lw_tsw (tgt := 676) hx hb (dk dt_law_1 5 rfl) (by decide) (by rw [h14]) (by decide) ?_
      exact lwc_14 X hL hcl hsl hi sim hR hl hP hO hS next
    by_cases h15 : x = 15
    · refine lw_tsw (tgt := 719) hx hb (dk dt_law_1 5 rfl) (by decide) (by rw [h15]) (by decide) ?_
      exact lwc_15 X hL hcl hsl hi sim hR hl hP hO hS next
    by_cases h16 : x = 16
    · refine lw_tsw (tgt := 762) hx hb (dk dt_law_1 5 rfl) (by decide) (by rw [h16]) (by decide) ?_
      exact lwc_16 X hL hcl hsl hi sim hR hl hP hO hS next
    by_cases h17 : x = 17
    · refine lw_tsw (tgt := 795) hx hb (dk dt_law_1 5 rfl) (by decide) (by rw [h17]) (by decide) ?_
      exact lwc_17 X hL hcl hsl hi sim hR hl hP hO hS next
    by_cases h18 : x = 18
    · refine lw_tsw (tgt := 828) hx hb (dk dt_law_1 5 rfl) (by decide) (by rw [h18]) (by decide) ?_
      exact lwc_18 X hL hcl hsl hi sim hR hl hP hO hS next
    by_cases h19 : x = 19
    · refine lw_tsw (tgt := 871) hx hb (dk dt_law_1 5 rfl) (by decide) (by rw [h19]) (by decide) ?_
      exact lwc_19 X hL hcl hsl hi sim hR hl hP hO hS next
    by_cases h20 : x = 20
    · refine lw_tsw (tgt := 894) hx hb (dk dt_law_1 5 rfl) (by decide) (by rw [h20]) (by decide) ?_
      exact lwc_20 X hL hcl hsl hi sim hR hl hP hO hS next
    by_cases h21 : x = 21
    · refine lw_tsw (tgt := 917) hx hb (dk dt_law_1 5 rfl) (by decide) (by rw [h21]) (by decide) ?_
      exact lwc_21 X hL hcl hsl hi sim hR hl hP hO hS next
    by_cases h22 : x = 22
    · refine lw_tsw (tgt := 940) hx hb (dk dt_law_1 5 rfl) (by decide) (by rw [h22]) (by decide) ?_
      exact lwc_22 X hL hcl hsl hi sim hR hl hP hO hS next
    by_cases h23 : x = 23
    · refine lw_tsw (tgt := 953) hx hb (dk dt_law_1 5 rfl) (by decide) (by rw [h23]) (by decide) ?_
      exact lwc_23 X hL hcl hsl hi sim hR hl hP hO hS next
    by_cases h24 : x = 24
    · refine lw_tsw (tgt := 976) hx hb (dk dt_law_1 5 rfl) (by decide) (by rw [h24]) (by decide) ?_
      exact lwc_24 X hL hcl hsl hi sim hR hl hP hO hS next
    by_cases h25 : x = 25
    · refine lw_tsw (tgt := 999) hx hb (dk dt_law_1 5 rfl) (by decide) (by rw [h25]) (by decide) ?_
      exact lwc_25 X hL hcl hsl hi sim hR hl hP hO hS next
    by_cases h26 : x = 26
    · refine lw_tsw (tgt := 1032) hx hb (dk dt_law_1 5 rfl) (by decide) (by rw [h26]) (by decide) ?_
      exact lwc_26 X hL hcl hsl hi sim hR hl hP hO hS next
    by_cases h27 : x = 27
    · refine lw_tsw (tgt := 1085) hx hb (dk dt_law_1 5 rfl) (by decide) (by rw [h27]) (by decide) ?_
      exact lwc_27 X hL hcl hsl hi sim hR hl hP hO hS next
    by_cases h28 : x = 28
    · refine lw_tsw (tgt := 1128) hx hb (dk dt_law_1 5 rfl) (by decide) (by rw [h28]) (by decide) ?_
      exact lwc_28 X hL hcl hsl hi sim hR hl hP hO hS next
    by_cases h29 : x = 29
    · refine lw_tsw (tgt := 1161) hx hb (dk dt_law_1 5 rfl) (by decide) (by rw [h29]) (by decide) ?_
      exact lwc_29 X hL hcl hsl hi sim hR hl hP hO hS next
    by_cases h30 : x = 30
    · refine lw_tsw (tgt := 1184) hx hb (dk dt_law_1 5 rfl) (by decide) (by rw [h30]) (by decide) ?_
      exact lwc_30 X hL hcl hsl hi sim hR hl hP hO hS next
    by_cases h31 : x = 31
    · refine lw_tsw (tgt := 1197) hx hb (dk dt_law_1 5 rfl) (by decide) (by rw [h31]) (by decide) ?_
      exact lwc_31 X hL hcl hsl hi sim hR hl hP hO hS next
    by_cases h32 : x = 32
    · refine lw_tsw (tgt := 1210) hx hb (dk dt_law_1 5 rfl) (by decide) (by rw [h32]) (by decide) ?_
      exact lwc_32 X hL hcl hsl hi sim hR hl hP hO hS next
    by_cases h33 : x = 33
    · refine lw_tsw (tgt := 1243) hx hb (dk dt_law_1 5 rfl) (by decide) (by rw [h33]) (by decide) ?_
      exact lwc_33 X hL hcl hsl hi sim hR hl hP hO hS next
    refine lw_tsw (tgt := 1266) hx hb (dk dt_law_1 5 rfl) (by decide) (sw_dflt [0, 1, 2, 3, 4, 5, 6, 7, 8, 9, 10, 11, 12, 13, 14, 15, 16, 17, 18, 19, 20, 21, 22, 23, 24, 25, 26, 27, 28, 29, 30, 31, 32, 33] (by decide) (by simp only [List.mem_cons, List.not_mem_nil, or_false, not_or]; exact ⟨(i32_ne (k := 0) h0), (i32_ne (k := 1) h1), (i32_ne (k := 2) h2), (i32_ne (k := 3) h3), (i32_ne (k := 4) h4), (i32_ne (k := 5) h5), (i32_ne (k := 6) h6), (i32_ne (k := 7) h7), (i32_ne (k := 8) h8), (i32_ne (k := 9) h9), (i32_ne (k := 10) h10), (i32_ne (k := 11) h11), (i32_ne (k := 12) h12), (i32_ne (k := 13) h13), (i32_ne (k := 14) h14), (i32_ne (k := 15) h15), (i32_ne (k := 16) h16), (i32_ne (k := 17) h17), (i32_ne (k := 18) h18), (i32_ne (k := 19) h19), (i32_ne (k := 20) h20), (i32_ne (k := 21) h21), (i32_ne (k := 22) h22), (i32_ne (k := 23) h23), (i32_ne (k := 24) h24), (i32_ne (k := 25) h25), (i32_ne (k := 26) h26), (i32_ne (k := 27) h27), (i32_ne (k := 28) h28), (i32_ne (k := 29) h29), (i32_ne (k := 30) h30), (i32_ne (k := 31) h31), (i32_ne (k := 32) h32), (i32_ne (k := 33) h33)⟩)) (by decide) ?_
    exact next σ τ hR H locs hP hO hS
end LAW

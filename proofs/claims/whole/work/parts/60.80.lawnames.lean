def wsL_law_r1 : List Cond := [Cond.classLink RL 7 RX5, Cond.instantiable RX5 3, Cond.initialized RX5, Cond.classLink RL 10 RX6, Cond.instantiable RX6 23, Cond.initialized RX6, Cond.methodLink RL 9 yX5_init, Cond.instanceMethod yX5_init, Cond.code yX5_init cX5_init 1 none, Cond.methodLink RX5 1 objectInit, Cond.instanceMethod objectInit, Cond.code objectInit ⟨#[0xb1]⟩ 1 none, Cond.classLink RX5 7 RX2, Cond.instantiable RX2 5, Cond.initialized RX2, Cond.fieldLink RX5 10 "CrashRounds" "rules" "LCrashRounds$Rules;", Cond.classLink RX5 16 RX3, Cond.instantiable RX3 14, Cond.initialized RX3, Cond.fieldLink RX5 21 "CrashRounds" "current" "LCrashRounds$Run;", Cond.classLink RX5 25 RX4, Cond.instantiable RX4 3, Cond.initialized RX4, Cond.fieldLink RX5 28 "CrashRounds" "searcher" "LCrashRounds$Search;"]
def wsL_law_r2 : List Cond := [Cond.instanceMethod yX2_init, Cond.code yX2_init cX2_init 1 none, Cond.methodLink RX2 3 objectInit, Cond.methodLink RX5 18 yX3_init, Cond.instanceMethod yX3_init, Cond.code yX3_init cX3_init 2 none, Cond.methodLink RX3 3 objectInit, Cond.classLink RX3 9 RX0, Cond.instantiable RX0 1, Cond.initialized RX0, Cond.fieldLink RX3 12 "CrashRounds$Run" "inputs" "LCrashRounds$Inputs;", Cond.classLink RX3 18 RX1, Cond.instantiable RX1 3, Cond.initialized RX1, Cond.fieldLink RX3 21 "CrashRounds$Run" "plan" "LCrashRounds$Plan;", Cond.arrayClass .int, Cond.fieldLink RX3 25 "CrashRounds$Run" "known" "[I", Cond.fieldLink RX3 29 "CrashRounds$Run" "heardFrom" "[I", Cond.fieldLink RX3 32 "CrashRounds$Run" "decidedIn" "[I", Cond.fieldLink RX3 35 "CrashRounds$Run" "decidedFrom" "[I", Cond.fieldLink RX3 38 "CrashRounds$Run" "letter" "[I", Cond.fieldLink RX3 41 "CrashRounds$Run" "readers" "[I", Cond.fieldLink RX3 44 "CrashRounds$Run" "rules" "LCrashRounds$Rules;", Cond.instanceMethod yX0_init]
def wsL_law_r3 : List Cond := [Cond.code yX0_init cX0_init 1 none, Cond.methodLink RX0 3 objectInit, Cond.fieldLink RX0 9 "CrashRounds$Inputs" "of" "[I", Cond.instanceMethod yX1_init, Cond.code yX1_init cX1_init 1 none, Cond.methodLink RX1 3 objectInit, Cond.fieldLink RX1 9 "CrashRounds$Plan" "rounds" "[I", Cond.fieldLink RX1 15 "CrashRounds$Plan" "reaches" "[I", Cond.methodLink RX5 27 yX4_init, Cond.instanceMethod yX4_init, Cond.code yX4_init cX4_init 2 none, Cond.methodLink RX4 1 objectInit, Cond.fieldLink RX4 7 "CrashRounds$Search" "rules" "LCrashRounds$Rules;", Cond.classLink RX4 13 RX3, Cond.fieldLink RX4 18 "CrashRounds$Search" "tried" "LCrashRounds$Run;", Cond.methodLink RX4 15 yX3_init, Cond.methodLink RX5 32 yX5_setUp, Cond.instanceMethod yX5_setUp, Cond.selects RX5 yX5_setUp yX5_setUp, Cond.code yX5_setUp cX5_setUp 6 none, Cond.fieldLink RX5 52 "CrashRounds$Run" "inputs" "LCrashRounds$Inputs;", Cond.fieldLink RX5 66 "CrashRounds$Run" "plan" "LCrashRounds$Plan;", Cond.fieldLink RX5 167 "CrashRounds$Search" "breachFound" "I", Cond.methodLink RX5 192 yX2_put]
def wsL_law_r4 : List Cond := [Cond.instanceMethod yX2_put, Cond.selects RX2 yX2_put yX2_put, Cond.code yX2_put cX2_put 7 none, Cond.fieldLink RX2 9 "CrashRounds$Rules" "algorithm" "I", Cond.fieldLink RX2 15 "CrashRounds$Rules" "processes" "I", Cond.fieldLink RX2 18 "CrashRounds$Rules" "mostCrashes" "I", Cond.fieldLink RX2 21 "CrashRounds$Rules" "mostDecisions" "I", Cond.methodLink RX2 24 Lib.Math.max.name, Cond.static Lib.Math.max.name, Cond.initialized "java/lang/Math", Cond.code Lib.Math.max.name Lib.Math.max.code 2 (some .int), Cond.fieldLink RX2 30 "CrashRounds$Rules" "rounds" "I", Cond.methodLink RX5 194 yX0_clear, Cond.instanceMethod yX0_clear, Cond.selects RX0 yX0_clear yX0_clear, Cond.code yX0_clear cX0_clear 1 none, Cond.methodLink RX0 15 yJ7_fill_53178, Cond.static yJ7_fill_53178, Cond.initialized RJ7, Cond.code yJ7_fill_53178 cJ7_fill_53178 4 none, Cond.methodLink RX5 197 yX1_clear, Cond.instanceMethod yX1_clear, Cond.selects RX1 yX1_clear yX1_clear, Cond.code yX1_clear cX1_clear 1 none]
def wsL_law_r5 : List Cond := [Cond.methodLink RX1 18 yX1_crashAtOnce, Cond.instanceMethod yX1_crashAtOnce, Cond.selects RX1 yX1_crashAtOnce yX1_crashAtOnce, Cond.code yX1_crashAtOnce cX1_crashAtOnce 2 none, Cond.fieldLink RX1 22 "CrashRounds$Plan" "crashing" "I", Cond.methodLink RX1 56 yJ7_fill_53178, Cond.methodLink RX5 102 yX3_begin, Cond.instanceMethod yX3_begin, Cond.selects RX3 yX3_begin yX3_begin, Cond.code yX3_begin cX3_begin 2 none, Cond.fieldLink RX3 48 "CrashRounds$Run" "made" "I", Cond.fieldLink RX3 52 "CrashRounds$Run" "letters" "I", Cond.fieldLink RX3 61 "CrashRounds$Run" "up" "I", Cond.fieldLink RX3 64 "CrashRounds$Run" "marked" "I", Cond.fieldLink RX3 67 "CrashRounds$Rules" "processes" "I", Cond.methodLink RX3 55 yX2_everyone, Cond.instanceMethod yX2_everyone, Cond.selects RX2 yX2_everyone yX2_everyone, Cond.code yX2_everyone cX2_everyone 1 (some .int), Cond.methodLink RL 12 yX6_init, Cond.instanceMethod yX6_init, Cond.code yX6_init cX6_init 1 none, Cond.methodLink RX6 1 objectInit, Cond.fieldLink RX6 7 "CrashRoundsModel" "inputs" "[I"]
def wsL_law_r6 : List Cond := [Cond.fieldLink RX6 13 "CrashRoundsModel" "crashes" "[I", Cond.fieldLink RX6 16 "CrashRoundsModel" "reaches" "[I", Cond.fieldLink RX6 19 "CrashRoundsModel" "knows" "[I", Cond.fieldLink RX6 22 "CrashRoundsModel" "heard" "[I", Cond.fieldLink RX6 25 "CrashRoundsModel" "decided" "[I", Cond.fieldLink RX6 28 "CrashRoundsModel" "decidedIn" "[I", Cond.fieldLink RX6 31 "CrashRoundsModel" "before" "[I", Cond.fieldLink RX6 34 "CrashRoundsModel" "sent" "[I", Cond.fieldLink RX6 37 "CrashRoundsModel" "aside" "[I", Cond.fieldLink RX6 40 "CrashRoundsModel" "foundInputs" "[I", Cond.fieldLink RX6 43 "CrashRoundsModel" "foundCrashes" "[I", Cond.fieldLink RX6 46 "CrashRoundsModel" "foundReaches" "[I", Cond.methodLink RX6 49 yX6_start, Cond.instanceMethod yX6_start, Cond.selects RX6 yX6_start yX6_start, Cond.code yX6_start cX6_start 8 (some .int), Cond.fieldLink RX6 73 "CrashRoundsModel" "algorithm" "I", Cond.fieldLink RX6 53 "CrashRoundsModel" "n" "I", Cond.fieldLink RX6 80 "CrashRoundsModel" "t" "I", Cond.fieldLink RX6 83 "CrashRoundsModel" "groups" "I", Cond.fieldLink RX6 86 "CrashRoundsModel" "rounds" "I", Cond.fieldLink RX6 89 "CrashRoundsModel" "foundBreach" "I", Cond.methodLink RX6 76 yX6_isIn, Cond.static yX6_isIn]
def wsL_law_r7 : List Cond := [Cond.code yX6_isIn cX6_isIn 3 (some .boolean), Cond.methodLink RX6 92 yX6_begin, Cond.instanceMethod yX6_begin, Cond.selects RX6 yX6_begin yX6_begin, Cond.code yX6_begin cX6_begin 2 none, Cond.fieldLink RX6 57 "CrashRoundsModel" "made" "I", Cond.fieldLink RX6 60 "CrashRoundsModel" "letters" "I", Cond.fieldLink RX6 67 "CrashRoundsModel" "up" "I", Cond.fieldLink RX6 70 "CrashRoundsModel" "marks" "I", Cond.methodLink RX6 63 yX6_all, Cond.instanceMethod yX6_all, Cond.selects RX6 yX6_all yX6_all, Cond.code yX6_all cX6_all 1 (some .int), Cond.methodLink RL 13 yX5_start, Cond.instanceMethod yX5_start, Cond.selects RX5 yX5_start yX5_start, Cond.code yX5_start cX5_start 6 (some .int), Cond.fieldLink RX5 40 "CrashRounds$Rules" "rounds" "I", Cond.methodLink RX5 36 yX5_areRules, Cond.static yX5_areRules, Cond.code yX5_areRules cX5_areRules 5 (some .boolean), Cond.methodLink RX5 198 Lib.Math.min.name, Cond.static Lib.Math.min.name, Cond.code Lib.Math.min.name Lib.Math.min.code 2 (some .int)]
def wsL_law_r8 : List Cond := [Cond.methodLink RX5 48 yX5_isWithin, Cond.static yX5_isWithin, Cond.code yX5_isWithin cX5_isWithin 3 (some .boolean), Cond.methodLink RL 17 yX6_start, Cond.methodLink RL 18 yX5_input, Cond.instanceMethod yX5_input, Cond.selects RX5 yX5_input yX5_input, Cond.code yX5_input cX5_input 4 (some .int), Cond.fieldLink RX5 56 "CrashRounds$Inputs" "of" "[I", Cond.methodLink RX5 44 yX5_isOpenTo, Cond.instanceMethod yX5_isOpenTo, Cond.selects RX5 yX5_isOpenTo yX5_isOpenTo, Cond.code yX5_isOpenTo cX5_isOpenTo 2 (some .boolean), Cond.fieldLink RX5 96 "CrashRounds$Run" "made" "I", Cond.methodLink RX5 105 yX2_isProcess, Cond.instanceMethod yX2_isProcess, Cond.selects RX2 yX2_isProcess yX2_isProcess, Cond.code yX2_isProcess cX2_isProcess 2 (some .boolean), Cond.methodLink RL 22 yX6_input, Cond.instanceMethod yX6_input, Cond.selects RX6 yX6_input yX6_input, Cond.code yX6_input cX6_input 4 (some .int), Cond.methodLink RX6 95 yX6_isProcess, Cond.instanceMethod yX6_isProcess]
def wsL_law_r9 : List Cond := [Cond.selects RX6 yX6_isProcess yX6_isProcess, Cond.code yX6_isProcess cX6_isProcess 2 (some .boolean), Cond.methodLink RL 23 yX5_crash, Cond.instanceMethod yX5_crash, Cond.selects RX5 yX5_crash yX5_crash, Cond.code yX5_crash cX5_crash 5 (some .int), Cond.fieldLink RX5 70 "CrashRounds$Plan" "crashing" "I", Cond.fieldLink RX5 82 "CrashRounds$Rules" "mostCrashes" "I", Cond.methodLink RX5 62 yX2_everyone, Cond.methodLink RX5 75 yX5_has, Cond.static yX5_has, Cond.code yX5_has cX5_has 2 (some .boolean), Cond.methodLink RX5 79 yX1_size, Cond.instanceMethod yX1_size, Cond.selects RX1 yX1_size yX1_size, Cond.code yX1_size cX1_size 1 (some .int), Cond.methodLink RX1 32 yJ6_bitCount_0f7a4, Cond.static yJ6_bitCount_0f7a4, Cond.initialized RJ6, Cond.code yJ6_bitCount_0f7a4 cJ6_bitCount_0f7a4 1 (some .int), Cond.constant RJ6 265 (1431655765), Cond.constant RJ6 266 (858993459), Cond.constant RJ6 267 (252645135), Cond.methodLink RX5 85 yX1_put]
def wsL_law_r10 : List Cond := [Cond.instanceMethod yX1_put, Cond.selects RX1 yX1_put yX1_put, Cond.code yX1_put cX1_put 4 none, Cond.methodLink RL 27 yX6_crash, Cond.instanceMethod yX6_crash, Cond.selects RX6 yX6_crash yX6_crash, Cond.code yX6_crash cX6_crash 4 (some .int), Cond.methodLink RX6 99 yX6_crashing, Cond.instanceMethod yX6_crashing, Cond.selects RX6 yX6_crashing yX6_crashing, Cond.code yX6_crashing cX6_crashing 3 (some .int), Cond.methodLink RL 28 yX5_spare, Cond.instanceMethod yX5_spare, Cond.selects RX5 yX5_spare yX5_spare, Cond.code yX5_spare cX5_spare 4 (some .int), Cond.methodLink RL 32 yX6_spare, Cond.instanceMethod yX6_spare, Cond.selects RX6 yX6_spare yX6_spare, Cond.code yX6_spare cX6_spare 3 (some .int), Cond.methodLink RL 33 yX5_step, Cond.instanceMethod yX5_step, Cond.selects RX5 yX5_step yX5_step, Cond.code yX5_step cX5_step 1 (some .int), Cond.methodLink RX5 89 yX3_isOver]
def wsL_law_r11 : List Cond := [Cond.instanceMethod yX3_isOver, Cond.selects RX3 yX3_isOver yX3_isOver, Cond.code yX3_isOver cX3_isOver 1 (some .boolean), Cond.fieldLink RX3 70 "CrashRounds$Rules" "rounds" "I", Cond.methodLink RX5 93 yX3_makeRound, Cond.instanceMethod yX3_makeRound, Cond.selects RX3 yX3_makeRound yX3_makeRound, Cond.code yX3_makeRound cX3_makeRound 3 none, Cond.methodLink RX3 76 yX1_crashingIn, Cond.instanceMethod yX1_crashingIn, Cond.selects RX1 yX1_crashingIn yX1_crashingIn, Cond.code yX1_crashingIn cX1_crashingIn 5 (some .int), Cond.methodLink RX3 80 yX3_sendLetters, Cond.instanceMethod yX3_sendLetters, Cond.selects RX3 yX3_sendLetters yX3_sendLetters, Cond.code yX3_sendLetters cX3_sendLetters 5 none, Cond.fieldLink RX3 91 "CrashRounds$Run" "markedLetters" "I", Cond.fieldLink RX3 98 "CrashRounds$Plan" "reaches" "[I", Cond.methodLink RX3 94 yX3_sendsNow, Cond.instanceMethod yX3_sendsNow, Cond.selects RX3 yX3_sendsNow yX3_sendsNow, Cond.code yX3_sendsNow cX3_sendsNow 2 (some .boolean), Cond.fieldLink RX3 107 "CrashRounds$Rules" "algorithm" "I", Cond.methodLink RX3 101 yJ6_bitCount_0f7a4]
def wsL_law_r12 : List Cond := [Cond.methodLink RX3 88 yX3_readLetters, Cond.instanceMethod yX3_readLetters, Cond.selects RX3 yX3_readLetters yX3_readLetters, Cond.code yX3_readLetters cX3_readLetters 5 none, Cond.methodLink RX3 110 yX3_conclude, Cond.instanceMethod yX3_conclude, Cond.selects RX3 yX3_conclude yX3_conclude, Cond.code yX3_conclude cX3_conclude 4 none, Cond.methodLink RX3 114 yX3_isOver, Cond.methodLink RX3 118 yX3_decide, Cond.instanceMethod yX3_decide, Cond.selects RX3 yX3_decide yX3_decide, Cond.code yX3_decide cX3_decide 3 none, Cond.methodLink RL 37 yX6_step, Cond.instanceMethod yX6_step, Cond.selects RX6 yX6_step yX6_step, Cond.code yX6_step cX6_step 1 (some .int), Cond.methodLink RX6 127 yX6_round, Cond.instanceMethod yX6_round, Cond.selects RX6 yX6_round yX6_round, Cond.code yX6_round cX6_round 4 none, Cond.methodLink RX6 109 yX6_sendLetters, Cond.instanceMethod yX6_sendLetters, Cond.selects RX6 yX6_sendLetters yX6_sendLetters]
def wsL_law_r13 : List Cond := [Cond.code yX6_sendLetters cX6_sendLetters 4 none, Cond.methodLink RX6 102 yX6_isUp, Cond.instanceMethod yX6_isUp, Cond.selects RX6 yX6_isUp yX6_isUp, Cond.code yX6_isUp cX6_isUp 2 (some .boolean), Cond.methodLink RX6 105 yX6_bits, Cond.static yX6_bits, Cond.code yX6_bits cX6_bits 3 (some .int), Cond.methodLink RX6 113 yX6_receive, Cond.instanceMethod yX6_receive, Cond.selects RX6 yX6_receive yX6_receive, Cond.code yX6_receive cX6_receive 7 none, Cond.methodLink RX6 117 yX6_joined, Cond.instanceMethod yX6_joined, Cond.selects RX6 yX6_joined yX6_joined, Cond.code yX6_joined cX6_joined 3 (some .int), Cond.methodLink RX6 121 yX6_decide, Cond.instanceMethod yX6_decide, Cond.selects RX6 yX6_decide yX6_decide, Cond.code yX6_decide cX6_decide 3 none, Cond.methodLink RX6 124 yX6_lastWord, Cond.instanceMethod yX6_lastWord, Cond.selects RX6 yX6_lastWord yX6_lastWord, Cond.code yX6_lastWord cX6_lastWord 5 (some .int)]
def wsL_law_r14 : List Cond := [Cond.methodLink RL 38 yX5_run, Cond.instanceMethod yX5_run, Cond.selects RX5 yX5_run yX5_run, Cond.code yX5_run cX5_run 1 (some .int), Cond.methodLink RX5 99 yX3_makeAllRounds, Cond.instanceMethod yX3_makeAllRounds, Cond.selects RX3 yX3_makeAllRounds yX3_makeAllRounds, Cond.code yX3_makeAllRounds cX3_makeAllRounds 2 none, Cond.methodLink RX3 73 yX3_makeRound, Cond.methodLink RL 41 yX6_run, Cond.instanceMethod yX6_run, Cond.selects RX6 yX6_run yX6_run, Cond.code yX6_run cX6_run 1 (some .int), Cond.methodLink RL 42 yX5_again, Cond.instanceMethod yX5_again, Cond.selects RX5 yX5_again yX5_again, Cond.code yX5_again cX5_again 2 (some .int), Cond.methodLink RL 45 yX6_again, Cond.instanceMethod yX6_again, Cond.selects RX6 yX6_again yX6_again, Cond.code yX6_again cX6_again 2 (some .int), Cond.methodLink RL 46 yX5_decided, Cond.instanceMethod yX5_decided, Cond.selects RX5 yX5_decided yX5_decided]
def wsL_law_r15 : List Cond := [Cond.code yX5_decided cX5_decided 2 (some .int), Cond.fieldLink RX5 108 "CrashRounds$Run" "decidedIn" "[I", Cond.fieldLink RX5 111 "CrashRounds$Run" "decidedFrom" "[I", Cond.methodLink RX5 114 yX3_decisionFrom, Cond.instanceMethod yX3_decisionFrom, Cond.selects RX3 yX3_decisionFrom yX3_decisionFrom, Cond.code yX3_decisionFrom cX3_decisionFrom 2 (some .int), Cond.methodLink RX3 126 yX0_least, Cond.instanceMethod yX0_least, Cond.selects RX0 yX0_least yX0_least, Cond.code yX0_least cX0_least 4 (some .int), Cond.methodLink RL 49 yX6_decided, Cond.instanceMethod yX6_decided, Cond.selects RX6 yX6_decided yX6_decided, Cond.code yX6_decided cX6_decided 2 (some .int), Cond.methodLink RL 50 yX5_decidedIn, Cond.instanceMethod yX5_decidedIn, Cond.selects RX5 yX5_decidedIn yX5_decidedIn, Cond.code yX5_decidedIn cX5_decidedIn 2 (some .int), Cond.methodLink RL 53 yX6_decidedIn, Cond.instanceMethod yX6_decidedIn, Cond.selects RX6 yX6_decidedIn yX6_decidedIn, Cond.code yX6_decidedIn cX6_decidedIn 2 (some .int), Cond.methodLink RL 54 yX5_knows]
def wsL_law_r16 : List Cond := [Cond.instanceMethod yX5_knows, Cond.selects RX5 yX5_knows yX5_knows, Cond.code yX5_knows cX5_knows 3 (some .int), Cond.fieldLink RX5 118 "CrashRounds$Run" "known" "[I", Cond.fieldLink RX5 121 "CrashRounds$Rules" "algorithm" "I", Cond.methodLink RX5 124 yX0_asBits, Cond.instanceMethod yX0_asBits, Cond.selects RX0 yX0_asBits yX0_asBits, Cond.code yX0_asBits cX0_asBits 4 (some .int), Cond.methodLink RX5 127 yX0_least, Cond.methodLink RL 57 yX6_knows, Cond.instanceMethod yX6_knows, Cond.selects RX6 yX6_knows yX6_knows, Cond.code yX6_knows cX6_knows 2 (some .int), Cond.methodLink RL 58 yX5_vector, Cond.instanceMethod yX5_vector, Cond.selects RX5 yX5_vector yX5_vector, Cond.code yX5_vector cX5_vector 4 (some .int), Cond.methodLink RL 61 yX6_vector, Cond.instanceMethod yX6_vector, Cond.selects RX6 yX6_vector yX6_vector, Cond.code yX6_vector cX6_vector 3 (some .int), Cond.methodLink RL 62 yX5_heard, Cond.instanceMethod yX5_heard]
def wsL_law_r17 : List Cond := [Cond.selects RX5 yX5_heard yX5_heard, Cond.code yX5_heard cX5_heard 2 (some .int), Cond.fieldLink RX5 130 "CrashRounds$Run" "heardFrom" "[I", Cond.methodLink RL 65 yX6_heard, Cond.instanceMethod yX6_heard, Cond.selects RX6 yX6_heard yX6_heard, Cond.code yX6_heard cX6_heard 2 (some .int), Cond.methodLink RL 66 yX5_count, Cond.instanceMethod yX5_count, Cond.selects RX5 yX5_count yX5_count, Cond.code yX5_count cX5_count 2 (some .int), Cond.fieldLink RX5 133 "CrashRounds$Rules" "processes" "I", Cond.fieldLink RX5 136 "CrashRounds$Run" "letters" "I", Cond.fieldLink RX5 145 "CrashRounds$Run" "up" "I", Cond.fieldLink RX5 148 "CrashRounds$Run" "marked" "I", Cond.methodLink RX5 139 yX3_faults, Cond.instanceMethod yX3_faults, Cond.selects RX3 yX3_faults yX3_faults, Cond.code yX3_faults cX3_faults 1 (some .int), Cond.methodLink RX3 129 yX3_sound, Cond.instanceMethod yX3_sound, Cond.selects RX3 yX3_sound yX3_sound, Cond.code yX3_sound cX3_sound 1 (some .int), Cond.methodLink RX5 142 yX3_bound]
def wsL_law_r18 : List Cond := [Cond.instanceMethod yX3_bound, Cond.selects RX3 yX3_bound yX3_bound, Cond.code yX3_bound cX3_bound 2 (some .int), Cond.methodLink RX3 135 Lib.Math.min.name, Cond.methodLink RX3 132 yX3_faults, Cond.methodLink RL 69 yX6_count, Cond.instanceMethod yX6_count, Cond.selects RX6 yX6_count yX6_count, Cond.code yX6_count cX6_count 2 (some .int), Cond.methodLink RX6 133 yX6_others, Cond.instanceMethod yX6_others, Cond.selects RX6 yX6_others yX6_others, Cond.code yX6_others cX6_others 3 (some .int), Cond.methodLink RX6 130 yX6_isSound, Cond.instanceMethod yX6_isSound, Cond.selects RX6 yX6_isSound yX6_isSound, Cond.code yX6_isSound cX6_isSound 2 (some .boolean), Cond.methodLink RX6 136 yX6_bound, Cond.instanceMethod yX6_bound, Cond.selects RX6 yX6_bound yX6_bound, Cond.code yX6_bound cX6_bound 2 (some .int), Cond.methodLink RL 70 yX5_breach, Cond.instanceMethod yX5_breach, Cond.selects RX5 yX5_breach yX5_breach]
def wsL_law_r19 : List Cond := [Cond.code yX5_breach cX5_breach 1 (some .int), Cond.methodLink RX5 151 yX3_firstBreach, Cond.instanceMethod yX3_firstBreach, Cond.selects RX3 yX3_firstBreach yX3_firstBreach, Cond.code yX3_firstBreach cX3_firstBreach 4 (some .int), Cond.methodLink RX3 140 yX3_decisionsOf, Cond.instanceMethod yX3_decisionsOf, Cond.selects RX3 yX3_decisionsOf yX3_decisionsOf, Cond.code yX3_decisionsOf cX3_decisionsOf 5 (some .int), Cond.methodLink RX3 155 yX3_decisionFrom, Cond.methodLink RX3 143 yX3_disagrees, Cond.instanceMethod yX3_disagrees, Cond.selects RX3 yX3_disagrees yX3_disagrees, Cond.code yX3_disagrees cX3_disagrees 3 (some .boolean), Cond.fieldLink RX3 152 "CrashRounds$Rules" "mostDecisions" "I", Cond.methodLink RX3 122 yX3_isSameFor, Cond.instanceMethod yX3_isSameFor, Cond.selects RX3 yX3_isSameFor yX3_isSameFor, Cond.code yX3_isSameFor cX3_isSameFor 5 (some .boolean), Cond.methodLink RX3 146 yX3_isUnfounded, Cond.instanceMethod yX3_isUnfounded, Cond.selects RX3 yX3_isUnfounded yX3_isUnfounded, Cond.code yX3_isUnfounded cX3_isUnfounded 3 (some .boolean), Cond.methodLink RX3 158 yX3_missesSomeOf]
def wsL_law_r20 : List Cond := [Cond.instanceMethod yX3_missesSomeOf, Cond.selects RX3 yX3_missesSomeOf yX3_missesSomeOf, Cond.code yX3_missesSomeOf cX3_missesSomeOf 3 (some .boolean), Cond.methodLink RX3 161 yX3_commitsWrongly, Cond.instanceMethod yX3_commitsWrongly, Cond.selects RX3 yX3_commitsWrongly yX3_commitsWrongly, Cond.code yX3_commitsWrongly cX3_commitsWrongly 2 (some .boolean), Cond.methodLink RX3 164 yX0_asBits, Cond.methodLink RX3 149 yX3_isLate, Cond.instanceMethod yX3_isLate, Cond.selects RX3 yX3_isLate yX3_isLate, Cond.code yX3_isLate cX3_isLate 4 (some .boolean), Cond.methodLink RX3 167 yX3_bound, Cond.methodLink RL 73 yX6_breach, Cond.instanceMethod yX6_breach, Cond.selects RX6 yX6_breach yX6_breach, Cond.code yX6_breach cX6_breach 1 (some .int), Cond.methodLink RX6 152 yX6_breachNow, Cond.instanceMethod yX6_breachNow, Cond.selects RX6 yX6_breachNow yX6_breachNow, Cond.code yX6_breachNow cX6_breachNow 2 (some .int), Cond.methodLink RX6 145 yX6_differ, Cond.instanceMethod yX6_differ, Cond.selects RX6 yX6_differ yX6_differ]
def wsL_law_r21 : List Cond := [Cond.code yX6_differ cX6_differ 7 (some .boolean), Cond.methodLink RX6 139 yX6_isCompared, Cond.instanceMethod yX6_isCompared, Cond.selects RX6 yX6_isCompared yX6_isCompared, Cond.code yX6_isCompared cX6_isCompared 2 (some .boolean), Cond.methodLink RX6 149 yX6_strays, Cond.instanceMethod yX6_strays, Cond.selects RX6 yX6_strays yX6_strays, Cond.code yX6_strays cX6_strays 4 (some .boolean), Cond.methodLink RX6 142 yX6_isInput, Cond.instanceMethod yX6_isInput, Cond.selects RX6 yX6_isInput yX6_isInput, Cond.code yX6_isInput cX6_isInput 4 (some .boolean), Cond.methodLink RL 74 yX5_search, Cond.instanceMethod yX5_search, Cond.selects RX5 yX5_search yX5_search, Cond.code yX5_search cX5_search 2 (some .int), Cond.constantLong RX5 162 (60000), Cond.methodLink RX5 154 yX4_planCount, Cond.instanceMethod yX4_planCount, Cond.selects RX4 yX4_planCount yX4_planCount, Cond.code yX4_planCount cX4_planCount 10 (some .long), Cond.fieldLink RX4 22 "CrashRounds$Rules" "rounds" "I", Cond.fieldLink RX4 28 "CrashRounds$Rules" "processes" "I"]
def wsL_law_r22 : List Cond := [Cond.fieldLink RX4 31 "CrashRounds$Rules" "mostCrashes" "I", Cond.methodLink RX5 158 yX4_inputCount, Cond.instanceMethod yX4_inputCount, Cond.selects RX4 yX4_inputCount yX4_inputCount, Cond.code yX4_inputCount cX4_inputCount 5 (some .long), Cond.methodLink RX5 164 yX4_seek, Cond.instanceMethod yX4_seek, Cond.selects RX4 yX4_seek yX4_seek, Cond.code yX4_seek cX4_seek 12 (some .int), Cond.fieldLink RX4 42 "CrashRounds$Run" "plan" "LCrashRounds$Plan;", Cond.fieldLink RX4 57 "CrashRounds$Run" "inputs" "LCrashRounds$Inputs;", Cond.fieldLink RX4 72 "CrashRounds$Search" "breachFound" "I", Cond.methodLink RX4 34 yX4_planCount, Cond.methodLink RX4 38 yX4_inputCount, Cond.methodLink RX4 46 yX1_clear, Cond.methodLink RX4 51 yX3_begin, Cond.methodLink RX4 54 yX3_makeAllRounds, Cond.methodLink RX4 61 yX0_clear, Cond.methodLink RX4 64 yX3_allDecidedFromSame, Cond.instanceMethod yX3_allDecidedFromSame, Cond.selects RX3 yX3_allDecidedFromSame yX3_allDecidedFromSame, Cond.code yX3_allDecidedFromSame cX3_allDecidedFromSame 3 (some .boolean), Cond.methodLink RX4 68 yX3_firstBreach, Cond.methodLink RX4 75 yX0_advance]
def wsL_law_r23 : List Cond := [Cond.instanceMethod yX0_advance, Cond.selects RX0 yX0_advance yX0_advance, Cond.code yX0_advance cX0_advance 4 none, Cond.methodLink RX4 79 yX2_everyone, Cond.methodLink RX4 82 yX1_advance, Cond.instanceMethod yX1_advance, Cond.selects RX1 yX1_advance yX1_advance, Cond.code yX1_advance cX1_advance 4 none, Cond.methodLink RX1 46 yX1_advanceOne, Cond.instanceMethod yX1_advanceOne, Cond.selects RX1 yX1_advanceOne yX1_advanceOne, Cond.code yX1_advanceOne cX1_advanceOne 6 (some .boolean), Cond.methodLink RX1 49 yX1_nextCrashing, Cond.instanceMethod yX1_nextCrashing, Cond.selects RX1 yX1_nextCrashing yX1_nextCrashing, Cond.code yX1_nextCrashing cX1_nextCrashing 4 (some .int), Cond.methodLink RX1 52 yX1_size, Cond.methodLink RL 77 yX6_search, Cond.instanceMethod yX6_search, Cond.selects RX6 yX6_search yX6_search, Cond.code yX6_search cX6_search 4 (some .int), Cond.constantLong RX6 171 (60000), Cond.methodLink RX6 167 yX6_runsOf, Cond.instanceMethod yX6_runsOf]
def wsL_law_r24 : List Cond := [Cond.selects RX6 yX6_runsOf yX6_runsOf, Cond.code yX6_runsOf cX6_runsOf 10 (some .long), Cond.methodLink RX6 173 yX6_keep, Cond.instanceMethod yX6_keep, Cond.selects RX6 yX6_keep yX6_keep, Cond.code yX6_keep cX6_keep 2 none, Cond.methodLink RX6 176 yX6_searchSet, Cond.instanceMethod yX6_searchSet, Cond.selects RX6 yX6_searchSet yX6_searchSet, Cond.code yX6_searchSet cX6_searchSet 6 (some .int), Cond.methodLink RX6 158 yX6_run, Cond.methodLink RX6 161 yX6_nextInputs, Cond.instanceMethod yX6_nextInputs, Cond.selects RX6 yX6_nextInputs yX6_nextInputs, Cond.code yX6_nextInputs cX6_nextInputs 3 (some .boolean), Cond.methodLink RX6 164 yX6_nextPlan, Cond.instanceMethod yX6_nextPlan, Cond.selects RX6 yX6_nextPlan yX6_nextPlan, Cond.code yX6_nextPlan cX6_nextPlan 3 (some .boolean), Cond.methodLink RX6 155 yX6_nextCrash, Cond.instanceMethod yX6_nextCrash, Cond.selects RX6 yX6_nextCrash yX6_nextCrash, Cond.code yX6_nextCrash cX6_nextCrash 2 (some .boolean), Cond.methodLink RX6 179 yX6_takeBack]
def wsL_law_r25 : List Cond := [Cond.instanceMethod yX6_takeBack, Cond.selects RX6 yX6_takeBack yX6_takeBack, Cond.code yX6_takeBack cX6_takeBack 2 none, Cond.methodLink RL 78 yX5_found, Cond.instanceMethod yX5_found, Cond.selects RX5 yX5_found yX5_found, Cond.code yX5_found cX5_found 3 (some .int), Cond.fieldLink RX5 170 "CrashRounds$Search" "tried" "LCrashRounds$Run;", Cond.methodLink RX5 173 yX5_foundCrash, Cond.instanceMethod yX5_foundCrash, Cond.selects RX5 yX5_foundCrash yX5_foundCrash, Cond.code yX5_foundCrash cX5_foundCrash 5 (some .int), Cond.fieldLink RX5 187 "CrashRounds$Plan" "rounds" "[I", Cond.fieldLink RX5 189 "CrashRounds$Plan" "reaches" "[I", Cond.methodLink RX5 184 yX1_crashingAt, Cond.instanceMethod yX1_crashingAt, Cond.selects RX1 yX1_crashingAt yX1_crashingAt, Cond.code yX1_crashingAt cX1_crashingAt 4 (some .int), Cond.methodLink RL 81 yX6_found, Cond.instanceMethod yX6_found, Cond.selects RX6 yX6_found yX6_found, Cond.code yX6_found cX6_found 6 (some .int), Cond.methodLink RX6 182 yX6_foundCrash, Cond.instanceMethod yX6_foundCrash]
def wsL_law_r26 : List Cond := [Cond.selects RX6 yX6_foundCrash yX6_foundCrash, Cond.code yX6_foundCrash cX6_foundCrash 4 (some .int), Cond.methodLink RL 82 yX5_replay, Cond.instanceMethod yX5_replay, Cond.selects RX5 yX5_replay yX5_replay, Cond.code yX5_replay cX5_replay 1 (some .int), Cond.methodLink RX5 177 yX0_copy, Cond.instanceMethod yX0_copy, Cond.selects RX0 yX0_copy yX0_copy, Cond.code yX0_copy cX0_copy 2 none, Cond.methodLink RX0 21 arraycopyName, Cond.native arraycopyName, Cond.static arraycopyName, Cond.initialized "java/lang/System", Cond.methodLink RX5 181 yX1_copy, Cond.instanceMethod yX1_copy, Cond.selects RX1 yX1_copy yX1_copy, Cond.code yX1_copy cX1_copy 2 none, Cond.methodLink RX1 26 arraycopyName, Cond.methodLink RL 85 yX6_replay, Cond.instanceMethod yX6_replay, Cond.selects RX6 yX6_replay yX6_replay, Cond.code yX6_replay cX6_replay 2 (some .int)]
def wsL_law : List Cond := (wsL_law_r1 ++ (wsL_law_r2 ++ (wsL_law_r3 ++ (wsL_law_r4 ++ (wsL_law_r5 ++ (wsL_law_r6 ++ (wsL_law_r7 ++ (wsL_law_r8 ++ (wsL_law_r9 ++ (wsL_law_r10 ++ (wsL_law_r11 ++ (wsL_law_r12 ++ (wsL_law_r13 ++ (wsL_law_r14 ++ (wsL_law_r15 ++ (wsL_law_r16 ++ (wsL_law_r17 ++ (wsL_law_r18 ++ (wsL_law_r19 ++ (wsL_law_r20 ++ (wsL_law_r21 ++ (wsL_law_r22 ++ (wsL_law_r23 ++ (wsL_law_r24 ++ (wsL_law_r25 ++ wsL_law_r26))))))))))))))))))))))))) ++ wsX50 ++ wsX60 ++ wsX20 ++ wsX30 ++ wsX40 ++ wsX00 ++ wsX10 ++ ([] : List Cond)
theorem mem_r {big : List Cond} (ws : List Cond) (ps : List Nat) (hp : ws = ps.filterMap (fun i => big[i]?)) : ∀ w ∈ ws, w ∈ big := by
  intro w hw
  rw [hp] at hw
  obtain ⟨i, -, hi⟩ := List.mem_filterMap.mp hw
  exact List.mem_of_getElem? hi
set_option maxRecDepth 20000 in
theorem wsL_law_r1_in : ∀ w ∈ wsL_law_r1, w ∈ lw_tbl := mem_r _ [57, 58, 46, 526, 527, 54, 59, 60, 61, 62, 63, 64, 65, 66, 47, 246, 98, 99, 48, 247, 191, 192, 51, 248] (by decide +kernel)
set_option maxRecDepth 20000 in
theorem wsL_law_r2_in : ∀ w ∈ wsL_law_r2, w ∈ lw_tbl := mem_r _ [68, 69, 70, 100, 101, 102, 103, 104, 105, 49, 137, 116, 117, 50, 140, 115, 151, 153, 155, 157, 159, 160, 136, 107] (by decide +kernel)
set_option maxRecDepth 20000 in
theorem wsL_law_r3_in : ∀ w ∈ wsL_law_r3, w ∈ lw_tbl := mem_r _ [108, 109, 110, 119, 120, 121, 124, 126, 193, 194, 195, 196, 199, 197, 200, 198, 211, 213, 0, 214, 138, 142, 203, 215] (by decide +kernel)
set_option maxRecDepth 20000 in
theorem wsL_law_r4_in : ∀ w ∈ wsL_law_r4, w ∈ lw_tbl := mem_r _ [216, 217, 218, 71, 74, 78, 81, 219, 220, 52, 221, 85, 222, 223, 224, 225, 226, 227, 53, 228, 229, 230, 231, 232] (by decide +kernel)
set_option maxRecDepth 20000 in
theorem wsL_law_r5_in : ∀ w ∈ wsL_law_r5, w ∈ lw_tbl := mem_r _ [233, 235, 1, 236, 122, 237, 238, 239, 240, 241, 143, 145, 147, 149, 76, 242, 243, 244, 245, 528, 529, 530, 531, 552] (by decide +kernel)
set_option maxRecDepth 20000 in
theorem wsL_law_r6_in : ∀ w ∈ wsL_law_r6, w ∈ lw_tbl := mem_r _ [553, 554, 559, 560, 561, 562, 563, 564, 565, 567, 568, 569, 532, 533, 534, 535, 547, 548, 549, 550, 551, 566, 536, 537] (by decide +kernel)
set_option maxRecDepth 20000 in
theorem wsL_law_r7_in : ∀ w ∈ wsL_law_r7, w ∈ lw_tbl := mem_r _ [538, 539, 541, 18, 542, 555, 556, 557, 558, 543, 545, 19, 546, 256, 257, 258, 259, 84, 260, 261, 262, 266, 267, 268] (by decide +kernel)
set_option maxRecDepth 20000 in
theorem wsL_law_r8_in : ∀ w ∈ wsL_law_r8, w ∈ lw_tbl := mem_r _ [263, 264, 265, 617, 269, 270, 271, 272, 111, 273, 275, 2, 276, 144, 277, 278, 279, 280, 618, 619, 620, 621, 622, 624] (by decide +kernel)
set_option maxRecDepth 20000 in
theorem wsL_law_r9_in : ∀ w ∈ wsL_law_r9, w ∈ lw_tbl := mem_r _ [20, 625, 281, 282, 283, 284, 123, 80, 285, 286, 287, 288, 289, 290, 291, 292, 293, 294, 55, 295, 296, 297, 298, 299] (by decide +kernel)
set_option maxRecDepth 20000 in
theorem wsL_law_r10_in : ∀ w ∈ wsL_law_r10, w ∈ lw_tbl := mem_r _ [300, 301, 302, 626, 627, 628, 629, 630, 632, 21, 633, 303, 304, 305, 306, 634, 635, 636, 637, 307, 308, 309, 310, 311] (by decide +kernel)
set_option maxRecDepth 20000 in
theorem wsL_law_r11_in : ∀ w ∈ wsL_law_r11, w ∈ lw_tbl := mem_r _ [312, 313, 314, 86, 315, 316, 317, 318, 319, 320, 321, 322, 325, 327, 3, 328, 161, 127, 330, 332, 4, 333, 72, 334] (by decide +kernel)
set_option maxRecDepth 20000 in
theorem wsL_law_r12_in : ∀ w ∈ wsL_law_r12, w ∈ lw_tbl := mem_r _ [335, 337, 5, 338, 339, 341, 6, 342, 343, 344, 346, 7, 347, 638, 639, 640, 641, 642, 644, 22, 645, 646, 648, 23] (by decide +kernel)
set_option maxRecDepth 20000 in
theorem wsL_law_r13_in : ∀ w ∈ wsL_law_r13, w ∈ lw_tbl := mem_r _ [649, 650, 652, 24, 653, 654, 655, 656, 657, 659, 25, 660, 661, 663, 26, 664, 665, 667, 27, 668, 669, 671, 28, 672] (by decide +kernel)
set_option maxRecDepth 20000 in
theorem wsL_law_r14_in : ∀ w ∈ wsL_law_r14, w ∈ lw_tbl := mem_r _ [348, 349, 350, 351, 352, 353, 354, 355, 356, 673, 674, 675, 676, 357, 358, 359, 360, 677, 678, 679, 680, 361, 362, 363] (by decide +kernel)
set_option maxRecDepth 20000 in
theorem wsL_law_r15_in : ∀ w ∈ wsL_law_r15, w ∈ lw_tbl := mem_r _ [364, 156, 158, 365, 366, 367, 368, 369, 370, 371, 372, 681, 682, 683, 684, 374, 375, 376, 377, 685, 686, 687, 688, 378] (by decide +kernel)
set_option maxRecDepth 20000 in
theorem wsL_law_r16_in : ∀ w ∈ wsL_law_r16, w ∈ lw_tbl := mem_r _ [379, 380, 381, 152, 73, 382, 383, 384, 385, 386, 689, 690, 691, 692, 387, 388, 389, 390, 693, 694, 695, 696, 391, 392] (by decide +kernel)
set_option maxRecDepth 20000 in
theorem wsL_law_r17_in : ∀ w ∈ wsL_law_r17, w ∈ lw_tbl := mem_r _ [393, 394, 154, 697, 698, 699, 700, 395, 396, 397, 398, 77, 146, 148, 150, 399, 400, 401, 402, 403, 404, 405, 406, 407] (by decide +kernel)
set_option maxRecDepth 20000 in
theorem wsL_law_r18_in : ∀ w ∈ wsL_law_r18, w ∈ lw_tbl := mem_r _ [408, 409, 410, 412, 411, 701, 702, 703, 704, 705, 707, 29, 708, 709, 711, 30, 712, 713, 715, 31, 716, 413, 414, 415] (by decide +kernel)
set_option maxRecDepth 20000 in
theorem wsL_law_r19_in : ∀ w ∈ wsL_law_r19, w ∈ lw_tbl := mem_r _ [416, 417, 418, 419, 420, 421, 423, 8, 424, 425, 426, 428, 9, 429, 82, 430, 432, 10, 433, 434, 436, 11, 437, 438] (by decide +kernel)
set_option maxRecDepth 20000 in
theorem wsL_law_r20_in : ∀ w ∈ wsL_law_r20, w ∈ lw_tbl := mem_r _ [440, 12, 441, 442, 444, 13, 445, 446, 447, 449, 14, 450, 451, 717, 718, 719, 720, 721, 723, 32, 724, 725, 727, 33] (by decide +kernel)
set_option maxRecDepth 20000 in
theorem wsL_law_r21_in : ∀ w ∈ wsL_law_r21, w ∈ lw_tbl := mem_r _ [728, 729, 731, 34, 732, 733, 735, 35, 736, 737, 739, 36, 740, 452, 453, 454, 455, 464, 456, 457, 458, 459, 83, 75] (by decide +kernel)
set_option maxRecDepth 20000 in
theorem wsL_law_r22_in : ∀ w ∈ wsL_law_r22, w ∈ lw_tbl := mem_r _ [79, 460, 461, 462, 463, 465, 466, 467, 468, 141, 139, 202, 469, 470, 471, 472, 473, 474, 475, 476, 477, 478, 479, 480] (by decide +kernel)
set_option maxRecDepth 20000 in
theorem wsL_law_r23_in : ∀ w ∈ wsL_law_r23, w ∈ lw_tbl := mem_r _ [481, 482, 483, 484, 485, 486, 487, 488, 489, 491, 15, 492, 493, 495, 16, 496, 497, 741, 742, 743, 744, 749, 745, 747] (by decide +kernel)
set_option maxRecDepth 20000 in
theorem wsL_law_r24_in : ∀ w ∈ wsL_law_r24, w ∈ lw_tbl := mem_r _ [37, 748, 750, 752, 38, 753, 754, 756, 39, 757, 758, 759, 761, 40, 762, 763, 765, 41, 766, 767, 769, 42, 770, 771] (by decide +kernel)
set_option maxRecDepth 20000 in
theorem wsL_law_r25_in : ∀ w ∈ wsL_law_r25, w ∈ lw_tbl := mem_r _ [773, 43, 774, 498, 499, 500, 501, 201, 502, 504, 17, 505, 125, 128, 506, 507, 508, 509, 775, 776, 777, 778, 779, 781] (by decide +kernel)
set_option maxRecDepth 20000 in
theorem wsL_law_r26_in : ∀ w ∈ wsL_law_r26, w ∈ lw_tbl := mem_r _ [44, 782, 510, 511, 512, 513, 514, 515, 516, 517, 518, 520, 519, 56, 521, 522, 523, 524, 525, 783, 784, 785, 786] (by decide +kernel)
set_option maxRecDepth 20000 in
theorem inX0 : ∀ w ∈ wsX00, w ∈ lw_tbl := by decide +kernel
set_option maxRecDepth 20000 in
theorem inX1 : ∀ w ∈ wsX10, w ∈ lw_tbl := by decide +kernel
set_option maxRecDepth 20000 in
theorem inX2 : ∀ w ∈ wsX20, w ∈ lw_tbl := by decide +kernel
set_option maxRecDepth 20000 in
theorem inX3 : ∀ w ∈ wsX30, w ∈ lw_tbl := by decide +kernel
set_option maxRecDepth 20000 in
theorem inX4 : ∀ w ∈ wsX40, w ∈ lw_tbl := by decide +kernel
set_option maxRecDepth 20000 in
theorem inX5 : ∀ w ∈ wsX50, w ∈ lw_tbl := by decide +kernel
set_option maxRecDepth 20000 in
theorem inX6 : ∀ w ∈ wsX60, w ∈ lw_tbl := by decide +kernel
theorem wsL_law_in : ∀ w ∈ wsL_law, w ∈ lw_tbl := by
  intro w h
  unfold wsL_law at h
  simp only [List.mem_append, List.not_mem_nil, or_false] at h
  rcases h with (((((((h | (h | (h | (h | (h | (h | (h | (h | (h | (h | (h | (h | (h | (h | (h | (h | (h | (h | (h | (h | (h | (h | (h | (h | (h | (h)))))))))))))))))))))))))) | h) | h) | h) | h) | h) | h) | h
  · exact wsL_law_r1_in w h
  · exact wsL_law_r2_in w h
  · exact wsL_law_r3_in w h
  · exact wsL_law_r4_in w h
  · exact wsL_law_r5_in w h
  · exact wsL_law_r6_in w h
  · exact wsL_law_r7_in w h
  · exact wsL_law_r8_in w h
  · exact wsL_law_r9_in w h
  · exact wsL_law_r10_in w h
  · exact wsL_law_r11_in w h
  · exact wsL_law_r12_in w h
  · exact wsL_law_r13_in w h
  · exact wsL_law_r14_in w h
  · exact wsL_law_r15_in w h
  · exact wsL_law_r16_in w h
  · exact wsL_law_r17_in w h
  · exact wsL_law_r18_in w h
  · exact wsL_law_r19_in w h
  · exact wsL_law_r20_in w h
  · exact wsL_law_r21_in w h
  · exact wsL_law_r22_in w h
  · exact wsL_law_r23_in w h
  · exact wsL_law_r24_in w h
  · exact wsL_law_r25_in w h
  · exact wsL_law_r26_in w h
  · exact inX5 w h
  · exact inX6 w h
  · exact inX2 w h
  · exact inX3 w h
  · exact inX4 w h
  · exact inX0 w h
  · exact inX1 w h
theorem inlX0 : ∀ w ∈ wsX00, w ∈ wsL_law := fun _ h => List.mem_append_left _ (List.mem_append_left _ (List.mem_append_right _ h))
theorem inlX1 : ∀ w ∈ wsX10, w ∈ wsL_law := fun _ h => List.mem_append_left _ (List.mem_append_right _ h)
theorem inlX2 : ∀ w ∈ wsX20, w ∈ wsL_law := fun _ h => List.mem_append_left _ (List.mem_append_left _ (List.mem_append_left _ (List.mem_append_left _ (List.mem_append_left _ (List.mem_append_right _ h)))))
theorem inlX3 : ∀ w ∈ wsX30, w ∈ wsL_law := fun _ h => List.mem_append_left _ (List.mem_append_left _ (List.mem_append_left _ (List.mem_append_left _ (List.mem_append_right _ h))))
theorem inlX4 : ∀ w ∈ wsX40, w ∈ wsL_law := fun _ h => List.mem_append_left _ (List.mem_append_left _ (List.mem_append_left _ (List.mem_append_right _ h)))
theorem inlX5 : ∀ w ∈ wsX50, w ∈ wsL_law := fun _ h => List.mem_append_left _ (List.mem_append_left _ (List.mem_append_left _ (List.mem_append_left _ (List.mem_append_left _ (List.mem_append_left _ (List.mem_append_left _ (List.mem_append_right _ h)))))))
theorem inlX6 : ∀ w ∈ wsX60, w ∈ wsL_law := fun _ h => List.mem_append_left _ (List.mem_append_left _ (List.mem_append_left _ (List.mem_append_left _ (List.mem_append_left _ (List.mem_append_left _ (List.mem_append_right _ h))))))
set_option maxRecDepth 20000 in
theorem ggL_law_X5_init : GoodIn wsL_law wsX5_init := goodIn_r _ [8, 9, 10, 11, 12, 13, 14, 15, 16, 17, 18, 19, 20, 21, 22, 23, 24, 25, 26, 27, 28, 29, 30, 31, 32, 33, 34, 35, 36, 37, 38, 39, 40, 41, 42, 43, 44, 45, 46, 47, 48, 49, 50, 51, 52, 53, 54, 55, 56, 57, 58, 59, 60, 61, 62, 63, 64, 65, 66, 2, 67, 68, 69, 70, 71, 72, 73, 74, 75, 76, 77, 78, 79, 80, 81, 82, 83, 84, 85, 86, 87, 88, 89, 90, 91, 92, 93, 94, 95, 96, 97, 98, 99, 100, 101, 102, 103, 104, 105, 106, 107, 108, 109, 110, 111, 112, 113, 114, 649, 650, 651, 652, 653, 623, 624, 625, 654, 655, 656, 657, 658, 659, 660, 661, 662, 663, 664, 665, 666, 667, 668, 669, 670, 671, 672, 673, 674] (by decide +kernel) (by decide +kernel)
set_option maxRecDepth 20000 in
theorem gL_law_X5_init : GoodIn wsL_law (wsX5_init) := ggL_law_X5_init
set_option maxRecDepth 20000 in
theorem ggL_law_X6_init : GoodIn wsL_law wsX6_init := goodIn_r _ [117, 118, 10, 11, 39, 119, 120, 121, 122, 123, 124, 125, 126, 127, 128, 129, 130, 131, 132, 133, 134, 5, 135, 136, 137, 138, 139, 140, 141, 142, 143, 144, 145, 146, 147, 148, 149, 150, 151, 152, 153, 154, 155, 156, 626, 627, 628, 629, 630, 631, 632, 633, 634, 635, 636, 637, 638, 639, 640, 641, 642, 643, 644, 645, 646, 647, 648] (by decide +kernel) (by decide +kernel)
set_option maxRecDepth 20000 in
theorem gL_law_X6_init : GoodIn wsL_law (wsX6_init) := ggL_law_X6_init
set_option maxRecDepth 20000 in
theorem ggL_law_X5_start : GoodIn wsL_law wsX5_start := goodIn_r _ [160, 15, 161, 162, 163, 2, 164, 165, 166, 81, 167, 168, 169, 170, 64, 65, 66, 67, 19, 68, 69, 23, 70, 71, 72, 73, 14, 74, 75, 76, 77, 78, 79, 80, 82, 83, 84, 85, 86, 33, 87, 50, 88, 89, 90, 91, 92, 93, 94, 37, 95, 96, 97, 98, 99, 100, 54, 55, 101, 102, 103, 104, 18, 105, 106, 107, 46, 108, 109, 40, 41, 110, 42, 43, 111, 112, 113, 114, 623, 624, 625, 649, 650, 651, 652, 653, 654, 655, 656, 657, 658, 659, 660, 661, 662, 663, 664, 665, 666, 667, 668, 669, 670, 671, 672, 673, 674] (by decide +kernel) (by decide +kernel)
set_option maxRecDepth 20000 in
theorem gL_law_X5_start : GoodIn wsL_law (wsV RL 13 RX5 yX5_start wsX5_start) := goodIn_app (goodIn_of _ (by decide +kernel)) ggL_law_X5_start
set_option maxRecDepth 20000 in
theorem ggL_law_X6_start : GoodIn wsL_law wsX6_start := goodIn_r _ [135, 136, 137, 138, 139, 140, 119, 120, 121, 141, 142, 143, 5, 144, 145, 146, 147, 148, 149, 150, 151, 152, 122, 123, 124, 125, 153, 154, 155, 156, 626, 627, 628, 629, 630, 631, 632, 633, 634, 635, 636, 637, 638, 639, 640, 641, 642, 643, 644, 645, 646, 647, 648] (by decide +kernel) (by decide +kernel)
set_option maxRecDepth 20000 in
theorem gL_law_X6_start : GoodIn wsL_law (wsV RL 17 RX6 yX6_start wsX6_start) := goodIn_app (goodIn_of _ (by decide +kernel)) ggL_law_X6_start
set_option maxRecDepth 20000 in
theorem ggL_law_X5_input : GoodIn wsL_law wsX5_input := goodIn_r _ [175, 19, 68, 176, 177, 178, 179, 2, 180, 15, 181, 182, 183, 184, 14, 185, 76, 168, 169, 170, 623, 624, 625, 654, 655, 656, 657, 658, 659, 660, 661, 662, 663, 664, 665, 666, 667, 671, 649, 650, 651, 652, 653] (by decide +kernel) (by decide +kernel)
set_option maxRecDepth 20000 in
theorem gL_law_X5_input : GoodIn wsL_law (wsV RL 18 RX5 yX5_input wsX5_input) := goodIn_app (goodIn_of _ (by decide +kernel)) ggL_law_X5_input
set_option maxRecDepth 20000 in
theorem ggL_law_X6_input : GoodIn wsL_law wsX6_input := goodIn_r _ [189, 149, 119, 190, 191, 192, 5, 193, 137, 142, 143, 144, 145, 146, 147, 148, 150, 151, 152, 122, 136, 123, 124, 125, 153, 154, 155, 156, 626, 627, 628, 629, 630, 631, 632, 633, 634, 635, 636, 637, 638, 639, 640, 641, 642, 643, 644, 645, 646, 647, 648] (by decide +kernel) (by decide +kernel)
set_option maxRecDepth 20000 in
theorem gL_law_X6_input : GoodIn wsL_law (wsV RL 22 RX6 yX6_input wsX6_input) := goodIn_app (goodIn_of _ (by decide +kernel)) ggL_law_X6_input
set_option maxRecDepth 20000 in
theorem ggL_law_X5_crash : GoodIn wsL_law wsX5_crash := goodIn_r _ [197, 15, 19, 69, 198, 199, 177, 178, 179, 2, 180, 181, 182, 183, 184, 14, 185, 76, 168, 169, 170, 200, 112, 113, 114, 201, 202, 203, 204, 205, 206, 37, 207, 100, 208, 209, 210, 211, 212, 213, 214, 215, 216, 217, 218, 54, 55, 623, 624, 625, 654, 655, 656, 657, 658, 659, 660, 661, 662, 663, 664, 665, 666, 667, 672, 673, 674, 649, 650, 651, 652, 653] (by decide +kernel) (by decide +kernel)
set_option maxRecDepth 20000 in
theorem gL_law_X5_crash : GoodIn wsL_law (wsV RL 23 RX5 yX5_crash wsX5_crash) := goodIn_app (goodIn_of _ (by decide +kernel)) ggL_law_X5_crash
set_option maxRecDepth 20000 in
theorem ggL_law_X6_crash : GoodIn wsL_law wsX6_crash := goodIn_r _ [222, 149, 120, 138, 121, 190, 191, 192, 5, 193, 137, 142, 143, 144, 153, 154, 155, 156, 223, 224, 225, 226, 626, 627, 628, 629, 630, 631, 632, 633, 634, 635, 636, 637, 638, 639, 640, 641, 642, 643, 644, 645, 646, 647, 648] (by decide +kernel) (by decide +kernel)
set_option maxRecDepth 20000 in
theorem gL_law_X6_crash : GoodIn wsL_law (wsV RL 27 RX6 yX6_crash wsX6_crash) := goodIn_app (goodIn_of _ (by decide +kernel)) ggL_law_X6_crash
set_option maxRecDepth 20000 in
theorem ggL_law_X5_spare : GoodIn wsL_law wsX5_spare := goodIn_r _ [230, 19, 69, 198, 177, 178, 179, 2, 180, 15, 181, 182, 183, 184, 14, 185, 76, 201, 202, 203, 623, 624, 625, 654, 655, 656, 657, 658, 659, 660, 661, 662, 663, 664, 665, 666, 667, 672, 673, 674, 649, 650, 651, 652, 653] (by decide +kernel) (by decide +kernel)
set_option maxRecDepth 20000 in
theorem gL_law_X5_spare : GoodIn wsL_law (wsV RL 28 RX5 yX5_spare wsX5_spare) := goodIn_app (goodIn_of _ (by decide +kernel)) ggL_law_X5_spare
set_option maxRecDepth 20000 in
theorem ggL_law_X6_spare : GoodIn wsL_law wsX6_spare := goodIn_r _ [234, 149, 120, 121, 190, 191, 192, 5, 193, 137, 626, 627, 628, 629, 630, 631, 632, 633, 634, 635, 636, 637, 638, 639, 640, 641, 642, 643, 644, 645, 646, 647, 648] (by decide +kernel) (by decide +kernel)
set_option maxRecDepth 20000 in
theorem gL_law_X6_spare : GoodIn wsL_law (wsV RL 32 RX6 yX6_spare wsX6_spare) := goodIn_app (goodIn_of _ (by decide +kernel)) ggL_law_X6_spare
set_option maxRecDepth 20000 in
theorem ggL_law_X5_step : GoodIn wsL_law wsX5_step := goodIn_r _ [238, 19, 181, 239, 240, 241, 18, 242, 106, 46, 243, 244, 245, 246, 247, 38, 108, 110, 248, 249, 250, 37, 251, 100, 54, 202, 2, 203, 169, 170, 252, 253, 254, 255, 109, 256, 44, 40, 45, 257, 107, 258, 259, 260, 261, 262, 111, 112, 113, 14, 114, 76, 263, 209, 210, 211, 212, 213, 214, 264, 265, 266, 267, 41, 268, 269, 270, 271, 272, 273, 274, 275, 276, 42, 43, 623, 624, 625, 654, 655, 656, 657, 658, 659, 660, 661, 662, 663, 664, 665, 666, 667, 649, 650, 651, 652, 653, 672, 673, 674] (by decide +kernel) (by decide +kernel)
set_option maxRecDepth 20000 in
theorem gL_law_X5_step : GoodIn wsL_law (wsV RL 33 RX5 yX5_step wsX5_step) := goodIn_app (goodIn_of _ (by decide +kernel)) ggL_law_X5_step
set_option maxRecDepth 20000 in
theorem ggL_law_X6_step : GoodIn wsL_law wsX6_step := goodIn_r _ [280, 149, 140, 281, 282, 283, 5, 284, 152, 137, 120, 151, 285, 286, 287, 288, 126, 122, 136, 127, 121, 150, 289, 290, 291, 292, 153, 154, 155, 156, 293, 294, 295, 296, 297, 298, 299, 123, 300, 301, 302, 303, 304, 305, 306, 307, 125, 124, 308, 309, 310, 311, 119, 626, 627, 628, 629, 630, 631, 632, 633, 634, 635, 636, 637, 638, 639, 640, 641, 642, 643, 644, 645, 646, 647, 648] (by decide +kernel) (by decide +kernel)
set_option maxRecDepth 20000 in
theorem gL_law_X6_step : GoodIn wsL_law (wsV RL 37 RX6 yX6_step wsX6_step) := goodIn_app (goodIn_of _ (by decide +kernel)) ggL_law_X6_step
set_option maxRecDepth 20000 in
theorem ggL_law_X5_run : GoodIn wsL_law wsX5_run := goodIn_r _ [315, 19, 15, 161, 316, 317, 318, 18, 319, 106, 46, 243, 320, 245, 246, 247, 38, 108, 110, 248, 249, 250, 37, 251, 100, 54, 202, 2, 203, 169, 170, 252, 253, 254, 255, 109, 256, 44, 40, 45, 257, 107, 258, 259, 260, 261, 262, 111, 112, 113, 14, 114, 76, 263, 209, 210, 211, 212, 213, 214, 264, 265, 266, 267, 41, 268, 269, 270, 271, 272, 240, 241, 242, 273, 274, 275, 276, 42, 43, 623, 624, 625, 649, 650, 651, 652, 653, 654, 655, 656, 657, 658, 659, 660, 661, 662, 663, 664, 665, 666, 667, 672, 673, 674] (by decide +kernel) (by decide +kernel)
set_option maxRecDepth 20000 in
theorem gL_law_X5_run : GoodIn wsL_law (wsV RL 38 RX5 yX5_run wsX5_run) := goodIn_app (goodIn_of _ (by decide +kernel)) ggL_law_X5_run
set_option maxRecDepth 20000 in
theorem ggL_law_X6_run : GoodIn wsL_law wsX6_run := goodIn_r _ [324, 149, 140, 281, 282, 283, 5, 284, 152, 137, 120, 151, 285, 286, 287, 288, 126, 122, 136, 127, 121, 150, 289, 290, 291, 292, 153, 154, 155, 156, 293, 294, 295, 296, 297, 298, 299, 123, 300, 301, 302, 303, 304, 305, 306, 307, 125, 124, 308, 309, 310, 311, 119, 626, 627, 628, 629, 630, 631, 632, 633, 634, 635, 636, 637, 638, 639, 640, 641, 642, 643, 644, 645, 646, 647, 648] (by decide +kernel) (by decide +kernel)
set_option maxRecDepth 20000 in
theorem gL_law_X6_run : GoodIn wsL_law (wsV RL 41 RX6 yX6_run wsX6_run) := goodIn_app (goodIn_of _ (by decide +kernel)) ggL_law_X6_run
set_option maxRecDepth 20000 in
theorem ggL_law_X5_again : GoodIn wsL_law wsX5_again := goodIn_r _ [328, 19, 181, 102, 103, 104, 18, 105, 106, 107, 46, 108, 109, 40, 41, 110, 42, 43, 111, 112, 113, 14, 114, 76, 623, 624, 625, 654, 655, 656, 657, 658, 659, 660, 661, 662, 663, 664, 665, 666, 667, 649, 650, 651, 652, 653] (by decide +kernel) (by decide +kernel)
set_option maxRecDepth 20000 in
theorem gL_law_X5_again : GoodIn wsL_law (wsV RL 42 RX5 yX5_again wsX5_again) := goodIn_app (goodIn_of _ (by decide +kernel)) ggL_law_X5_again
set_option maxRecDepth 20000 in
theorem ggL_law_X6_again : GoodIn wsL_law wsX6_again := goodIn_r _ [332, 149, 145, 146, 147, 5, 148, 150, 151, 152, 122, 136, 119, 123, 137, 124, 125, 153, 154, 155, 156, 626, 627, 628, 629, 630, 631, 632, 633, 634, 635, 636, 637, 638, 639, 640, 641, 642, 643, 644, 645, 646, 647, 648] (by decide +kernel) (by decide +kernel)
set_option maxRecDepth 20000 in
theorem gL_law_X6_again : GoodIn wsL_law (wsV RL 45 RX6 yX6_again wsX6_again) := goodIn_app (goodIn_of _ (by decide +kernel)) ggL_law_X6_again
set_option maxRecDepth 20000 in
theorem ggL_law_X5_decided : GoodIn wsL_law wsX5_decided := goodIn_r _ [336, 15, 19, 337, 338, 182, 183, 184, 14, 185, 76, 339, 340, 341, 18, 342, 46, 262, 34, 263, 209, 210, 211, 212, 213, 214, 111, 112, 113, 114, 343, 344, 345, 33, 346, 50, 202, 2, 203, 623, 624, 625, 654, 655, 656, 657, 658, 659, 660, 661, 662, 663, 664, 665, 666, 667, 649, 650, 651, 652, 653, 671] (by decide +kernel) (by decide +kernel)
set_option maxRecDepth 20000 in
theorem gL_law_X5_decided : GoodIn wsL_law (wsV RL 46 RX5 yX5_decided wsX5_decided) := goodIn_app (goodIn_of _ (by decide +kernel)) ggL_law_X5_decided
set_option maxRecDepth 20000 in
theorem ggL_law_X6_decided : GoodIn wsL_law wsX6_decided := goodIn_r _ [350, 124, 190, 191, 192, 5, 193, 137, 626, 627, 628, 629, 630, 631, 632, 633, 634, 635, 636, 637, 638, 639, 640, 641, 642, 643, 644, 645, 646, 647, 648] (by decide +kernel) (by decide +kernel)
set_option maxRecDepth 20000 in
theorem gL_law_X6_decided : GoodIn wsL_law (wsV RL 49 RX6 yX6_decided wsX6_decided) := goodIn_app (goodIn_of _ (by decide +kernel)) ggL_law_X6_decided
set_option maxRecDepth 20000 in
theorem ggL_law_X5_decidedIn : GoodIn wsL_law wsX5_decidedIn := goodIn_r _ [354, 15, 19, 337, 182, 183, 184, 14, 185, 76, 623, 624, 625, 654, 655, 656, 657, 658, 659, 660, 661, 662, 663, 664, 665, 666, 667, 649, 650, 651, 652, 653] (by decide +kernel) (by decide +kernel)
set_option maxRecDepth 20000 in
theorem gL_law_X5_decidedIn : GoodIn wsL_law (wsV RL 50 RX5 yX5_decidedIn wsX5_decidedIn) := goodIn_app (goodIn_of _ (by decide +kernel)) ggL_law_X5_decidedIn
set_option maxRecDepth 20000 in
theorem ggL_law_X6_decidedIn : GoodIn wsL_law wsX6_decidedIn := goodIn_r _ [358, 125, 190, 191, 192, 5, 193, 137, 626, 627, 628, 629, 630, 631, 632, 633, 634, 635, 636, 637, 638, 639, 640, 641, 642, 643, 644, 645, 646, 647, 648] (by decide +kernel) (by decide +kernel)
set_option maxRecDepth 20000 in
theorem gL_law_X6_decidedIn : GoodIn wsL_law (wsV RL 53 RX6 yX6_decidedIn wsX6_decidedIn) := goodIn_app (goodIn_of _ (by decide +kernel)) ggL_law_X6_decidedIn
set_option maxRecDepth 20000 in
theorem ggL_law_X5_knows : GoodIn wsL_law wsX5_knows := goodIn_r _ [362, 15, 19, 363, 364, 68, 182, 183, 184, 14, 185, 76, 365, 366, 367, 33, 368, 50, 202, 2, 203, 369, 344, 345, 346, 623, 624, 625, 654, 655, 656, 657, 658, 659, 660, 661, 662, 663, 664, 665, 666, 667, 649, 650, 651, 652, 653, 671] (by decide +kernel) (by decide +kernel)
set_option maxRecDepth 20000 in
theorem gL_law_X5_knows : GoodIn wsL_law (wsV RL 54 RX5 yX5_knows wsX5_knows) := goodIn_app (goodIn_of _ (by decide +kernel)) ggL_law_X5_knows
set_option maxRecDepth 20000 in
theorem ggL_law_X6_knows : GoodIn wsL_law wsX6_knows := goodIn_r _ [373, 122, 190, 191, 192, 5, 193, 137, 626, 627, 628, 629, 630, 631, 632, 633, 634, 635, 636, 637, 638, 639, 640, 641, 642, 643, 644, 645, 646, 647, 648] (by decide +kernel) (by decide +kernel)
set_option maxRecDepth 20000 in
theorem gL_law_X6_knows : GoodIn wsL_law (wsV RL 57 RX6 yX6_knows wsX6_knows) := goodIn_app (goodIn_of _ (by decide +kernel)) ggL_law_X6_knows
set_option maxRecDepth 20000 in
theorem ggL_law_X5_vector : GoodIn wsL_law wsX5_vector := goodIn_r _ [377, 15, 364, 19, 363, 68, 176, 182, 183, 184, 14, 185, 76, 201, 202, 2, 203, 623, 624, 625, 649, 650, 651, 652, 653, 654, 655, 656, 657, 658, 659, 660, 661, 662, 663, 664, 665, 666, 667, 671] (by decide +kernel) (by decide +kernel)
set_option maxRecDepth 20000 in
theorem gL_law_X5_vector : GoodIn wsL_law (wsV RL 58 RX5 yX5_vector wsX5_vector) := goodIn_app (goodIn_of _ (by decide +kernel)) ggL_law_X5_vector
set_option maxRecDepth 20000 in
theorem ggL_law_X6_vector : GoodIn wsL_law wsX6_vector := goodIn_r _ [381, 136, 122, 119, 190, 191, 192, 5, 193, 137, 626, 627, 628, 629, 630, 631, 632, 633, 634, 635, 636, 637, 638, 639, 640, 641, 642, 643, 644, 645, 646, 647, 648] (by decide +kernel) (by decide +kernel)
set_option maxRecDepth 20000 in
theorem gL_law_X6_vector : GoodIn wsL_law (wsV RL 61 RX6 yX6_vector wsX6_vector) := goodIn_app (goodIn_of _ (by decide +kernel)) ggL_law_X6_vector
set_option maxRecDepth 20000 in
theorem ggL_law_X5_heard : GoodIn wsL_law wsX5_heard := goodIn_r _ [385, 15, 19, 386, 182, 183, 184, 14, 185, 76, 623, 624, 625, 654, 655, 656, 657, 658, 659, 660, 661, 662, 663, 664, 665, 666, 667, 649, 650, 651, 652, 653] (by decide +kernel) (by decide +kernel)
set_option maxRecDepth 20000 in
theorem gL_law_X5_heard : GoodIn wsL_law (wsV RL 62 RX5 yX5_heard wsX5_heard) := goodIn_app (goodIn_of _ (by decide +kernel)) ggL_law_X5_heard
set_option maxRecDepth 20000 in
theorem ggL_law_X6_heard : GoodIn wsL_law wsX6_heard := goodIn_r _ [390, 123, 190, 191, 192, 5, 193, 137, 626, 627, 628, 629, 630, 631, 632, 633, 634, 635, 636, 637, 638, 639, 640, 641, 642, 643, 644, 645, 646, 647, 648] (by decide +kernel) (by decide +kernel)
set_option maxRecDepth 20000 in
theorem gL_law_X6_heard : GoodIn wsL_law (wsV RL 65 RX6 yX6_heard wsX6_heard) := goodIn_app (goodIn_of _ (by decide +kernel)) ggL_law_X6_heard
set_option maxRecDepth 20000 in
theorem ggL_law_X5_count : GoodIn wsL_law wsX5_count := goodIn_r _ [394, 15, 395, 199, 161, 19, 181, 396, 397, 398, 399, 400, 401, 18, 402, 46, 110, 403, 404, 405, 406, 38, 243, 111, 112, 113, 14, 114, 76, 248, 249, 250, 37, 251, 100, 54, 202, 2, 203, 169, 170, 263, 209, 210, 211, 212, 213, 214, 407, 408, 409, 410, 262, 411, 166, 81, 167, 412, 623, 624, 625, 649, 650, 651, 652, 653, 654, 655, 656, 657, 658, 659, 660, 661, 662, 663, 664, 665, 666, 667, 672, 673, 674] (by decide +kernel) (by decide +kernel)
set_option maxRecDepth 20000 in
theorem gL_law_X5_count : GoodIn wsL_law (wsV RL 66 RX5 yX5_count wsX5_count) := goodIn_app (goodIn_of _ (by decide +kernel)) ggL_law_X5_count
set_option maxRecDepth 20000 in
theorem ggL_law_X6_count : GoodIn wsL_law wsX6_count := goodIn_r _ [416, 137, 138, 140, 149, 150, 151, 152, 417, 418, 419, 5, 420, 421, 422, 423, 424, 120, 425, 426, 427, 428, 136, 626, 627, 628, 629, 630, 631, 632, 633, 634, 635, 636, 637, 638, 639, 640, 641, 642, 643, 644, 645, 646, 647, 648] (by decide +kernel) (by decide +kernel)
set_option maxRecDepth 20000 in
theorem gL_law_X6_count : GoodIn wsL_law (wsV RL 69 RX6 yX6_count wsX6_count) := goodIn_app (goodIn_of _ (by decide +kernel)) ggL_law_X6_count
set_option maxRecDepth 20000 in
theorem ggL_law_X5_breach : GoodIn wsL_law wsX5_breach := goodIn_r _ [432, 19, 239, 240, 241, 18, 242, 106, 46, 243, 433, 434, 435, 436, 262, 403, 404, 405, 406, 38, 111, 112, 113, 14, 114, 76, 248, 249, 250, 37, 251, 100, 54, 202, 2, 203, 169, 170, 437, 438, 439, 440, 110, 42, 43, 441, 340, 341, 342, 34, 263, 209, 210, 211, 212, 213, 214, 343, 344, 345, 33, 346, 50, 442, 443, 444, 445, 40, 446, 447, 448, 449, 450, 451, 452, 453, 454, 455, 456, 457, 458, 459, 460, 461, 462, 412, 400, 401, 402, 463, 366, 367, 368, 464, 465, 466, 467, 468, 408, 409, 410, 411, 166, 81, 167, 623, 624, 625, 654, 655, 656, 657, 658, 659, 660, 661, 662, 663, 664, 665, 666, 667, 649, 650, 651, 652, 653, 672, 673, 674, 671] (by decide +kernel) (by decide +kernel)
set_option maxRecDepth 20000 in
theorem gL_law_X5_breach : GoodIn wsL_law (wsV RL 70 RX5 yX5_breach wsX5_breach) := goodIn_app (goodIn_of _ (by decide +kernel)) ggL_law_X5_breach
set_option maxRecDepth 20000 in
theorem ggL_law_X6_breach : GoodIn wsL_law wsX6_breach := goodIn_r _ [472, 149, 140, 473, 474, 475, 5, 476, 137, 125, 477, 478, 479, 480, 136, 122, 124, 139, 421, 422, 423, 424, 120, 481, 482, 483, 484, 485, 486, 487, 488, 489, 490, 491, 492, 119, 417, 418, 419, 420, 425, 426, 427, 428, 626, 627, 628, 629, 630, 631, 632, 633, 634, 635, 636, 637, 638, 639, 640, 641, 642, 643, 644, 645, 646, 647, 648] (by decide +kernel) (by decide +kernel)
set_option maxRecDepth 20000 in
theorem gL_law_X6_breach : GoodIn wsL_law (wsV RL 73 RX6 yX6_breach wsX6_breach) := goodIn_app (goodIn_of _ (by decide +kernel)) ggL_law_X6_breach
set_option maxRecDepth 20000 in
theorem ggL_law_X5_search : GoodIn wsL_law wsX5_search := goodIn_r _ [496, 23, 497, 168, 169, 2, 170, 498, 499, 500, 22, 501, 60, 502, 503, 504, 505, 506, 507, 508, 509, 510, 511, 512, 62, 513, 514, 515, 516, 517, 518, 93, 94, 37, 95, 96, 97, 98, 99, 100, 54, 55, 101, 89, 90, 91, 519, 103, 104, 18, 105, 106, 107, 46, 108, 109, 40, 41, 110, 42, 43, 111, 112, 113, 14, 114, 76, 520, 317, 318, 319, 243, 320, 245, 246, 247, 38, 248, 249, 250, 251, 202, 203, 252, 253, 254, 255, 256, 44, 45, 257, 258, 259, 260, 261, 262, 263, 209, 210, 211, 212, 213, 214, 264, 265, 266, 267, 268, 269, 270, 271, 272, 240, 241, 242, 273, 274, 275, 276, 521, 85, 86, 33, 87, 50, 88, 522, 523, 524, 525, 447, 448, 449, 450, 526, 434, 435, 436, 403, 404, 405, 406, 437, 438, 439, 440, 441, 340, 341, 342, 34, 343, 344, 345, 346, 442, 443, 444, 445, 446, 451, 452, 453, 454, 455, 456, 457, 458, 459, 460, 461, 462, 412, 400, 401, 402, 463, 366, 367, 368, 464, 465, 466, 467, 468, 408, 409, 410, 411, 166, 81, 167, 527, 528, 529, 530, 531, 532, 533, 534, 535, 536, 537, 538, 539, 540, 541, 542, 543, 544, 205, 206, 207, 208, 623, 624, 625, 668, 669, 670, 649, 650, 651, 652, 653, 654, 655, 656, 657, 658, 659, 660, 661, 662, 663, 664, 665, 666, 667, 672, 673, 674, 671] (by decide +kernel) (by decide +kernel)
set_option maxRecDepth 20000 in
theorem gL_law_X5_search : GoodIn wsL_law (wsV RL 74 RX5 yX5_search wsX5_search) := goodIn_app (goodIn_of _ (by decide +kernel)) ggL_law_X5_search
set_option maxRecDepth 20000 in
theorem ggL_law_X6_search : GoodIn wsL_law wsX6_search := goodIn_r _ [548, 549, 141, 138, 129, 119, 130, 120, 131, 121, 142, 143, 5, 144, 550, 551, 552, 553, 137, 140, 153, 154, 155, 156, 293, 294, 295, 554, 555, 556, 557, 128, 122, 123, 124, 125, 149, 150, 151, 152, 558, 559, 560, 561, 145, 146, 147, 148, 136, 562, 322, 323, 324, 281, 282, 283, 284, 285, 286, 287, 288, 126, 127, 289, 290, 291, 292, 296, 297, 298, 299, 300, 301, 302, 303, 304, 305, 306, 307, 308, 309, 310, 311, 473, 474, 475, 476, 477, 478, 479, 480, 139, 421, 422, 423, 424, 481, 482, 483, 484, 485, 486, 487, 488, 489, 490, 491, 492, 417, 418, 419, 420, 425, 426, 427, 428, 563, 564, 565, 566, 567, 568, 569, 570, 571, 572, 573, 574, 575, 576, 577, 578, 626, 627, 628, 629, 630, 631, 632, 633, 634, 635, 636, 637, 638, 639, 640, 641, 642, 643, 644, 645, 646, 647, 648] (by decide +kernel) (by decide +kernel)
set_option maxRecDepth 20000 in
theorem gL_law_X6_search : GoodIn wsL_law (wsV RL 77 RX6 yX6_search wsX6_search) := goodIn_app (goodIn_of _ (by decide +kernel)) ggL_law_X6_search
set_option maxRecDepth 20000 in
theorem ggL_law_X5_found : GoodIn wsL_law wsX5_found := goodIn_r _ [582, 23, 70, 583, 69, 15, 68, 176, 204, 205, 206, 37, 207, 100, 208, 209, 210, 211, 212, 213, 214, 584, 585, 586, 2, 587, 588, 589, 590, 591, 592, 593, 202, 203, 182, 183, 184, 14, 185, 76, 623, 624, 625, 668, 669, 670, 654, 655, 656, 657, 658, 659, 660, 661, 662, 663, 664, 665, 666, 667, 671, 672, 673, 674, 649, 650, 651, 652, 653] (by decide +kernel) (by decide +kernel)
set_option maxRecDepth 20000 in
theorem gL_law_X5_found : GoodIn wsL_law (wsV RL 78 RX5 yX5_found wsX5_found) := goodIn_app (goodIn_of _ (by decide +kernel)) ggL_law_X5_found
set_option maxRecDepth 20000 in
theorem ggL_law_X6_found : GoodIn wsL_law wsX6_found := goodIn_r _ [597, 141, 137, 130, 131, 129, 598, 599, 600, 5, 601, 190, 191, 192, 193, 626, 627, 628, 629, 630, 631, 632, 633, 634, 635, 636, 637, 638, 639, 640, 641, 642, 643, 644, 645, 646, 647, 648] (by decide +kernel) (by decide +kernel)
set_option maxRecDepth 20000 in
theorem gL_law_X6_found : GoodIn wsL_law (wsV RL 81 RX6 yX6_found wsX6_found) := goodIn_app (goodIn_of _ (by decide +kernel)) ggL_law_X6_found
set_option maxRecDepth 20000 in
theorem ggL_law_X5_replay : GoodIn wsL_law wsX5_replay := goodIn_r _ [605, 23, 70, 19, 68, 583, 69, 606, 607, 608, 33, 609, 50, 610, 611, 612, 613, 614, 615, 616, 37, 617, 100, 54, 618, 55, 102, 103, 104, 18, 105, 106, 107, 46, 108, 109, 40, 41, 110, 42, 43, 111, 112, 113, 14, 114, 76, 623, 624, 625, 668, 669, 670, 654, 655, 656, 657, 658, 659, 660, 661, 662, 663, 664, 665, 666, 667, 671, 672, 673, 674, 649, 650, 651, 652, 653] (by decide +kernel) (by decide +kernel)
set_option maxRecDepth 20000 in
theorem gL_law_X5_replay : GoodIn wsL_law (wsV RL 82 RX5 yX5_replay wsX5_replay) := goodIn_app (goodIn_of _ (by decide +kernel)) ggL_law_X5_replay
set_option maxRecDepth 20000 in
theorem ggL_law_X6_replay : GoodIn wsL_law wsX6_replay := goodIn_r _ [622, 141, 119, 129, 120, 130, 121, 131, 145, 146, 147, 5, 148, 149, 150, 151, 152, 122, 136, 123, 137, 124, 125, 153, 154, 155, 156, 626, 627, 628, 629, 630, 631, 632, 633, 634, 635, 636, 637, 638, 639, 640, 641, 642, 643, 644, 645, 646, 647, 648] (by decide +kernel) (by decide +kernel)
set_option maxRecDepth 20000 in
theorem gL_law_X6_replay : GoodIn wsL_law (wsV RL 85 RX6 yX6_replay wsX6_replay) := goodIn_app (goodIn_of _ (by decide +kernel)) ggL_law_X6_replay
theorem dL_law_0 : decode cL_law 0 = .ok (.new 7, 3) := by decide +kernel
theorem dL_law_3 : decode cL_law 3 = .ok (.dup, 1) := by decide +kernel
theorem dL_law_4 : decode cL_law 4 = .ok (.invokespecial 9, 3) := by decide +kernel
theorem dL_law_7 : decode cL_law 7 = .ok (.astore_n 1, 1) := by decide +kernel
theorem dL_law_8 : decode cL_law 8 = .ok (.new 10, 3) := by decide +kernel
theorem dL_law_11 : decode cL_law 11 = .ok (.dup, 1) := by decide +kernel
theorem dL_law_12 : decode cL_law 12 = .ok (.invokespecial 12, 3) := by decide +kernel
theorem dL_law_15 : decode cL_law 15 = .ok (.astore_n 2, 1) := by decide +kernel
theorem dL_law_16 : decode cL_law 16 = .ok (.iconst 0, 1) := by decide +kernel
theorem dL_law_17 : decode cL_law 17 = .ok (.istore_n 3, 1) := by decide +kernel
theorem dL_law_18 : decode cL_law 18 = .ok (.iload_n 3, 1) := by decide +kernel
theorem dL_law_19 : decode cL_law 19 = .ok (.aload_n 0, 1) := by decide +kernel
theorem dL_law_20 : decode cL_law 20 = .ok (.arraylength, 1) := by decide +kernel
theorem dL_law_21 : decode cL_law 21 = .ok (.bipush 6, 2) := by decide +kernel
theorem dL_law_23 : decode cL_law 23 = .ok (.isub, 1) := by decide +kernel
theorem dL_law_24 : decode cL_law 24 = .ok (.if_icmp .gt 529, 3) := by decide +kernel
theorem dL_law_27 : decode cL_law 27 = .ok (.aload_n 0, 1) := by decide +kernel
theorem dL_law_28 : decode cL_law 28 = .ok (.iload_n 3, 1) := by decide +kernel
theorem dL_law_29 : decode cL_law 29 = .ok (.iaload, 1) := by decide +kernel
theorem dL_law_30 : decode cL_law 30 = .ok (.bipush 31, 2) := by decide +kernel
theorem dL_law_32 : decode cL_law 32 = .ok (.iand, 1) := by decide +kernel
theorem dL_law_33 : decode cL_law 33 = .ok (.tableswitch 514 0 16 #[83, 146, 179, 222, 245, 258, 271, 284, 307, 330, 353, 386, 409, 432, 445, 468, 501], 83) := by decide +kernel
theorem dL_law_116 : decode cL_law 116 = .ok (.aload_n 1, 1) := by decide +kernel
theorem dL_law_117 : decode cL_law 117 = .ok (.aload_n 0, 1) := by decide +kernel
theorem dL_law_118 : decode cL_law 118 = .ok (.iload_n 3, 1) := by decide +kernel
theorem dL_law_119 : decode cL_law 119 = .ok (.iconst 1, 1) := by decide +kernel
theorem dL_law_120 : decode cL_law 120 = .ok (.iadd, 1) := by decide +kernel
theorem dL_law_121 : decode cL_law 121 = .ok (.iaload, 1) := by decide +kernel
theorem dL_law_122 : decode cL_law 122 = .ok (.aload_n 0, 1) := by decide +kernel
theorem dL_law_123 : decode cL_law 123 = .ok (.iload_n 3, 1) := by decide +kernel
theorem dL_law_124 : decode cL_law 124 = .ok (.iconst 2, 1) := by decide +kernel
theorem dL_law_125 : decode cL_law 125 = .ok (.iadd, 1) := by decide +kernel
theorem dL_law_126 : decode cL_law 126 = .ok (.iaload, 1) := by decide +kernel
theorem dL_law_127 : decode cL_law 127 = .ok (.aload_n 0, 1) := by decide +kernel
theorem dL_law_128 : decode cL_law 128 = .ok (.iload_n 3, 1) := by decide +kernel
theorem dL_law_129 : decode cL_law 129 = .ok (.iconst 3, 1) := by decide +kernel
theorem dL_law_130 : decode cL_law 130 = .ok (.iadd, 1) := by decide +kernel
theorem dL_law_131 : decode cL_law 131 = .ok (.iaload, 1) := by decide +kernel
theorem dL_law_132 : decode cL_law 132 = .ok (.aload_n 0, 1) := by decide +kernel
theorem dL_law_133 : decode cL_law 133 = .ok (.iload_n 3, 1) := by decide +kernel
theorem dL_law_134 : decode cL_law 134 = .ok (.iconst 4, 1) := by decide +kernel
theorem dL_law_135 : decode cL_law 135 = .ok (.iadd, 1) := by decide +kernel
theorem dL_law_136 : decode cL_law 136 = .ok (.iaload, 1) := by decide +kernel
theorem dL_law_137 : decode cL_law 137 = .ok (.aload_n 0, 1) := by decide +kernel
theorem dL_law_138 : decode cL_law 138 = .ok (.iload_n 3, 1) := by decide +kernel
theorem dL_law_139 : decode cL_law 139 = .ok (.iconst 5, 1) := by decide +kernel
theorem dL_law_140 : decode cL_law 140 = .ok (.iadd, 1) := by decide +kernel
theorem dL_law_141 : decode cL_law 141 = .ok (.iaload, 1) := by decide +kernel
theorem dL_law_142 : decode cL_law 142 = .ok (.invokevirtual 13, 3) := by decide +kernel
theorem dL_law_145 : decode cL_law 145 = .ok (.aload_n 2, 1) := by decide +kernel
theorem dL_law_146 : decode cL_law 146 = .ok (.aload_n 0, 1) := by decide +kernel
theorem dL_law_147 : decode cL_law 147 = .ok (.iload_n 3, 1) := by decide +kernel
theorem dL_law_148 : decode cL_law 148 = .ok (.iconst 1, 1) := by decide +kernel
theorem dL_law_149 : decode cL_law 149 = .ok (.iadd, 1) := by decide +kernel
theorem dL_law_150 : decode cL_law 150 = .ok (.iaload, 1) := by decide +kernel
theorem dL_law_151 : decode cL_law 151 = .ok (.aload_n 0, 1) := by decide +kernel
theorem dL_law_152 : decode cL_law 152 = .ok (.iload_n 3, 1) := by decide +kernel
theorem dL_law_153 : decode cL_law 153 = .ok (.iconst 2, 1) := by decide +kernel
theorem dL_law_154 : decode cL_law 154 = .ok (.iadd, 1) := by decide +kernel
theorem dL_law_155 : decode cL_law 155 = .ok (.iaload, 1) := by decide +kernel
theorem dL_law_156 : decode cL_law 156 = .ok (.aload_n 0, 1) := by decide +kernel
theorem dL_law_157 : decode cL_law 157 = .ok (.iload_n 3, 1) := by decide +kernel
theorem dL_law_158 : decode cL_law 158 = .ok (.iconst 3, 1) := by decide +kernel
theorem dL_law_159 : decode cL_law 159 = .ok (.iadd, 1) := by decide +kernel
theorem dL_law_160 : decode cL_law 160 = .ok (.iaload, 1) := by decide +kernel
theorem dL_law_161 : decode cL_law 161 = .ok (.aload_n 0, 1) := by decide +kernel
theorem dL_law_162 : decode cL_law 162 = .ok (.iload_n 3, 1) := by decide +kernel
theorem dL_law_163 : decode cL_law 163 = .ok (.iconst 4, 1) := by decide +kernel
theorem dL_law_164 : decode cL_law 164 = .ok (.iadd, 1) := by decide +kernel
theorem dL_law_165 : decode cL_law 165 = .ok (.iaload, 1) := by decide +kernel
theorem dL_law_166 : decode cL_law 166 = .ok (.aload_n 0, 1) := by decide +kernel
theorem dL_law_167 : decode cL_law 167 = .ok (.iload_n 3, 1) := by decide +kernel
theorem dL_law_168 : decode cL_law 168 = .ok (.iconst 5, 1) := by decide +kernel
theorem dL_law_169 : decode cL_law 169 = .ok (.iadd, 1) := by decide +kernel
theorem dL_law_170 : decode cL_law 170 = .ok (.iaload, 1) := by decide +kernel
theorem dL_law_171 : decode cL_law 171 = .ok (.invokevirtual 17, 3) := by decide +kernel
theorem dL_law_174 : decode cL_law 174 = .ok (.if_icmp .eq 373, 3) := by decide +kernel
theorem dL_law_177 : decode cL_law 177 = .ok (.iconst 0, 1) := by decide +kernel
theorem dL_law_178 : decode cL_law 178 = .ok (.ireturn, 1) := by decide +kernel
theorem dL_law_179 : decode cL_law 179 = .ok (.aload_n 1, 1) := by decide +kernel
theorem dL_law_180 : decode cL_law 180 = .ok (.aload_n 0, 1) := by decide +kernel
theorem dL_law_181 : decode cL_law 181 = .ok (.iload_n 3, 1) := by decide +kernel
theorem dL_law_182 : decode cL_law 182 = .ok (.iconst 1, 1) := by decide +kernel
theorem dL_law_183 : decode cL_law 183 = .ok (.iadd, 1) := by decide +kernel
theorem dL_law_184 : decode cL_law 184 = .ok (.iaload, 1) := by decide +kernel
theorem dL_law_185 : decode cL_law 185 = .ok (.aload_n 0, 1) := by decide +kernel
theorem dL_law_186 : decode cL_law 186 = .ok (.iload_n 3, 1) := by decide +kernel
theorem dL_law_187 : decode cL_law 187 = .ok (.iconst 2, 1) := by decide +kernel
theorem dL_law_188 : decode cL_law 188 = .ok (.iadd, 1) := by decide +kernel
theorem dL_law_189 : decode cL_law 189 = .ok (.iaload, 1) := by decide +kernel
theorem dL_law_190 : decode cL_law 190 = .ok (.invokevirtual 18, 3) := by decide +kernel
theorem dL_law_193 : decode cL_law 193 = .ok (.aload_n 2, 1) := by decide +kernel
theorem dL_law_194 : decode cL_law 194 = .ok (.aload_n 0, 1) := by decide +kernel
theorem dL_law_195 : decode cL_law 195 = .ok (.iload_n 3, 1) := by decide +kernel
theorem dL_law_196 : decode cL_law 196 = .ok (.iconst 1, 1) := by decide +kernel
theorem dL_law_197 : decode cL_law 197 = .ok (.iadd, 1) := by decide +kernel
theorem dL_law_198 : decode cL_law 198 = .ok (.iaload, 1) := by decide +kernel
theorem dL_law_199 : decode cL_law 199 = .ok (.aload_n 0, 1) := by decide +kernel
theorem dL_law_200 : decode cL_law 200 = .ok (.iload_n 3, 1) := by decide +kernel
theorem dL_law_201 : decode cL_law 201 = .ok (.iconst 2, 1) := by decide +kernel
theorem dL_law_202 : decode cL_law 202 = .ok (.iadd, 1) := by decide +kernel
theorem dL_law_203 : decode cL_law 203 = .ok (.iaload, 1) := by decide +kernel
theorem dL_law_204 : decode cL_law 204 = .ok (.invokevirtual 22, 3) := by decide +kernel
theorem dL_law_207 : decode cL_law 207 = .ok (.if_icmp .eq 340, 3) := by decide +kernel
theorem dL_law_210 : decode cL_law 210 = .ok (.iconst 0, 1) := by decide +kernel
theorem dL_law_211 : decode cL_law 211 = .ok (.ireturn, 1) := by decide +kernel
theorem dL_law_212 : decode cL_law 212 = .ok (.aload_n 1, 1) := by decide +kernel
theorem dL_law_213 : decode cL_law 213 = .ok (.aload_n 0, 1) := by decide +kernel
theorem dL_law_214 : decode cL_law 214 = .ok (.iload_n 3, 1) := by decide +kernel
theorem dL_law_215 : decode cL_law 215 = .ok (.iconst 1, 1) := by decide +kernel
theorem dL_law_216 : decode cL_law 216 = .ok (.iadd, 1) := by decide +kernel
theorem dL_law_217 : decode cL_law 217 = .ok (.iaload, 1) := by decide +kernel
theorem dL_law_218 : decode cL_law 218 = .ok (.aload_n 0, 1) := by decide +kernel
theorem dL_law_219 : decode cL_law 219 = .ok (.iload_n 3, 1) := by decide +kernel
theorem dL_law_220 : decode cL_law 220 = .ok (.iconst 2, 1) := by decide +kernel
theorem dL_law_221 : decode cL_law 221 = .ok (.iadd, 1) := by decide +kernel
theorem dL_law_222 : decode cL_law 222 = .ok (.iaload, 1) := by decide +kernel
theorem dL_law_223 : decode cL_law 223 = .ok (.aload_n 0, 1) := by decide +kernel
theorem dL_law_224 : decode cL_law 224 = .ok (.iload_n 3, 1) := by decide +kernel
theorem dL_law_225 : decode cL_law 225 = .ok (.iconst 3, 1) := by decide +kernel
theorem dL_law_226 : decode cL_law 226 = .ok (.iadd, 1) := by decide +kernel
theorem dL_law_227 : decode cL_law 227 = .ok (.iaload, 1) := by decide +kernel
theorem dL_law_228 : decode cL_law 228 = .ok (.invokevirtual 23, 3) := by decide +kernel
theorem dL_law_231 : decode cL_law 231 = .ok (.aload_n 2, 1) := by decide +kernel
theorem dL_law_232 : decode cL_law 232 = .ok (.aload_n 0, 1) := by decide +kernel
theorem dL_law_233 : decode cL_law 233 = .ok (.iload_n 3, 1) := by decide +kernel
theorem dL_law_234 : decode cL_law 234 = .ok (.iconst 1, 1) := by decide +kernel
theorem dL_law_235 : decode cL_law 235 = .ok (.iadd, 1) := by decide +kernel
theorem dL_law_236 : decode cL_law 236 = .ok (.iaload, 1) := by decide +kernel
theorem dL_law_237 : decode cL_law 237 = .ok (.aload_n 0, 1) := by decide +kernel
theorem dL_law_238 : decode cL_law 238 = .ok (.iload_n 3, 1) := by decide +kernel
theorem dL_law_239 : decode cL_law 239 = .ok (.iconst 2, 1) := by decide +kernel
theorem dL_law_240 : decode cL_law 240 = .ok (.iadd, 1) := by decide +kernel
theorem dL_law_241 : decode cL_law 241 = .ok (.iaload, 1) := by decide +kernel
theorem dL_law_242 : decode cL_law 242 = .ok (.aload_n 0, 1) := by decide +kernel
theorem dL_law_243 : decode cL_law 243 = .ok (.iload_n 3, 1) := by decide +kernel
theorem dL_law_244 : decode cL_law 244 = .ok (.iconst 3, 1) := by decide +kernel
theorem dL_law_245 : decode cL_law 245 = .ok (.iadd, 1) := by decide +kernel
theorem dL_law_246 : decode cL_law 246 = .ok (.iaload, 1) := by decide +kernel
theorem dL_law_247 : decode cL_law 247 = .ok (.invokevirtual 27, 3) := by decide +kernel
theorem dL_law_250 : decode cL_law 250 = .ok (.if_icmp .eq 297, 3) := by decide +kernel
theorem dL_law_253 : decode cL_law 253 = .ok (.iconst 0, 1) := by decide +kernel
theorem dL_law_254 : decode cL_law 254 = .ok (.ireturn, 1) := by decide +kernel
theorem dL_law_255 : decode cL_law 255 = .ok (.aload_n 1, 1) := by decide +kernel
theorem dL_law_256 : decode cL_law 256 = .ok (.aload_n 0, 1) := by decide +kernel
theorem dL_law_257 : decode cL_law 257 = .ok (.iload_n 3, 1) := by decide +kernel
theorem dL_law_258 : decode cL_law 258 = .ok (.iconst 1, 1) := by decide +kernel
theorem dL_law_259 : decode cL_law 259 = .ok (.iadd, 1) := by decide +kernel
theorem dL_law_260 : decode cL_law 260 = .ok (.iaload, 1) := by decide +kernel
theorem dL_law_261 : decode cL_law 261 = .ok (.invokevirtual 28, 3) := by decide +kernel
theorem dL_law_264 : decode cL_law 264 = .ok (.aload_n 2, 1) := by decide +kernel
theorem dL_law_265 : decode cL_law 265 = .ok (.aload_n 0, 1) := by decide +kernel
theorem dL_law_266 : decode cL_law 266 = .ok (.iload_n 3, 1) := by decide +kernel
theorem dL_law_267 : decode cL_law 267 = .ok (.iconst 1, 1) := by decide +kernel
theorem dL_law_268 : decode cL_law 268 = .ok (.iadd, 1) := by decide +kernel
theorem dL_law_269 : decode cL_law 269 = .ok (.iaload, 1) := by decide +kernel
theorem dL_law_270 : decode cL_law 270 = .ok (.invokevirtual 32, 3) := by decide +kernel
theorem dL_law_273 : decode cL_law 273 = .ok (.if_icmp .eq 274, 3) := by decide +kernel
theorem dL_law_276 : decode cL_law 276 = .ok (.iconst 0, 1) := by decide +kernel
theorem dL_law_277 : decode cL_law 277 = .ok (.ireturn, 1) := by decide +kernel
theorem dL_law_278 : decode cL_law 278 = .ok (.aload_n 1, 1) := by decide +kernel
theorem dL_law_279 : decode cL_law 279 = .ok (.invokevirtual 33, 3) := by decide +kernel
theorem dL_law_282 : decode cL_law 282 = .ok (.aload_n 2, 1) := by decide +kernel
theorem dL_law_283 : decode cL_law 283 = .ok (.invokevirtual 37, 3) := by decide +kernel
theorem dL_law_286 : decode cL_law 286 = .ok (.if_icmp .eq 261, 3) := by decide +kernel
theorem dL_law_289 : decode cL_law 289 = .ok (.iconst 0, 1) := by decide +kernel
theorem dL_law_290 : decode cL_law 290 = .ok (.ireturn, 1) := by decide +kernel
theorem dL_law_291 : decode cL_law 291 = .ok (.aload_n 1, 1) := by decide +kernel
theorem dL_law_292 : decode cL_law 292 = .ok (.invokevirtual 38, 3) := by decide +kernel
theorem dL_law_295 : decode cL_law 295 = .ok (.aload_n 2, 1) := by decide +kernel
theorem dL_law_296 : decode cL_law 296 = .ok (.invokevirtual 41, 3) := by decide +kernel
theorem dL_law_299 : decode cL_law 299 = .ok (.if_icmp .eq 248, 3) := by decide +kernel
theorem dL_law_302 : decode cL_law 302 = .ok (.iconst 0, 1) := by decide +kernel
theorem dL_law_303 : decode cL_law 303 = .ok (.ireturn, 1) := by decide +kernel
theorem dL_law_304 : decode cL_law 304 = .ok (.aload_n 1, 1) := by decide +kernel
theorem dL_law_305 : decode cL_law 305 = .ok (.invokevirtual 42, 3) := by decide +kernel
theorem dL_law_308 : decode cL_law 308 = .ok (.aload_n 2, 1) := by decide +kernel
theorem dL_law_309 : decode cL_law 309 = .ok (.invokevirtual 45, 3) := by decide +kernel
theorem dL_law_312 : decode cL_law 312 = .ok (.if_icmp .eq 235, 3) := by decide +kernel
theorem dL_law_315 : decode cL_law 315 = .ok (.iconst 0, 1) := by decide +kernel
theorem dL_law_316 : decode cL_law 316 = .ok (.ireturn, 1) := by decide +kernel
theorem dL_law_317 : decode cL_law 317 = .ok (.aload_n 1, 1) := by decide +kernel
theorem dL_law_318 : decode cL_law 318 = .ok (.aload_n 0, 1) := by decide +kernel
theorem dL_law_319 : decode cL_law 319 = .ok (.iload_n 3, 1) := by decide +kernel
theorem dL_law_320 : decode cL_law 320 = .ok (.iconst 1, 1) := by decide +kernel
theorem dL_law_321 : decode cL_law 321 = .ok (.iadd, 1) := by decide +kernel
theorem dL_law_322 : decode cL_law 322 = .ok (.iaload, 1) := by decide +kernel
theorem dL_law_323 : decode cL_law 323 = .ok (.invokevirtual 46, 3) := by decide +kernel
theorem dL_law_326 : decode cL_law 326 = .ok (.aload_n 2, 1) := by decide +kernel
theorem dL_law_327 : decode cL_law 327 = .ok (.aload_n 0, 1) := by decide +kernel
theorem dL_law_328 : decode cL_law 328 = .ok (.iload_n 3, 1) := by decide +kernel
theorem dL_law_329 : decode cL_law 329 = .ok (.iconst 1, 1) := by decide +kernel
theorem dL_law_330 : decode cL_law 330 = .ok (.iadd, 1) := by decide +kernel
theorem dL_law_331 : decode cL_law 331 = .ok (.iaload, 1) := by decide +kernel
theorem dL_law_332 : decode cL_law 332 = .ok (.invokevirtual 49, 3) := by decide +kernel
theorem dL_law_335 : decode cL_law 335 = .ok (.if_icmp .eq 212, 3) := by decide +kernel
theorem dL_law_338 : decode cL_law 338 = .ok (.iconst 0, 1) := by decide +kernel
theorem dL_law_339 : decode cL_law 339 = .ok (.ireturn, 1) := by decide +kernel
theorem dL_law_340 : decode cL_law 340 = .ok (.aload_n 1, 1) := by decide +kernel
theorem dL_law_341 : decode cL_law 341 = .ok (.aload_n 0, 1) := by decide +kernel
theorem dL_law_342 : decode cL_law 342 = .ok (.iload_n 3, 1) := by decide +kernel
theorem dL_law_343 : decode cL_law 343 = .ok (.iconst 1, 1) := by decide +kernel
theorem dL_law_344 : decode cL_law 344 = .ok (.iadd, 1) := by decide +kernel
theorem dL_law_345 : decode cL_law 345 = .ok (.iaload, 1) := by decide +kernel
theorem dL_law_346 : decode cL_law 346 = .ok (.invokevirtual 50, 3) := by decide +kernel
theorem dL_law_349 : decode cL_law 349 = .ok (.aload_n 2, 1) := by decide +kernel
theorem dL_law_350 : decode cL_law 350 = .ok (.aload_n 0, 1) := by decide +kernel
theorem dL_law_351 : decode cL_law 351 = .ok (.iload_n 3, 1) := by decide +kernel
theorem dL_law_352 : decode cL_law 352 = .ok (.iconst 1, 1) := by decide +kernel
theorem dL_law_353 : decode cL_law 353 = .ok (.iadd, 1) := by decide +kernel
theorem dL_law_354 : decode cL_law 354 = .ok (.iaload, 1) := by decide +kernel
theorem dL_law_355 : decode cL_law 355 = .ok (.invokevirtual 53, 3) := by decide +kernel
theorem dL_law_358 : decode cL_law 358 = .ok (.if_icmp .eq 189, 3) := by decide +kernel
theorem dL_law_361 : decode cL_law 361 = .ok (.iconst 0, 1) := by decide +kernel
theorem dL_law_362 : decode cL_law 362 = .ok (.ireturn, 1) := by decide +kernel
theorem dL_law_363 : decode cL_law 363 = .ok (.aload_n 1, 1) := by decide +kernel
theorem dL_law_364 : decode cL_law 364 = .ok (.aload_n 0, 1) := by decide +kernel
theorem dL_law_365 : decode cL_law 365 = .ok (.iload_n 3, 1) := by decide +kernel
theorem dL_law_366 : decode cL_law 366 = .ok (.iconst 1, 1) := by decide +kernel
theorem dL_law_367 : decode cL_law 367 = .ok (.iadd, 1) := by decide +kernel
theorem dL_law_368 : decode cL_law 368 = .ok (.iaload, 1) := by decide +kernel
theorem dL_law_369 : decode cL_law 369 = .ok (.invokevirtual 54, 3) := by decide +kernel
theorem dL_law_372 : decode cL_law 372 = .ok (.aload_n 2, 1) := by decide +kernel
theorem dL_law_373 : decode cL_law 373 = .ok (.aload_n 0, 1) := by decide +kernel
theorem dL_law_374 : decode cL_law 374 = .ok (.iload_n 3, 1) := by decide +kernel
theorem dL_law_375 : decode cL_law 375 = .ok (.iconst 1, 1) := by decide +kernel
theorem dL_law_376 : decode cL_law 376 = .ok (.iadd, 1) := by decide +kernel
theorem dL_law_377 : decode cL_law 377 = .ok (.iaload, 1) := by decide +kernel
theorem dL_law_378 : decode cL_law 378 = .ok (.invokevirtual 57, 3) := by decide +kernel
theorem dL_law_381 : decode cL_law 381 = .ok (.if_icmp .eq 166, 3) := by decide +kernel
theorem dL_law_384 : decode cL_law 384 = .ok (.iconst 0, 1) := by decide +kernel
theorem dL_law_385 : decode cL_law 385 = .ok (.ireturn, 1) := by decide +kernel
theorem dL_law_386 : decode cL_law 386 = .ok (.aload_n 1, 1) := by decide +kernel
theorem dL_law_387 : decode cL_law 387 = .ok (.aload_n 0, 1) := by decide +kernel
theorem dL_law_388 : decode cL_law 388 = .ok (.iload_n 3, 1) := by decide +kernel
theorem dL_law_389 : decode cL_law 389 = .ok (.iconst 1, 1) := by decide +kernel
theorem dL_law_390 : decode cL_law 390 = .ok (.iadd, 1) := by decide +kernel
theorem dL_law_391 : decode cL_law 391 = .ok (.iaload, 1) := by decide +kernel
theorem dL_law_392 : decode cL_law 392 = .ok (.aload_n 0, 1) := by decide +kernel
theorem dL_law_393 : decode cL_law 393 = .ok (.iload_n 3, 1) := by decide +kernel
theorem dL_law_394 : decode cL_law 394 = .ok (.iconst 2, 1) := by decide +kernel
theorem dL_law_395 : decode cL_law 395 = .ok (.iadd, 1) := by decide +kernel
theorem dL_law_396 : decode cL_law 396 = .ok (.iaload, 1) := by decide +kernel
theorem dL_law_397 : decode cL_law 397 = .ok (.invokevirtual 58, 3) := by decide +kernel
theorem dL_law_400 : decode cL_law 400 = .ok (.aload_n 2, 1) := by decide +kernel
theorem dL_law_401 : decode cL_law 401 = .ok (.aload_n 0, 1) := by decide +kernel
theorem dL_law_402 : decode cL_law 402 = .ok (.iload_n 3, 1) := by decide +kernel
theorem dL_law_403 : decode cL_law 403 = .ok (.iconst 1, 1) := by decide +kernel
theorem dL_law_404 : decode cL_law 404 = .ok (.iadd, 1) := by decide +kernel
theorem dL_law_405 : decode cL_law 405 = .ok (.iaload, 1) := by decide +kernel
theorem dL_law_406 : decode cL_law 406 = .ok (.aload_n 0, 1) := by decide +kernel
theorem dL_law_407 : decode cL_law 407 = .ok (.iload_n 3, 1) := by decide +kernel
theorem dL_law_408 : decode cL_law 408 = .ok (.iconst 2, 1) := by decide +kernel
theorem dL_law_409 : decode cL_law 409 = .ok (.iadd, 1) := by decide +kernel
theorem dL_law_410 : decode cL_law 410 = .ok (.iaload, 1) := by decide +kernel
theorem dL_law_411 : decode cL_law 411 = .ok (.invokevirtual 61, 3) := by decide +kernel
theorem dL_law_414 : decode cL_law 414 = .ok (.if_icmp .eq 133, 3) := by decide +kernel
theorem dL_law_417 : decode cL_law 417 = .ok (.iconst 0, 1) := by decide +kernel
theorem dL_law_418 : decode cL_law 418 = .ok (.ireturn, 1) := by decide +kernel
theorem dL_law_419 : decode cL_law 419 = .ok (.aload_n 1, 1) := by decide +kernel
theorem dL_law_420 : decode cL_law 420 = .ok (.aload_n 0, 1) := by decide +kernel
theorem dL_law_421 : decode cL_law 421 = .ok (.iload_n 3, 1) := by decide +kernel
theorem dL_law_422 : decode cL_law 422 = .ok (.iconst 1, 1) := by decide +kernel
theorem dL_law_423 : decode cL_law 423 = .ok (.iadd, 1) := by decide +kernel
theorem dL_law_424 : decode cL_law 424 = .ok (.iaload, 1) := by decide +kernel
theorem dL_law_425 : decode cL_law 425 = .ok (.invokevirtual 62, 3) := by decide +kernel
theorem dL_law_428 : decode cL_law 428 = .ok (.aload_n 2, 1) := by decide +kernel
theorem dL_law_429 : decode cL_law 429 = .ok (.aload_n 0, 1) := by decide +kernel
theorem dL_law_430 : decode cL_law 430 = .ok (.iload_n 3, 1) := by decide +kernel
theorem dL_law_431 : decode cL_law 431 = .ok (.iconst 1, 1) := by decide +kernel
theorem dL_law_432 : decode cL_law 432 = .ok (.iadd, 1) := by decide +kernel
theorem dL_law_433 : decode cL_law 433 = .ok (.iaload, 1) := by decide +kernel
theorem dL_law_434 : decode cL_law 434 = .ok (.invokevirtual 65, 3) := by decide +kernel
theorem dL_law_437 : decode cL_law 437 = .ok (.if_icmp .eq 110, 3) := by decide +kernel
theorem dL_law_440 : decode cL_law 440 = .ok (.iconst 0, 1) := by decide +kernel
theorem dL_law_441 : decode cL_law 441 = .ok (.ireturn, 1) := by decide +kernel
theorem dL_law_442 : decode cL_law 442 = .ok (.aload_n 1, 1) := by decide +kernel
theorem dL_law_443 : decode cL_law 443 = .ok (.aload_n 0, 1) := by decide +kernel
theorem dL_law_444 : decode cL_law 444 = .ok (.iload_n 3, 1) := by decide +kernel
theorem dL_law_445 : decode cL_law 445 = .ok (.iconst 1, 1) := by decide +kernel
theorem dL_law_446 : decode cL_law 446 = .ok (.iadd, 1) := by decide +kernel
theorem dL_law_447 : decode cL_law 447 = .ok (.iaload, 1) := by decide +kernel
theorem dL_law_448 : decode cL_law 448 = .ok (.invokevirtual 66, 3) := by decide +kernel
theorem dL_law_451 : decode cL_law 451 = .ok (.aload_n 2, 1) := by decide +kernel
theorem dL_law_452 : decode cL_law 452 = .ok (.aload_n 0, 1) := by decide +kernel
theorem dL_law_453 : decode cL_law 453 = .ok (.iload_n 3, 1) := by decide +kernel
theorem dL_law_454 : decode cL_law 454 = .ok (.iconst 1, 1) := by decide +kernel
theorem dL_law_455 : decode cL_law 455 = .ok (.iadd, 1) := by decide +kernel
theorem dL_law_456 : decode cL_law 456 = .ok (.iaload, 1) := by decide +kernel
theorem dL_law_457 : decode cL_law 457 = .ok (.invokevirtual 69, 3) := by decide +kernel
theorem dL_law_460 : decode cL_law 460 = .ok (.if_icmp .eq 87, 3) := by decide +kernel
theorem dL_law_463 : decode cL_law 463 = .ok (.iconst 0, 1) := by decide +kernel
theorem dL_law_464 : decode cL_law 464 = .ok (.ireturn, 1) := by decide +kernel
theorem dL_law_465 : decode cL_law 465 = .ok (.aload_n 1, 1) := by decide +kernel
theorem dL_law_466 : decode cL_law 466 = .ok (.invokevirtual 70, 3) := by decide +kernel
theorem dL_law_469 : decode cL_law 469 = .ok (.aload_n 2, 1) := by decide +kernel
theorem dL_law_470 : decode cL_law 470 = .ok (.invokevirtual 73, 3) := by decide +kernel
theorem dL_law_473 : decode cL_law 473 = .ok (.if_icmp .eq 74, 3) := by decide +kernel
theorem dL_law_476 : decode cL_law 476 = .ok (.iconst 0, 1) := by decide +kernel
theorem dL_law_477 : decode cL_law 477 = .ok (.ireturn, 1) := by decide +kernel
theorem dL_law_478 : decode cL_law 478 = .ok (.aload_n 1, 1) := by decide +kernel
theorem dL_law_479 : decode cL_law 479 = .ok (.aload_n 0, 1) := by decide +kernel
theorem dL_law_480 : decode cL_law 480 = .ok (.iload_n 3, 1) := by decide +kernel
theorem dL_law_481 : decode cL_law 481 = .ok (.iconst 1, 1) := by decide +kernel
theorem dL_law_482 : decode cL_law 482 = .ok (.iadd, 1) := by decide +kernel
theorem dL_law_483 : decode cL_law 483 = .ok (.iaload, 1) := by decide +kernel
theorem dL_law_484 : decode cL_law 484 = .ok (.invokevirtual 74, 3) := by decide +kernel
theorem dL_law_487 : decode cL_law 487 = .ok (.aload_n 2, 1) := by decide +kernel
theorem dL_law_488 : decode cL_law 488 = .ok (.aload_n 0, 1) := by decide +kernel
theorem dL_law_489 : decode cL_law 489 = .ok (.iload_n 3, 1) := by decide +kernel
theorem dL_law_490 : decode cL_law 490 = .ok (.iconst 1, 1) := by decide +kernel
theorem dL_law_491 : decode cL_law 491 = .ok (.iadd, 1) := by decide +kernel
theorem dL_law_492 : decode cL_law 492 = .ok (.iaload, 1) := by decide +kernel
theorem dL_law_493 : decode cL_law 493 = .ok (.invokevirtual 77, 3) := by decide +kernel
theorem dL_law_496 : decode cL_law 496 = .ok (.if_icmp .eq 51, 3) := by decide +kernel
theorem dL_law_499 : decode cL_law 499 = .ok (.iconst 0, 1) := by decide +kernel
theorem dL_law_500 : decode cL_law 500 = .ok (.ireturn, 1) := by decide +kernel
theorem dL_law_501 : decode cL_law 501 = .ok (.aload_n 1, 1) := by decide +kernel
theorem dL_law_502 : decode cL_law 502 = .ok (.aload_n 0, 1) := by decide +kernel
theorem dL_law_503 : decode cL_law 503 = .ok (.iload_n 3, 1) := by decide +kernel
theorem dL_law_504 : decode cL_law 504 = .ok (.iconst 1, 1) := by decide +kernel
theorem dL_law_505 : decode cL_law 505 = .ok (.iadd, 1) := by decide +kernel
theorem dL_law_506 : decode cL_law 506 = .ok (.iaload, 1) := by decide +kernel
theorem dL_law_507 : decode cL_law 507 = .ok (.aload_n 0, 1) := by decide +kernel
theorem dL_law_508 : decode cL_law 508 = .ok (.iload_n 3, 1) := by decide +kernel
theorem dL_law_509 : decode cL_law 509 = .ok (.iconst 2, 1) := by decide +kernel
theorem dL_law_510 : decode cL_law 510 = .ok (.iadd, 1) := by decide +kernel
theorem dL_law_511 : decode cL_law 511 = .ok (.iaload, 1) := by decide +kernel
theorem dL_law_512 : decode cL_law 512 = .ok (.invokevirtual 78, 3) := by decide +kernel
theorem dL_law_515 : decode cL_law 515 = .ok (.aload_n 2, 1) := by decide +kernel
theorem dL_law_516 : decode cL_law 516 = .ok (.aload_n 0, 1) := by decide +kernel
theorem dL_law_517 : decode cL_law 517 = .ok (.iload_n 3, 1) := by decide +kernel
theorem dL_law_518 : decode cL_law 518 = .ok (.iconst 1, 1) := by decide +kernel
theorem dL_law_519 : decode cL_law 519 = .ok (.iadd, 1) := by decide +kernel
theorem dL_law_520 : decode cL_law 520 = .ok (.iaload, 1) := by decide +kernel
theorem dL_law_521 : decode cL_law 521 = .ok (.aload_n 0, 1) := by decide +kernel
theorem dL_law_522 : decode cL_law 522 = .ok (.iload_n 3, 1) := by decide +kernel
theorem dL_law_523 : decode cL_law 523 = .ok (.iconst 2, 1) := by decide +kernel
theorem dL_law_524 : decode cL_law 524 = .ok (.iadd, 1) := by decide +kernel
theorem dL_law_525 : decode cL_law 525 = .ok (.iaload, 1) := by decide +kernel
theorem dL_law_526 : decode cL_law 526 = .ok (.invokevirtual 81, 3) := by decide +kernel
theorem dL_law_529 : decode cL_law 529 = .ok (.if_icmp .eq 18, 3) := by decide +kernel
theorem dL_law_532 : decode cL_law 532 = .ok (.iconst 0, 1) := by decide +kernel
theorem dL_law_533 : decode cL_law 533 = .ok (.ireturn, 1) := by decide +kernel
theorem dL_law_534 : decode cL_law 534 = .ok (.aload_n 1, 1) := by decide +kernel
theorem dL_law_535 : decode cL_law 535 = .ok (.invokevirtual 82, 3) := by decide +kernel
theorem dL_law_538 : decode cL_law 538 = .ok (.aload_n 2, 1) := by decide +kernel
theorem dL_law_539 : decode cL_law 539 = .ok (.invokevirtual 85, 3) := by decide +kernel
theorem dL_law_542 : decode cL_law 542 = .ok (.if_icmp .eq 5, 3) := by decide +kernel
theorem dL_law_545 : decode cL_law 545 = .ok (.iconst 0, 1) := by decide +kernel
theorem dL_law_546 : decode cL_law 546 = .ok (.ireturn, 1) := by decide +kernel
theorem dL_law_547 : decode cL_law 547 = .ok (.iinc 3 6, 3) := by decide +kernel
theorem dL_law_550 : decode cL_law 550 = .ok (.goto (-532), 3) := by decide +kernel
theorem dL_law_553 : decode cL_law 553 = .ok (.iconst 1, 1) := by decide +kernel
theorem dL_law_554 : decode cL_law 554 = .ok (.ireturn, 1) := by decide +kernel


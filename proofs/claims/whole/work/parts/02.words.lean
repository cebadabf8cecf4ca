def wa_0 : List Cond := [(.methodLink RX0 7 yX3_length : Cond), (.instanceMethod yX3_length : Cond), (.selects RX3 yX3_length yX3_length : Cond), (.initialized RX3 : Cond), (.code yX3_length cX3_length 1 (some .int) : Cond), (.fieldLink RX3 17 "Counterpointery$Line" "count" "I" : Cond), (.methodLink RX0 13 yX3_toneAt : Cond), (.instanceMethod yX3_toneAt : Cond), (.selects RX3 yX3_toneAt yX3_toneAt : Cond), (.code yX3_toneAt cX3_toneAt 2 (some .int) : Cond), (.fieldLink RX3 13 "Counterpointery$Line" "tones" "[I" : Cond), (.methodLink RX0 17 yX5_plainGap : Cond), (.static yX5_plainGap : Cond), (.initialized RX5 : Cond), (.code yX5_plainGap cX5_plainGap 2 (some .int) : Cond), (.methodLink RX5 15 yX5_heightOf : Cond), (.static yX5_heightOf : Cond), (.code yX5_heightOf cX5_heightOf 3 (some .int) : Cond), (.methodLink RX5 18 yX5_gap : Cond), (.static yX5_gap : Cond), (.code yX5_gap cX5_gap 2 (some .int) : Cond), (.methodLink RX5 9 Lib.Math.abs.name : Cond), (.static Lib.Math.abs.name : Cond), (.initialized "java/lang/Math" : Cond), (.code Lib.Math.abs.name Lib.Math.abs.code 1 (some .int) : Cond), (.methodLink RX0 23 yX5_isDissonant : Cond), (.static yX5_isDissonant : Cond), (.code yX5_isDissonant cX5_isDissonant 1 (some .boolean) : Cond), (.methodLink RX5 22 yX5_isPerfect : Cond), (.static yX5_isPerfect : Cond), (.code yX5_isPerfect cX5_isPerfect 1 (some .boolean) : Cond), (.methodLink RX5 26 yX5_isImperfect : Cond)]
def wa_1 : List Cond := [(.static yX5_isImperfect : Cond), (.code yX5_isImperfect cX5_isImperfect 1 (some .boolean) : Cond), (.methodLink RX0 27 yX3_stepTo : Cond), (.instanceMethod yX3_stepTo : Cond), (.selects RX3 yX3_stepTo yX3_stepTo : Cond), (.code yX3_stepTo cX3_stepTo 2 (some .int) : Cond), (.methodLink RX3 39 yX3_toneAt : Cond), (.methodLink RX0 30 yX5_isPerfect : Cond), (.methodLink RX0 35 Lib.Math.min.name : Cond), (.static Lib.Math.min.name : Cond), (.code Lib.Math.min.name Lib.Math.min.code 2 (some .int) : Cond), (.methodLink RX0 40 yX0_farthestOf : Cond), (.static yX0_farthestOf : Cond), (.initialized RX0 : Cond), (.code yX0_farthestOf cX0_farthestOf 1 (some .int) : Cond), (.methodLink RX0 44 yX0_faultsOf : Cond), (.static yX0_faultsOf : Cond), (.code yX0_faultsOf cX0_faultsOf 8 (some .int) : Cond), (.methodLink RX1 1 objectInit : Cond), (.instanceMethod objectInit : Cond), (.code objectInit ⟨#[0xb1]⟩ 1 none : Cond), (.arrayClass .int : Cond), (.fieldLink RX1 9 "Counterpointery$Ground" "givens" "[I" : Cond), (.fieldLink RX1 13 "Counterpointery$Ground" "low" "I" : Cond), (.fieldLink RX1 17 "Counterpointery$Ground" "high" "I" : Cond), (.fieldLink RX1 20 "Counterpointery$Ground" "count" "I" : Cond), (.fieldLink RX1 23 "Counterpointery$Ground" "changes" "I" : Cond), (.fieldLink RX1 26 "Counterpointery$Ground" "shift" "I" : Cond), (.fieldLink RX1 29 "Counterpointery$Ground" "below" "Z" : Cond), (.fieldLink RX1 33 "Counterpointery$Ground" "feigning" "Z" : Cond), (.methodLink RX1 36 yX1_perGiven : Cond), (.instanceMethod yX1_perGiven : Cond)]
def wa_2 : List Cond := [(.selects RX1 yX1_perGiven yX1_perGiven : Cond), (.initialized RX1 : Cond), (.code yX1_perGiven cX1_perGiven 1 (some .int) : Cond), (.methodLink RX1 40 yX1_against : Cond), (.instanceMethod yX1_against : Cond), (.selects RX1 yX1_against yX1_against : Cond), (.code yX1_against cX1_against 3 (some .int) : Cond), (.methodLink RX2 1 objectInit : Cond), (.fieldLink RX2 9 "Counterpointery$Laws" "weights" "[I" : Cond), (.fieldLink RX2 13 "Counterpointery$Laws" "STYLES" "[I" : Cond), (.methodLink RX2 16 arraycopyName : Cond), (.native arraycopyName : Cond), (.static arraycopyName : Cond), (.initialized "java/lang/System" : Cond), (.methodLink RX2 24 yJ0_length_8abf5 : Cond), (.instanceMethod yJ0_length_8abf5 : Cond), (.selects RJ0 yJ0_length_8abf5 yJ0_length_8abf5 : Cond), (.initialized RJ0 : Cond), (.code yJ0_length_8abf5 cJ0_length_8abf5 1 (some .int) : Cond), (.fieldLink RJ0 9 "java/lang/String" "value" "[B" : Cond), (.methodLink RJ0 335 yJ0_coder_7d493 : Cond), (.instanceMethod yJ0_coder_7d493 : Cond), (.selects RJ0 yJ0_coder_7d493 yJ0_coder_7d493 : Cond), (.code yJ0_coder_7d493 cJ0_coder_7d493 1 (some .byte) : Cond), (.fieldLink RJ0 38 "java/lang/String" "COMPACT_STRINGS" "Z" : Cond), (.fieldLink RJ0 15 "java/lang/String" "coder" "B" : Cond), (.methodLink RX2 30 yJ0_charAt_5068e : Cond), (.instanceMethod yJ0_charAt_5068e : Cond), (.selects RJ0 yJ0_charAt_5068e yJ0_charAt_5068e : Cond), (.code yJ0_charAt_5068e cJ0_charAt_5068e 2 (some .char) : Cond), (.methodLink RJ0 492 yJ0_isLatin1_aae02 : Cond), (.instanceMethod yJ0_isLatin1_aae02 : Cond)]
def wa_3 : List Cond := [(.selects RJ0 yJ0_isLatin1_aae02 yJ0_isLatin1_aae02 : Cond), (.code yJ0_isLatin1_aae02 cJ0_isLatin1_aae02 1 (some .boolean) : Cond), (.methodLink RJ0 495 yJ1_charAt_3b067 : Cond), (.static yJ1_charAt_3b067 : Cond), (.initialized RJ1 : Cond), (.code yJ1_charAt_3b067 cJ1_charAt_3b067 2 (some .char) : Cond), (.methodLink RJ1 9 yJ0_checkIndex_df160 : Cond), (.static yJ0_checkIndex_df160 : Cond), (.code yJ0_checkIndex_df160 cJ0_checkIndex_df160 2 none : Cond), (.fieldLink RJ0 1053 "jdk/internal/util/Preconditions" "SIOOBE_FORMATTER" "Ljava/util/function/BiFunction;" : Cond), (.methodLink RJ0 1059 yJ3_checkIndex_8e157 : Cond), (.static yJ3_checkIndex_8e157 : Cond), (.initialized RJ3 : Cond), (.code yJ3_checkIndex_8e157 cJ3_checkIndex_8e157 3 (some .int) : Cond), (.methodLink RJ0 498 yJ2_charAt_3b067 : Cond), (.static yJ2_charAt_3b067 : Cond), (.initialized RJ2 : Cond), (.code yJ2_charAt_3b067 cJ2_charAt_3b067 2 (some .char) : Cond), (.methodLink RJ2 67 yJ2_checkIndex_2214a : Cond), (.static yJ2_checkIndex_2214a : Cond), (.code yJ2_checkIndex_2214a cJ2_checkIndex_2214a 2 none : Cond), (.methodLink RJ2 48 yJ2_length_9d52b : Cond), (.static yJ2_length_9d52b : Cond), (.code yJ2_length_9d52b cJ2_length_9d52b 1 (some .int) : Cond), (.methodLink RJ2 414 yJ0_checkIndex_df160 : Cond), (.methodLink RJ2 71 yJ2_getChar_3b067 : Cond), (.static yJ2_getChar_3b067 : Cond), (.code yJ2_getChar_3b067 cJ2_getChar_3b067 2 (some .char) : Cond), (.fieldLink RJ2 44 "java/lang/StringUTF16" "$assertionsDisabled" "Z" : Cond), (.fieldLink RJ2 59 "java/lang/StringUTF16" "HI_BYTE_SHIFT" "I" : Cond), (.fieldLink RJ2 63 "java/lang/StringUTF16" "LO_BYTE_SHIFT" "I" : Cond), (.fieldLink RX2 34 "Counterpointery$Laws" "changes" "I" : Cond)]
def wa_4 : List Cond := [(.methodLink RX2 38 yX2_weightOf : Cond), (.instanceMethod yX2_weightOf : Cond), (.selects RX2 yX2_weightOf yX2_weightOf : Cond), (.initialized RX2 : Cond), (.code yX2_weightOf cX2_weightOf 2 (some .int) : Cond), (.methodLink RX2 42 yX2_setWeight : Cond), (.instanceMethod yX2_setWeight : Cond), (.selects RX2 yX2_setWeight yX2_setWeight : Cond), (.code yX2_setWeight cX2_setWeight 3 none : Cond), (.methodLink RX3 1 objectInit : Cond), (.fieldLink RX3 7 "Counterpointery$Line" "ground" "LCounterpointery$Ground;" : Cond), (.methodLink RX3 21 yX1_room : Cond), (.instanceMethod yX1_room : Cond), (.selects RX1 yX1_room yX1_room : Cond), (.code yX1_room cX1_room 1 (some .int) : Cond), (.methodLink RX3 27 yX1_size : Cond), (.instanceMethod yX1_size : Cond), (.selects RX1 yX1_size yX1_size : Cond), (.code yX1_size cX1_size 1 (some .int) : Cond), (.methodLink RX3 30 Lib.Math.min.name : Cond), (.methodLink RX3 36 Lib.Math.max.name : Cond), (.static Lib.Math.max.name : Cond), (.code Lib.Math.max.name Lib.Math.max.code 2 (some .int) : Cond), (.methodLink RX3 43 yX5_heightOf : Cond), (.methodLink RX3 48 yX1_isFeigning : Cond), (.instanceMethod yX1_isFeigning : Cond), (.selects RX1 yX1_isFeigning yX1_isFeigning : Cond), (.code yX1_isFeigning cX1_isFeigning 1 (some .boolean) : Cond), (.methodLink RX3 52 yX1_against : Cond), (.methodLink RX3 55 yX3_heightAt : Cond), (.instanceMethod yX3_heightAt : Cond), (.selects RX3 yX3_heightAt yX3_heightAt : Cond)]
def wa_5 : List Cond := [(.code yX3_heightAt cX3_heightAt 5 (some .int) : Cond), (.methodLink RX3 58 yX5_gap : Cond), (.methodLink RX3 61 yX3_nearFaults : Cond), (.instanceMethod yX3_nearFaults : Cond), (.selects RX3 yX3_nearFaults yX3_nearFaults : Cond), (.code yX3_nearFaults cX3_nearFaults 6 (some .int) : Cond), (.methodLink RX3 67 yX3_gapAt : Cond), (.instanceMethod yX3_gapAt : Cond), (.selects RX3 yX3_gapAt yX3_gapAt : Cond), (.code yX3_gapAt cX3_gapAt 3 (some .int) : Cond), (.methodLink RX3 70 yX3_parallels : Cond), (.instanceMethod yX3_parallels : Cond), (.selects RX3 yX3_parallels yX3_parallels : Cond), (.code yX3_parallels cX3_parallels 7 (some .int) : Cond), (.methodLink RX3 104 Lib.Math.abs.name : Cond), (.methodLink RX3 101 yX3_stepTo : Cond), (.methodLink RX3 107 yX1_stepTo : Cond), (.instanceMethod yX1_stepTo : Cond), (.selects RX1 yX1_stepTo yX1_stepTo : Cond), (.code yX1_stepTo cX1_stepTo 2 (some .int) : Cond), (.methodLink RX3 77 yX5_isPerfect : Cond), (.methodLink RX3 74 yX3_moves : Cond), (.instanceMethod yX3_moves : Cond), (.selects RX3 yX3_moves yX3_moves : Cond), (.code yX3_moves cX3_moves 6 (some .int) : Cond), (.methodLink RX3 81 yX5_isFifth : Cond), (.static yX5_isFifth : Cond), (.code yX5_isFifth cX5_isFifth 1 (some .boolean) : Cond), (.methodLink RX3 86 yX5_isUnison : Cond), (.static yX5_isUnison : Cond), (.code yX5_isUnison cX5_isUnison 1 (some .boolean) : Cond), (.methodLink RX3 89 yX3_comesByContrarySteps : Cond)]
def wa_6 : List Cond := [(.instanceMethod yX3_comesByContrarySteps : Cond), (.selects RX3 yX3_comesByContrarySteps yX3_comesByContrarySteps : Cond), (.code yX3_comesByContrarySteps cX3_comesByContrarySteps 3 (some .boolean) : Cond), (.methodLink RX3 92 yX1_isStrong : Cond), (.instanceMethod yX1_isStrong : Cond), (.selects RX1 yX1_isStrong yX1_isStrong : Cond), (.code yX1_isStrong cX1_isStrong 2 (some .boolean) : Cond), (.methodLink RX3 95 yX5_isDissonant : Cond), (.methodLink RX3 98 yX1_isBelow : Cond), (.instanceMethod yX1_isBelow : Cond), (.selects RX1 yX1_isBelow yX1_isBelow : Cond), (.code yX1_isBelow cX1_isBelow 1 (some .boolean) : Cond), (.methodLink RX3 64 yX3_farFaults : Cond), (.instanceMethod yX3_farFaults : Cond), (.selects RX3 yX3_farFaults yX3_farFaults : Cond), (.code yX3_farFaults cX3_farFaults 7 (some .int) : Cond), (.methodLink RX3 108 yX3_bothMovedSinceStrong : Cond), (.instanceMethod yX3_bothMovedSinceStrong : Cond), (.selects RX3 yX3_bothMovedSinceStrong yX3_bothMovedSinceStrong : Cond), (.code yX3_bothMovedSinceStrong cX3_bothMovedSinceStrong 3 (some .boolean) : Cond), (.methodLink RX3 111 yX1_perGiven : Cond), (.methodLink RX3 114 yX3_faultsAt : Cond), (.instanceMethod yX3_faultsAt : Cond), (.selects RX3 yX3_faultsAt yX3_faultsAt : Cond), (.code yX3_faultsAt cX3_faultsAt 2 (some .int) : Cond), (.methodLink RX3 117 yJ6_bitCount_0f7a4 : Cond), (.static yJ6_bitCount_0f7a4 : Cond), (.initialized RJ6 : Cond), (.code yJ6_bitCount_0f7a4 cJ6_bitCount_0f7a4 1 (some .int) : Cond), (.constant RJ6 265 (1431655765) : Cond), (.constant RJ6 266 (858993459) : Cond), (.constant RJ6 267 (252645135) : Cond)]
def wa_7 : List Cond := [(.methodLink RX3 122 yX2_nthOf : Cond), (.static yX2_nthOf : Cond), (.code yX2_nthOf cX2_nthOf 4 (some .int) : Cond), (.methodLink RX3 125 yX2_costOf : Cond), (.instanceMethod yX2_costOf : Cond), (.selects RX2 yX2_costOf yX2_costOf : Cond), (.code yX2_costOf cX2_costOf 4 (some .int) : Cond), (.methodLink RX3 128 yX3_costBetween : Cond), (.instanceMethod yX3_costBetween : Cond), (.selects RX3 yX3_costBetween yX3_costBetween : Cond), (.code yX3_costBetween cX3_costBetween 6 (some .int) : Cond), (.methodLink RX4 1 objectInit : Cond), (.fieldLink RX4 7 "Counterpointery$Search" "ground" "LCounterpointery$Ground;" : Cond), (.fieldLink RX4 13 "Counterpointery$Search" "laws" "LCounterpointery$Laws;" : Cond), (.classLink RX4 17 RX3 : Cond), (.instantiable RX3 3 : Cond), (.fieldLink RX4 22 "Counterpointery$Search" "sketch" "LCounterpointery$Line;" : Cond), (.fieldLink RX4 26 "Counterpointery$Search" "trial" "LCounterpointery$Line;" : Cond), (.fieldLink RX4 29 "Counterpointery$Search" "masks" "[I" : Cond), (.fieldLink RX4 33 "Counterpointery$Search" "tails" "[I" : Cond), (.arrayClass .long : Cond), (.fieldLink RX4 36 "Counterpointery$Search" "ways" "[J" : Cond), (.fieldLink RX4 40 "Counterpointery$Search" "madeFor" "I" : Cond), (.fieldLink RX4 44 "Counterpointery$Search" "barsGround" "I" : Cond), (.fieldLink RX4 47 "Counterpointery$Search" "barsLaws" "I" : Cond), (.methodLink RX4 19 yX3_init : Cond), (.instanceMethod yX3_init : Cond), (.code yX3_init cX3_init 2 none : Cond), (.methodLink RX4 59 Lib.Math.min.name : Cond), (.fieldLink RX4 65 "Counterpointery$Search" "length" "I" : Cond), (.fieldLink RX4 71 "Counterpointery$Search" "width" "I" : Cond), (.fieldLink RX4 76 "Counterpointery$Search" "low" "I" : Cond)]
def wa_8 : List Cond := [(.methodLink RX4 50 yX1_changes : Cond), (.instanceMethod yX1_changes : Cond), (.selects RX1 yX1_changes yX1_changes : Cond), (.code yX1_changes cX1_changes 1 (some .int) : Cond), (.methodLink RX4 56 yX1_room : Cond), (.methodLink RX4 68 yX1_width : Cond), (.instanceMethod yX1_width : Cond), (.selects RX1 yX1_width yX1_width : Cond), (.code yX1_width cX1_width 1 (some .int) : Cond), (.methodLink RX4 73 yX1_lowest : Cond), (.instanceMethod yX1_lowest : Cond), (.selects RX1 yX1_lowest yX1_lowest : Cond), (.code yX1_lowest cX1_lowest 1 (some .int) : Cond), (.methodLink RX4 79 yX3_stretch : Cond), (.instanceMethod yX3_stretch : Cond), (.selects RX3 yX3_stretch yX3_stretch : Cond), (.code yX3_stretch cX3_stretch 2 none : Cond), (.methodLink RX4 83 yX4_makeMasks : Cond), (.instanceMethod yX4_makeMasks : Cond), (.selects RX4 yX4_makeMasks yX4_makeMasks : Cond), (.initialized RX4 : Cond), (.code yX4_makeMasks cX4_makeMasks 9 none : Cond), (.methodLink RX4 87 yX4_choices : Cond), (.instanceMethod yX4_choices : Cond), (.selects RX4 yX4_choices yX4_choices : Cond), (.code yX4_choices cX4_choices 2 (some .int) : Cond), (.methodLink RX4 91 yX3_put : Cond), (.instanceMethod yX3_put : Cond), (.selects RX3 yX3_put yX3_put : Cond), (.code yX3_put cX3_put 3 none : Cond), (.methodLink RX4 95 yX3_nearFaults : Cond), (.methodLink RX4 98 yX4_maskPlace : Cond)]
def wa_9 : List Cond := [(.instanceMethod yX4_maskPlace : Cond), (.selects RX4 yX4_maskPlace yX4_maskPlace : Cond), (.code yX4_maskPlace cX4_maskPlace 5 (some .int) : Cond), (.methodLink RX4 102 yX3_farFaults : Cond), (.constant RX4 109 (1000000) : Cond), (.methodLink RX4 105 yX4_tailPlace : Cond), (.instanceMethod yX4_tailPlace : Cond), (.selects RX4 yX4_tailPlace yX4_tailPlace : Cond), (.code yX4_tailPlace cX4_tailPlace 4 (some .int) : Cond), (.methodLink RX4 110 yX2_costOf : Cond), (.methodLink RX4 115 yX4_sweepEnd : Cond), (.instanceMethod yX4_sweepEnd : Cond), (.selects RX4 yX4_sweepEnd yX4_sweepEnd : Cond), (.code yX4_sweepEnd cX4_sweepEnd 7 none : Cond), (.methodLink RX4 124 yX4_emptyRow : Cond), (.instanceMethod yX4_emptyRow : Cond), (.selects RX4 yX4_emptyRow yX4_emptyRow : Cond), (.code yX4_emptyRow cX4_emptyRow 5 none : Cond), (.methodLink RX4 127 yX4_maskAt : Cond), (.instanceMethod yX4_maskAt : Cond), (.selects RX4 yX4_maskAt yX4_maskAt : Cond), (.code yX4_maskAt cX4_maskAt 6 (some .int) : Cond), (.methodLink RX4 130 yX4_priceOf : Cond), (.instanceMethod yX4_priceOf : Cond), (.selects RX4 yX4_priceOf yX4_priceOf : Cond), (.code yX4_priceOf cX4_priceOf 3 (some .int) : Cond), (.methodLink RX4 133 yX4_slotAheadOf : Cond), (.instanceMethod yX4_slotAheadOf : Cond), (.selects RX4 yX4_slotAheadOf yX4_slotAheadOf : Cond), (.code yX4_slotAheadOf cX4_slotAheadOf 3 (some .int) : Cond), (.methodLink RX4 136 yX4_putAhead : Cond), (.instanceMethod yX4_putAhead : Cond)]
def wa_10 : List Cond := [(.selects RX4 yX4_putAhead yX4_putAhead : Cond), (.code yX4_putAhead cX4_putAhead 12 none : Cond), (.methodLink RX4 118 yX4_sweepPlace : Cond), (.instanceMethod yX4_sweepPlace : Cond), (.selects RX4 yX4_sweepPlace yX4_sweepPlace : Cond), (.code yX4_sweepPlace cX4_sweepPlace 6 none : Cond), (.methodLink RX4 121 yX4_tailAt : Cond), (.instanceMethod yX4_tailAt : Cond), (.selects RX4 yX4_tailAt yX4_tailAt : Cond), (.code yX4_tailAt cX4_tailAt 5 (some .int) : Cond), (.methodLink RX4 140 yX4_waysAt : Cond), (.instanceMethod yX4_waysAt : Cond), (.selects RX4 yX4_waysAt yX4_waysAt : Cond), (.code yX4_waysAt cX4_waysAt 5 (some .long) : Cond), (.methodLink RX4 144 yX4_bestNext : Cond), (.instanceMethod yX4_bestNext : Cond), (.selects RX4 yX4_bestNext yX4_bestNext : Cond), (.code yX4_bestNext cX4_bestNext 7 (some .int) : Cond), (.methodLink RX4 147 yX4_writeBestEnd : Cond), (.instanceMethod yX4_writeBestEnd : Cond), (.selects RX4 yX4_writeBestEnd yX4_writeBestEnd : Cond), (.code yX4_writeBestEnd cX4_writeBestEnd 9 none : Cond), (.fieldLink RX4 152 "Counterpointery$Search" "barSet" "I" : Cond), (.methodLink RX4 151 yX2_changes : Cond), (.instanceMethod yX2_changes : Cond), (.selects RX2 yX2_changes yX2_changes : Cond), (.code yX2_changes cX2_changes 1 (some .int) : Cond), (.methodLink RX4 155 yX2_weighing : Cond), (.instanceMethod yX2_weighing : Cond), (.selects RX2 yX2_weighing yX2_weighing : Cond), (.code yX2_weighing cX2_weighing 4 (some .int) : Cond), (.methodLink RX4 158 yX4_sweep : Cond)]
def wa_11 : List Cond := [(.instanceMethod yX4_sweep : Cond), (.selects RX4 yX4_sweep yX4_sweep : Cond), (.code yX4_sweep cX4_sweep 3 (some .int) : Cond), (.methodLink RX4 161 yX4_writeBest : Cond), (.instanceMethod yX4_writeBest : Cond), (.selects RX4 yX4_writeBest yX4_writeBest : Cond), (.code yX4_writeBest cX4_writeBest 7 none : Cond), (.methodLink RX4 165 yX4_startTrying : Cond), (.instanceMethod yX4_startTrying : Cond), (.selects RX4 yX4_startTrying yX4_startTrying : Cond), (.code yX4_startTrying cX4_startTrying 3 (some .int) : Cond), (.methodLink RX4 168 yX3_isFree : Cond), (.instanceMethod yX3_isFree : Cond), (.selects RX3 yX3_isFree yX3_isFree : Cond), (.code yX3_isFree cX3_isFree 3 (some .boolean) : Cond), (.methodLink RX4 172 yX3_costBetween : Cond), (.methodLink RX4 176 yX4_isSketched : Cond), (.instanceMethod yX4_isSketched : Cond), (.selects RX4 yX4_isSketched yX4_isSketched : Cond), (.code yX4_isSketched cX4_isSketched 2 (some .boolean) : Cond), (.methodLink RX4 187 yX3_toneAt : Cond), (.methodLink RX4 180 yX4_tryNext : Cond), (.instanceMethod yX4_tryNext : Cond), (.selects RX4 yX4_tryNext yX4_tryNext : Cond), (.code yX4_tryNext cX4_tryNext 3 none : Cond), (.methodLink RX4 183 yX4_goodCount : Cond), (.instanceMethod yX4_goodCount : Cond), (.selects RX4 yX4_goodCount yX4_goodCount : Cond), (.code yX4_goodCount cX4_goodCount 1 (some .long) : Cond), (.methodLink RX6 1 objectInit : Cond), (.classLink RX6 7 RX1 : Cond), (.instantiable RX1 8 : Cond)]
def wa_12 : List Cond := [(.fieldLink RX6 10 "Counterpointery" "ground" "LCounterpointery$Ground;" : Cond), (.classLink RX6 16 RX3 : Cond), (.fieldLink RX6 21 "Counterpointery" "line" "LCounterpointery$Line;" : Cond), (.classLink RX6 25 RX2 : Cond), (.instantiable RX2 2 : Cond), (.fieldLink RX6 28 "Counterpointery" "laws" "LCounterpointery$Laws;" : Cond), (.methodLink RX6 9 yX1_init : Cond), (.instanceMethod yX1_init : Cond), (.code yX1_init cX1_init 1 none : Cond), (.methodLink RX6 18 yX3_init : Cond), (.methodLink RX6 27 yX2_init : Cond), (.instanceMethod yX2_init : Cond), (.code yX2_init cX2_init 1 none : Cond), (.classLink RX6 40 "java/lang/IllegalStateException" : Cond), (.initialized "java/lang/IllegalStateException" : Cond), (.methodLink RX6 32 yX6_requireNote : Cond), (.instanceMethod yX6_requireNote : Cond), (.selects RX6 yX6_requireNote yX6_requireNote : Cond), (.initialized RX6 : Cond), (.code yX6_requireNote cX6_requireNote 2 none : Cond), (.classLink RX6 77 "java/lang/IllegalArgumentException" : Cond), (.initialized "java/lang/IllegalArgumentException" : Cond), (.methodLink RX6 284 yX5_isNote : Cond), (.static yX5_isNote : Cond), (.code yX5_isNote cX5_isNote 1 (some .boolean) : Cond), (.methodLink RX6 36 yX1_size : Cond), (.methodLink RX6 47 yX1_append : Cond), (.instanceMethod yX1_append : Cond), (.selects RX1 yX1_append yX1_append : Cond), (.code yX1_append cX1_append 2 none : Cond), (.methodLink RX6 50 yX3_stretch : Cond), (.methodLink RX6 53 yX3_isFull : Cond)]
def wa_13 : List Cond := [(.instanceMethod yX3_isFull : Cond), (.selects RX3 yX3_isFull yX3_isFull : Cond), (.code yX3_isFull cX3_isFull 1 (some .boolean) : Cond), (.methodLink RX6 59 yX3_append : Cond), (.instanceMethod yX3_append : Cond), (.selects RX3 yX3_append yX3_append : Cond), (.code yX3_append cX3_append 2 none : Cond), (.methodLink RX6 60 yX3_length : Cond), (.methodLink RX6 63 yX6_requireIndex : Cond), (.instanceMethod yX6_requireIndex : Cond), (.selects RX6 yX6_requireIndex yX6_requireIndex : Cond), (.code yX6_requireIndex cX6_requireIndex 2 none : Cond), (.classLink RX6 202 "java/lang/IndexOutOfBoundsException" : Cond), (.initialized "java/lang/IndexOutOfBoundsException" : Cond), (.methodLink RX6 289 yX3_has : Cond), (.instanceMethod yX3_has : Cond), (.selects RX3 yX3_has yX3_has : Cond), (.code yX3_has cX3_has 2 (some .boolean) : Cond), (.methodLink RX6 66 yX3_toneAt : Cond), (.methodLink RX6 70 yX3_put : Cond), (.methodLink RX6 74 yX1_empty : Cond), (.instanceMethod yX1_empty : Cond), (.selects RX1 yX1_empty yX1_empty : Cond), (.code yX1_empty cX1_empty 1 none : Cond), (.methodLink RX6 82 yX1_perGiven : Cond), (.methodLink RX6 85 yX1_setPerGiven : Cond), (.instanceMethod yX1_setPerGiven : Cond), (.selects RX1 yX1_setPerGiven yX1_setPerGiven : Cond), (.code yX1_setPerGiven cX1_setPerGiven 2 none : Cond), (.methodLink RX6 88 yX1_isBelow : Cond), (.methodLink RX6 91 yX1_setBelow : Cond), (.instanceMethod yX1_setBelow : Cond)]
def wa_14 : List Cond := [(.selects RX1 yX1_setBelow yX1_setBelow : Cond), (.code yX1_setBelow cX1_setBelow 2 none : Cond), (.methodLink RX6 95 yX1_isFeigning : Cond), (.methodLink RX6 98 yX1_setFeigning : Cond), (.instanceMethod yX1_setFeigning : Cond), (.selects RX1 yX1_setFeigning yX1_setFeigning : Cond), (.code yX1_setFeigning cX1_setFeigning 2 none : Cond), (.methodLink RX6 101 yX3_heightAt : Cond), (.methodLink RX6 104 yX3_gapAt : Cond), (.methodLink RX6 107 yX5_signOf : Cond), (.static yX5_signOf : Cond), (.code yX5_signOf cX5_signOf 1 (some .char) : Cond), (.methodLink RX6 113 yX6_requiredLaw : Cond), (.instanceMethod yX6_requiredLaw : Cond), (.selects RX6 yX6_requiredLaw yX6_requiredLaw : Cond), (.code yX6_requiredLaw cX6_requiredLaw 3 (some .int) : Cond), (.methodLink RX6 296 yJ0_indexOf_0f7a4 : Cond), (.instanceMethod yJ0_indexOf_0f7a4 : Cond), (.selects RJ0 yJ0_indexOf_0f7a4 yJ0_indexOf_0f7a4 : Cond), (.code yJ0_indexOf_0f7a4 cJ0_indexOf_0f7a4 2 (some .int) : Cond), (.methodLink RJ0 633 yJ0_indexOf_7cf53 : Cond), (.instanceMethod yJ0_indexOf_7cf53 : Cond), (.selects RJ0 yJ0_indexOf_7cf53 yJ0_indexOf_7cf53 : Cond), (.code yJ0_indexOf_7cf53 cJ0_indexOf_7cf53 3 (some .int) : Cond), (.methodLink RJ0 505 yJ0_length_8abf5 : Cond), (.methodLink RJ0 637 yJ1_indexOf_4cfef : Cond), (.static yJ1_indexOf_4cfef : Cond), (.code yJ1_indexOf_4cfef cJ1_indexOf_4cfef 4 (some .int) : Cond), (.methodLink RJ1 92 Lib.Math.max.name : Cond), (.methodLink RJ1 38 Lib.Math.min.name : Cond), (.methodLink RJ1 88 yJ1_canEncode_9a6ad : Cond), (.static yJ1_canEncode_9a6ad : Cond)]
def wa_15 : List Cond := [(.code yJ1_canEncode_9a6ad cJ1_canEncode_9a6ad 1 (some .boolean) : Cond), (.methodLink RJ1 95 yJ1_indexOfChar_4cfef : Cond), (.static yJ1_indexOfChar_4cfef : Cond), (.code yJ1_indexOfChar_4cfef cJ1_indexOfChar_4cfef 6 (some .int) : Cond), (.methodLink RJ0 640 yJ2_indexOf_4cfef : Cond), (.static yJ2_indexOf_4cfef : Cond), (.code yJ2_indexOf_4cfef cJ2_indexOf_4cfef 4 (some .int) : Cond), (.methodLink RJ2 224 Lib.Math.max.name : Cond), (.methodLink RJ2 183 Lib.Math.min.name : Cond), (.constant RJ2 227 (65536) : Cond), (.methodLink RJ2 228 yJ2_indexOfChar_4cfef : Cond), (.static yJ2_indexOfChar_4cfef : Cond), (.code yJ2_indexOfChar_4cfef cJ2_indexOfChar_4cfef 4 (some .int) : Cond), (.methodLink RJ2 96 yJ2_checkBoundsBeginEnd_d044e : Cond), (.static yJ2_checkBoundsBeginEnd_d044e : Cond), (.code yJ2_checkBoundsBeginEnd_d044e cJ2_checkBoundsBeginEnd_d044e 3 none : Cond), (.methodLink RJ2 241 yJ0_checkBoundsBeginEnd_23922 : Cond), (.static yJ0_checkBoundsBeginEnd_23922 : Cond), (.code yJ0_checkBoundsBeginEnd_23922 cJ0_checkBoundsBeginEnd_23922 3 none : Cond), (.methodLink RJ0 1062 yJ3_checkFromToIndex_8c36e : Cond), (.static yJ3_checkFromToIndex_8c36e : Cond), (.code yJ3_checkFromToIndex_8c36e cJ3_checkFromToIndex_8c36e 4 (some .int) : Cond), (.methodLink RJ2 244 yJ2_indexOfCharUnsafe_4cfef : Cond), (.static yJ2_indexOfCharUnsafe_4cfef : Cond), (.code yJ2_indexOfCharUnsafe_4cfef cJ2_indexOfCharUnsafe_4cfef 5 (some .int) : Cond), (.methodLink RJ2 232 yJ2_indexOfSupplementary_4cfef : Cond), (.static yJ2_indexOfSupplementary_4cfef : Cond), (.code yJ2_indexOfSupplementary_4cfef cJ2_indexOfSupplementary_4cfef 7 (some .int) : Cond), (.methodLink RJ2 164 yJ11_isValidCodePoint_9a6ad : Cond), (.static yJ11_isValidCodePoint_9a6ad : Cond), (.initialized RJ11 : Cond), (.code yJ11_isValidCodePoint_9a6ad cJ11_isValidCodePoint_9a6ad 2 (some .boolean) : Cond)]
def wa_16 : List Cond := [(.methodLink RJ2 157 yJ11_highSurrogate_5068e : Cond), (.static yJ11_highSurrogate_5068e : Cond), (.code yJ11_highSurrogate_5068e cJ11_highSurrogate_5068e 1 (some .char) : Cond), (.constant RJ11 110 (55232) : Cond), (.methodLink RJ2 161 yJ11_lowSurrogate_5068e : Cond), (.static yJ11_lowSurrogate_5068e : Cond), (.code yJ11_lowSurrogate_5068e cJ11_lowSurrogate_5068e 1 (some .char) : Cond), (.constant RJ11 76 (56320) : Cond), (.methodLink RX6 119 yX2_weightOf : Cond), (.methodLink RX6 122 yX2_setWeight : Cond), (.methodLink RX6 127 yX2_adopt : Cond), (.instanceMethod yX2_adopt : Cond), (.selects RX2 yX2_adopt yX2_adopt : Cond), (.code yX2_adopt cX2_adopt 5 (some .int) : Cond), (.methodLink RX6 130 yX2_weighing : Cond), (.methodLink RX6 133 yX3_faultsAt : Cond), (.methodLink RX6 136 yJ6_bitCount_0f7a4 : Cond), (.methodLink RX6 141 yX6_requiredFault : Cond), (.instanceMethod yX6_requiredFault : Cond), (.selects RX6 yX6_requiredFault yX6_requiredFault : Cond), (.code yX6_requiredFault cX6_requiredFault 3 (some .int) : Cond), (.methodLink RX6 301 yX3_faultNumber : Cond), (.instanceMethod yX3_faultNumber : Cond), (.selects RX3 yX3_faultNumber yX3_faultNumber : Cond), (.code yX3_faultNumber cX3_faultNumber 7 (some .int) : Cond), (.methodLink RX6 144 yX2_signOf : Cond), (.static yX2_signOf : Cond), (.code yX2_signOf cX2_signOf 1 (some .char) : Cond), (.methodLink RX6 145 yX3_costBetween : Cond), (.methodLink RX6 149 yX3_isWhole : Cond), (.instanceMethod yX3_isWhole : Cond), (.selects RX3 yX3_isWhole yX3_isWhole : Cond)]
def wa_17 : List Cond := [(.code yX3_isWhole cX3_isWhole 1 (some .boolean) : Cond), (.methodLink RX6 152 yX3_isFree : Cond), (.classLink RX6 163 "java/util/NoSuchElementException" : Cond), (.initialized "java/util/NoSuchElementException" : Cond), (.methodLink RX6 156 yX6_requireWhole : Cond), (.instanceMethod yX6_requireWhole : Cond), (.selects RX6 yX6_requireWhole yX6_requireWhole : Cond), (.code yX6_requireWhole cX6_requireWhole 1 none : Cond), (.methodLink RX6 159 yX3_costAround : Cond), (.instanceMethod yX3_costAround : Cond), (.selects RX3 yX3_costAround yX3_costAround : Cond), (.code yX3_costAround cX3_costAround 3 (some .int) : Cond), (.methodLink RX6 172 yX1_setRange : Cond), (.instanceMethod yX1_setRange : Cond), (.selects RX1 yX1_setRange yX1_setRange : Cond), (.code yX1_setRange cX1_setRange 3 none : Cond), (.methodLink RX6 175 yX1_width : Cond), (.constant RX6 188 (1000000) : Cond), (.methodLink RX6 178 yX6_requireSearchable : Cond), (.instanceMethod yX6_requireSearchable : Cond), (.selects RX6 yX6_requireSearchable yX6_requireSearchable : Cond), (.code yX6_requireSearchable cX6_requireSearchable 1 none : Cond), (.classLink RX6 310 "java/lang/UnsupportedOperationException" : Cond), (.initialized "java/lang/UnsupportedOperationException" : Cond), (.methodLink RX6 181 yX6_readySearch : Cond), (.instanceMethod yX6_readySearch : Cond), (.selects RX6 yX6_readySearch yX6_readySearch : Cond), (.code yX6_readySearch cX6_readySearch 1 (some (.object "Counterpointery$Search")) : Cond), (.fieldLink RX6 211 "Counterpointery" "search" "LCounterpointery$Search;" : Cond), (.classLink RX6 168 RX4 : Cond), (.instantiable RX4 14 : Cond), (.methodLink RX6 215 yX4_init : Cond)]
def wa_18 : List Cond := [(.instanceMethod yX4_init : Cond), (.code yX4_init cX4_init 3 none : Cond), (.methodLink RX6 218 yX4_prepare : Cond), (.instanceMethod yX4_prepare : Cond), (.selects RX4 yX4_prepare yX4_prepare : Cond), (.code yX4_prepare cX4_prepare 2 none : Cond), (.methodLink RX6 185 yX4_sweep : Cond), (.methodLink RX6 191 yX4_writeBest : Cond), (.methodLink RX6 195 yX4_goodCount : Cond), (.methodLink RX6 199 yX4_barring : Cond), (.instanceMethod yX4_barring : Cond), (.selects RX4 yX4_barring yX4_barring : Cond), (.code yX4_barring cX4_barring 3 (some .int) : Cond), (.methodLink RX6 207 yX2_nthOf : Cond), (.methodLink RX6 223 yX1_against : Cond), (.methodLink RX6 226 yX5_plainGap : Cond), (.methodLink RX6 229 yX1_isStrong : Cond), (.methodLink RX6 232 yX5_isDissonant : Cond), (.methodLink RX6 243 yX0_faultsOf : Cond), (.methodLink RX6 247 yX6_requireTwoNotes : Cond), (.instanceMethod yX6_requireTwoNotes : Cond), (.selects RX6 yX6_requireTwoNotes yX6_requireTwoNotes : Cond), (.code yX6_requireTwoNotes cX6_requireTwoNotes 1 none : Cond), (.methodLink RX6 250 yX0_faultlessCount : Cond), (.static yX0_faultlessCount : Cond), (.code yX0_faultlessCount cX0_faultlessCount 4 (some .int) : Cond), (.methodLink RX6 254 yX0_faultlessNumber : Cond), (.static yX0_faultlessNumber : Cond), (.code yX0_faultlessNumber cX0_faultlessNumber 5 (some .int) : Cond), (.classLink RX6 260 "java/lang/ArithmeticException" : Cond), (.initialized "java/lang/ArithmeticException" : Cond), (.methodLink RX6 268 Lib.Math.abs.name : Cond)]
def wa_19 : List Cond := [(.methodLink RX6 265 yX3_stepTo : Cond), (.methodLink RX6 275 yX6_costIsSumOfFaults : Cond), (.instanceMethod yX6_costIsSumOfFaults : Cond), (.selects RX6 yX6_costIsSumOfFaults yX6_costIsSumOfFaults : Cond), (.code yX6_costIsSumOfFaults cX6_costIsSumOfFaults 7 (some .boolean) : Cond), (.methodLink RX6 278 yX6_canTryAll : Cond), (.instanceMethod yX6_canTryAll : Cond), (.selects RX6 yX6_canTryAll yX6_canTryAll : Cond), (.code yX6_canTryAll cX6_canTryAll 1 (some .boolean) : Cond), (.methodLink RX6 281 yX4_agreesWithTryingAll : Cond), (.instanceMethod yX4_agreesWithTryingAll : Cond), (.selects RX4 yX4_agreesWithTryingAll yX4_agreesWithTryingAll : Cond), (.code yX4_agreesWithTryingAll cX4_agreesWithTryingAll 10 (some .boolean) : Cond), (.methodLink RX7 1 objectInit : Cond), (.fieldLink RX7 7 "CounterpointeryModel" "given" "[I" : Cond), (.fieldLink RX7 13 "CounterpointeryModel" "line" "[I" : Cond), (.fieldLink RX7 16 "CounterpointeryModel" "ratio" "I" : Cond), (.fieldLink RX7 20 "CounterpointeryModel" "low" "I" : Cond), (.fieldLink RX7 23 "CounterpointeryModel" "high" "I" : Cond), (.fieldLink RX7 26 "CounterpointeryModel" "weight" "[I" : Cond), (.fieldLink RX7 29 "CounterpointeryModel" "least" "[I" : Cond), (.fieldLink RX7 32 "CounterpointeryModel" "good" "[J" : Cond), (.methodLink RX7 36 yX7_style : Cond), (.instanceMethod yX7_style : Cond), (.selects RX7 yX7_style yX7_style : Cond), (.initialized RX7 : Cond), (.code yX7_style cX7_style 4 (some .int) : Cond), (.methodLink RX7 66 yX7_in : Cond), (.static yX7_in : Cond), (.code yX7_in cX7_in 3 (some .boolean) : Cond), (.methodLink RX7 125 yX7_goesOn : Cond), (.instanceMethod yX7_goesOn : Cond)]
def wa_20 : List Cond := [(.selects RX7 yX7_goesOn yX7_goesOn : Cond), (.code yX7_goesOn cX7_goesOn 2 (some .boolean) : Cond), (.fieldLink RX7 40 "CounterpointeryModel" "thrown" "I" : Cond), (.methodLink RX7 135 yX7_styled : Cond), (.static yX7_styled : Cond), (.code yX7_styled cX7_styled 3 (some .int) : Cond), (.methodLink RX7 43 yX7_white : Cond), (.static yX7_white : Cond), (.code yX7_white cX7_white 1 (some .int) : Cond), (.fieldLink RX7 46 "CounterpointeryModel" "givens" "I" : Cond), (.fieldLink RX7 49 "CounterpointeryModel" "notes" "I" : Cond), (.methodLink RX7 52 yX7_most : Cond), (.instanceMethod yX7_most : Cond), (.selects RX7 yX7_most yX7_most : Cond), (.code yX7_most cX7_most 1 (some .int) : Cond), (.fieldLink RX7 56 "CounterpointeryModel" "feigns" "Z" : Cond), (.methodLink RX7 60 yX7_pitchOf : Cond), (.static yX7_pitchOf : Cond), (.code yX7_pitchOf cX7_pitchOf 2 (some .int) : Cond), (.methodLink RX7 63 yX7_size : Cond), (.static yX7_size : Cond), (.code yX7_size cX7_size 1 (some .int) : Cond), (.methodLink RX7 70 yX7_givenOf : Cond), (.instanceMethod yX7_givenOf : Cond), (.selects RX7 yX7_givenOf yX7_givenOf : Cond), (.code yX7_givenOf cX7_givenOf 2 (some .int) : Cond), (.methodLink RX7 73 yX7_pitchAt : Cond), (.instanceMethod yX7_pitchAt : Cond), (.selects RX7 yX7_pitchAt yX7_pitchAt : Cond), (.code yX7_pitchAt cX7_pitchAt 5 (some .int) : Cond), (.methodLink RX7 77 yX7_kind : Cond), (.static yX7_kind : Cond)]
def wa_21 : List Cond := [(.code yX7_kind cX7_kind 6 (some .int) : Cond), (.methodLink RX7 80 yX7_letterOf : Cond), (.static yX7_letterOf : Cond), (.code yX7_letterOf cX7_letterOf 1 (some .char) : Cond), (.methodLink RX7 84 yX7_kindAt : Cond), (.instanceMethod yX7_kindAt : Cond), (.selects RX7 yX7_kindAt yX7_kindAt : Cond), (.code yX7_kindAt cX7_kindAt 4 (some .int) : Cond), (.methodLink RX7 87 yX7_move : Cond), (.instanceMethod yX7_move : Cond), (.selects RX7 yX7_move yX7_move : Cond), (.code yX7_move cX7_move 2 (some .int) : Cond), (.methodLink RX7 90 yX7_givenMove : Cond), (.instanceMethod yX7_givenMove : Cond), (.selects RX7 yX7_givenMove yX7_givenMove : Cond), (.code yX7_givenMove cX7_givenMove 2 (some .int) : Cond), (.methodLink RX7 93 yX7_isStrong : Cond), (.instanceMethod yX7_isStrong : Cond), (.selects RX7 yX7_isStrong yX7_isStrong : Cond), (.code yX7_isStrong cX7_isStrong 2 (some .boolean) : Cond), (.methodLink RX7 97 yX7_sign : Cond), (.static yX7_sign : Cond), (.code yX7_sign cX7_sign 1 (some .int) : Cond), (.fieldLink RX7 104 "CounterpointeryModel" "isLower" "Z" : Cond), (.methodLink RX7 100 yX7_endsBadly : Cond), (.instanceMethod yX7_endsBadly : Cond), (.selects RX7 yX7_endsBadly yX7_endsBadly : Cond), (.code yX7_endsBadly cX7_endsBadly 5 (some .boolean) : Cond), (.methodLink RX7 107 yX7_passesBadly : Cond), (.instanceMethod yX7_passesBadly : Cond), (.selects RX7 yX7_passesBadly yX7_passesBadly : Cond), (.code yX7_passesBadly cX7_passesBadly 5 (some .boolean) : Cond)]
def wa_22 : List Cond := [(.methodLink RX7 110 yX7_isParallel : Cond), (.instanceMethod yX7_isParallel : Cond), (.selects RX7 yX7_isParallel yX7_isParallel : Cond), (.code yX7_isParallel cX7_isParallel 6 (some .boolean) : Cond), (.methodLink RX7 113 yX7_isHidden : Cond), (.instanceMethod yX7_isHidden : Cond), (.selects RX7 yX7_isHidden yX7_isHidden : Cond), (.code yX7_isHidden cX7_isHidden 4 (some .boolean) : Cond), (.methodLink RX7 116 yX7_leapsBadly : Cond), (.instanceMethod yX7_leapsBadly : Cond), (.selects RX7 yX7_leapsBadly yX7_leapsBadly : Cond), (.code yX7_leapsBadly cX7_leapsBadly 5 (some .boolean) : Cond), (.methodLink RX7 119 yX7_isUnanswered : Cond), (.instanceMethod yX7_isUnanswered : Cond), (.selects RX7 yX7_isUnanswered yX7_isUnanswered : Cond), (.code yX7_isUnanswered cX7_isUnanswered 3 (some .boolean) : Cond), (.methodLink RX7 122 yX7_isNote : Cond), (.static yX7_isNote : Cond), (.code yX7_isNote cX7_isNote 1 (some .boolean) : Cond), (.methodLink RX7 128 yX7_has : Cond), (.instanceMethod yX7_has : Cond), (.selects RX7 yX7_has yX7_has : Cond), (.code yX7_has cX7_has 2 (some .boolean) : Cond), (.methodLink RX7 131 yX7_lawOf : Cond), (.static yX7_lawOf : Cond), (.code yX7_lawOf cX7_lawOf 3 (some .int) : Cond), (.methodLink RX7 138 yX7_isFault : Cond), (.instanceMethod yX7_isFault : Cond), (.selects RX7 yX7_isFault yX7_isFault : Cond), (.code yX7_isFault cX7_isFault 6 (some .boolean) : Cond), (.methodLink RX7 141 yX7_faultsUpTo : Cond), (.instanceMethod yX7_faultsUpTo : Cond)]
def wa_23 : List Cond := [(.selects RX7 yX7_faultsUpTo yX7_faultsUpTo : Cond), (.code yX7_faultsUpTo cX7_faultsUpTo 5 (some .int) : Cond), (.methodLink RX7 144 yX7_faultWith : Cond), (.instanceMethod yX7_faultWith : Cond), (.selects RX7 yX7_faultWith yX7_faultWith : Cond), (.code yX7_faultWith cX7_faultWith 3 (some .int) : Cond), (.methodLink RX7 147 yX7_costNow : Cond), (.instanceMethod yX7_costNow : Cond), (.selects RX7 yX7_costNow yX7_costNow : Cond), (.code yX7_costNow cX7_costNow 4 (some .int) : Cond), (.methodLink RX7 150 yX7_isWhole : Cond), (.instanceMethod yX7_isWhole : Cond), (.selects RX7 yX7_isWhole yX7_isWhole : Cond), (.code yX7_isWhole cX7_isWhole 1 (some .boolean) : Cond), (.constant RX7 154 (1000000) : Cond), (.methodLink RX7 155 yX7_costAt : Cond), (.instanceMethod yX7_costAt : Cond), (.selects RX7 yX7_costAt yX7_costAt : Cond), (.code yX7_costAt cX7_costAt 8 (some .int) : Cond), (.methodLink RX7 159 yX7_paid : Cond), (.instanceMethod yX7_paid : Cond), (.selects RX7 yX7_paid yX7_paid : Cond), (.code yX7_paid cX7_paid 5 (some .int) : Cond), (.methodLink RX7 162 yX7_reckons : Cond), (.instanceMethod yX7_reckons : Cond), (.selects RX7 yX7_reckons yX7_reckons : Cond), (.code yX7_reckons cX7_reckons 10 none : Cond), (.methodLink RX7 166 yX7_paidFirst : Cond), (.instanceMethod yX7_paidFirst : Cond), (.selects RX7 yX7_paidFirst yX7_paidFirst : Cond), (.code yX7_paidFirst cX7_paidFirst 2 (some .int) : Cond), (.methodLink RX7 169 yX7_searchFault : Cond)]
def wa_24 : List Cond := [(.instanceMethod yX7_searchFault : Cond), (.selects RX7 yX7_searchFault yX7_searchFault : Cond), (.code yX7_searchFault cX7_searchFault 1 (some .int) : Cond), (.methodLink RX7 172 yX7_keepsLine : Cond), (.instanceMethod yX7_keepsLine : Cond), (.selects RX7 yX7_keepsLine yX7_keepsLine : Cond), (.code yX7_keepsLine cX7_keepsLine 4 (some .boolean) : Cond), (.methodLink RX7 176 yX7_leastCost : Cond), (.instanceMethod yX7_leastCost : Cond), (.selects RX7 yX7_leastCost yX7_leastCost : Cond), (.code yX7_leastCost cX7_leastCost 6 (some .int) : Cond), (.methodLink RX7 179 yX7_goodWith : Cond), (.instanceMethod yX7_goodWith : Cond), (.selects RX7 yX7_goodWith yX7_goodWith : Cond), (.code yX7_goodWith cX7_goodWith 6 (some .long) : Cond), (.fieldLink RX7 186 "CounterpointeryModel" "barring" "I" : Cond), (.methodLink RX7 183 yX7_bar : Cond), (.instanceMethod yX7_bar : Cond), (.selects RX7 yX7_bar yX7_bar : Cond), (.code yX7_bar cX7_bar 6 (some .int) : Cond), (.methodLink RX7 189 yX7_together : Cond), (.instanceMethod yX7_together : Cond), (.selects RX7 yX7_together yX7_together : Cond), (.code yX7_together cX7_together 5 (some .int) : Cond), (.methodLink RX7 193 yX7_canonFaults : Cond), (.instanceMethod yX7_canonFaults : Cond), (.selects RX7 yX7_canonFaults yX7_canonFaults : Cond), (.code yX7_canonFaults cX7_canonFaults 6 (some .int) : Cond), (.methodLink RX7 196 yX7_canonsUpTo : Cond), (.instanceMethod yX7_canonsUpTo : Cond), (.selects RX7 yX7_canonsUpTo yX7_canonsUpTo : Cond), (.code yX7_canonsUpTo cX7_canonsUpTo 5 (some .int) : Cond)]
def wa_25 : List Cond := [(.classLink RL 13 "java/lang/IllegalArgumentException" : Cond), (.classLink RL 15 "java/lang/IllegalStateException" : Cond), (.methodLink RL 7 yX6_given : Cond), (.instanceMethod yX6_given : Cond), (.selects RX6 yX6_given yX6_given : Cond), (.code yX6_given cX6_given 2 (some .int) : Cond), (.methodLink RL 17 yX6_other : Cond), (.instanceMethod yX6_other : Cond), (.selects RX6 yX6_other yX6_other : Cond), (.code yX6_other cX6_other 2 (some .int) : Cond), (.classLink RL 24 "java/lang/IndexOutOfBoundsException" : Cond), (.methodLink RL 20 yX6_change : Cond), (.instanceMethod yX6_change : Cond), (.selects RX6 yX6_change yX6_change : Cond), (.code yX6_change cX6_change 4 (some .int) : Cond), (.methodLink RL 26 yX6_ratio : Cond), (.instanceMethod yX6_ratio : Cond), (.selects RX6 yX6_ratio yX6_ratio : Cond), (.code yX6_ratio cX6_ratio 3 (some .int) : Cond), (.methodLink RL 29 yX6_noteAt : Cond), (.instanceMethod yX6_noteAt : Cond), (.selects RX6 yX6_noteAt yX6_noteAt : Cond), (.code yX6_noteAt cX6_noteAt 2 (some .int) : Cond), (.methodLink RL 32 yX6_pitch : Cond), (.instanceMethod yX6_pitch : Cond), (.selects RX6 yX6_pitch yX6_pitch : Cond), (.code yX6_pitch cX6_pitch 2 (some .int) : Cond), (.methodLink RL 35 yX6_interval : Cond), (.instanceMethod yX6_interval : Cond), (.selects RX6 yX6_interval yX6_interval : Cond), (.code yX6_interval cX6_interval 2 (some .char) : Cond), (.methodLink RL 39 yX6_setLaw : Cond)]
def wa_26 : List Cond := [(.instanceMethod yX6_setLaw : Cond), (.selects RX6 yX6_setLaw yX6_setLaw : Cond), (.code yX6_setLaw cX6_setLaw 5 (some .int) : Cond), (.methodLink RL 43 yX6_weight : Cond), (.instanceMethod yX6_weight : Cond), (.selects RX6 yX6_weight yX6_weight : Cond), (.code yX6_weight cX6_weight 3 (some .int) : Cond), (.methodLink RL 47 yX6_style : Cond), (.instanceMethod yX6_style : Cond), (.selects RX6 yX6_style yX6_style : Cond), (.code yX6_style cX6_style 2 (some .int) : Cond), (.methodLink RL 50 yX6_faultAt : Cond), (.instanceMethod yX6_faultAt : Cond), (.selects RX6 yX6_faultAt yX6_faultAt : Cond), (.code yX6_faultAt cX6_faultAt 2 (some .int) : Cond), (.methodLink RL 53 yX6_faultOf : Cond), (.instanceMethod yX6_faultOf : Cond), (.selects RX6 yX6_faultOf yX6_faultOf : Cond), (.code yX6_faultOf cX6_faultOf 2 (some .char) : Cond), (.classLink RL 60 "java/util/NoSuchElementException" : Cond), (.methodLink RL 56 yX6_mend : Cond), (.instanceMethod yX6_mend : Cond), (.selects RX6 yX6_mend yX6_mend : Cond), (.code yX6_mend cX6_mend 9 (some .int) : Cond), (.methodLink RL 62 yX6_range : Cond), (.instanceMethod yX6_range : Cond), (.selects RX6 yX6_range yX6_range : Cond), (.code yX6_range cX6_range 3 (some .int) : Cond), (.classLink RL 68 "java/lang/UnsupportedOperationException" : Cond), (.methodLink RL 65 yX6_find : Cond), (.instanceMethod yX6_find : Cond), (.selects RX6 yX6_find yX6_find : Cond)]
def wa_27 : List Cond := [(.code yX6_find cX6_find 4 (some .int) : Cond), (.methodLink RL 70 yX6_goodLines : Cond), (.instanceMethod yX6_goodLines : Cond), (.selects RX6 yX6_goodLines yX6_goodLines : Cond), (.code yX6_goodLines cX6_goodLines 2 (some .long) : Cond), (.methodLink RL 74 yX6_bars : Cond), (.instanceMethod yX6_bars : Cond), (.selects RX6 yX6_bars yX6_bars : Cond), (.code yX6_bars cX6_bars 1 (some .int) : Cond), (.methodLink RL 77 yX6_barAt : Cond), (.instanceMethod yX6_barAt : Cond), (.selects RX6 yX6_barAt yX6_barAt : Cond), (.code yX6_barAt cX6_barAt 3 (some .char) : Cond), (.methodLink RL 80 yX6_exchanged : Cond), (.instanceMethod yX6_exchanged : Cond), (.selects RX6 yX6_exchanged yX6_exchanged : Cond), (.code yX6_exchanged cX6_exchanged 5 (some .int) : Cond), (.methodLink RL 83 yX6_canon : Cond), (.instanceMethod yX6_canon : Cond), (.selects RX6 yX6_canon yX6_canon : Cond), (.code yX6_canon cX6_canon 3 (some .int) : Cond), (.methodLink RL 86 yX6_canons : Cond), (.instanceMethod yX6_canons : Cond), (.selects RX6 yX6_canons yX6_canons : Cond), (.code yX6_canons cX6_canons 1 (some .int) : Cond), (.methodLink RL 89 yX6_canonAt : Cond), (.instanceMethod yX6_canonAt : Cond), (.selects RX6 yX6_canonAt yX6_canonAt : Cond), (.code yX6_canonAt cX6_canonAt 3 (some .int) : Cond), (.classLink RL 96 "java/lang/ArithmeticException" : Cond), (.methodLink RL 92 yX6_stepShare : Cond), (.instanceMethod yX6_stepShare : Cond)]
def wa_28 : List Cond := [(.selects RX6 yX6_stepShare yX6_stepShare : Cond), (.code yX6_stepShare cX6_stepShare 4 (some .float) : Cond), (.methodLink RL 98 yX6_meanPitch : Cond), (.instanceMethod yX6_meanPitch : Cond), (.selects RX6 yX6_meanPitch yX6_meanPitch : Cond), (.code yX6_meanPitch cX6_meanPitch 4 (some .double) : Cond), (.classLink RL 8 RX6 : Cond), (.instantiable RX6 4 : Cond), (.classLink RL 103 RX7 : Cond), (.instantiable RX7 14 : Cond), (.arrayClass .double : Cond), (.methodLink RL 102 yX6_init : Cond), (.instanceMethod yX6_init : Cond), (.code yX6_init cX6_init 1 none : Cond), (.methodLink RL 105 yX7_init : Cond), (.instanceMethod yX7_init : Cond), (.code yX7_init cX7_init 2 none : Cond), (.methodLink RL 106 yL_given : Cond), (.static yL_given : Cond), (.initialized RL : Cond), (.codeWith yL_given cL_given 4 (some .int) [(0, 9, 12, 13), (0, 9, 15, 15)] : Cond), (.methodLink RL 111 yX7_given : Cond), (.instanceMethod yX7_given : Cond), (.selects RX7 yX7_given yX7_given : Cond), (.code yX7_given cX7_given 2 (some .int) : Cond), (.methodLink RL 112 yX7_thrown : Cond), (.instanceMethod yX7_thrown : Cond), (.selects RX7 yX7_thrown yX7_thrown : Cond), (.code yX7_thrown cX7_thrown 1 (some .int) : Cond), (.methodLink RL 115 yL_other : Cond), (.static yL_other : Cond), (.codeWith yL_other cL_other 4 (some .int) [(0, 9, 12, 13), (0, 9, 15, 15)] : Cond)]
def wa_29 : List Cond := [(.methodLink RL 117 yX7_other : Cond), (.instanceMethod yX7_other : Cond), (.selects RX7 yX7_other yX7_other : Cond), (.code yX7_other cX7_other 2 (some .int) : Cond), (.methodLink RL 118 yL_change : Cond), (.static yL_change : Cond), (.codeWith yL_change cL_change 5 (some .int) [(0, 10, 13, 24), (0, 10, 17, 13)] : Cond), (.methodLink RL 121 yX7_change : Cond), (.instanceMethod yX7_change : Cond), (.selects RX7 yX7_change yX7_change : Cond), (.code yX7_change cX7_change 4 (some .int) : Cond), (.methodLink RL 122 yX6_clear : Cond), (.instanceMethod yX6_clear : Cond), (.selects RX6 yX6_clear yX6_clear : Cond), (.code yX6_clear cX6_clear 3 (some .int) : Cond), (.methodLink RL 126 yX7_clear : Cond), (.instanceMethod yX7_clear : Cond), (.selects RX7 yX7_clear yX7_clear : Cond), (.code yX7_clear cX7_clear 3 (some .int) : Cond), (.methodLink RL 127 yL_ratio : Cond), (.static yL_ratio : Cond), (.codeWith yL_ratio cL_ratio 4 (some .int) [(0, 9, 12, 13)] : Cond), (.methodLink RL 129 yX7_ratio : Cond), (.instanceMethod yX7_ratio : Cond), (.selects RX7 yX7_ratio yX7_ratio : Cond), (.code yX7_ratio cX7_ratio 3 (some .int) : Cond), (.methodLink RL 130 yX6_lower : Cond), (.instanceMethod yX6_lower : Cond), (.selects RX6 yX6_lower yX6_lower : Cond), (.code yX6_lower cX6_lower 3 (some .boolean) : Cond), (.methodLink RL 134 yX7_lower : Cond), (.instanceMethod yX7_lower : Cond)]
def wa_30 : List Cond := [(.selects RX7 yX7_lower yX7_lower : Cond), (.code yX7_lower cX7_lower 3 (some .boolean) : Cond), (.methodLink RL 135 yX6_feign : Cond), (.instanceMethod yX6_feign : Cond), (.selects RX6 yX6_feign yX6_feign : Cond), (.code yX6_feign cX6_feign 3 (some .boolean) : Cond), (.methodLink RL 138 yX7_feign : Cond), (.instanceMethod yX7_feign : Cond), (.selects RX7 yX7_feign yX7_feign : Cond), (.code yX7_feign cX7_feign 3 (some .boolean) : Cond), (.methodLink RL 139 yX6_notes : Cond), (.instanceMethod yX6_notes : Cond), (.selects RX6 yX6_notes yX6_notes : Cond), (.code yX6_notes cX6_notes 1 (some .int) : Cond), (.methodLink RL 142 yX7_notes : Cond), (.instanceMethod yX7_notes : Cond), (.selects RX7 yX7_notes yX7_notes : Cond), (.code yX7_notes cX7_notes 1 (some .int) : Cond), (.methodLink RL 143 yL_noteAt : Cond), (.static yL_noteAt : Cond), (.codeWith yL_noteAt cL_noteAt 4 (some .int) [(0, 9, 12, 24)] : Cond), (.methodLink RL 145 yX7_noteAt : Cond), (.instanceMethod yX7_noteAt : Cond), (.selects RX7 yX7_noteAt yX7_noteAt : Cond), (.code yX7_noteAt cX7_noteAt 2 (some .int) : Cond), (.methodLink RL 146 yL_pitch : Cond), (.static yL_pitch : Cond), (.codeWith yL_pitch cL_pitch 4 (some .int) [(0, 9, 12, 24)] : Cond), (.methodLink RL 148 yX7_pitch : Cond), (.instanceMethod yX7_pitch : Cond), (.selects RX7 yX7_pitch yX7_pitch : Cond), (.code yX7_pitch cX7_pitch 2 (some .int) : Cond)]
def wa_31 : List Cond := [(.methodLink RL 149 yL_interval : Cond), (.static yL_interval : Cond), (.codeWith yL_interval cL_interval 4 (some .int) [(0, 9, 12, 24)] : Cond), (.methodLink RL 151 yX7_interval : Cond), (.instanceMethod yX7_interval : Cond), (.selects RX7 yX7_interval yX7_interval : Cond), (.code yX7_interval cX7_interval 3 (some .char) : Cond), (.methodLink RL 152 yL_setLaw : Cond), (.static yL_setLaw : Cond), (.codeWith yL_setLaw cL_setLaw 5 (some .int) [(0, 10, 13, 13)] : Cond), (.methodLink RL 155 yX7_setLaw : Cond), (.instanceMethod yX7_setLaw : Cond), (.selects RX7 yX7_setLaw yX7_setLaw : Cond), (.code yX7_setLaw cX7_setLaw 5 (some .int) : Cond), (.methodLink RL 156 yL_weight : Cond), (.static yL_weight : Cond), (.codeWith yL_weight cL_weight 4 (some .int) [(0, 9, 12, 13)] : Cond), (.methodLink RL 159 yX7_weight : Cond), (.instanceMethod yX7_weight : Cond), (.selects RX7 yX7_weight yX7_weight : Cond), (.code yX7_weight cX7_weight 3 (some .int) : Cond), (.methodLink RL 160 yL_style : Cond), (.static yL_style : Cond), (.codeWith yL_style cL_style 4 (some .int) [(0, 9, 12, 13)] : Cond), (.methodLink RL 162 yX7_style : Cond), (.methodLink RL 163 yX6_faults : Cond), (.instanceMethod yX6_faults : Cond), (.selects RX6 yX6_faults yX6_faults : Cond), (.code yX6_faults cX6_faults 4 (some .int) : Cond), (.methodLink RL 166 yX7_faults : Cond), (.instanceMethod yX7_faults : Cond), (.selects RX7 yX7_faults yX7_faults : Cond)]
def wa_32 : List Cond := [(.code yX7_faults cX7_faults 1 (some .int) : Cond), (.methodLink RL 167 yL_faultAt : Cond), (.static yL_faultAt : Cond), (.codeWith yL_faultAt cL_faultAt 4 (some .int) [(0, 9, 12, 24)] : Cond), (.methodLink RL 169 yX7_faultAt : Cond), (.instanceMethod yX7_faultAt : Cond), (.selects RX7 yX7_faultAt yX7_faultAt : Cond), (.code yX7_faultAt cX7_faultAt 3 (some .int) : Cond), (.methodLink RL 170 yL_faultOf : Cond), (.static yL_faultOf : Cond), (.codeWith yL_faultOf cL_faultOf 4 (some .int) [(0, 9, 12, 24)] : Cond), (.methodLink RL 172 yX7_faultOf : Cond), (.instanceMethod yX7_faultOf : Cond), (.selects RX7 yX7_faultOf yX7_faultOf : Cond), (.code yX7_faultOf cX7_faultOf 3 (some .char) : Cond), (.methodLink RL 173 yX6_cost : Cond), (.instanceMethod yX6_cost : Cond), (.selects RX6 yX6_cost yX6_cost : Cond), (.code yX6_cost cX6_cost 1 (some .int) : Cond), (.methodLink RL 176 yX7_cost : Cond), (.instanceMethod yX7_cost : Cond), (.selects RX7 yX7_cost yX7_cost : Cond), (.code yX7_cost cX7_cost 1 (some .int) : Cond), (.methodLink RL 177 yX6_isGood : Cond), (.instanceMethod yX6_isGood : Cond), (.selects RX6 yX6_isGood yX6_isGood : Cond), (.code yX6_isGood cX6_isGood 1 (some .boolean) : Cond), (.methodLink RL 181 yX7_isGood : Cond), (.instanceMethod yX7_isGood : Cond), (.selects RX7 yX7_isGood yX7_isGood : Cond), (.code yX7_isGood cX7_isGood 4 (some .boolean) : Cond), (.methodLink RL 182 yL_mend : Cond)]
def wa_33 : List Cond := [(.static yL_mend : Cond), (.codeWith yL_mend cL_mend 3 (some .int) [(0, 8, 11, 15), (0, 8, 14, 60)] : Cond), (.methodLink RL 185 yX7_mend : Cond), (.instanceMethod yX7_mend : Cond), (.selects RX7 yX7_mend yX7_mend : Cond), (.code yX7_mend cX7_mend 9 (some .int) : Cond), (.methodLink RL 186 yL_range : Cond), (.static yL_range : Cond), (.codeWith yL_range cL_range 5 (some .int) [(0, 10, 13, 13)] : Cond), (.methodLink RL 188 yX7_range : Cond), (.instanceMethod yX7_range : Cond), (.selects RX7 yX7_range yX7_range : Cond), (.code yX7_range cX7_range 3 (some .int) : Cond), (.methodLink RL 189 yL_find : Cond), (.static yL_find : Cond), (.codeWith yL_find cL_find 3 (some .int) [(0, 8, 11, 15), (0, 8, 14, 68), (0, 8, 17, 60)] : Cond), (.methodLink RL 191 yX7_find : Cond), (.instanceMethod yX7_find : Cond), (.selects RX7 yX7_find yX7_find : Cond), (.code yX7_find cX7_find 12 (some .int) : Cond), (.methodLink RL 192 yL_goodLines : Cond), (.static yL_goodLines : Cond), (.codeWith yL_goodLines cL_goodLines 3 (some .int) [(0, 7, 10, 15), (0, 7, 13, 68)] : Cond), (.methodLink RL 194 yX7_goodLines : Cond), (.instanceMethod yX7_goodLines : Cond), (.selects RX7 yX7_goodLines yX7_goodLines : Cond), (.code yX7_goodLines cX7_goodLines 6 (some .long) : Cond), (.methodLink RL 195 yL_bars : Cond), (.static yL_bars : Cond), (.codeWith yL_bars cL_bars 3 (some .int) [(0, 8, 11, 15), (0, 8, 14, 68)] : Cond), (.methodLink RL 197 yX7_bars : Cond), (.instanceMethod yX7_bars : Cond)]
def wa_34 : List Cond := [(.selects RX7 yX7_bars yX7_bars : Cond), (.code yX7_bars cX7_bars 4 (some .int) : Cond), (.methodLink RL 198 yL_barAt : Cond), (.static yL_barAt : Cond), (.codeWith yL_barAt cL_barAt 4 (some .int) [(0, 9, 12, 15), (0, 9, 15, 68), (0, 9, 18, 24)] : Cond), (.methodLink RL 200 yX7_barAt : Cond), (.instanceMethod yX7_barAt : Cond), (.selects RX7 yX7_barAt yX7_barAt : Cond), (.code yX7_barAt cX7_barAt 6 (some .char) : Cond), (.methodLink RL 201 yL_exchanged : Cond), (.static yL_exchanged : Cond), (.codeWith yL_exchanged cL_exchanged 4 (some .int) [(0, 9, 12, 13), (0, 9, 15, 15)] : Cond), (.methodLink RL 203 yX7_exchanged : Cond), (.instanceMethod yX7_exchanged : Cond), (.selects RX7 yX7_exchanged yX7_exchanged : Cond), (.code yX7_exchanged cX7_exchanged 5 (some .int) : Cond), (.methodLink RL 204 yL_canon : Cond), (.static yL_canon : Cond), (.codeWith yL_canon cL_canon 5 (some .int) [(0, 10, 13, 13), (0, 10, 17, 15)] : Cond), (.methodLink RL 206 yX7_canon : Cond), (.instanceMethod yX7_canon : Cond), (.selects RX7 yX7_canon yX7_canon : Cond), (.code yX7_canon cX7_canon 4 (some .int) : Cond), (.methodLink RL 207 yL_canons : Cond), (.static yL_canons : Cond), (.codeWith yL_canons cL_canons 3 (some .int) [(0, 8, 11, 15)] : Cond), (.methodLink RL 209 yX7_canons : Cond), (.instanceMethod yX7_canons : Cond), (.selects RX7 yX7_canons yX7_canons : Cond), (.code yX7_canons cX7_canons 1 (some .int) : Cond), (.methodLink RL 210 yL_canonAt : Cond), (.static yL_canonAt : Cond)]
def wa_35 : List Cond := [(.codeWith yL_canonAt cL_canonAt 4 (some .int) [(0, 9, 12, 15), (0, 9, 15, 24)] : Cond), (.methodLink RL 212 yX7_canonAt : Cond), (.instanceMethod yX7_canonAt : Cond), (.selects RX7 yX7_canonAt yX7_canonAt : Cond), (.code yX7_canonAt cX7_canonAt 3 (some .int) : Cond), (.methodLink RL 213 yL_stepShare : Cond), (.static yL_stepShare : Cond), (.codeWith yL_stepShare cL_stepShare 3 (some .int) [(0, 8, 11, 96)] : Cond), (.methodLink RL 216 yX7_stepShare : Cond), (.instanceMethod yX7_stepShare : Cond), (.selects RX7 yX7_stepShare yX7_stepShare : Cond), (.code yX7_stepShare cX7_stepShare 3 (some .float) : Cond), (.methodLink RL 217 yL_meanPitch : Cond), (.static yL_meanPitch : Cond), (.codeWith yL_meanPitch cL_meanPitch 3 (some .int) [(0, 7, 10, 96)] : Cond), (.methodLink RL 219 yX7_meanPitch : Cond), (.instanceMethod yX7_meanPitch : Cond), (.selects RX7 yX7_meanPitch yX7_meanPitch : Cond), (.code yX7_meanPitch cX7_meanPitch 3 (some .double) : Cond), (.methodLink RL 220 yX6_isConsistent : Cond), (.instanceMethod yX6_isConsistent : Cond), (.selects RX6 yX6_isConsistent yX6_isConsistent : Cond), (.code yX6_isConsistent cX6_isConsistent 1 (some .boolean) : Cond), (.methodLink RL 223 yX7_isConsistent : Cond), (.instanceMethod yX7_isConsistent : Cond), (.selects RX7 yX7_isConsistent yX7_isConsistent : Cond), (.code yX7_isConsistent cX7_isConsistent 1 (some .boolean) : Cond)]
def cN : ByteArray := ⟨#[0x2a, 0x2b, 0xb7, 0x00, 0x0d, 0xb1]⟩
def nE : String := "java/util/NoSuchElementException"
def nR : String := "java/lang/RuntimeException"
/-- the words of a throw of NoSuchElementException, whose constructor calls by its entry 13 -/
def xN_own (ic : Nat) : List Cond := (Bundle.ownAtoms RX6 ic nE []).drop (Bundle.throwableAtoms.length + Bundle.throwableSAtoms.length + 5)
def xN_all (ic : Nat) : List Cond := Bundle.throwableAtoms ++ Bundle.throwableSAtoms ++ (Bundle.passSAtoms nE nR 13 cN ++ Bundle.chainSAtoms nR ["java/lang/Exception"]) ++ xN_own ic
def xN_at (ic : Nat) : List Cond := (xN_all ic).filter vx_no
def wx_0 : List Cond := (vx_atM "java/lang/ArrayIndexOutOfBoundsException" ["java/lang/IndexOutOfBoundsException", "java/lang/RuntimeException", "java/lang/Exception"]).filter goodWord
def wx_1 : List Cond := (vx_atS RX6 81 "java/lang/IllegalArgumentException" ["java/lang/RuntimeException", "java/lang/Exception"]).filter goodWord
def wx_2 : List Cond := (vx_atS RX6 44 "java/lang/IllegalStateException" ["java/lang/RuntimeException", "java/lang/Exception"]).filter goodWord
def wx_3 : List Cond := (vx_atS RX6 206 "java/lang/IndexOutOfBoundsException" ["java/lang/RuntimeException", "java/lang/Exception"]).filter goodWord
def wx_4 : List Cond := (xN_at 167).filter goodWord
def wx_5 : List Cond := (vx_atS RX6 314 "java/lang/UnsupportedOperationException" ["java/lang/RuntimeException", "java/lang/Exception"]).filter goodWord
def wx_6 : List Cond := (vx_atS RX6 264 "java/lang/ArithmeticException" ["java/lang/RuntimeException", "java/lang/Exception"]).filter goodWord
def wx_7 : List Cond := (vx_atM "java/lang/ArithmeticException" ["java/lang/RuntimeException", "java/lang/Exception"]).filter goodWord
def WA : List Cond := (((((wa_0 ++ (wa_1 ++ wa_2)) ++ (wa_3 ++ (wa_4 ++ wa_5))) ++ ((wa_6 ++ (wa_7 ++ wa_8)) ++ (wa_9 ++ (wa_10 ++ wa_11)))) ++ (((wa_12 ++ (wa_13 ++ wa_14)) ++ (wa_15 ++ (wa_16 ++ wa_17))) ++ ((wa_18 ++ (wa_19 ++ wa_20)) ++ ((wa_21 ++ wa_22) ++ (wa_23 ++ wa_24))))) ++ ((((wa_25 ++ (wa_26 ++ wa_27)) ++ (wa_28 ++ (wa_29 ++ wa_30))) ++ ((wa_31 ++ (wa_32 ++ wa_33)) ++ ((wa_34 ++ wa_35) ++ (wsX10 ++ wsX20)))) ++ (((wsX30 ++ (wsX40 ++ wsX60)) ++ (wsX70 ++ (wsJ00 ++ wx_0))) ++ ((wx_1 ++ (wx_2 ++ wx_3)) ++ ((wx_4 ++ wx_5) ++ (wx_6 ++ wx_7))))))
theorem q_wa_0 : ∀ w ∈ wa_0, w ∈ WA := fun _ h => (List.mem_append_left _ (List.mem_append_left _ (List.mem_append_left _ (List.mem_append_left _ (List.mem_append_left _ h)))))
theorem q_wa_1 : ∀ w ∈ wa_1, w ∈ WA := fun _ h => (List.mem_append_left _ (List.mem_append_left _ (List.mem_append_left _ (List.mem_append_left _ (List.mem_append_right _ (List.mem_append_left _ h))))))
theorem q_wa_2 : ∀ w ∈ wa_2, w ∈ WA := fun _ h => (List.mem_append_left _ (List.mem_append_left _ (List.mem_append_left _ (List.mem_append_left _ (List.mem_append_right _ (List.mem_append_right _ h))))))
theorem q_wa_3 : ∀ w ∈ wa_3, w ∈ WA := fun _ h => (List.mem_append_left _ (List.mem_append_left _ (List.mem_append_left _ (List.mem_append_right _ (List.mem_append_left _ h)))))
theorem q_wa_4 : ∀ w ∈ wa_4, w ∈ WA := fun _ h => (List.mem_append_left _ (List.mem_append_left _ (List.mem_append_left _ (List.mem_append_right _ (List.mem_append_right _ (List.mem_append_left _ h))))))
theorem q_wa_5 : ∀ w ∈ wa_5, w ∈ WA := fun _ h => (List.mem_append_left _ (List.mem_append_left _ (List.mem_append_left _ (List.mem_append_right _ (List.mem_append_right _ (List.mem_append_right _ h))))))
theorem q_wa_6 : ∀ w ∈ wa_6, w ∈ WA := fun _ h => (List.mem_append_left _ (List.mem_append_left _ (List.mem_append_right _ (List.mem_append_left _ (List.mem_append_left _ h)))))
theorem q_wa_7 : ∀ w ∈ wa_7, w ∈ WA := fun _ h => (List.mem_append_left _ (List.mem_append_left _ (List.mem_append_right _ (List.mem_append_left _ (List.mem_append_right _ (List.mem_append_left _ h))))))
theorem q_wa_8 : ∀ w ∈ wa_8, w ∈ WA := fun _ h => (List.mem_append_left _ (List.mem_append_left _ (List.mem_append_right _ (List.mem_append_left _ (List.mem_append_right _ (List.mem_append_right _ h))))))
theorem q_wa_9 : ∀ w ∈ wa_9, w ∈ WA := fun _ h => (List.mem_append_left _ (List.mem_append_left _ (List.mem_append_right _ (List.mem_append_right _ (List.mem_append_left _ h)))))
theorem q_wa_10 : ∀ w ∈ wa_10, w ∈ WA := fun _ h => (List.mem_append_left _ (List.mem_append_left _ (List.mem_append_right _ (List.mem_append_right _ (List.mem_append_right _ (List.mem_append_left _ h))))))
theorem q_wa_11 : ∀ w ∈ wa_11, w ∈ WA := fun _ h => (List.mem_append_left _ (List.mem_append_left _ (List.mem_append_right _ (List.mem_append_right _ (List.mem_append_right _ (List.mem_append_right _ h))))))
theorem q_wa_12 : ∀ w ∈ wa_12, w ∈ WA := fun _ h => (List.mem_append_left _ (List.mem_append_right _ (List.mem_append_left _ (List.mem_append_left _ (List.mem_append_left _ h)))))
theorem q_wa_13 : ∀ w ∈ wa_13, w ∈ WA := fun _ h => (List.mem_append_left _ (List.mem_append_right _ (List.mem_append_left _ (List.mem_append_left _ (List.mem_append_right _ (List.mem_append_left _ h))))))
theorem q_wa_14 : ∀ w ∈ wa_14, w ∈ WA := fun _ h => (List.mem_append_left _ (List.mem_append_right _ (List.mem_append_left _ (List.mem_append_left _ (List.mem_append_right _ (List.mem_append_right _ h))))))
theorem q_wa_15 : ∀ w ∈ wa_15, w ∈ WA := fun _ h => (List.mem_append_left _ (List.mem_append_right _ (List.mem_append_left _ (List.mem_append_right _ (List.mem_append_left _ h)))))
theorem q_wa_16 : ∀ w ∈ wa_16, w ∈ WA := fun _ h => (List.mem_append_left _ (List.mem_append_right _ (List.mem_append_left _ (List.mem_append_right _ (List.mem_append_right _ (List.mem_append_left _ h))))))
theorem q_wa_17 : ∀ w ∈ wa_17, w ∈ WA := fun _ h => (List.mem_append_left _ (List.mem_append_right _ (List.mem_append_left _ (List.mem_append_right _ (List.mem_append_right _ (List.mem_append_right _ h))))))
theorem q_wa_18 : ∀ w ∈ wa_18, w ∈ WA := fun _ h => (List.mem_append_left _ (List.mem_append_right _ (List.mem_append_right _ (List.mem_append_left _ (List.mem_append_left _ h)))))
theorem q_wa_19 : ∀ w ∈ wa_19, w ∈ WA := fun _ h => (List.mem_append_left _ (List.mem_append_right _ (List.mem_append_right _ (List.mem_append_left _ (List.mem_append_right _ (List.mem_append_left _ h))))))
theorem q_wa_20 : ∀ w ∈ wa_20, w ∈ WA := fun _ h => (List.mem_append_left _ (List.mem_append_right _ (List.mem_append_right _ (List.mem_append_left _ (List.mem_append_right _ (List.mem_append_right _ h))))))
theorem q_wa_21 : ∀ w ∈ wa_21, w ∈ WA := fun _ h => (List.mem_append_left _ (List.mem_append_right _ (List.mem_append_right _ (List.mem_append_right _ (List.mem_append_left _ (List.mem_append_left _ h))))))
theorem q_wa_22 : ∀ w ∈ wa_22, w ∈ WA := fun _ h => (List.mem_append_left _ (List.mem_append_right _ (List.mem_append_right _ (List.mem_append_right _ (List.mem_append_left _ (List.mem_append_right _ h))))))
theorem q_wa_23 : ∀ w ∈ wa_23, w ∈ WA := fun _ h => (List.mem_append_left _ (List.mem_append_right _ (List.mem_append_right _ (List.mem_append_right _ (List.mem_append_right _ (List.mem_append_left _ h))))))
theorem q_wa_24 : ∀ w ∈ wa_24, w ∈ WA := fun _ h => (List.mem_append_left _ (List.mem_append_right _ (List.mem_append_right _ (List.mem_append_right _ (List.mem_append_right _ (List.mem_append_right _ h))))))
theorem q_wa_25 : ∀ w ∈ wa_25, w ∈ WA := fun _ h => (List.mem_append_right _ (List.mem_append_left _ (List.mem_append_left _ (List.mem_append_left _ (List.mem_append_left _ h)))))
theorem q_wa_26 : ∀ w ∈ wa_26, w ∈ WA := fun _ h => (List.mem_append_right _ (List.mem_append_left _ (List.mem_append_left _ (List.mem_append_left _ (List.mem_append_right _ (List.mem_append_left _ h))))))
theorem q_wa_27 : ∀ w ∈ wa_27, w ∈ WA := fun _ h => (List.mem_append_right _ (List.mem_append_left _ (List.mem_append_left _ (List.mem_append_left _ (List.mem_append_right _ (List.mem_append_right _ h))))))
theorem q_wa_28 : ∀ w ∈ wa_28, w ∈ WA := fun _ h => (List.mem_append_right _ (List.mem_append_left _ (List.mem_append_left _ (List.mem_append_right _ (List.mem_append_left _ h)))))
theorem q_wa_29 : ∀ w ∈ wa_29, w ∈ WA := fun _ h => (List.mem_append_right _ (List.mem_append_left _ (List.mem_append_left _ (List.mem_append_right _ (List.mem_append_right _ (List.mem_append_left _ h))))))
theorem q_wa_30 : ∀ w ∈ wa_30, w ∈ WA := fun _ h => (List.mem_append_right _ (List.mem_append_left _ (List.mem_append_left _ (List.mem_append_right _ (List.mem_append_right _ (List.mem_append_right _ h))))))
theorem q_wa_31 : ∀ w ∈ wa_31, w ∈ WA := fun _ h => (List.mem_append_right _ (List.mem_append_left _ (List.mem_append_right _ (List.mem_append_left _ (List.mem_append_left _ h)))))
theorem q_wa_32 : ∀ w ∈ wa_32, w ∈ WA := fun _ h => (List.mem_append_right _ (List.mem_append_left _ (List.mem_append_right _ (List.mem_append_left _ (List.mem_append_right _ (List.mem_append_left _ h))))))
theorem q_wa_33 : ∀ w ∈ wa_33, w ∈ WA := fun _ h => (List.mem_append_right _ (List.mem_append_left _ (List.mem_append_right _ (List.mem_append_left _ (List.mem_append_right _ (List.mem_append_right _ h))))))
theorem q_wa_34 : ∀ w ∈ wa_34, w ∈ WA := fun _ h => (List.mem_append_right _ (List.mem_append_left _ (List.mem_append_right _ (List.mem_append_right _ (List.mem_append_left _ (List.mem_append_left _ h))))))
theorem q_wa_35 : ∀ w ∈ wa_35, w ∈ WA := fun _ h => (List.mem_append_right _ (List.mem_append_left _ (List.mem_append_right _ (List.mem_append_right _ (List.mem_append_left _ (List.mem_append_right _ h))))))
theorem q_wsX10 : ∀ w ∈ wsX10, w ∈ WA := fun _ h => (List.mem_append_right _ (List.mem_append_left _ (List.mem_append_right _ (List.mem_append_right _ (List.mem_append_right _ (List.mem_append_left _ h))))))
theorem q_wsX20 : ∀ w ∈ wsX20, w ∈ WA := fun _ h => (List.mem_append_right _ (List.mem_append_left _ (List.mem_append_right _ (List.mem_append_right _ (List.mem_append_right _ (List.mem_append_right _ h))))))
theorem q_wsX30 : ∀ w ∈ wsX30, w ∈ WA := fun _ h => (List.mem_append_right _ (List.mem_append_right _ (List.mem_append_left _ (List.mem_append_left _ (List.mem_append_left _ h)))))
theorem q_wsX40 : ∀ w ∈ wsX40, w ∈ WA := fun _ h => (List.mem_append_right _ (List.mem_append_right _ (List.mem_append_left _ (List.mem_append_left _ (List.mem_append_right _ (List.mem_append_left _ h))))))
theorem q_wsX60 : ∀ w ∈ wsX60, w ∈ WA := fun _ h => (List.mem_append_right _ (List.mem_append_right _ (List.mem_append_left _ (List.mem_append_left _ (List.mem_append_right _ (List.mem_append_right _ h))))))
theorem q_wsX70 : ∀ w ∈ wsX70, w ∈ WA := fun _ h => (List.mem_append_right _ (List.mem_append_right _ (List.mem_append_left _ (List.mem_append_right _ (List.mem_append_left _ h)))))
theorem q_wsJ00 : ∀ w ∈ wsJ00, w ∈ WA := fun _ h => (List.mem_append_right _ (List.mem_append_right _ (List.mem_append_left _ (List.mem_append_right _ (List.mem_append_right _ (List.mem_append_left _ h))))))
theorem q_wx_0 : ∀ w ∈ wx_0, w ∈ WA := fun _ h => (List.mem_append_right _ (List.mem_append_right _ (List.mem_append_left _ (List.mem_append_right _ (List.mem_append_right _ (List.mem_append_right _ h))))))
theorem q_wx_1 : ∀ w ∈ wx_1, w ∈ WA := fun _ h => (List.mem_append_right _ (List.mem_append_right _ (List.mem_append_right _ (List.mem_append_left _ (List.mem_append_left _ h)))))
theorem q_wx_2 : ∀ w ∈ wx_2, w ∈ WA := fun _ h => (List.mem_append_right _ (List.mem_append_right _ (List.mem_append_right _ (List.mem_append_left _ (List.mem_append_right _ (List.mem_append_left _ h))))))
theorem q_wx_3 : ∀ w ∈ wx_3, w ∈ WA := fun _ h => (List.mem_append_right _ (List.mem_append_right _ (List.mem_append_right _ (List.mem_append_left _ (List.mem_append_right _ (List.mem_append_right _ h))))))
theorem q_wx_4 : ∀ w ∈ wx_4, w ∈ WA := fun _ h => (List.mem_append_right _ (List.mem_append_right _ (List.mem_append_right _ (List.mem_append_right _ (List.mem_append_left _ (List.mem_append_left _ h))))))
theorem q_wx_5 : ∀ w ∈ wx_5, w ∈ WA := fun _ h => (List.mem_append_right _ (List.mem_append_right _ (List.mem_append_right _ (List.mem_append_right _ (List.mem_append_left _ (List.mem_append_right _ h))))))
theorem q_wx_6 : ∀ w ∈ wx_6, w ∈ WA := fun _ h => (List.mem_append_right _ (List.mem_append_right _ (List.mem_append_right _ (List.mem_append_right _ (List.mem_append_right _ (List.mem_append_left _ h))))))
theorem q_wx_7 : ∀ w ∈ wx_7, w ∈ WA := fun _ h => (List.mem_append_right _ (List.mem_append_right _ (List.mem_append_right _ (List.mem_append_right _ (List.mem_append_right _ (List.mem_append_right _ h))))))
theorem wm_0 : (.methodLink RX0 7 yX3_length : Cond) ∈ WA := q_wa_0 _ (List.mem_of_getElem? (i := 0) rfl)
theorem wm_1 : (.instanceMethod yX3_length : Cond) ∈ WA := q_wa_0 _ (List.mem_of_getElem? (i := 1) rfl)
theorem wm_2 : (.selects RX3 yX3_length yX3_length : Cond) ∈ WA := q_wa_0 _ (List.mem_of_getElem? (i := 2) rfl)
theorem wm_3 : (.initialized RX3 : Cond) ∈ WA := q_wa_0 _ (List.mem_of_getElem? (i := 3) rfl)
theorem wm_4 : (.code yX3_length cX3_length 1 (some .int) : Cond) ∈ WA := q_wa_0 _ (List.mem_of_getElem? (i := 4) rfl)
theorem wm_5 : (.fieldLink RX3 17 "Counterpointery$Line" "count" "I" : Cond) ∈ WA := q_wa_0 _ (List.mem_of_getElem? (i := 5) rfl)
theorem wm_6 : (.methodLink RX0 13 yX3_toneAt : Cond) ∈ WA := q_wa_0 _ (List.mem_of_getElem? (i := 6) rfl)
theorem wm_7 : (.instanceMethod yX3_toneAt : Cond) ∈ WA := q_wa_0 _ (List.mem_of_getElem? (i := 7) rfl)
theorem wm_8 : (.selects RX3 yX3_toneAt yX3_toneAt : Cond) ∈ WA := q_wa_0 _ (List.mem_of_getElem? (i := 8) rfl)
theorem wm_9 : (.code yX3_toneAt cX3_toneAt 2 (some .int) : Cond) ∈ WA := q_wa_0 _ (List.mem_of_getElem? (i := 9) rfl)
theorem wm_10 : (.fieldLink RX3 13 "Counterpointery$Line" "tones" "[I" : Cond) ∈ WA := q_wa_0 _ (List.mem_of_getElem? (i := 10) rfl)
theorem wm_11 : (.methodLink RX0 17 yX5_plainGap : Cond) ∈ WA := q_wa_0 _ (List.mem_of_getElem? (i := 11) rfl)
theorem wm_12 : (.static yX5_plainGap : Cond) ∈ WA := q_wa_0 _ (List.mem_of_getElem? (i := 12) rfl)
theorem wm_13 : (.initialized RX5 : Cond) ∈ WA := q_wa_0 _ (List.mem_of_getElem? (i := 13) rfl)
theorem wm_14 : (.code yX5_plainGap cX5_plainGap 2 (some .int) : Cond) ∈ WA := q_wa_0 _ (List.mem_of_getElem? (i := 14) rfl)
theorem wm_15 : (.methodLink RX5 15 yX5_heightOf : Cond) ∈ WA := q_wa_0 _ (List.mem_of_getElem? (i := 15) rfl)
theorem wm_16 : (.static yX5_heightOf : Cond) ∈ WA := q_wa_0 _ (List.mem_of_getElem? (i := 16) rfl)
theorem wm_17 : (.code yX5_heightOf cX5_heightOf 3 (some .int) : Cond) ∈ WA := q_wa_0 _ (List.mem_of_getElem? (i := 17) rfl)
theorem wm_18 : (.methodLink RX5 18 yX5_gap : Cond) ∈ WA := q_wa_0 _ (List.mem_of_getElem? (i := 18) rfl)
theorem wm_19 : (.static yX5_gap : Cond) ∈ WA := q_wa_0 _ (List.mem_of_getElem? (i := 19) rfl)
theorem wm_20 : (.code yX5_gap cX5_gap 2 (some .int) : Cond) ∈ WA := q_wa_0 _ (List.mem_of_getElem? (i := 20) rfl)
theorem wm_21 : (.methodLink RX5 9 Lib.Math.abs.name : Cond) ∈ WA := q_wa_0 _ (List.mem_of_getElem? (i := 21) rfl)
theorem wm_22 : (.static Lib.Math.abs.name : Cond) ∈ WA := q_wa_0 _ (List.mem_of_getElem? (i := 22) rfl)
theorem wm_23 : (.initialized "java/lang/Math" : Cond) ∈ WA := q_wa_0 _ (List.mem_of_getElem? (i := 23) rfl)
theorem wm_24 : (.code Lib.Math.abs.name Lib.Math.abs.code 1 (some .int) : Cond) ∈ WA := q_wa_0 _ (List.mem_of_getElem? (i := 24) rfl)
theorem wm_25 : (.methodLink RX0 23 yX5_isDissonant : Cond) ∈ WA := q_wa_0 _ (List.mem_of_getElem? (i := 25) rfl)
theorem wm_26 : (.static yX5_isDissonant : Cond) ∈ WA := q_wa_0 _ (List.mem_of_getElem? (i := 26) rfl)
theorem wm_27 : (.code yX5_isDissonant cX5_isDissonant 1 (some .boolean) : Cond) ∈ WA := q_wa_0 _ (List.mem_of_getElem? (i := 27) rfl)
theorem wm_28 : (.methodLink RX5 22 yX5_isPerfect : Cond) ∈ WA := q_wa_0 _ (List.mem_of_getElem? (i := 28) rfl)
theorem wm_29 : (.static yX5_isPerfect : Cond) ∈ WA := q_wa_0 _ (List.mem_of_getElem? (i := 29) rfl)
theorem wm_30 : (.code yX5_isPerfect cX5_isPerfect 1 (some .boolean) : Cond) ∈ WA := q_wa_0 _ (List.mem_of_getElem? (i := 30) rfl)
theorem wm_31 : (.methodLink RX5 26 yX5_isImperfect : Cond) ∈ WA := q_wa_0 _ (List.mem_of_getElem? (i := 31) rfl)
theorem wm_32 : (.static yX5_isImperfect : Cond) ∈ WA := q_wa_1 _ (List.mem_of_getElem? (i := 0) rfl)
theorem wm_33 : (.code yX5_isImperfect cX5_isImperfect 1 (some .boolean) : Cond) ∈ WA := q_wa_1 _ (List.mem_of_getElem? (i := 1) rfl)
theorem wm_34 : (.methodLink RX0 27 yX3_stepTo : Cond) ∈ WA := q_wa_1 _ (List.mem_of_getElem? (i := 2) rfl)
theorem wm_35 : (.instanceMethod yX3_stepTo : Cond) ∈ WA := q_wa_1 _ (List.mem_of_getElem? (i := 3) rfl)
theorem wm_36 : (.selects RX3 yX3_stepTo yX3_stepTo : Cond) ∈ WA := q_wa_1 _ (List.mem_of_getElem? (i := 4) rfl)
theorem wm_37 : (.code yX3_stepTo cX3_stepTo 2 (some .int) : Cond) ∈ WA := q_wa_1 _ (List.mem_of_getElem? (i := 5) rfl)
theorem wm_38 : (.methodLink RX3 39 yX3_toneAt : Cond) ∈ WA := q_wa_1 _ (List.mem_of_getElem? (i := 6) rfl)
theorem wm_39 : (.methodLink RX0 30 yX5_isPerfect : Cond) ∈ WA := q_wa_1 _ (List.mem_of_getElem? (i := 7) rfl)
theorem wm_40 : (.methodLink RX0 35 Lib.Math.min.name : Cond) ∈ WA := q_wa_1 _ (List.mem_of_getElem? (i := 8) rfl)
theorem wm_41 : (.static Lib.Math.min.name : Cond) ∈ WA := q_wa_1 _ (List.mem_of_getElem? (i := 9) rfl)
theorem wm_42 : (.code Lib.Math.min.name Lib.Math.min.code 2 (some .int) : Cond) ∈ WA := q_wa_1 _ (List.mem_of_getElem? (i := 10) rfl)
theorem wm_43 : (.methodLink RX0 40 yX0_farthestOf : Cond) ∈ WA := q_wa_1 _ (List.mem_of_getElem? (i := 11) rfl)
theorem wm_44 : (.static yX0_farthestOf : Cond) ∈ WA := q_wa_1 _ (List.mem_of_getElem? (i := 12) rfl)
theorem wm_45 : (.initialized RX0 : Cond) ∈ WA := q_wa_1 _ (List.mem_of_getElem? (i := 13) rfl)
theorem wm_46 : (.code yX0_farthestOf cX0_farthestOf 1 (some .int) : Cond) ∈ WA := q_wa_1 _ (List.mem_of_getElem? (i := 14) rfl)
theorem wm_47 : (.methodLink RX0 44 yX0_faultsOf : Cond) ∈ WA := q_wa_1 _ (List.mem_of_getElem? (i := 15) rfl)
theorem wm_48 : (.static yX0_faultsOf : Cond) ∈ WA := q_wa_1 _ (List.mem_of_getElem? (i := 16) rfl)
theorem wm_49 : (.code yX0_faultsOf cX0_faultsOf 8 (some .int) : Cond) ∈ WA := q_wa_1 _ (List.mem_of_getElem? (i := 17) rfl)
theorem wm_50 : (.methodLink RX1 1 objectInit : Cond) ∈ WA := q_wa_1 _ (List.mem_of_getElem? (i := 18) rfl)
theorem wm_51 : (.instanceMethod objectInit : Cond) ∈ WA := q_wa_1 _ (List.mem_of_getElem? (i := 19) rfl)
theorem wm_52 : (.code objectInit ⟨#[0xb1]⟩ 1 none : Cond) ∈ WA := q_wa_1 _ (List.mem_of_getElem? (i := 20) rfl)
theorem wm_53 : (.arrayClass .int : Cond) ∈ WA := q_wa_1 _ (List.mem_of_getElem? (i := 21) rfl)
theorem wm_54 : (.fieldLink RX1 9 "Counterpointery$Ground" "givens" "[I" : Cond) ∈ WA := q_wa_1 _ (List.mem_of_getElem? (i := 22) rfl)
theorem wm_55 : (.fieldLink RX1 13 "Counterpointery$Ground" "low" "I" : Cond) ∈ WA := q_wa_1 _ (List.mem_of_getElem? (i := 23) rfl)
theorem wm_56 : (.fieldLink RX1 17 "Counterpointery$Ground" "high" "I" : Cond) ∈ WA := q_wa_1 _ (List.mem_of_getElem? (i := 24) rfl)
theorem wm_57 : (.fieldLink RX1 20 "Counterpointery$Ground" "count" "I" : Cond) ∈ WA := q_wa_1 _ (List.mem_of_getElem? (i := 25) rfl)
theorem wm_58 : (.fieldLink RX1 23 "Counterpointery$Ground" "changes" "I" : Cond) ∈ WA := q_wa_1 _ (List.mem_of_getElem? (i := 26) rfl)
theorem wm_59 : (.fieldLink RX1 26 "Counterpointery$Ground" "shift" "I" : Cond) ∈ WA := q_wa_1 _ (List.mem_of_getElem? (i := 27) rfl)
theorem wm_60 : (.fieldLink RX1 29 "Counterpointery$Ground" "below" "Z" : Cond) ∈ WA := q_wa_1 _ (List.mem_of_getElem? (i := 28) rfl)
theorem wm_61 : (.fieldLink RX1 33 "Counterpointery$Ground" "feigning" "Z" : Cond) ∈ WA := q_wa_1 _ (List.mem_of_getElem? (i := 29) rfl)
theorem wm_62 : (.methodLink RX1 36 yX1_perGiven : Cond) ∈ WA := q_wa_1 _ (List.mem_of_getElem? (i := 30) rfl)
theorem wm_63 : (.instanceMethod yX1_perGiven : Cond) ∈ WA := q_wa_1 _ (List.mem_of_getElem? (i := 31) rfl)
theorem wm_64 : (.selects RX1 yX1_perGiven yX1_perGiven : Cond) ∈ WA := q_wa_2 _ (List.mem_of_getElem? (i := 0) rfl)
theorem wm_65 : (.initialized RX1 : Cond) ∈ WA := q_wa_2 _ (List.mem_of_getElem? (i := 1) rfl)
theorem wm_66 : (.code yX1_perGiven cX1_perGiven 1 (some .int) : Cond) ∈ WA := q_wa_2 _ (List.mem_of_getElem? (i := 2) rfl)
theorem wm_67 : (.methodLink RX1 40 yX1_against : Cond) ∈ WA := q_wa_2 _ (List.mem_of_getElem? (i := 3) rfl)
theorem wm_68 : (.instanceMethod yX1_against : Cond) ∈ WA := q_wa_2 _ (List.mem_of_getElem? (i := 4) rfl)
theorem wm_69 : (.selects RX1 yX1_against yX1_against : Cond) ∈ WA := q_wa_2 _ (List.mem_of_getElem? (i := 5) rfl)
theorem wm_70 : (.code yX1_against cX1_against 3 (some .int) : Cond) ∈ WA := q_wa_2 _ (List.mem_of_getElem? (i := 6) rfl)
theorem wm_71 : (.methodLink RX2 1 objectInit : Cond) ∈ WA := q_wa_2 _ (List.mem_of_getElem? (i := 7) rfl)
theorem wm_72 : (.fieldLink RX2 9 "Counterpointery$Laws" "weights" "[I" : Cond) ∈ WA := q_wa_2 _ (List.mem_of_getElem? (i := 8) rfl)
theorem wm_73 : (.fieldLink RX2 13 "Counterpointery$Laws" "STYLES" "[I" : Cond) ∈ WA := q_wa_2 _ (List.mem_of_getElem? (i := 9) rfl)
theorem wm_74 : (.methodLink RX2 16 arraycopyName : Cond) ∈ WA := q_wa_2 _ (List.mem_of_getElem? (i := 10) rfl)
theorem wm_75 : (.native arraycopyName : Cond) ∈ WA := q_wa_2 _ (List.mem_of_getElem? (i := 11) rfl)
theorem wm_76 : (.static arraycopyName : Cond) ∈ WA := q_wa_2 _ (List.mem_of_getElem? (i := 12) rfl)
theorem wm_77 : (.initialized "java/lang/System" : Cond) ∈ WA := q_wa_2 _ (List.mem_of_getElem? (i := 13) rfl)
theorem wm_78 : (.methodLink RX2 24 yJ0_length_8abf5 : Cond) ∈ WA := q_wa_2 _ (List.mem_of_getElem? (i := 14) rfl)
theorem wm_79 : (.instanceMethod yJ0_length_8abf5 : Cond) ∈ WA := q_wa_2 _ (List.mem_of_getElem? (i := 15) rfl)
theorem wm_80 : (.selects RJ0 yJ0_length_8abf5 yJ0_length_8abf5 : Cond) ∈ WA := q_wa_2 _ (List.mem_of_getElem? (i := 16) rfl)
theorem wm_81 : (.initialized RJ0 : Cond) ∈ WA := q_wa_2 _ (List.mem_of_getElem? (i := 17) rfl)
theorem wm_82 : (.code yJ0_length_8abf5 cJ0_length_8abf5 1 (some .int) : Cond) ∈ WA := q_wa_2 _ (List.mem_of_getElem? (i := 18) rfl)
theorem wm_83 : (.fieldLink RJ0 9 "java/lang/String" "value" "[B" : Cond) ∈ WA := q_wa_2 _ (List.mem_of_getElem? (i := 19) rfl)
theorem wm_84 : (.methodLink RJ0 335 yJ0_coder_7d493 : Cond) ∈ WA := q_wa_2 _ (List.mem_of_getElem? (i := 20) rfl)
theorem wm_85 : (.instanceMethod yJ0_coder_7d493 : Cond) ∈ WA := q_wa_2 _ (List.mem_of_getElem? (i := 21) rfl)
theorem wm_86 : (.selects RJ0 yJ0_coder_7d493 yJ0_coder_7d493 : Cond) ∈ WA := q_wa_2 _ (List.mem_of_getElem? (i := 22) rfl)
theorem wm_87 : (.code yJ0_coder_7d493 cJ0_coder_7d493 1 (some .byte) : Cond) ∈ WA := q_wa_2 _ (List.mem_of_getElem? (i := 23) rfl)
theorem wm_88 : (.fieldLink RJ0 38 "java/lang/String" "COMPACT_STRINGS" "Z" : Cond) ∈ WA := q_wa_2 _ (List.mem_of_getElem? (i := 24) rfl)
theorem wm_89 : (.fieldLink RJ0 15 "java/lang/String" "coder" "B" : Cond) ∈ WA := q_wa_2 _ (List.mem_of_getElem? (i := 25) rfl)
theorem wm_90 : (.methodLink RX2 30 yJ0_charAt_5068e : Cond) ∈ WA := q_wa_2 _ (List.mem_of_getElem? (i := 26) rfl)
theorem wm_91 : (.instanceMethod yJ0_charAt_5068e : Cond) ∈ WA := q_wa_2 _ (List.mem_of_getElem? (i := 27) rfl)
theorem wm_92 : (.selects RJ0 yJ0_charAt_5068e yJ0_charAt_5068e : Cond) ∈ WA := q_wa_2 _ (List.mem_of_getElem? (i := 28) rfl)
theorem wm_93 : (.code yJ0_charAt_5068e cJ0_charAt_5068e 2 (some .char) : Cond) ∈ WA := q_wa_2 _ (List.mem_of_getElem? (i := 29) rfl)
theorem wm_94 : (.methodLink RJ0 492 yJ0_isLatin1_aae02 : Cond) ∈ WA := q_wa_2 _ (List.mem_of_getElem? (i := 30) rfl)
theorem wm_95 : (.instanceMethod yJ0_isLatin1_aae02 : Cond) ∈ WA := q_wa_2 _ (List.mem_of_getElem? (i := 31) rfl)
theorem wm_96 : (.selects RJ0 yJ0_isLatin1_aae02 yJ0_isLatin1_aae02 : Cond) ∈ WA := q_wa_3 _ (List.mem_of_getElem? (i := 0) rfl)
theorem wm_97 : (.code yJ0_isLatin1_aae02 cJ0_isLatin1_aae02 1 (some .boolean) : Cond) ∈ WA := q_wa_3 _ (List.mem_of_getElem? (i := 1) rfl)
theorem wm_98 : (.methodLink RJ0 495 yJ1_charAt_3b067 : Cond) ∈ WA := q_wa_3 _ (List.mem_of_getElem? (i := 2) rfl)
theorem wm_99 : (.static yJ1_charAt_3b067 : Cond) ∈ WA := q_wa_3 _ (List.mem_of_getElem? (i := 3) rfl)
theorem wm_100 : (.initialized RJ1 : Cond) ∈ WA := q_wa_3 _ (List.mem_of_getElem? (i := 4) rfl)
theorem wm_101 : (.code yJ1_charAt_3b067 cJ1_charAt_3b067 2 (some .char) : Cond) ∈ WA := q_wa_3 _ (List.mem_of_getElem? (i := 5) rfl)
theorem wm_102 : (.methodLink RJ1 9 yJ0_checkIndex_df160 : Cond) ∈ WA := q_wa_3 _ (List.mem_of_getElem? (i := 6) rfl)
theorem wm_103 : (.static yJ0_checkIndex_df160 : Cond) ∈ WA := q_wa_3 _ (List.mem_of_getElem? (i := 7) rfl)
theorem wm_104 : (.code yJ0_checkIndex_df160 cJ0_checkIndex_df160 2 none : Cond) ∈ WA := q_wa_3 _ (List.mem_of_getElem? (i := 8) rfl)
theorem wm_105 : (.fieldLink RJ0 1053 "jdk/internal/util/Preconditions" "SIOOBE_FORMATTER" "Ljava/util/function/BiFunction;" : Cond) ∈ WA := q_wa_3 _ (List.mem_of_getElem? (i := 9) rfl)
theorem wm_106 : (.methodLink RJ0 1059 yJ3_checkIndex_8e157 : Cond) ∈ WA := q_wa_3 _ (List.mem_of_getElem? (i := 10) rfl)
theorem wm_107 : (.static yJ3_checkIndex_8e157 : Cond) ∈ WA := q_wa_3 _ (List.mem_of_getElem? (i := 11) rfl)
theorem wm_108 : (.initialized RJ3 : Cond) ∈ WA := q_wa_3 _ (List.mem_of_getElem? (i := 12) rfl)
theorem wm_109 : (.code yJ3_checkIndex_8e157 cJ3_checkIndex_8e157 3 (some .int) : Cond) ∈ WA := q_wa_3 _ (List.mem_of_getElem? (i := 13) rfl)
theorem wm_110 : (.methodLink RJ0 498 yJ2_charAt_3b067 : Cond) ∈ WA := q_wa_3 _ (List.mem_of_getElem? (i := 14) rfl)
theorem wm_111 : (.static yJ2_charAt_3b067 : Cond) ∈ WA := q_wa_3 _ (List.mem_of_getElem? (i := 15) rfl)
theorem wm_112 : (.initialized RJ2 : Cond) ∈ WA := q_wa_3 _ (List.mem_of_getElem? (i := 16) rfl)
theorem wm_113 : (.code yJ2_charAt_3b067 cJ2_charAt_3b067 2 (some .char) : Cond) ∈ WA := q_wa_3 _ (List.mem_of_getElem? (i := 17) rfl)
theorem wm_114 : (.methodLink RJ2 67 yJ2_checkIndex_2214a : Cond) ∈ WA := q_wa_3 _ (List.mem_of_getElem? (i := 18) rfl)
theorem wm_115 : (.static yJ2_checkIndex_2214a : Cond) ∈ WA := q_wa_3 _ (List.mem_of_getElem? (i := 19) rfl)
theorem wm_116 : (.code yJ2_checkIndex_2214a cJ2_checkIndex_2214a 2 none : Cond) ∈ WA := q_wa_3 _ (List.mem_of_getElem? (i := 20) rfl)
theorem wm_117 : (.methodLink RJ2 48 yJ2_length_9d52b : Cond) ∈ WA := q_wa_3 _ (List.mem_of_getElem? (i := 21) rfl)
theorem wm_118 : (.static yJ2_length_9d52b : Cond) ∈ WA := q_wa_3 _ (List.mem_of_getElem? (i := 22) rfl)
theorem wm_119 : (.code yJ2_length_9d52b cJ2_length_9d52b 1 (some .int) : Cond) ∈ WA := q_wa_3 _ (List.mem_of_getElem? (i := 23) rfl)
theorem wm_120 : (.methodLink RJ2 414 yJ0_checkIndex_df160 : Cond) ∈ WA := q_wa_3 _ (List.mem_of_getElem? (i := 24) rfl)
theorem wm_121 : (.methodLink RJ2 71 yJ2_getChar_3b067 : Cond) ∈ WA := q_wa_3 _ (List.mem_of_getElem? (i := 25) rfl)
theorem wm_122 : (.static yJ2_getChar_3b067 : Cond) ∈ WA := q_wa_3 _ (List.mem_of_getElem? (i := 26) rfl)
theorem wm_123 : (.code yJ2_getChar_3b067 cJ2_getChar_3b067 2 (some .char) : Cond) ∈ WA := q_wa_3 _ (List.mem_of_getElem? (i := 27) rfl)
theorem wm_124 : (.fieldLink RJ2 44 "java/lang/StringUTF16" "$assertionsDisabled" "Z" : Cond) ∈ WA := q_wa_3 _ (List.mem_of_getElem? (i := 28) rfl)
theorem wm_125 : (.fieldLink RJ2 59 "java/lang/StringUTF16" "HI_BYTE_SHIFT" "I" : Cond) ∈ WA := q_wa_3 _ (List.mem_of_getElem? (i := 29) rfl)
theorem wm_126 : (.fieldLink RJ2 63 "java/lang/StringUTF16" "LO_BYTE_SHIFT" "I" : Cond) ∈ WA := q_wa_3 _ (List.mem_of_getElem? (i := 30) rfl)
theorem wm_127 : (.fieldLink RX2 34 "Counterpointery$Laws" "changes" "I" : Cond) ∈ WA := q_wa_3 _ (List.mem_of_getElem? (i := 31) rfl)
theorem wm_128 : (.methodLink RX2 38 yX2_weightOf : Cond) ∈ WA := q_wa_4 _ (List.mem_of_getElem? (i := 0) rfl)
theorem wm_129 : (.instanceMethod yX2_weightOf : Cond) ∈ WA := q_wa_4 _ (List.mem_of_getElem? (i := 1) rfl)
theorem wm_130 : (.selects RX2 yX2_weightOf yX2_weightOf : Cond) ∈ WA := q_wa_4 _ (List.mem_of_getElem? (i := 2) rfl)
theorem wm_131 : (.initialized RX2 : Cond) ∈ WA := q_wa_4 _ (List.mem_of_getElem? (i := 3) rfl)
theorem wm_132 : (.code yX2_weightOf cX2_weightOf 2 (some .int) : Cond) ∈ WA := q_wa_4 _ (List.mem_of_getElem? (i := 4) rfl)
theorem wm_133 : (.methodLink RX2 42 yX2_setWeight : Cond) ∈ WA := q_wa_4 _ (List.mem_of_getElem? (i := 5) rfl)
theorem wm_134 : (.instanceMethod yX2_setWeight : Cond) ∈ WA := q_wa_4 _ (List.mem_of_getElem? (i := 6) rfl)
theorem wm_135 : (.selects RX2 yX2_setWeight yX2_setWeight : Cond) ∈ WA := q_wa_4 _ (List.mem_of_getElem? (i := 7) rfl)
theorem wm_136 : (.code yX2_setWeight cX2_setWeight 3 none : Cond) ∈ WA := q_wa_4 _ (List.mem_of_getElem? (i := 8) rfl)
theorem wm_137 : (.methodLink RX3 1 objectInit : Cond) ∈ WA := q_wa_4 _ (List.mem_of_getElem? (i := 9) rfl)
theorem wm_138 : (.fieldLink RX3 7 "Counterpointery$Line" "ground" "LCounterpointery$Ground;" : Cond) ∈ WA := q_wa_4 _ (List.mem_of_getElem? (i := 10) rfl)
theorem wm_139 : (.methodLink RX3 21 yX1_room : Cond) ∈ WA := q_wa_4 _ (List.mem_of_getElem? (i := 11) rfl)
theorem wm_140 : (.instanceMethod yX1_room : Cond) ∈ WA := q_wa_4 _ (List.mem_of_getElem? (i := 12) rfl)
theorem wm_141 : (.selects RX1 yX1_room yX1_room : Cond) ∈ WA := q_wa_4 _ (List.mem_of_getElem? (i := 13) rfl)
theorem wm_142 : (.code yX1_room cX1_room 1 (some .int) : Cond) ∈ WA := q_wa_4 _ (List.mem_of_getElem? (i := 14) rfl)
theorem wm_143 : (.methodLink RX3 27 yX1_size : Cond) ∈ WA := q_wa_4 _ (List.mem_of_getElem? (i := 15) rfl)
theorem wm_144 : (.instanceMethod yX1_size : Cond) ∈ WA := q_wa_4 _ (List.mem_of_getElem? (i := 16) rfl)
theorem wm_145 : (.selects RX1 yX1_size yX1_size : Cond) ∈ WA := q_wa_4 _ (List.mem_of_getElem? (i := 17) rfl)
theorem wm_146 : (.code yX1_size cX1_size 1 (some .int) : Cond) ∈ WA := q_wa_4 _ (List.mem_of_getElem? (i := 18) rfl)
theorem wm_147 : (.methodLink RX3 30 Lib.Math.min.name : Cond) ∈ WA := q_wa_4 _ (List.mem_of_getElem? (i := 19) rfl)
theorem wm_148 : (.methodLink RX3 36 Lib.Math.max.name : Cond) ∈ WA := q_wa_4 _ (List.mem_of_getElem? (i := 20) rfl)
theorem wm_149 : (.static Lib.Math.max.name : Cond) ∈ WA := q_wa_4 _ (List.mem_of_getElem? (i := 21) rfl)
theorem wm_150 : (.code Lib.Math.max.name Lib.Math.max.code 2 (some .int) : Cond) ∈ WA := q_wa_4 _ (List.mem_of_getElem? (i := 22) rfl)
theorem wm_151 : (.methodLink RX3 43 yX5_heightOf : Cond) ∈ WA := q_wa_4 _ (List.mem_of_getElem? (i := 23) rfl)
theorem wm_152 : (.methodLink RX3 48 yX1_isFeigning : Cond) ∈ WA := q_wa_4 _ (List.mem_of_getElem? (i := 24) rfl)
theorem wm_153 : (.instanceMethod yX1_isFeigning : Cond) ∈ WA := q_wa_4 _ (List.mem_of_getElem? (i := 25) rfl)
theorem wm_154 : (.selects RX1 yX1_isFeigning yX1_isFeigning : Cond) ∈ WA := q_wa_4 _ (List.mem_of_getElem? (i := 26) rfl)
theorem wm_155 : (.code yX1_isFeigning cX1_isFeigning 1 (some .boolean) : Cond) ∈ WA := q_wa_4 _ (List.mem_of_getElem? (i := 27) rfl)
theorem wm_156 : (.methodLink RX3 52 yX1_against : Cond) ∈ WA := q_wa_4 _ (List.mem_of_getElem? (i := 28) rfl)
theorem wm_157 : (.methodLink RX3 55 yX3_heightAt : Cond) ∈ WA := q_wa_4 _ (List.mem_of_getElem? (i := 29) rfl)
theorem wm_158 : (.instanceMethod yX3_heightAt : Cond) ∈ WA := q_wa_4 _ (List.mem_of_getElem? (i := 30) rfl)
theorem wm_159 : (.selects RX3 yX3_heightAt yX3_heightAt : Cond) ∈ WA := q_wa_4 _ (List.mem_of_getElem? (i := 31) rfl)
theorem wm_160 : (.code yX3_heightAt cX3_heightAt 5 (some .int) : Cond) ∈ WA := q_wa_5 _ (List.mem_of_getElem? (i := 0) rfl)
theorem wm_161 : (.methodLink RX3 58 yX5_gap : Cond) ∈ WA := q_wa_5 _ (List.mem_of_getElem? (i := 1) rfl)
theorem wm_162 : (.methodLink RX3 61 yX3_nearFaults : Cond) ∈ WA := q_wa_5 _ (List.mem_of_getElem? (i := 2) rfl)
theorem wm_163 : (.instanceMethod yX3_nearFaults : Cond) ∈ WA := q_wa_5 _ (List.mem_of_getElem? (i := 3) rfl)
theorem wm_164 : (.selects RX3 yX3_nearFaults yX3_nearFaults : Cond) ∈ WA := q_wa_5 _ (List.mem_of_getElem? (i := 4) rfl)
theorem wm_165 : (.code yX3_nearFaults cX3_nearFaults 6 (some .int) : Cond) ∈ WA := q_wa_5 _ (List.mem_of_getElem? (i := 5) rfl)
theorem wm_166 : (.methodLink RX3 67 yX3_gapAt : Cond) ∈ WA := q_wa_5 _ (List.mem_of_getElem? (i := 6) rfl)
theorem wm_167 : (.instanceMethod yX3_gapAt : Cond) ∈ WA := q_wa_5 _ (List.mem_of_getElem? (i := 7) rfl)
theorem wm_168 : (.selects RX3 yX3_gapAt yX3_gapAt : Cond) ∈ WA := q_wa_5 _ (List.mem_of_getElem? (i := 8) rfl)
theorem wm_169 : (.code yX3_gapAt cX3_gapAt 3 (some .int) : Cond) ∈ WA := q_wa_5 _ (List.mem_of_getElem? (i := 9) rfl)
theorem wm_170 : (.methodLink RX3 70 yX3_parallels : Cond) ∈ WA := q_wa_5 _ (List.mem_of_getElem? (i := 10) rfl)
theorem wm_171 : (.instanceMethod yX3_parallels : Cond) ∈ WA := q_wa_5 _ (List.mem_of_getElem? (i := 11) rfl)
theorem wm_172 : (.selects RX3 yX3_parallels yX3_parallels : Cond) ∈ WA := q_wa_5 _ (List.mem_of_getElem? (i := 12) rfl)
theorem wm_173 : (.code yX3_parallels cX3_parallels 7 (some .int) : Cond) ∈ WA := q_wa_5 _ (List.mem_of_getElem? (i := 13) rfl)
theorem wm_174 : (.methodLink RX3 104 Lib.Math.abs.name : Cond) ∈ WA := q_wa_5 _ (List.mem_of_getElem? (i := 14) rfl)
theorem wm_175 : (.methodLink RX3 101 yX3_stepTo : Cond) ∈ WA := q_wa_5 _ (List.mem_of_getElem? (i := 15) rfl)
theorem wm_176 : (.methodLink RX3 107 yX1_stepTo : Cond) ∈ WA := q_wa_5 _ (List.mem_of_getElem? (i := 16) rfl)
theorem wm_177 : (.instanceMethod yX1_stepTo : Cond) ∈ WA := q_wa_5 _ (List.mem_of_getElem? (i := 17) rfl)
theorem wm_178 : (.selects RX1 yX1_stepTo yX1_stepTo : Cond) ∈ WA := q_wa_5 _ (List.mem_of_getElem? (i := 18) rfl)
theorem wm_179 : (.code yX1_stepTo cX1_stepTo 2 (some .int) : Cond) ∈ WA := q_wa_5 _ (List.mem_of_getElem? (i := 19) rfl)
theorem wm_180 : (.methodLink RX3 77 yX5_isPerfect : Cond) ∈ WA := q_wa_5 _ (List.mem_of_getElem? (i := 20) rfl)
theorem wm_181 : (.methodLink RX3 74 yX3_moves : Cond) ∈ WA := q_wa_5 _ (List.mem_of_getElem? (i := 21) rfl)
theorem wm_182 : (.instanceMethod yX3_moves : Cond) ∈ WA := q_wa_5 _ (List.mem_of_getElem? (i := 22) rfl)
theorem wm_183 : (.selects RX3 yX3_moves yX3_moves : Cond) ∈ WA := q_wa_5 _ (List.mem_of_getElem? (i := 23) rfl)
theorem wm_184 : (.code yX3_moves cX3_moves 6 (some .int) : Cond) ∈ WA := q_wa_5 _ (List.mem_of_getElem? (i := 24) rfl)
theorem wm_185 : (.methodLink RX3 81 yX5_isFifth : Cond) ∈ WA := q_wa_5 _ (List.mem_of_getElem? (i := 25) rfl)
theorem wm_186 : (.static yX5_isFifth : Cond) ∈ WA := q_wa_5 _ (List.mem_of_getElem? (i := 26) rfl)
theorem wm_187 : (.code yX5_isFifth cX5_isFifth 1 (some .boolean) : Cond) ∈ WA := q_wa_5 _ (List.mem_of_getElem? (i := 27) rfl)
theorem wm_188 : (.methodLink RX3 86 yX5_isUnison : Cond) ∈ WA := q_wa_5 _ (List.mem_of_getElem? (i := 28) rfl)
theorem wm_189 : (.static yX5_isUnison : Cond) ∈ WA := q_wa_5 _ (List.mem_of_getElem? (i := 29) rfl)
theorem wm_190 : (.code yX5_isUnison cX5_isUnison 1 (some .boolean) : Cond) ∈ WA := q_wa_5 _ (List.mem_of_getElem? (i := 30) rfl)
theorem wm_191 : (.methodLink RX3 89 yX3_comesByContrarySteps : Cond) ∈ WA := q_wa_5 _ (List.mem_of_getElem? (i := 31) rfl)
theorem wm_192 : (.instanceMethod yX3_comesByContrarySteps : Cond) ∈ WA := q_wa_6 _ (List.mem_of_getElem? (i := 0) rfl)
theorem wm_193 : (.selects RX3 yX3_comesByContrarySteps yX3_comesByContrarySteps : Cond) ∈ WA := q_wa_6 _ (List.mem_of_getElem? (i := 1) rfl)
theorem wm_194 : (.code yX3_comesByContrarySteps cX3_comesByContrarySteps 3 (some .boolean) : Cond) ∈ WA := q_wa_6 _ (List.mem_of_getElem? (i := 2) rfl)
theorem wm_195 : (.methodLink RX3 92 yX1_isStrong : Cond) ∈ WA := q_wa_6 _ (List.mem_of_getElem? (i := 3) rfl)
theorem wm_196 : (.instanceMethod yX1_isStrong : Cond) ∈ WA := q_wa_6 _ (List.mem_of_getElem? (i := 4) rfl)
theorem wm_197 : (.selects RX1 yX1_isStrong yX1_isStrong : Cond) ∈ WA := q_wa_6 _ (List.mem_of_getElem? (i := 5) rfl)
theorem wm_198 : (.code yX1_isStrong cX1_isStrong 2 (some .boolean) : Cond) ∈ WA := q_wa_6 _ (List.mem_of_getElem? (i := 6) rfl)
theorem wm_199 : (.methodLink RX3 95 yX5_isDissonant : Cond) ∈ WA := q_wa_6 _ (List.mem_of_getElem? (i := 7) rfl)
theorem wm_200 : (.methodLink RX3 98 yX1_isBelow : Cond) ∈ WA := q_wa_6 _ (List.mem_of_getElem? (i := 8) rfl)
theorem wm_201 : (.instanceMethod yX1_isBelow : Cond) ∈ WA := q_wa_6 _ (List.mem_of_getElem? (i := 9) rfl)
theorem wm_202 : (.selects RX1 yX1_isBelow yX1_isBelow : Cond) ∈ WA := q_wa_6 _ (List.mem_of_getElem? (i := 10) rfl)
theorem wm_203 : (.code yX1_isBelow cX1_isBelow 1 (some .boolean) : Cond) ∈ WA := q_wa_6 _ (List.mem_of_getElem? (i := 11) rfl)
theorem wm_204 : (.methodLink RX3 64 yX3_farFaults : Cond) ∈ WA := q_wa_6 _ (List.mem_of_getElem? (i := 12) rfl)
theorem wm_205 : (.instanceMethod yX3_farFaults : Cond) ∈ WA := q_wa_6 _ (List.mem_of_getElem? (i := 13) rfl)
theorem wm_206 : (.selects RX3 yX3_farFaults yX3_farFaults : Cond) ∈ WA := q_wa_6 _ (List.mem_of_getElem? (i := 14) rfl)
theorem wm_207 : (.code yX3_farFaults cX3_farFaults 7 (some .int) : Cond) ∈ WA := q_wa_6 _ (List.mem_of_getElem? (i := 15) rfl)
theorem wm_208 : (.methodLink RX3 108 yX3_bothMovedSinceStrong : Cond) ∈ WA := q_wa_6 _ (List.mem_of_getElem? (i := 16) rfl)
theorem wm_209 : (.instanceMethod yX3_bothMovedSinceStrong : Cond) ∈ WA := q_wa_6 _ (List.mem_of_getElem? (i := 17) rfl)
theorem wm_210 : (.selects RX3 yX3_bothMovedSinceStrong yX3_bothMovedSinceStrong : Cond) ∈ WA := q_wa_6 _ (List.mem_of_getElem? (i := 18) rfl)
theorem wm_211 : (.code yX3_bothMovedSinceStrong cX3_bothMovedSinceStrong 3 (some .boolean) : Cond) ∈ WA := q_wa_6 _ (List.mem_of_getElem? (i := 19) rfl)
theorem wm_212 : (.methodLink RX3 111 yX1_perGiven : Cond) ∈ WA := q_wa_6 _ (List.mem_of_getElem? (i := 20) rfl)
theorem wm_213 : (.methodLink RX3 114 yX3_faultsAt : Cond) ∈ WA := q_wa_6 _ (List.mem_of_getElem? (i := 21) rfl)
theorem wm_214 : (.instanceMethod yX3_faultsAt : Cond) ∈ WA := q_wa_6 _ (List.mem_of_getElem? (i := 22) rfl)
theorem wm_215 : (.selects RX3 yX3_faultsAt yX3_faultsAt : Cond) ∈ WA := q_wa_6 _ (List.mem_of_getElem? (i := 23) rfl)
theorem wm_216 : (.code yX3_faultsAt cX3_faultsAt 2 (some .int) : Cond) ∈ WA := q_wa_6 _ (List.mem_of_getElem? (i := 24) rfl)
theorem wm_217 : (.methodLink RX3 117 yJ6_bitCount_0f7a4 : Cond) ∈ WA := q_wa_6 _ (List.mem_of_getElem? (i := 25) rfl)
theorem wm_218 : (.static yJ6_bitCount_0f7a4 : Cond) ∈ WA := q_wa_6 _ (List.mem_of_getElem? (i := 26) rfl)
theorem wm_219 : (.initialized RJ6 : Cond) ∈ WA := q_wa_6 _ (List.mem_of_getElem? (i := 27) rfl)
theorem wm_220 : (.code yJ6_bitCount_0f7a4 cJ6_bitCount_0f7a4 1 (some .int) : Cond) ∈ WA := q_wa_6 _ (List.mem_of_getElem? (i := 28) rfl)
theorem wm_221 : (.constant RJ6 265 (1431655765) : Cond) ∈ WA := q_wa_6 _ (List.mem_of_getElem? (i := 29) rfl)
theorem wm_222 : (.constant RJ6 266 (858993459) : Cond) ∈ WA := q_wa_6 _ (List.mem_of_getElem? (i := 30) rfl)
theorem wm_223 : (.constant RJ6 267 (252645135) : Cond) ∈ WA := q_wa_6 _ (List.mem_of_getElem? (i := 31) rfl)
theorem wm_224 : (.methodLink RX3 122 yX2_nthOf : Cond) ∈ WA := q_wa_7 _ (List.mem_of_getElem? (i := 0) rfl)
theorem wm_225 : (.static yX2_nthOf : Cond) ∈ WA := q_wa_7 _ (List.mem_of_getElem? (i := 1) rfl)
theorem wm_226 : (.code yX2_nthOf cX2_nthOf 4 (some .int) : Cond) ∈ WA := q_wa_7 _ (List.mem_of_getElem? (i := 2) rfl)
theorem wm_227 : (.methodLink RX3 125 yX2_costOf : Cond) ∈ WA := q_wa_7 _ (List.mem_of_getElem? (i := 3) rfl)
theorem wm_228 : (.instanceMethod yX2_costOf : Cond) ∈ WA := q_wa_7 _ (List.mem_of_getElem? (i := 4) rfl)
theorem wm_229 : (.selects RX2 yX2_costOf yX2_costOf : Cond) ∈ WA := q_wa_7 _ (List.mem_of_getElem? (i := 5) rfl)
theorem wm_230 : (.code yX2_costOf cX2_costOf 4 (some .int) : Cond) ∈ WA := q_wa_7 _ (List.mem_of_getElem? (i := 6) rfl)
theorem wm_231 : (.methodLink RX3 128 yX3_costBetween : Cond) ∈ WA := q_wa_7 _ (List.mem_of_getElem? (i := 7) rfl)
theorem wm_232 : (.instanceMethod yX3_costBetween : Cond) ∈ WA := q_wa_7 _ (List.mem_of_getElem? (i := 8) rfl)
theorem wm_233 : (.selects RX3 yX3_costBetween yX3_costBetween : Cond) ∈ WA := q_wa_7 _ (List.mem_of_getElem? (i := 9) rfl)
theorem wm_234 : (.code yX3_costBetween cX3_costBetween 6 (some .int) : Cond) ∈ WA := q_wa_7 _ (List.mem_of_getElem? (i := 10) rfl)
theorem wm_235 : (.methodLink RX4 1 objectInit : Cond) ∈ WA := q_wa_7 _ (List.mem_of_getElem? (i := 11) rfl)
theorem wm_236 : (.fieldLink RX4 7 "Counterpointery$Search" "ground" "LCounterpointery$Ground;" : Cond) ∈ WA := q_wa_7 _ (List.mem_of_getElem? (i := 12) rfl)
theorem wm_237 : (.fieldLink RX4 13 "Counterpointery$Search" "laws" "LCounterpointery$Laws;" : Cond) ∈ WA := q_wa_7 _ (List.mem_of_getElem? (i := 13) rfl)
theorem wm_238 : (.classLink RX4 17 RX3 : Cond) ∈ WA := q_wa_7 _ (List.mem_of_getElem? (i := 14) rfl)
theorem wm_239 : (.instantiable RX3 3 : Cond) ∈ WA := q_wa_7 _ (List.mem_of_getElem? (i := 15) rfl)
theorem wm_240 : (.fieldLink RX4 22 "Counterpointery$Search" "sketch" "LCounterpointery$Line;" : Cond) ∈ WA := q_wa_7 _ (List.mem_of_getElem? (i := 16) rfl)
theorem wm_241 : (.fieldLink RX4 26 "Counterpointery$Search" "trial" "LCounterpointery$Line;" : Cond) ∈ WA := q_wa_7 _ (List.mem_of_getElem? (i := 17) rfl)
theorem wm_242 : (.fieldLink RX4 29 "Counterpointery$Search" "masks" "[I" : Cond) ∈ WA := q_wa_7 _ (List.mem_of_getElem? (i := 18) rfl)
theorem wm_243 : (.fieldLink RX4 33 "Counterpointery$Search" "tails" "[I" : Cond) ∈ WA := q_wa_7 _ (List.mem_of_getElem? (i := 19) rfl)
theorem wm_244 : (.arrayClass .long : Cond) ∈ WA := q_wa_7 _ (List.mem_of_getElem? (i := 20) rfl)
theorem wm_245 : (.fieldLink RX4 36 "Counterpointery$Search" "ways" "[J" : Cond) ∈ WA := q_wa_7 _ (List.mem_of_getElem? (i := 21) rfl)
theorem wm_246 : (.fieldLink RX4 40 "Counterpointery$Search" "madeFor" "I" : Cond) ∈ WA := q_wa_7 _ (List.mem_of_getElem? (i := 22) rfl)
theorem wm_247 : (.fieldLink RX4 44 "Counterpointery$Search" "barsGround" "I" : Cond) ∈ WA := q_wa_7 _ (List.mem_of_getElem? (i := 23) rfl)
theorem wm_248 : (.fieldLink RX4 47 "Counterpointery$Search" "barsLaws" "I" : Cond) ∈ WA := q_wa_7 _ (List.mem_of_getElem? (i := 24) rfl)
theorem wm_249 : (.methodLink RX4 19 yX3_init : Cond) ∈ WA := q_wa_7 _ (List.mem_of_getElem? (i := 25) rfl)
theorem wm_250 : (.instanceMethod yX3_init : Cond) ∈ WA := q_wa_7 _ (List.mem_of_getElem? (i := 26) rfl)
theorem wm_251 : (.code yX3_init cX3_init 2 none : Cond) ∈ WA := q_wa_7 _ (List.mem_of_getElem? (i := 27) rfl)
theorem wm_252 : (.methodLink RX4 59 Lib.Math.min.name : Cond) ∈ WA := q_wa_7 _ (List.mem_of_getElem? (i := 28) rfl)
theorem wm_253 : (.fieldLink RX4 65 "Counterpointery$Search" "length" "I" : Cond) ∈ WA := q_wa_7 _ (List.mem_of_getElem? (i := 29) rfl)
theorem wm_254 : (.fieldLink RX4 71 "Counterpointery$Search" "width" "I" : Cond) ∈ WA := q_wa_7 _ (List.mem_of_getElem? (i := 30) rfl)
theorem wm_255 : (.fieldLink RX4 76 "Counterpointery$Search" "low" "I" : Cond) ∈ WA := q_wa_7 _ (List.mem_of_getElem? (i := 31) rfl)
theorem wm_256 : (.methodLink RX4 50 yX1_changes : Cond) ∈ WA := q_wa_8 _ (List.mem_of_getElem? (i := 0) rfl)
theorem wm_257 : (.instanceMethod yX1_changes : Cond) ∈ WA := q_wa_8 _ (List.mem_of_getElem? (i := 1) rfl)
theorem wm_258 : (.selects RX1 yX1_changes yX1_changes : Cond) ∈ WA := q_wa_8 _ (List.mem_of_getElem? (i := 2) rfl)
theorem wm_259 : (.code yX1_changes cX1_changes 1 (some .int) : Cond) ∈ WA := q_wa_8 _ (List.mem_of_getElem? (i := 3) rfl)
theorem wm_260 : (.methodLink RX4 56 yX1_room : Cond) ∈ WA := q_wa_8 _ (List.mem_of_getElem? (i := 4) rfl)
theorem wm_261 : (.methodLink RX4 68 yX1_width : Cond) ∈ WA := q_wa_8 _ (List.mem_of_getElem? (i := 5) rfl)
theorem wm_262 : (.instanceMethod yX1_width : Cond) ∈ WA := q_wa_8 _ (List.mem_of_getElem? (i := 6) rfl)
theorem wm_263 : (.selects RX1 yX1_width yX1_width : Cond) ∈ WA := q_wa_8 _ (List.mem_of_getElem? (i := 7) rfl)
theorem wm_264 : (.code yX1_width cX1_width 1 (some .int) : Cond) ∈ WA := q_wa_8 _ (List.mem_of_getElem? (i := 8) rfl)
theorem wm_265 : (.methodLink RX4 73 yX1_lowest : Cond) ∈ WA := q_wa_8 _ (List.mem_of_getElem? (i := 9) rfl)
theorem wm_266 : (.instanceMethod yX1_lowest : Cond) ∈ WA := q_wa_8 _ (List.mem_of_getElem? (i := 10) rfl)
theorem wm_267 : (.selects RX1 yX1_lowest yX1_lowest : Cond) ∈ WA := q_wa_8 _ (List.mem_of_getElem? (i := 11) rfl)
theorem wm_268 : (.code yX1_lowest cX1_lowest 1 (some .int) : Cond) ∈ WA := q_wa_8 _ (List.mem_of_getElem? (i := 12) rfl)
theorem wm_269 : (.methodLink RX4 79 yX3_stretch : Cond) ∈ WA := q_wa_8 _ (List.mem_of_getElem? (i := 13) rfl)
theorem wm_270 : (.instanceMethod yX3_stretch : Cond) ∈ WA := q_wa_8 _ (List.mem_of_getElem? (i := 14) rfl)
theorem wm_271 : (.selects RX3 yX3_stretch yX3_stretch : Cond) ∈ WA := q_wa_8 _ (List.mem_of_getElem? (i := 15) rfl)
theorem wm_272 : (.code yX3_stretch cX3_stretch 2 none : Cond) ∈ WA := q_wa_8 _ (List.mem_of_getElem? (i := 16) rfl)
theorem wm_273 : (.methodLink RX4 83 yX4_makeMasks : Cond) ∈ WA := q_wa_8 _ (List.mem_of_getElem? (i := 17) rfl)
theorem wm_274 : (.instanceMethod yX4_makeMasks : Cond) ∈ WA := q_wa_8 _ (List.mem_of_getElem? (i := 18) rfl)
theorem wm_275 : (.selects RX4 yX4_makeMasks yX4_makeMasks : Cond) ∈ WA := q_wa_8 _ (List.mem_of_getElem? (i := 19) rfl)
theorem wm_276 : (.initialized RX4 : Cond) ∈ WA := q_wa_8 _ (List.mem_of_getElem? (i := 20) rfl)
theorem wm_277 : (.code yX4_makeMasks cX4_makeMasks 9 none : Cond) ∈ WA := q_wa_8 _ (List.mem_of_getElem? (i := 21) rfl)
theorem wm_278 : (.methodLink RX4 87 yX4_choices : Cond) ∈ WA := q_wa_8 _ (List.mem_of_getElem? (i := 22) rfl)
theorem wm_279 : (.instanceMethod yX4_choices : Cond) ∈ WA := q_wa_8 _ (List.mem_of_getElem? (i := 23) rfl)
theorem wm_280 : (.selects RX4 yX4_choices yX4_choices : Cond) ∈ WA := q_wa_8 _ (List.mem_of_getElem? (i := 24) rfl)
theorem wm_281 : (.code yX4_choices cX4_choices 2 (some .int) : Cond) ∈ WA := q_wa_8 _ (List.mem_of_getElem? (i := 25) rfl)
theorem wm_282 : (.methodLink RX4 91 yX3_put : Cond) ∈ WA := q_wa_8 _ (List.mem_of_getElem? (i := 26) rfl)
theorem wm_283 : (.instanceMethod yX3_put : Cond) ∈ WA := q_wa_8 _ (List.mem_of_getElem? (i := 27) rfl)
theorem wm_284 : (.selects RX3 yX3_put yX3_put : Cond) ∈ WA := q_wa_8 _ (List.mem_of_getElem? (i := 28) rfl)
theorem wm_285 : (.code yX3_put cX3_put 3 none : Cond) ∈ WA := q_wa_8 _ (List.mem_of_getElem? (i := 29) rfl)
theorem wm_286 : (.methodLink RX4 95 yX3_nearFaults : Cond) ∈ WA := q_wa_8 _ (List.mem_of_getElem? (i := 30) rfl)
theorem wm_287 : (.methodLink RX4 98 yX4_maskPlace : Cond) ∈ WA := q_wa_8 _ (List.mem_of_getElem? (i := 31) rfl)
theorem wm_288 : (.instanceMethod yX4_maskPlace : Cond) ∈ WA := q_wa_9 _ (List.mem_of_getElem? (i := 0) rfl)
theorem wm_289 : (.selects RX4 yX4_maskPlace yX4_maskPlace : Cond) ∈ WA := q_wa_9 _ (List.mem_of_getElem? (i := 1) rfl)
theorem wm_290 : (.code yX4_maskPlace cX4_maskPlace 5 (some .int) : Cond) ∈ WA := q_wa_9 _ (List.mem_of_getElem? (i := 2) rfl)
theorem wm_291 : (.methodLink RX4 102 yX3_farFaults : Cond) ∈ WA := q_wa_9 _ (List.mem_of_getElem? (i := 3) rfl)
theorem wm_292 : (.constant RX4 109 (1000000) : Cond) ∈ WA := q_wa_9 _ (List.mem_of_getElem? (i := 4) rfl)
theorem wm_293 : (.methodLink RX4 105 yX4_tailPlace : Cond) ∈ WA := q_wa_9 _ (List.mem_of_getElem? (i := 5) rfl)
theorem wm_294 : (.instanceMethod yX4_tailPlace : Cond) ∈ WA := q_wa_9 _ (List.mem_of_getElem? (i := 6) rfl)
theorem wm_295 : (.selects RX4 yX4_tailPlace yX4_tailPlace : Cond) ∈ WA := q_wa_9 _ (List.mem_of_getElem? (i := 7) rfl)
theorem wm_296 : (.code yX4_tailPlace cX4_tailPlace 4 (some .int) : Cond) ∈ WA := q_wa_9 _ (List.mem_of_getElem? (i := 8) rfl)
theorem wm_297 : (.methodLink RX4 110 yX2_costOf : Cond) ∈ WA := q_wa_9 _ (List.mem_of_getElem? (i := 9) rfl)
theorem wm_298 : (.methodLink RX4 115 yX4_sweepEnd : Cond) ∈ WA := q_wa_9 _ (List.mem_of_getElem? (i := 10) rfl)
theorem wm_299 : (.instanceMethod yX4_sweepEnd : Cond) ∈ WA := q_wa_9 _ (List.mem_of_getElem? (i := 11) rfl)
theorem wm_300 : (.selects RX4 yX4_sweepEnd yX4_sweepEnd : Cond) ∈ WA := q_wa_9 _ (List.mem_of_getElem? (i := 12) rfl)
theorem wm_301 : (.code yX4_sweepEnd cX4_sweepEnd 7 none : Cond) ∈ WA := q_wa_9 _ (List.mem_of_getElem? (i := 13) rfl)
theorem wm_302 : (.methodLink RX4 124 yX4_emptyRow : Cond) ∈ WA := q_wa_9 _ (List.mem_of_getElem? (i := 14) rfl)
theorem wm_303 : (.instanceMethod yX4_emptyRow : Cond) ∈ WA := q_wa_9 _ (List.mem_of_getElem? (i := 15) rfl)
theorem wm_304 : (.selects RX4 yX4_emptyRow yX4_emptyRow : Cond) ∈ WA := q_wa_9 _ (List.mem_of_getElem? (i := 16) rfl)
theorem wm_305 : (.code yX4_emptyRow cX4_emptyRow 5 none : Cond) ∈ WA := q_wa_9 _ (List.mem_of_getElem? (i := 17) rfl)
theorem wm_306 : (.methodLink RX4 127 yX4_maskAt : Cond) ∈ WA := q_wa_9 _ (List.mem_of_getElem? (i := 18) rfl)
theorem wm_307 : (.instanceMethod yX4_maskAt : Cond) ∈ WA := q_wa_9 _ (List.mem_of_getElem? (i := 19) rfl)
theorem wm_308 : (.selects RX4 yX4_maskAt yX4_maskAt : Cond) ∈ WA := q_wa_9 _ (List.mem_of_getElem? (i := 20) rfl)
theorem wm_309 : (.code yX4_maskAt cX4_maskAt 6 (some .int) : Cond) ∈ WA := q_wa_9 _ (List.mem_of_getElem? (i := 21) rfl)
theorem wm_310 : (.methodLink RX4 130 yX4_priceOf : Cond) ∈ WA := q_wa_9 _ (List.mem_of_getElem? (i := 22) rfl)
theorem wm_311 : (.instanceMethod yX4_priceOf : Cond) ∈ WA := q_wa_9 _ (List.mem_of_getElem? (i := 23) rfl)
theorem wm_312 : (.selects RX4 yX4_priceOf yX4_priceOf : Cond) ∈ WA := q_wa_9 _ (List.mem_of_getElem? (i := 24) rfl)
theorem wm_313 : (.code yX4_priceOf cX4_priceOf 3 (some .int) : Cond) ∈ WA := q_wa_9 _ (List.mem_of_getElem? (i := 25) rfl)
theorem wm_314 : (.methodLink RX4 133 yX4_slotAheadOf : Cond) ∈ WA := q_wa_9 _ (List.mem_of_getElem? (i := 26) rfl)
theorem wm_315 : (.instanceMethod yX4_slotAheadOf : Cond) ∈ WA := q_wa_9 _ (List.mem_of_getElem? (i := 27) rfl)
theorem wm_316 : (.selects RX4 yX4_slotAheadOf yX4_slotAheadOf : Cond) ∈ WA := q_wa_9 _ (List.mem_of_getElem? (i := 28) rfl)
theorem wm_317 : (.code yX4_slotAheadOf cX4_slotAheadOf 3 (some .int) : Cond) ∈ WA := q_wa_9 _ (List.mem_of_getElem? (i := 29) rfl)
theorem wm_318 : (.methodLink RX4 136 yX4_putAhead : Cond) ∈ WA := q_wa_9 _ (List.mem_of_getElem? (i := 30) rfl)
theorem wm_319 : (.instanceMethod yX4_putAhead : Cond) ∈ WA := q_wa_9 _ (List.mem_of_getElem? (i := 31) rfl)
theorem wm_320 : (.selects RX4 yX4_putAhead yX4_putAhead : Cond) ∈ WA := q_wa_10 _ (List.mem_of_getElem? (i := 0) rfl)
theorem wm_321 : (.code yX4_putAhead cX4_putAhead 12 none : Cond) ∈ WA := q_wa_10 _ (List.mem_of_getElem? (i := 1) rfl)
theorem wm_322 : (.methodLink RX4 118 yX4_sweepPlace : Cond) ∈ WA := q_wa_10 _ (List.mem_of_getElem? (i := 2) rfl)
theorem wm_323 : (.instanceMethod yX4_sweepPlace : Cond) ∈ WA := q_wa_10 _ (List.mem_of_getElem? (i := 3) rfl)
theorem wm_324 : (.selects RX4 yX4_sweepPlace yX4_sweepPlace : Cond) ∈ WA := q_wa_10 _ (List.mem_of_getElem? (i := 4) rfl)
theorem wm_325 : (.code yX4_sweepPlace cX4_sweepPlace 6 none : Cond) ∈ WA := q_wa_10 _ (List.mem_of_getElem? (i := 5) rfl)
theorem wm_326 : (.methodLink RX4 121 yX4_tailAt : Cond) ∈ WA := q_wa_10 _ (List.mem_of_getElem? (i := 6) rfl)
theorem wm_327 : (.instanceMethod yX4_tailAt : Cond) ∈ WA := q_wa_10 _ (List.mem_of_getElem? (i := 7) rfl)
theorem wm_328 : (.selects RX4 yX4_tailAt yX4_tailAt : Cond) ∈ WA := q_wa_10 _ (List.mem_of_getElem? (i := 8) rfl)
theorem wm_329 : (.code yX4_tailAt cX4_tailAt 5 (some .int) : Cond) ∈ WA := q_wa_10 _ (List.mem_of_getElem? (i := 9) rfl)
theorem wm_330 : (.methodLink RX4 140 yX4_waysAt : Cond) ∈ WA := q_wa_10 _ (List.mem_of_getElem? (i := 10) rfl)
theorem wm_331 : (.instanceMethod yX4_waysAt : Cond) ∈ WA := q_wa_10 _ (List.mem_of_getElem? (i := 11) rfl)
theorem wm_332 : (.selects RX4 yX4_waysAt yX4_waysAt : Cond) ∈ WA := q_wa_10 _ (List.mem_of_getElem? (i := 12) rfl)
theorem wm_333 : (.code yX4_waysAt cX4_waysAt 5 (some .long) : Cond) ∈ WA := q_wa_10 _ (List.mem_of_getElem? (i := 13) rfl)
theorem wm_334 : (.methodLink RX4 144 yX4_bestNext : Cond) ∈ WA := q_wa_10 _ (List.mem_of_getElem? (i := 14) rfl)
theorem wm_335 : (.instanceMethod yX4_bestNext : Cond) ∈ WA := q_wa_10 _ (List.mem_of_getElem? (i := 15) rfl)
theorem wm_336 : (.selects RX4 yX4_bestNext yX4_bestNext : Cond) ∈ WA := q_wa_10 _ (List.mem_of_getElem? (i := 16) rfl)
theorem wm_337 : (.code yX4_bestNext cX4_bestNext 7 (some .int) : Cond) ∈ WA := q_wa_10 _ (List.mem_of_getElem? (i := 17) rfl)
theorem wm_338 : (.methodLink RX4 147 yX4_writeBestEnd : Cond) ∈ WA := q_wa_10 _ (List.mem_of_getElem? (i := 18) rfl)
theorem wm_339 : (.instanceMethod yX4_writeBestEnd : Cond) ∈ WA := q_wa_10 _ (List.mem_of_getElem? (i := 19) rfl)
theorem wm_340 : (.selects RX4 yX4_writeBestEnd yX4_writeBestEnd : Cond) ∈ WA := q_wa_10 _ (List.mem_of_getElem? (i := 20) rfl)
theorem wm_341 : (.code yX4_writeBestEnd cX4_writeBestEnd 9 none : Cond) ∈ WA := q_wa_10 _ (List.mem_of_getElem? (i := 21) rfl)
theorem wm_342 : (.fieldLink RX4 152 "Counterpointery$Search" "barSet" "I" : Cond) ∈ WA := q_wa_10 _ (List.mem_of_getElem? (i := 22) rfl)
theorem wm_343 : (.methodLink RX4 151 yX2_changes : Cond) ∈ WA := q_wa_10 _ (List.mem_of_getElem? (i := 23) rfl)
theorem wm_344 : (.instanceMethod yX2_changes : Cond) ∈ WA := q_wa_10 _ (List.mem_of_getElem? (i := 24) rfl)
theorem wm_345 : (.selects RX2 yX2_changes yX2_changes : Cond) ∈ WA := q_wa_10 _ (List.mem_of_getElem? (i := 25) rfl)
theorem wm_346 : (.code yX2_changes cX2_changes 1 (some .int) : Cond) ∈ WA := q_wa_10 _ (List.mem_of_getElem? (i := 26) rfl)
theorem wm_347 : (.methodLink RX4 155 yX2_weighing : Cond) ∈ WA := q_wa_10 _ (List.mem_of_getElem? (i := 27) rfl)
theorem wm_348 : (.instanceMethod yX2_weighing : Cond) ∈ WA := q_wa_10 _ (List.mem_of_getElem? (i := 28) rfl)
theorem wm_349 : (.selects RX2 yX2_weighing yX2_weighing : Cond) ∈ WA := q_wa_10 _ (List.mem_of_getElem? (i := 29) rfl)
theorem wm_350 : (.code yX2_weighing cX2_weighing 4 (some .int) : Cond) ∈ WA := q_wa_10 _ (List.mem_of_getElem? (i := 30) rfl)
theorem wm_351 : (.methodLink RX4 158 yX4_sweep : Cond) ∈ WA := q_wa_10 _ (List.mem_of_getElem? (i := 31) rfl)
theorem wm_352 : (.instanceMethod yX4_sweep : Cond) ∈ WA := q_wa_11 _ (List.mem_of_getElem? (i := 0) rfl)
theorem wm_353 : (.selects RX4 yX4_sweep yX4_sweep : Cond) ∈ WA := q_wa_11 _ (List.mem_of_getElem? (i := 1) rfl)
theorem wm_354 : (.code yX4_sweep cX4_sweep 3 (some .int) : Cond) ∈ WA := q_wa_11 _ (List.mem_of_getElem? (i := 2) rfl)
theorem wm_355 : (.methodLink RX4 161 yX4_writeBest : Cond) ∈ WA := q_wa_11 _ (List.mem_of_getElem? (i := 3) rfl)
theorem wm_356 : (.instanceMethod yX4_writeBest : Cond) ∈ WA := q_wa_11 _ (List.mem_of_getElem? (i := 4) rfl)
theorem wm_357 : (.selects RX4 yX4_writeBest yX4_writeBest : Cond) ∈ WA := q_wa_11 _ (List.mem_of_getElem? (i := 5) rfl)
theorem wm_358 : (.code yX4_writeBest cX4_writeBest 7 none : Cond) ∈ WA := q_wa_11 _ (List.mem_of_getElem? (i := 6) rfl)
theorem wm_359 : (.methodLink RX4 165 yX4_startTrying : Cond) ∈ WA := q_wa_11 _ (List.mem_of_getElem? (i := 7) rfl)
theorem wm_360 : (.instanceMethod yX4_startTrying : Cond) ∈ WA := q_wa_11 _ (List.mem_of_getElem? (i := 8) rfl)
theorem wm_361 : (.selects RX4 yX4_startTrying yX4_startTrying : Cond) ∈ WA := q_wa_11 _ (List.mem_of_getElem? (i := 9) rfl)
theorem wm_362 : (.code yX4_startTrying cX4_startTrying 3 (some .int) : Cond) ∈ WA := q_wa_11 _ (List.mem_of_getElem? (i := 10) rfl)
theorem wm_363 : (.methodLink RX4 168 yX3_isFree : Cond) ∈ WA := q_wa_11 _ (List.mem_of_getElem? (i := 11) rfl)
theorem wm_364 : (.instanceMethod yX3_isFree : Cond) ∈ WA := q_wa_11 _ (List.mem_of_getElem? (i := 12) rfl)
theorem wm_365 : (.selects RX3 yX3_isFree yX3_isFree : Cond) ∈ WA := q_wa_11 _ (List.mem_of_getElem? (i := 13) rfl)
theorem wm_366 : (.code yX3_isFree cX3_isFree 3 (some .boolean) : Cond) ∈ WA := q_wa_11 _ (List.mem_of_getElem? (i := 14) rfl)
theorem wm_367 : (.methodLink RX4 172 yX3_costBetween : Cond) ∈ WA := q_wa_11 _ (List.mem_of_getElem? (i := 15) rfl)
theorem wm_368 : (.methodLink RX4 176 yX4_isSketched : Cond) ∈ WA := q_wa_11 _ (List.mem_of_getElem? (i := 16) rfl)
theorem wm_369 : (.instanceMethod yX4_isSketched : Cond) ∈ WA := q_wa_11 _ (List.mem_of_getElem? (i := 17) rfl)
theorem wm_370 : (.selects RX4 yX4_isSketched yX4_isSketched : Cond) ∈ WA := q_wa_11 _ (List.mem_of_getElem? (i := 18) rfl)
theorem wm_371 : (.code yX4_isSketched cX4_isSketched 2 (some .boolean) : Cond) ∈ WA := q_wa_11 _ (List.mem_of_getElem? (i := 19) rfl)
theorem wm_372 : (.methodLink RX4 187 yX3_toneAt : Cond) ∈ WA := q_wa_11 _ (List.mem_of_getElem? (i := 20) rfl)
theorem wm_373 : (.methodLink RX4 180 yX4_tryNext : Cond) ∈ WA := q_wa_11 _ (List.mem_of_getElem? (i := 21) rfl)
theorem wm_374 : (.instanceMethod yX4_tryNext : Cond) ∈ WA := q_wa_11 _ (List.mem_of_getElem? (i := 22) rfl)
theorem wm_375 : (.selects RX4 yX4_tryNext yX4_tryNext : Cond) ∈ WA := q_wa_11 _ (List.mem_of_getElem? (i := 23) rfl)
theorem wm_376 : (.code yX4_tryNext cX4_tryNext 3 none : Cond) ∈ WA := q_wa_11 _ (List.mem_of_getElem? (i := 24) rfl)
theorem wm_377 : (.methodLink RX4 183 yX4_goodCount : Cond) ∈ WA := q_wa_11 _ (List.mem_of_getElem? (i := 25) rfl)
theorem wm_378 : (.instanceMethod yX4_goodCount : Cond) ∈ WA := q_wa_11 _ (List.mem_of_getElem? (i := 26) rfl)
theorem wm_379 : (.selects RX4 yX4_goodCount yX4_goodCount : Cond) ∈ WA := q_wa_11 _ (List.mem_of_getElem? (i := 27) rfl)
theorem wm_380 : (.code yX4_goodCount cX4_goodCount 1 (some .long) : Cond) ∈ WA := q_wa_11 _ (List.mem_of_getElem? (i := 28) rfl)
theorem wm_381 : (.methodLink RX6 1 objectInit : Cond) ∈ WA := q_wa_11 _ (List.mem_of_getElem? (i := 29) rfl)
theorem wm_382 : (.classLink RX6 7 RX1 : Cond) ∈ WA := q_wa_11 _ (List.mem_of_getElem? (i := 30) rfl)
theorem wm_383 : (.instantiable RX1 8 : Cond) ∈ WA := q_wa_11 _ (List.mem_of_getElem? (i := 31) rfl)
theorem wm_384 : (.fieldLink RX6 10 "Counterpointery" "ground" "LCounterpointery$Ground;" : Cond) ∈ WA := q_wa_12 _ (List.mem_of_getElem? (i := 0) rfl)
theorem wm_385 : (.classLink RX6 16 RX3 : Cond) ∈ WA := q_wa_12 _ (List.mem_of_getElem? (i := 1) rfl)
theorem wm_386 : (.fieldLink RX6 21 "Counterpointery" "line" "LCounterpointery$Line;" : Cond) ∈ WA := q_wa_12 _ (List.mem_of_getElem? (i := 2) rfl)
theorem wm_387 : (.classLink RX6 25 RX2 : Cond) ∈ WA := q_wa_12 _ (List.mem_of_getElem? (i := 3) rfl)
theorem wm_388 : (.instantiable RX2 2 : Cond) ∈ WA := q_wa_12 _ (List.mem_of_getElem? (i := 4) rfl)
theorem wm_389 : (.fieldLink RX6 28 "Counterpointery" "laws" "LCounterpointery$Laws;" : Cond) ∈ WA := q_wa_12 _ (List.mem_of_getElem? (i := 5) rfl)
theorem wm_390 : (.methodLink RX6 9 yX1_init : Cond) ∈ WA := q_wa_12 _ (List.mem_of_getElem? (i := 6) rfl)
theorem wm_391 : (.instanceMethod yX1_init : Cond) ∈ WA := q_wa_12 _ (List.mem_of_getElem? (i := 7) rfl)
theorem wm_392 : (.code yX1_init cX1_init 1 none : Cond) ∈ WA := q_wa_12 _ (List.mem_of_getElem? (i := 8) rfl)
theorem wm_393 : (.methodLink RX6 18 yX3_init : Cond) ∈ WA := q_wa_12 _ (List.mem_of_getElem? (i := 9) rfl)
theorem wm_394 : (.methodLink RX6 27 yX2_init : Cond) ∈ WA := q_wa_12 _ (List.mem_of_getElem? (i := 10) rfl)
theorem wm_395 : (.instanceMethod yX2_init : Cond) ∈ WA := q_wa_12 _ (List.mem_of_getElem? (i := 11) rfl)
theorem wm_396 : (.code yX2_init cX2_init 1 none : Cond) ∈ WA := q_wa_12 _ (List.mem_of_getElem? (i := 12) rfl)
theorem wm_397 : (.classLink RX6 40 "java/lang/IllegalStateException" : Cond) ∈ WA := q_wa_12 _ (List.mem_of_getElem? (i := 13) rfl)
theorem wm_398 : (.initialized "java/lang/IllegalStateException" : Cond) ∈ WA := q_wa_12 _ (List.mem_of_getElem? (i := 14) rfl)
theorem wm_399 : (.methodLink RX6 32 yX6_requireNote : Cond) ∈ WA := q_wa_12 _ (List.mem_of_getElem? (i := 15) rfl)
theorem wm_400 : (.instanceMethod yX6_requireNote : Cond) ∈ WA := q_wa_12 _ (List.mem_of_getElem? (i := 16) rfl)
theorem wm_401 : (.selects RX6 yX6_requireNote yX6_requireNote : Cond) ∈ WA := q_wa_12 _ (List.mem_of_getElem? (i := 17) rfl)
theorem wm_402 : (.initialized RX6 : Cond) ∈ WA := q_wa_12 _ (List.mem_of_getElem? (i := 18) rfl)
theorem wm_403 : (.code yX6_requireNote cX6_requireNote 2 none : Cond) ∈ WA := q_wa_12 _ (List.mem_of_getElem? (i := 19) rfl)
theorem wm_404 : (.classLink RX6 77 "java/lang/IllegalArgumentException" : Cond) ∈ WA := q_wa_12 _ (List.mem_of_getElem? (i := 20) rfl)
theorem wm_405 : (.initialized "java/lang/IllegalArgumentException" : Cond) ∈ WA := q_wa_12 _ (List.mem_of_getElem? (i := 21) rfl)
theorem wm_406 : (.methodLink RX6 284 yX5_isNote : Cond) ∈ WA := q_wa_12 _ (List.mem_of_getElem? (i := 22) rfl)
theorem wm_407 : (.static yX5_isNote : Cond) ∈ WA := q_wa_12 _ (List.mem_of_getElem? (i := 23) rfl)
theorem wm_408 : (.code yX5_isNote cX5_isNote 1 (some .boolean) : Cond) ∈ WA := q_wa_12 _ (List.mem_of_getElem? (i := 24) rfl)
theorem wm_409 : (.methodLink RX6 36 yX1_size : Cond) ∈ WA := q_wa_12 _ (List.mem_of_getElem? (i := 25) rfl)
theorem wm_410 : (.methodLink RX6 47 yX1_append : Cond) ∈ WA := q_wa_12 _ (List.mem_of_getElem? (i := 26) rfl)
theorem wm_411 : (.instanceMethod yX1_append : Cond) ∈ WA := q_wa_12 _ (List.mem_of_getElem? (i := 27) rfl)
theorem wm_412 : (.selects RX1 yX1_append yX1_append : Cond) ∈ WA := q_wa_12 _ (List.mem_of_getElem? (i := 28) rfl)
theorem wm_413 : (.code yX1_append cX1_append 2 none : Cond) ∈ WA := q_wa_12 _ (List.mem_of_getElem? (i := 29) rfl)
theorem wm_414 : (.methodLink RX6 50 yX3_stretch : Cond) ∈ WA := q_wa_12 _ (List.mem_of_getElem? (i := 30) rfl)
theorem wm_415 : (.methodLink RX6 53 yX3_isFull : Cond) ∈ WA := q_wa_12 _ (List.mem_of_getElem? (i := 31) rfl)
theorem wm_416 : (.instanceMethod yX3_isFull : Cond) ∈ WA := q_wa_13 _ (List.mem_of_getElem? (i := 0) rfl)
theorem wm_417 : (.selects RX3 yX3_isFull yX3_isFull : Cond) ∈ WA := q_wa_13 _ (List.mem_of_getElem? (i := 1) rfl)
theorem wm_418 : (.code yX3_isFull cX3_isFull 1 (some .boolean) : Cond) ∈ WA := q_wa_13 _ (List.mem_of_getElem? (i := 2) rfl)
theorem wm_419 : (.methodLink RX6 59 yX3_append : Cond) ∈ WA := q_wa_13 _ (List.mem_of_getElem? (i := 3) rfl)
theorem wm_420 : (.instanceMethod yX3_append : Cond) ∈ WA := q_wa_13 _ (List.mem_of_getElem? (i := 4) rfl)
theorem wm_421 : (.selects RX3 yX3_append yX3_append : Cond) ∈ WA := q_wa_13 _ (List.mem_of_getElem? (i := 5) rfl)
theorem wm_422 : (.code yX3_append cX3_append 2 none : Cond) ∈ WA := q_wa_13 _ (List.mem_of_getElem? (i := 6) rfl)
theorem wm_423 : (.methodLink RX6 60 yX3_length : Cond) ∈ WA := q_wa_13 _ (List.mem_of_getElem? (i := 7) rfl)
theorem wm_424 : (.methodLink RX6 63 yX6_requireIndex : Cond) ∈ WA := q_wa_13 _ (List.mem_of_getElem? (i := 8) rfl)
theorem wm_425 : (.instanceMethod yX6_requireIndex : Cond) ∈ WA := q_wa_13 _ (List.mem_of_getElem? (i := 9) rfl)
theorem wm_426 : (.selects RX6 yX6_requireIndex yX6_requireIndex : Cond) ∈ WA := q_wa_13 _ (List.mem_of_getElem? (i := 10) rfl)
theorem wm_427 : (.code yX6_requireIndex cX6_requireIndex 2 none : Cond) ∈ WA := q_wa_13 _ (List.mem_of_getElem? (i := 11) rfl)
theorem wm_428 : (.classLink RX6 202 "java/lang/IndexOutOfBoundsException" : Cond) ∈ WA := q_wa_13 _ (List.mem_of_getElem? (i := 12) rfl)
theorem wm_429 : (.initialized "java/lang/IndexOutOfBoundsException" : Cond) ∈ WA := q_wa_13 _ (List.mem_of_getElem? (i := 13) rfl)
theorem wm_430 : (.methodLink RX6 289 yX3_has : Cond) ∈ WA := q_wa_13 _ (List.mem_of_getElem? (i := 14) rfl)
theorem wm_431 : (.instanceMethod yX3_has : Cond) ∈ WA := q_wa_13 _ (List.mem_of_getElem? (i := 15) rfl)
theorem wm_432 : (.selects RX3 yX3_has yX3_has : Cond) ∈ WA := q_wa_13 _ (List.mem_of_getElem? (i := 16) rfl)
theorem wm_433 : (.code yX3_has cX3_has 2 (some .boolean) : Cond) ∈ WA := q_wa_13 _ (List.mem_of_getElem? (i := 17) rfl)
theorem wm_434 : (.methodLink RX6 66 yX3_toneAt : Cond) ∈ WA := q_wa_13 _ (List.mem_of_getElem? (i := 18) rfl)
theorem wm_435 : (.methodLink RX6 70 yX3_put : Cond) ∈ WA := q_wa_13 _ (List.mem_of_getElem? (i := 19) rfl)
theorem wm_436 : (.methodLink RX6 74 yX1_empty : Cond) ∈ WA := q_wa_13 _ (List.mem_of_getElem? (i := 20) rfl)
theorem wm_437 : (.instanceMethod yX1_empty : Cond) ∈ WA := q_wa_13 _ (List.mem_of_getElem? (i := 21) rfl)
theorem wm_438 : (.selects RX1 yX1_empty yX1_empty : Cond) ∈ WA := q_wa_13 _ (List.mem_of_getElem? (i := 22) rfl)
theorem wm_439 : (.code yX1_empty cX1_empty 1 none : Cond) ∈ WA := q_wa_13 _ (List.mem_of_getElem? (i := 23) rfl)
theorem wm_440 : (.methodLink RX6 82 yX1_perGiven : Cond) ∈ WA := q_wa_13 _ (List.mem_of_getElem? (i := 24) rfl)
theorem wm_441 : (.methodLink RX6 85 yX1_setPerGiven : Cond) ∈ WA := q_wa_13 _ (List.mem_of_getElem? (i := 25) rfl)
theorem wm_442 : (.instanceMethod yX1_setPerGiven : Cond) ∈ WA := q_wa_13 _ (List.mem_of_getElem? (i := 26) rfl)
theorem wm_443 : (.selects RX1 yX1_setPerGiven yX1_setPerGiven : Cond) ∈ WA := q_wa_13 _ (List.mem_of_getElem? (i := 27) rfl)
theorem wm_444 : (.code yX1_setPerGiven cX1_setPerGiven 2 none : Cond) ∈ WA := q_wa_13 _ (List.mem_of_getElem? (i := 28) rfl)
theorem wm_445 : (.methodLink RX6 88 yX1_isBelow : Cond) ∈ WA := q_wa_13 _ (List.mem_of_getElem? (i := 29) rfl)
theorem wm_446 : (.methodLink RX6 91 yX1_setBelow : Cond) ∈ WA := q_wa_13 _ (List.mem_of_getElem? (i := 30) rfl)
theorem wm_447 : (.instanceMethod yX1_setBelow : Cond) ∈ WA := q_wa_13 _ (List.mem_of_getElem? (i := 31) rfl)
theorem wm_448 : (.selects RX1 yX1_setBelow yX1_setBelow : Cond) ∈ WA := q_wa_14 _ (List.mem_of_getElem? (i := 0) rfl)
theorem wm_449 : (.code yX1_setBelow cX1_setBelow 2 none : Cond) ∈ WA := q_wa_14 _ (List.mem_of_getElem? (i := 1) rfl)
theorem wm_450 : (.methodLink RX6 95 yX1_isFeigning : Cond) ∈ WA := q_wa_14 _ (List.mem_of_getElem? (i := 2) rfl)
theorem wm_451 : (.methodLink RX6 98 yX1_setFeigning : Cond) ∈ WA := q_wa_14 _ (List.mem_of_getElem? (i := 3) rfl)
theorem wm_452 : (.instanceMethod yX1_setFeigning : Cond) ∈ WA := q_wa_14 _ (List.mem_of_getElem? (i := 4) rfl)
theorem wm_453 : (.selects RX1 yX1_setFeigning yX1_setFeigning : Cond) ∈ WA := q_wa_14 _ (List.mem_of_getElem? (i := 5) rfl)
theorem wm_454 : (.code yX1_setFeigning cX1_setFeigning 2 none : Cond) ∈ WA := q_wa_14 _ (List.mem_of_getElem? (i := 6) rfl)
theorem wm_455 : (.methodLink RX6 101 yX3_heightAt : Cond) ∈ WA := q_wa_14 _ (List.mem_of_getElem? (i := 7) rfl)
theorem wm_456 : (.methodLink RX6 104 yX3_gapAt : Cond) ∈ WA := q_wa_14 _ (List.mem_of_getElem? (i := 8) rfl)
theorem wm_457 : (.methodLink RX6 107 yX5_signOf : Cond) ∈ WA := q_wa_14 _ (List.mem_of_getElem? (i := 9) rfl)
theorem wm_458 : (.static yX5_signOf : Cond) ∈ WA := q_wa_14 _ (List.mem_of_getElem? (i := 10) rfl)
theorem wm_459 : (.code yX5_signOf cX5_signOf 1 (some .char) : Cond) ∈ WA := q_wa_14 _ (List.mem_of_getElem? (i := 11) rfl)
theorem wm_460 : (.methodLink RX6 113 yX6_requiredLaw : Cond) ∈ WA := q_wa_14 _ (List.mem_of_getElem? (i := 12) rfl)
theorem wm_461 : (.instanceMethod yX6_requiredLaw : Cond) ∈ WA := q_wa_14 _ (List.mem_of_getElem? (i := 13) rfl)
theorem wm_462 : (.selects RX6 yX6_requiredLaw yX6_requiredLaw : Cond) ∈ WA := q_wa_14 _ (List.mem_of_getElem? (i := 14) rfl)
theorem wm_463 : (.code yX6_requiredLaw cX6_requiredLaw 3 (some .int) : Cond) ∈ WA := q_wa_14 _ (List.mem_of_getElem? (i := 15) rfl)
theorem wm_464 : (.methodLink RX6 296 yJ0_indexOf_0f7a4 : Cond) ∈ WA := q_wa_14 _ (List.mem_of_getElem? (i := 16) rfl)
theorem wm_465 : (.instanceMethod yJ0_indexOf_0f7a4 : Cond) ∈ WA := q_wa_14 _ (List.mem_of_getElem? (i := 17) rfl)
theorem wm_466 : (.selects RJ0 yJ0_indexOf_0f7a4 yJ0_indexOf_0f7a4 : Cond) ∈ WA := q_wa_14 _ (List.mem_of_getElem? (i := 18) rfl)
theorem wm_467 : (.code yJ0_indexOf_0f7a4 cJ0_indexOf_0f7a4 2 (some .int) : Cond) ∈ WA := q_wa_14 _ (List.mem_of_getElem? (i := 19) rfl)
theorem wm_468 : (.methodLink RJ0 633 yJ0_indexOf_7cf53 : Cond) ∈ WA := q_wa_14 _ (List.mem_of_getElem? (i := 20) rfl)
theorem wm_469 : (.instanceMethod yJ0_indexOf_7cf53 : Cond) ∈ WA := q_wa_14 _ (List.mem_of_getElem? (i := 21) rfl)
theorem wm_470 : (.selects RJ0 yJ0_indexOf_7cf53 yJ0_indexOf_7cf53 : Cond) ∈ WA := q_wa_14 _ (List.mem_of_getElem? (i := 22) rfl)
theorem wm_471 : (.code yJ0_indexOf_7cf53 cJ0_indexOf_7cf53 3 (some .int) : Cond) ∈ WA := q_wa_14 _ (List.mem_of_getElem? (i := 23) rfl)
theorem wm_472 : (.methodLink RJ0 505 yJ0_length_8abf5 : Cond) ∈ WA := q_wa_14 _ (List.mem_of_getElem? (i := 24) rfl)
theorem wm_473 : (.methodLink RJ0 637 yJ1_indexOf_4cfef : Cond) ∈ WA := q_wa_14 _ (List.mem_of_getElem? (i := 25) rfl)
theorem wm_474 : (.static yJ1_indexOf_4cfef : Cond) ∈ WA := q_wa_14 _ (List.mem_of_getElem? (i := 26) rfl)
theorem wm_475 : (.code yJ1_indexOf_4cfef cJ1_indexOf_4cfef 4 (some .int) : Cond) ∈ WA := q_wa_14 _ (List.mem_of_getElem? (i := 27) rfl)
theorem wm_476 : (.methodLink RJ1 92 Lib.Math.max.name : Cond) ∈ WA := q_wa_14 _ (List.mem_of_getElem? (i := 28) rfl)
theorem wm_477 : (.methodLink RJ1 38 Lib.Math.min.name : Cond) ∈ WA := q_wa_14 _ (List.mem_of_getElem? (i := 29) rfl)
theorem wm_478 : (.methodLink RJ1 88 yJ1_canEncode_9a6ad : Cond) ∈ WA := q_wa_14 _ (List.mem_of_getElem? (i := 30) rfl)
theorem wm_479 : (.static yJ1_canEncode_9a6ad : Cond) ∈ WA := q_wa_14 _ (List.mem_of_getElem? (i := 31) rfl)
theorem wm_480 : (.code yJ1_canEncode_9a6ad cJ1_canEncode_9a6ad 1 (some .boolean) : Cond) ∈ WA := q_wa_15 _ (List.mem_of_getElem? (i := 0) rfl)
theorem wm_481 : (.methodLink RJ1 95 yJ1_indexOfChar_4cfef : Cond) ∈ WA := q_wa_15 _ (List.mem_of_getElem? (i := 1) rfl)
theorem wm_482 : (.static yJ1_indexOfChar_4cfef : Cond) ∈ WA := q_wa_15 _ (List.mem_of_getElem? (i := 2) rfl)
theorem wm_483 : (.code yJ1_indexOfChar_4cfef cJ1_indexOfChar_4cfef 6 (some .int) : Cond) ∈ WA := q_wa_15 _ (List.mem_of_getElem? (i := 3) rfl)
theorem wm_484 : (.methodLink RJ0 640 yJ2_indexOf_4cfef : Cond) ∈ WA := q_wa_15 _ (List.mem_of_getElem? (i := 4) rfl)
theorem wm_485 : (.static yJ2_indexOf_4cfef : Cond) ∈ WA := q_wa_15 _ (List.mem_of_getElem? (i := 5) rfl)
theorem wm_486 : (.code yJ2_indexOf_4cfef cJ2_indexOf_4cfef 4 (some .int) : Cond) ∈ WA := q_wa_15 _ (List.mem_of_getElem? (i := 6) rfl)
theorem wm_487 : (.methodLink RJ2 224 Lib.Math.max.name : Cond) ∈ WA := q_wa_15 _ (List.mem_of_getElem? (i := 7) rfl)
theorem wm_488 : (.methodLink RJ2 183 Lib.Math.min.name : Cond) ∈ WA := q_wa_15 _ (List.mem_of_getElem? (i := 8) rfl)
theorem wm_489 : (.constant RJ2 227 (65536) : Cond) ∈ WA := q_wa_15 _ (List.mem_of_getElem? (i := 9) rfl)
theorem wm_490 : (.methodLink RJ2 228 yJ2_indexOfChar_4cfef : Cond) ∈ WA := q_wa_15 _ (List.mem_of_getElem? (i := 10) rfl)
theorem wm_491 : (.static yJ2_indexOfChar_4cfef : Cond) ∈ WA := q_wa_15 _ (List.mem_of_getElem? (i := 11) rfl)
theorem wm_492 : (.code yJ2_indexOfChar_4cfef cJ2_indexOfChar_4cfef 4 (some .int) : Cond) ∈ WA := q_wa_15 _ (List.mem_of_getElem? (i := 12) rfl)
theorem wm_493 : (.methodLink RJ2 96 yJ2_checkBoundsBeginEnd_d044e : Cond) ∈ WA := q_wa_15 _ (List.mem_of_getElem? (i := 13) rfl)
theorem wm_494 : (.static yJ2_checkBoundsBeginEnd_d044e : Cond) ∈ WA := q_wa_15 _ (List.mem_of_getElem? (i := 14) rfl)
theorem wm_495 : (.code yJ2_checkBoundsBeginEnd_d044e cJ2_checkBoundsBeginEnd_d044e 3 none : Cond) ∈ WA := q_wa_15 _ (List.mem_of_getElem? (i := 15) rfl)
theorem wm_496 : (.methodLink RJ2 241 yJ0_checkBoundsBeginEnd_23922 : Cond) ∈ WA := q_wa_15 _ (List.mem_of_getElem? (i := 16) rfl)
theorem wm_497 : (.static yJ0_checkBoundsBeginEnd_23922 : Cond) ∈ WA := q_wa_15 _ (List.mem_of_getElem? (i := 17) rfl)
theorem wm_498 : (.code yJ0_checkBoundsBeginEnd_23922 cJ0_checkBoundsBeginEnd_23922 3 none : Cond) ∈ WA := q_wa_15 _ (List.mem_of_getElem? (i := 18) rfl)
theorem wm_499 : (.methodLink RJ0 1062 yJ3_checkFromToIndex_8c36e : Cond) ∈ WA := q_wa_15 _ (List.mem_of_getElem? (i := 19) rfl)
theorem wm_500 : (.static yJ3_checkFromToIndex_8c36e : Cond) ∈ WA := q_wa_15 _ (List.mem_of_getElem? (i := 20) rfl)
theorem wm_501 : (.code yJ3_checkFromToIndex_8c36e cJ3_checkFromToIndex_8c36e 4 (some .int) : Cond) ∈ WA := q_wa_15 _ (List.mem_of_getElem? (i := 21) rfl)
theorem wm_502 : (.methodLink RJ2 244 yJ2_indexOfCharUnsafe_4cfef : Cond) ∈ WA := q_wa_15 _ (List.mem_of_getElem? (i := 22) rfl)
theorem wm_503 : (.static yJ2_indexOfCharUnsafe_4cfef : Cond) ∈ WA := q_wa_15 _ (List.mem_of_getElem? (i := 23) rfl)
theorem wm_504 : (.code yJ2_indexOfCharUnsafe_4cfef cJ2_indexOfCharUnsafe_4cfef 5 (some .int) : Cond) ∈ WA := q_wa_15 _ (List.mem_of_getElem? (i := 24) rfl)
theorem wm_505 : (.methodLink RJ2 232 yJ2_indexOfSupplementary_4cfef : Cond) ∈ WA := q_wa_15 _ (List.mem_of_getElem? (i := 25) rfl)
theorem wm_506 : (.static yJ2_indexOfSupplementary_4cfef : Cond) ∈ WA := q_wa_15 _ (List.mem_of_getElem? (i := 26) rfl)
theorem wm_507 : (.code yJ2_indexOfSupplementary_4cfef cJ2_indexOfSupplementary_4cfef 7 (some .int) : Cond) ∈ WA := q_wa_15 _ (List.mem_of_getElem? (i := 27) rfl)
theorem wm_508 : (.methodLink RJ2 164 yJ11_isValidCodePoint_9a6ad : Cond) ∈ WA := q_wa_15 _ (List.mem_of_getElem? (i := 28) rfl)
theorem wm_509 : (.static yJ11_isValidCodePoint_9a6ad : Cond) ∈ WA := q_wa_15 _ (List.mem_of_getElem? (i := 29) rfl)
theorem wm_510 : (.initialized RJ11 : Cond) ∈ WA := q_wa_15 _ (List.mem_of_getElem? (i := 30) rfl)
theorem wm_511 : (.code yJ11_isValidCodePoint_9a6ad cJ11_isValidCodePoint_9a6ad 2 (some .boolean) : Cond) ∈ WA := q_wa_15 _ (List.mem_of_getElem? (i := 31) rfl)
theorem wm_512 : (.methodLink RJ2 157 yJ11_highSurrogate_5068e : Cond) ∈ WA := q_wa_16 _ (List.mem_of_getElem? (i := 0) rfl)
theorem wm_513 : (.static yJ11_highSurrogate_5068e : Cond) ∈ WA := q_wa_16 _ (List.mem_of_getElem? (i := 1) rfl)
theorem wm_514 : (.code yJ11_highSurrogate_5068e cJ11_highSurrogate_5068e 1 (some .char) : Cond) ∈ WA := q_wa_16 _ (List.mem_of_getElem? (i := 2) rfl)
theorem wm_515 : (.constant RJ11 110 (55232) : Cond) ∈ WA := q_wa_16 _ (List.mem_of_getElem? (i := 3) rfl)
theorem wm_516 : (.methodLink RJ2 161 yJ11_lowSurrogate_5068e : Cond) ∈ WA := q_wa_16 _ (List.mem_of_getElem? (i := 4) rfl)
theorem wm_517 : (.static yJ11_lowSurrogate_5068e : Cond) ∈ WA := q_wa_16 _ (List.mem_of_getElem? (i := 5) rfl)
theorem wm_518 : (.code yJ11_lowSurrogate_5068e cJ11_lowSurrogate_5068e 1 (some .char) : Cond) ∈ WA := q_wa_16 _ (List.mem_of_getElem? (i := 6) rfl)
theorem wm_519 : (.constant RJ11 76 (56320) : Cond) ∈ WA := q_wa_16 _ (List.mem_of_getElem? (i := 7) rfl)
theorem wm_520 : (.methodLink RX6 119 yX2_weightOf : Cond) ∈ WA := q_wa_16 _ (List.mem_of_getElem? (i := 8) rfl)
theorem wm_521 : (.methodLink RX6 122 yX2_setWeight : Cond) ∈ WA := q_wa_16 _ (List.mem_of_getElem? (i := 9) rfl)
theorem wm_522 : (.methodLink RX6 127 yX2_adopt : Cond) ∈ WA := q_wa_16 _ (List.mem_of_getElem? (i := 10) rfl)
theorem wm_523 : (.instanceMethod yX2_adopt : Cond) ∈ WA := q_wa_16 _ (List.mem_of_getElem? (i := 11) rfl)
theorem wm_524 : (.selects RX2 yX2_adopt yX2_adopt : Cond) ∈ WA := q_wa_16 _ (List.mem_of_getElem? (i := 12) rfl)
theorem wm_525 : (.code yX2_adopt cX2_adopt 5 (some .int) : Cond) ∈ WA := q_wa_16 _ (List.mem_of_getElem? (i := 13) rfl)
theorem wm_526 : (.methodLink RX6 130 yX2_weighing : Cond) ∈ WA := q_wa_16 _ (List.mem_of_getElem? (i := 14) rfl)
theorem wm_527 : (.methodLink RX6 133 yX3_faultsAt : Cond) ∈ WA := q_wa_16 _ (List.mem_of_getElem? (i := 15) rfl)
theorem wm_528 : (.methodLink RX6 136 yJ6_bitCount_0f7a4 : Cond) ∈ WA := q_wa_16 _ (List.mem_of_getElem? (i := 16) rfl)
theorem wm_529 : (.methodLink RX6 141 yX6_requiredFault : Cond) ∈ WA := q_wa_16 _ (List.mem_of_getElem? (i := 17) rfl)
theorem wm_530 : (.instanceMethod yX6_requiredFault : Cond) ∈ WA := q_wa_16 _ (List.mem_of_getElem? (i := 18) rfl)
theorem wm_531 : (.selects RX6 yX6_requiredFault yX6_requiredFault : Cond) ∈ WA := q_wa_16 _ (List.mem_of_getElem? (i := 19) rfl)
theorem wm_532 : (.code yX6_requiredFault cX6_requiredFault 3 (some .int) : Cond) ∈ WA := q_wa_16 _ (List.mem_of_getElem? (i := 20) rfl)
theorem wm_533 : (.methodLink RX6 301 yX3_faultNumber : Cond) ∈ WA := q_wa_16 _ (List.mem_of_getElem? (i := 21) rfl)
theorem wm_534 : (.instanceMethod yX3_faultNumber : Cond) ∈ WA := q_wa_16 _ (List.mem_of_getElem? (i := 22) rfl)
theorem wm_535 : (.selects RX3 yX3_faultNumber yX3_faultNumber : Cond) ∈ WA := q_wa_16 _ (List.mem_of_getElem? (i := 23) rfl)
theorem wm_536 : (.code yX3_faultNumber cX3_faultNumber 7 (some .int) : Cond) ∈ WA := q_wa_16 _ (List.mem_of_getElem? (i := 24) rfl)
theorem wm_537 : (.methodLink RX6 144 yX2_signOf : Cond) ∈ WA := q_wa_16 _ (List.mem_of_getElem? (i := 25) rfl)
theorem wm_538 : (.static yX2_signOf : Cond) ∈ WA := q_wa_16 _ (List.mem_of_getElem? (i := 26) rfl)
theorem wm_539 : (.code yX2_signOf cX2_signOf 1 (some .char) : Cond) ∈ WA := q_wa_16 _ (List.mem_of_getElem? (i := 27) rfl)
theorem wm_540 : (.methodLink RX6 145 yX3_costBetween : Cond) ∈ WA := q_wa_16 _ (List.mem_of_getElem? (i := 28) rfl)
theorem wm_541 : (.methodLink RX6 149 yX3_isWhole : Cond) ∈ WA := q_wa_16 _ (List.mem_of_getElem? (i := 29) rfl)
theorem wm_542 : (.instanceMethod yX3_isWhole : Cond) ∈ WA := q_wa_16 _ (List.mem_of_getElem? (i := 30) rfl)
theorem wm_543 : (.selects RX3 yX3_isWhole yX3_isWhole : Cond) ∈ WA := q_wa_16 _ (List.mem_of_getElem? (i := 31) rfl)
theorem wm_544 : (.code yX3_isWhole cX3_isWhole 1 (some .boolean) : Cond) ∈ WA := q_wa_17 _ (List.mem_of_getElem? (i := 0) rfl)
theorem wm_545 : (.methodLink RX6 152 yX3_isFree : Cond) ∈ WA := q_wa_17 _ (List.mem_of_getElem? (i := 1) rfl)
theorem wm_546 : (.classLink RX6 163 "java/util/NoSuchElementException" : Cond) ∈ WA := q_wa_17 _ (List.mem_of_getElem? (i := 2) rfl)
theorem wm_547 : (.initialized "java/util/NoSuchElementException" : Cond) ∈ WA := q_wa_17 _ (List.mem_of_getElem? (i := 3) rfl)
theorem wm_548 : (.methodLink RX6 156 yX6_requireWhole : Cond) ∈ WA := q_wa_17 _ (List.mem_of_getElem? (i := 4) rfl)
theorem wm_549 : (.instanceMethod yX6_requireWhole : Cond) ∈ WA := q_wa_17 _ (List.mem_of_getElem? (i := 5) rfl)
theorem wm_550 : (.selects RX6 yX6_requireWhole yX6_requireWhole : Cond) ∈ WA := q_wa_17 _ (List.mem_of_getElem? (i := 6) rfl)
theorem wm_551 : (.code yX6_requireWhole cX6_requireWhole 1 none : Cond) ∈ WA := q_wa_17 _ (List.mem_of_getElem? (i := 7) rfl)
theorem wm_552 : (.methodLink RX6 159 yX3_costAround : Cond) ∈ WA := q_wa_17 _ (List.mem_of_getElem? (i := 8) rfl)
theorem wm_553 : (.instanceMethod yX3_costAround : Cond) ∈ WA := q_wa_17 _ (List.mem_of_getElem? (i := 9) rfl)
theorem wm_554 : (.selects RX3 yX3_costAround yX3_costAround : Cond) ∈ WA := q_wa_17 _ (List.mem_of_getElem? (i := 10) rfl)
theorem wm_555 : (.code yX3_costAround cX3_costAround 3 (some .int) : Cond) ∈ WA := q_wa_17 _ (List.mem_of_getElem? (i := 11) rfl)
theorem wm_556 : (.methodLink RX6 172 yX1_setRange : Cond) ∈ WA := q_wa_17 _ (List.mem_of_getElem? (i := 12) rfl)
theorem wm_557 : (.instanceMethod yX1_setRange : Cond) ∈ WA := q_wa_17 _ (List.mem_of_getElem? (i := 13) rfl)
theorem wm_558 : (.selects RX1 yX1_setRange yX1_setRange : Cond) ∈ WA := q_wa_17 _ (List.mem_of_getElem? (i := 14) rfl)
theorem wm_559 : (.code yX1_setRange cX1_setRange 3 none : Cond) ∈ WA := q_wa_17 _ (List.mem_of_getElem? (i := 15) rfl)
theorem wm_560 : (.methodLink RX6 175 yX1_width : Cond) ∈ WA := q_wa_17 _ (List.mem_of_getElem? (i := 16) rfl)
theorem wm_561 : (.constant RX6 188 (1000000) : Cond) ∈ WA := q_wa_17 _ (List.mem_of_getElem? (i := 17) rfl)
theorem wm_562 : (.methodLink RX6 178 yX6_requireSearchable : Cond) ∈ WA := q_wa_17 _ (List.mem_of_getElem? (i := 18) rfl)
theorem wm_563 : (.instanceMethod yX6_requireSearchable : Cond) ∈ WA := q_wa_17 _ (List.mem_of_getElem? (i := 19) rfl)
theorem wm_564 : (.selects RX6 yX6_requireSearchable yX6_requireSearchable : Cond) ∈ WA := q_wa_17 _ (List.mem_of_getElem? (i := 20) rfl)
theorem wm_565 : (.code yX6_requireSearchable cX6_requireSearchable 1 none : Cond) ∈ WA := q_wa_17 _ (List.mem_of_getElem? (i := 21) rfl)
theorem wm_566 : (.classLink RX6 310 "java/lang/UnsupportedOperationException" : Cond) ∈ WA := q_wa_17 _ (List.mem_of_getElem? (i := 22) rfl)
theorem wm_567 : (.initialized "java/lang/UnsupportedOperationException" : Cond) ∈ WA := q_wa_17 _ (List.mem_of_getElem? (i := 23) rfl)
theorem wm_568 : (.methodLink RX6 181 yX6_readySearch : Cond) ∈ WA := q_wa_17 _ (List.mem_of_getElem? (i := 24) rfl)
theorem wm_569 : (.instanceMethod yX6_readySearch : Cond) ∈ WA := q_wa_17 _ (List.mem_of_getElem? (i := 25) rfl)
theorem wm_570 : (.selects RX6 yX6_readySearch yX6_readySearch : Cond) ∈ WA := q_wa_17 _ (List.mem_of_getElem? (i := 26) rfl)
theorem wm_571 : (.code yX6_readySearch cX6_readySearch 1 (some (.object "Counterpointery$Search")) : Cond) ∈ WA := q_wa_17 _ (List.mem_of_getElem? (i := 27) rfl)
theorem wm_572 : (.fieldLink RX6 211 "Counterpointery" "search" "LCounterpointery$Search;" : Cond) ∈ WA := q_wa_17 _ (List.mem_of_getElem? (i := 28) rfl)
theorem wm_573 : (.classLink RX6 168 RX4 : Cond) ∈ WA := q_wa_17 _ (List.mem_of_getElem? (i := 29) rfl)
theorem wm_574 : (.instantiable RX4 14 : Cond) ∈ WA := q_wa_17 _ (List.mem_of_getElem? (i := 30) rfl)
theorem wm_575 : (.methodLink RX6 215 yX4_init : Cond) ∈ WA := q_wa_17 _ (List.mem_of_getElem? (i := 31) rfl)
theorem wm_576 : (.instanceMethod yX4_init : Cond) ∈ WA := q_wa_18 _ (List.mem_of_getElem? (i := 0) rfl)
theorem wm_577 : (.code yX4_init cX4_init 3 none : Cond) ∈ WA := q_wa_18 _ (List.mem_of_getElem? (i := 1) rfl)
theorem wm_578 : (.methodLink RX6 218 yX4_prepare : Cond) ∈ WA := q_wa_18 _ (List.mem_of_getElem? (i := 2) rfl)
theorem wm_579 : (.instanceMethod yX4_prepare : Cond) ∈ WA := q_wa_18 _ (List.mem_of_getElem? (i := 3) rfl)
theorem wm_580 : (.selects RX4 yX4_prepare yX4_prepare : Cond) ∈ WA := q_wa_18 _ (List.mem_of_getElem? (i := 4) rfl)
theorem wm_581 : (.code yX4_prepare cX4_prepare 2 none : Cond) ∈ WA := q_wa_18 _ (List.mem_of_getElem? (i := 5) rfl)
theorem wm_582 : (.methodLink RX6 185 yX4_sweep : Cond) ∈ WA := q_wa_18 _ (List.mem_of_getElem? (i := 6) rfl)
theorem wm_583 : (.methodLink RX6 191 yX4_writeBest : Cond) ∈ WA := q_wa_18 _ (List.mem_of_getElem? (i := 7) rfl)
theorem wm_584 : (.methodLink RX6 195 yX4_goodCount : Cond) ∈ WA := q_wa_18 _ (List.mem_of_getElem? (i := 8) rfl)
theorem wm_585 : (.methodLink RX6 199 yX4_barring : Cond) ∈ WA := q_wa_18 _ (List.mem_of_getElem? (i := 9) rfl)
theorem wm_586 : (.instanceMethod yX4_barring : Cond) ∈ WA := q_wa_18 _ (List.mem_of_getElem? (i := 10) rfl)
theorem wm_587 : (.selects RX4 yX4_barring yX4_barring : Cond) ∈ WA := q_wa_18 _ (List.mem_of_getElem? (i := 11) rfl)
theorem wm_588 : (.code yX4_barring cX4_barring 3 (some .int) : Cond) ∈ WA := q_wa_18 _ (List.mem_of_getElem? (i := 12) rfl)
theorem wm_589 : (.methodLink RX6 207 yX2_nthOf : Cond) ∈ WA := q_wa_18 _ (List.mem_of_getElem? (i := 13) rfl)
theorem wm_590 : (.methodLink RX6 223 yX1_against : Cond) ∈ WA := q_wa_18 _ (List.mem_of_getElem? (i := 14) rfl)
theorem wm_591 : (.methodLink RX6 226 yX5_plainGap : Cond) ∈ WA := q_wa_18 _ (List.mem_of_getElem? (i := 15) rfl)
theorem wm_592 : (.methodLink RX6 229 yX1_isStrong : Cond) ∈ WA := q_wa_18 _ (List.mem_of_getElem? (i := 16) rfl)
theorem wm_593 : (.methodLink RX6 232 yX5_isDissonant : Cond) ∈ WA := q_wa_18 _ (List.mem_of_getElem? (i := 17) rfl)
theorem wm_594 : (.methodLink RX6 243 yX0_faultsOf : Cond) ∈ WA := q_wa_18 _ (List.mem_of_getElem? (i := 18) rfl)
theorem wm_595 : (.methodLink RX6 247 yX6_requireTwoNotes : Cond) ∈ WA := q_wa_18 _ (List.mem_of_getElem? (i := 19) rfl)
theorem wm_596 : (.instanceMethod yX6_requireTwoNotes : Cond) ∈ WA := q_wa_18 _ (List.mem_of_getElem? (i := 20) rfl)
theorem wm_597 : (.selects RX6 yX6_requireTwoNotes yX6_requireTwoNotes : Cond) ∈ WA := q_wa_18 _ (List.mem_of_getElem? (i := 21) rfl)
theorem wm_598 : (.code yX6_requireTwoNotes cX6_requireTwoNotes 1 none : Cond) ∈ WA := q_wa_18 _ (List.mem_of_getElem? (i := 22) rfl)
theorem wm_599 : (.methodLink RX6 250 yX0_faultlessCount : Cond) ∈ WA := q_wa_18 _ (List.mem_of_getElem? (i := 23) rfl)
theorem wm_600 : (.static yX0_faultlessCount : Cond) ∈ WA := q_wa_18 _ (List.mem_of_getElem? (i := 24) rfl)
theorem wm_601 : (.code yX0_faultlessCount cX0_faultlessCount 4 (some .int) : Cond) ∈ WA := q_wa_18 _ (List.mem_of_getElem? (i := 25) rfl)
theorem wm_602 : (.methodLink RX6 254 yX0_faultlessNumber : Cond) ∈ WA := q_wa_18 _ (List.mem_of_getElem? (i := 26) rfl)
theorem wm_603 : (.static yX0_faultlessNumber : Cond) ∈ WA := q_wa_18 _ (List.mem_of_getElem? (i := 27) rfl)
theorem wm_604 : (.code yX0_faultlessNumber cX0_faultlessNumber 5 (some .int) : Cond) ∈ WA := q_wa_18 _ (List.mem_of_getElem? (i := 28) rfl)
theorem wm_605 : (.classLink RX6 260 "java/lang/ArithmeticException" : Cond) ∈ WA := q_wa_18 _ (List.mem_of_getElem? (i := 29) rfl)
theorem wm_606 : (.initialized "java/lang/ArithmeticException" : Cond) ∈ WA := q_wa_18 _ (List.mem_of_getElem? (i := 30) rfl)
theorem wm_607 : (.methodLink RX6 268 Lib.Math.abs.name : Cond) ∈ WA := q_wa_18 _ (List.mem_of_getElem? (i := 31) rfl)
theorem wm_608 : (.methodLink RX6 265 yX3_stepTo : Cond) ∈ WA := q_wa_19 _ (List.mem_of_getElem? (i := 0) rfl)
theorem wm_609 : (.methodLink RX6 275 yX6_costIsSumOfFaults : Cond) ∈ WA := q_wa_19 _ (List.mem_of_getElem? (i := 1) rfl)
theorem wm_610 : (.instanceMethod yX6_costIsSumOfFaults : Cond) ∈ WA := q_wa_19 _ (List.mem_of_getElem? (i := 2) rfl)
theorem wm_611 : (.selects RX6 yX6_costIsSumOfFaults yX6_costIsSumOfFaults : Cond) ∈ WA := q_wa_19 _ (List.mem_of_getElem? (i := 3) rfl)
theorem wm_612 : (.code yX6_costIsSumOfFaults cX6_costIsSumOfFaults 7 (some .boolean) : Cond) ∈ WA := q_wa_19 _ (List.mem_of_getElem? (i := 4) rfl)
theorem wm_613 : (.methodLink RX6 278 yX6_canTryAll : Cond) ∈ WA := q_wa_19 _ (List.mem_of_getElem? (i := 5) rfl)
theorem wm_614 : (.instanceMethod yX6_canTryAll : Cond) ∈ WA := q_wa_19 _ (List.mem_of_getElem? (i := 6) rfl)
theorem wm_615 : (.selects RX6 yX6_canTryAll yX6_canTryAll : Cond) ∈ WA := q_wa_19 _ (List.mem_of_getElem? (i := 7) rfl)
theorem wm_616 : (.code yX6_canTryAll cX6_canTryAll 1 (some .boolean) : Cond) ∈ WA := q_wa_19 _ (List.mem_of_getElem? (i := 8) rfl)
theorem wm_617 : (.methodLink RX6 281 yX4_agreesWithTryingAll : Cond) ∈ WA := q_wa_19 _ (List.mem_of_getElem? (i := 9) rfl)
theorem wm_618 : (.instanceMethod yX4_agreesWithTryingAll : Cond) ∈ WA := q_wa_19 _ (List.mem_of_getElem? (i := 10) rfl)
theorem wm_619 : (.selects RX4 yX4_agreesWithTryingAll yX4_agreesWithTryingAll : Cond) ∈ WA := q_wa_19 _ (List.mem_of_getElem? (i := 11) rfl)
theorem wm_620 : (.code yX4_agreesWithTryingAll cX4_agreesWithTryingAll 10 (some .boolean) : Cond) ∈ WA := q_wa_19 _ (List.mem_of_getElem? (i := 12) rfl)
theorem wm_621 : (.methodLink RX7 1 objectInit : Cond) ∈ WA := q_wa_19 _ (List.mem_of_getElem? (i := 13) rfl)
theorem wm_622 : (.fieldLink RX7 7 "CounterpointeryModel" "given" "[I" : Cond) ∈ WA := q_wa_19 _ (List.mem_of_getElem? (i := 14) rfl)
theorem wm_623 : (.fieldLink RX7 13 "CounterpointeryModel" "line" "[I" : Cond) ∈ WA := q_wa_19 _ (List.mem_of_getElem? (i := 15) rfl)
theorem wm_624 : (.fieldLink RX7 16 "CounterpointeryModel" "ratio" "I" : Cond) ∈ WA := q_wa_19 _ (List.mem_of_getElem? (i := 16) rfl)
theorem wm_625 : (.fieldLink RX7 20 "CounterpointeryModel" "low" "I" : Cond) ∈ WA := q_wa_19 _ (List.mem_of_getElem? (i := 17) rfl)
theorem wm_626 : (.fieldLink RX7 23 "CounterpointeryModel" "high" "I" : Cond) ∈ WA := q_wa_19 _ (List.mem_of_getElem? (i := 18) rfl)
theorem wm_627 : (.fieldLink RX7 26 "CounterpointeryModel" "weight" "[I" : Cond) ∈ WA := q_wa_19 _ (List.mem_of_getElem? (i := 19) rfl)
theorem wm_628 : (.fieldLink RX7 29 "CounterpointeryModel" "least" "[I" : Cond) ∈ WA := q_wa_19 _ (List.mem_of_getElem? (i := 20) rfl)
theorem wm_629 : (.fieldLink RX7 32 "CounterpointeryModel" "good" "[J" : Cond) ∈ WA := q_wa_19 _ (List.mem_of_getElem? (i := 21) rfl)
theorem wm_630 : (.methodLink RX7 36 yX7_style : Cond) ∈ WA := q_wa_19 _ (List.mem_of_getElem? (i := 22) rfl)
theorem wm_631 : (.instanceMethod yX7_style : Cond) ∈ WA := q_wa_19 _ (List.mem_of_getElem? (i := 23) rfl)
theorem wm_632 : (.selects RX7 yX7_style yX7_style : Cond) ∈ WA := q_wa_19 _ (List.mem_of_getElem? (i := 24) rfl)
theorem wm_633 : (.initialized RX7 : Cond) ∈ WA := q_wa_19 _ (List.mem_of_getElem? (i := 25) rfl)
theorem wm_634 : (.code yX7_style cX7_style 4 (some .int) : Cond) ∈ WA := q_wa_19 _ (List.mem_of_getElem? (i := 26) rfl)
theorem wm_635 : (.methodLink RX7 66 yX7_in : Cond) ∈ WA := q_wa_19 _ (List.mem_of_getElem? (i := 27) rfl)
theorem wm_636 : (.static yX7_in : Cond) ∈ WA := q_wa_19 _ (List.mem_of_getElem? (i := 28) rfl)
theorem wm_637 : (.code yX7_in cX7_in 3 (some .boolean) : Cond) ∈ WA := q_wa_19 _ (List.mem_of_getElem? (i := 29) rfl)
theorem wm_638 : (.methodLink RX7 125 yX7_goesOn : Cond) ∈ WA := q_wa_19 _ (List.mem_of_getElem? (i := 30) rfl)
theorem wm_639 : (.instanceMethod yX7_goesOn : Cond) ∈ WA := q_wa_19 _ (List.mem_of_getElem? (i := 31) rfl)
theorem wm_640 : (.selects RX7 yX7_goesOn yX7_goesOn : Cond) ∈ WA := q_wa_20 _ (List.mem_of_getElem? (i := 0) rfl)
theorem wm_641 : (.code yX7_goesOn cX7_goesOn 2 (some .boolean) : Cond) ∈ WA := q_wa_20 _ (List.mem_of_getElem? (i := 1) rfl)
theorem wm_642 : (.fieldLink RX7 40 "CounterpointeryModel" "thrown" "I" : Cond) ∈ WA := q_wa_20 _ (List.mem_of_getElem? (i := 2) rfl)
theorem wm_643 : (.methodLink RX7 135 yX7_styled : Cond) ∈ WA := q_wa_20 _ (List.mem_of_getElem? (i := 3) rfl)
theorem wm_644 : (.static yX7_styled : Cond) ∈ WA := q_wa_20 _ (List.mem_of_getElem? (i := 4) rfl)
theorem wm_645 : (.code yX7_styled cX7_styled 3 (some .int) : Cond) ∈ WA := q_wa_20 _ (List.mem_of_getElem? (i := 5) rfl)
theorem wm_646 : (.methodLink RX7 43 yX7_white : Cond) ∈ WA := q_wa_20 _ (List.mem_of_getElem? (i := 6) rfl)
theorem wm_647 : (.static yX7_white : Cond) ∈ WA := q_wa_20 _ (List.mem_of_getElem? (i := 7) rfl)
theorem wm_648 : (.code yX7_white cX7_white 1 (some .int) : Cond) ∈ WA := q_wa_20 _ (List.mem_of_getElem? (i := 8) rfl)
theorem wm_649 : (.fieldLink RX7 46 "CounterpointeryModel" "givens" "I" : Cond) ∈ WA := q_wa_20 _ (List.mem_of_getElem? (i := 9) rfl)
theorem wm_650 : (.fieldLink RX7 49 "CounterpointeryModel" "notes" "I" : Cond) ∈ WA := q_wa_20 _ (List.mem_of_getElem? (i := 10) rfl)
theorem wm_651 : (.methodLink RX7 52 yX7_most : Cond) ∈ WA := q_wa_20 _ (List.mem_of_getElem? (i := 11) rfl)
theorem wm_652 : (.instanceMethod yX7_most : Cond) ∈ WA := q_wa_20 _ (List.mem_of_getElem? (i := 12) rfl)
theorem wm_653 : (.selects RX7 yX7_most yX7_most : Cond) ∈ WA := q_wa_20 _ (List.mem_of_getElem? (i := 13) rfl)
theorem wm_654 : (.code yX7_most cX7_most 1 (some .int) : Cond) ∈ WA := q_wa_20 _ (List.mem_of_getElem? (i := 14) rfl)
theorem wm_655 : (.fieldLink RX7 56 "CounterpointeryModel" "feigns" "Z" : Cond) ∈ WA := q_wa_20 _ (List.mem_of_getElem? (i := 15) rfl)
theorem wm_656 : (.methodLink RX7 60 yX7_pitchOf : Cond) ∈ WA := q_wa_20 _ (List.mem_of_getElem? (i := 16) rfl)
theorem wm_657 : (.static yX7_pitchOf : Cond) ∈ WA := q_wa_20 _ (List.mem_of_getElem? (i := 17) rfl)
theorem wm_658 : (.code yX7_pitchOf cX7_pitchOf 2 (some .int) : Cond) ∈ WA := q_wa_20 _ (List.mem_of_getElem? (i := 18) rfl)
theorem wm_659 : (.methodLink RX7 63 yX7_size : Cond) ∈ WA := q_wa_20 _ (List.mem_of_getElem? (i := 19) rfl)
theorem wm_660 : (.static yX7_size : Cond) ∈ WA := q_wa_20 _ (List.mem_of_getElem? (i := 20) rfl)
theorem wm_661 : (.code yX7_size cX7_size 1 (some .int) : Cond) ∈ WA := q_wa_20 _ (List.mem_of_getElem? (i := 21) rfl)
theorem wm_662 : (.methodLink RX7 70 yX7_givenOf : Cond) ∈ WA := q_wa_20 _ (List.mem_of_getElem? (i := 22) rfl)
theorem wm_663 : (.instanceMethod yX7_givenOf : Cond) ∈ WA := q_wa_20 _ (List.mem_of_getElem? (i := 23) rfl)
theorem wm_664 : (.selects RX7 yX7_givenOf yX7_givenOf : Cond) ∈ WA := q_wa_20 _ (List.mem_of_getElem? (i := 24) rfl)
theorem wm_665 : (.code yX7_givenOf cX7_givenOf 2 (some .int) : Cond) ∈ WA := q_wa_20 _ (List.mem_of_getElem? (i := 25) rfl)
theorem wm_666 : (.methodLink RX7 73 yX7_pitchAt : Cond) ∈ WA := q_wa_20 _ (List.mem_of_getElem? (i := 26) rfl)
theorem wm_667 : (.instanceMethod yX7_pitchAt : Cond) ∈ WA := q_wa_20 _ (List.mem_of_getElem? (i := 27) rfl)
theorem wm_668 : (.selects RX7 yX7_pitchAt yX7_pitchAt : Cond) ∈ WA := q_wa_20 _ (List.mem_of_getElem? (i := 28) rfl)
theorem wm_669 : (.code yX7_pitchAt cX7_pitchAt 5 (some .int) : Cond) ∈ WA := q_wa_20 _ (List.mem_of_getElem? (i := 29) rfl)
theorem wm_670 : (.methodLink RX7 77 yX7_kind : Cond) ∈ WA := q_wa_20 _ (List.mem_of_getElem? (i := 30) rfl)
theorem wm_671 : (.static yX7_kind : Cond) ∈ WA := q_wa_20 _ (List.mem_of_getElem? (i := 31) rfl)
theorem wm_672 : (.code yX7_kind cX7_kind 6 (some .int) : Cond) ∈ WA := q_wa_21 _ (List.mem_of_getElem? (i := 0) rfl)
theorem wm_673 : (.methodLink RX7 80 yX7_letterOf : Cond) ∈ WA := q_wa_21 _ (List.mem_of_getElem? (i := 1) rfl)
theorem wm_674 : (.static yX7_letterOf : Cond) ∈ WA := q_wa_21 _ (List.mem_of_getElem? (i := 2) rfl)
theorem wm_675 : (.code yX7_letterOf cX7_letterOf 1 (some .char) : Cond) ∈ WA := q_wa_21 _ (List.mem_of_getElem? (i := 3) rfl)
theorem wm_676 : (.methodLink RX7 84 yX7_kindAt : Cond) ∈ WA := q_wa_21 _ (List.mem_of_getElem? (i := 4) rfl)
theorem wm_677 : (.instanceMethod yX7_kindAt : Cond) ∈ WA := q_wa_21 _ (List.mem_of_getElem? (i := 5) rfl)
theorem wm_678 : (.selects RX7 yX7_kindAt yX7_kindAt : Cond) ∈ WA := q_wa_21 _ (List.mem_of_getElem? (i := 6) rfl)
theorem wm_679 : (.code yX7_kindAt cX7_kindAt 4 (some .int) : Cond) ∈ WA := q_wa_21 _ (List.mem_of_getElem? (i := 7) rfl)
theorem wm_680 : (.methodLink RX7 87 yX7_move : Cond) ∈ WA := q_wa_21 _ (List.mem_of_getElem? (i := 8) rfl)
theorem wm_681 : (.instanceMethod yX7_move : Cond) ∈ WA := q_wa_21 _ (List.mem_of_getElem? (i := 9) rfl)
theorem wm_682 : (.selects RX7 yX7_move yX7_move : Cond) ∈ WA := q_wa_21 _ (List.mem_of_getElem? (i := 10) rfl)
theorem wm_683 : (.code yX7_move cX7_move 2 (some .int) : Cond) ∈ WA := q_wa_21 _ (List.mem_of_getElem? (i := 11) rfl)
theorem wm_684 : (.methodLink RX7 90 yX7_givenMove : Cond) ∈ WA := q_wa_21 _ (List.mem_of_getElem? (i := 12) rfl)
theorem wm_685 : (.instanceMethod yX7_givenMove : Cond) ∈ WA := q_wa_21 _ (List.mem_of_getElem? (i := 13) rfl)
theorem wm_686 : (.selects RX7 yX7_givenMove yX7_givenMove : Cond) ∈ WA := q_wa_21 _ (List.mem_of_getElem? (i := 14) rfl)
theorem wm_687 : (.code yX7_givenMove cX7_givenMove 2 (some .int) : Cond) ∈ WA := q_wa_21 _ (List.mem_of_getElem? (i := 15) rfl)
theorem wm_688 : (.methodLink RX7 93 yX7_isStrong : Cond) ∈ WA := q_wa_21 _ (List.mem_of_getElem? (i := 16) rfl)
theorem wm_689 : (.instanceMethod yX7_isStrong : Cond) ∈ WA := q_wa_21 _ (List.mem_of_getElem? (i := 17) rfl)
theorem wm_690 : (.selects RX7 yX7_isStrong yX7_isStrong : Cond) ∈ WA := q_wa_21 _ (List.mem_of_getElem? (i := 18) rfl)
theorem wm_691 : (.code yX7_isStrong cX7_isStrong 2 (some .boolean) : Cond) ∈ WA := q_wa_21 _ (List.mem_of_getElem? (i := 19) rfl)
theorem wm_692 : (.methodLink RX7 97 yX7_sign : Cond) ∈ WA := q_wa_21 _ (List.mem_of_getElem? (i := 20) rfl)
theorem wm_693 : (.static yX7_sign : Cond) ∈ WA := q_wa_21 _ (List.mem_of_getElem? (i := 21) rfl)
theorem wm_694 : (.code yX7_sign cX7_sign 1 (some .int) : Cond) ∈ WA := q_wa_21 _ (List.mem_of_getElem? (i := 22) rfl)
theorem wm_695 : (.fieldLink RX7 104 "CounterpointeryModel" "isLower" "Z" : Cond) ∈ WA := q_wa_21 _ (List.mem_of_getElem? (i := 23) rfl)
theorem wm_696 : (.methodLink RX7 100 yX7_endsBadly : Cond) ∈ WA := q_wa_21 _ (List.mem_of_getElem? (i := 24) rfl)
theorem wm_697 : (.instanceMethod yX7_endsBadly : Cond) ∈ WA := q_wa_21 _ (List.mem_of_getElem? (i := 25) rfl)
theorem wm_698 : (.selects RX7 yX7_endsBadly yX7_endsBadly : Cond) ∈ WA := q_wa_21 _ (List.mem_of_getElem? (i := 26) rfl)
theorem wm_699 : (.code yX7_endsBadly cX7_endsBadly 5 (some .boolean) : Cond) ∈ WA := q_wa_21 _ (List.mem_of_getElem? (i := 27) rfl)
theorem wm_700 : (.methodLink RX7 107 yX7_passesBadly : Cond) ∈ WA := q_wa_21 _ (List.mem_of_getElem? (i := 28) rfl)
theorem wm_701 : (.instanceMethod yX7_passesBadly : Cond) ∈ WA := q_wa_21 _ (List.mem_of_getElem? (i := 29) rfl)
theorem wm_702 : (.selects RX7 yX7_passesBadly yX7_passesBadly : Cond) ∈ WA := q_wa_21 _ (List.mem_of_getElem? (i := 30) rfl)
theorem wm_703 : (.code yX7_passesBadly cX7_passesBadly 5 (some .boolean) : Cond) ∈ WA := q_wa_21 _ (List.mem_of_getElem? (i := 31) rfl)
theorem wm_704 : (.methodLink RX7 110 yX7_isParallel : Cond) ∈ WA := q_wa_22 _ (List.mem_of_getElem? (i := 0) rfl)
theorem wm_705 : (.instanceMethod yX7_isParallel : Cond) ∈ WA := q_wa_22 _ (List.mem_of_getElem? (i := 1) rfl)
theorem wm_706 : (.selects RX7 yX7_isParallel yX7_isParallel : Cond) ∈ WA := q_wa_22 _ (List.mem_of_getElem? (i := 2) rfl)
theorem wm_707 : (.code yX7_isParallel cX7_isParallel 6 (some .boolean) : Cond) ∈ WA := q_wa_22 _ (List.mem_of_getElem? (i := 3) rfl)
theorem wm_708 : (.methodLink RX7 113 yX7_isHidden : Cond) ∈ WA := q_wa_22 _ (List.mem_of_getElem? (i := 4) rfl)
theorem wm_709 : (.instanceMethod yX7_isHidden : Cond) ∈ WA := q_wa_22 _ (List.mem_of_getElem? (i := 5) rfl)
theorem wm_710 : (.selects RX7 yX7_isHidden yX7_isHidden : Cond) ∈ WA := q_wa_22 _ (List.mem_of_getElem? (i := 6) rfl)
theorem wm_711 : (.code yX7_isHidden cX7_isHidden 4 (some .boolean) : Cond) ∈ WA := q_wa_22 _ (List.mem_of_getElem? (i := 7) rfl)
theorem wm_712 : (.methodLink RX7 116 yX7_leapsBadly : Cond) ∈ WA := q_wa_22 _ (List.mem_of_getElem? (i := 8) rfl)
theorem wm_713 : (.instanceMethod yX7_leapsBadly : Cond) ∈ WA := q_wa_22 _ (List.mem_of_getElem? (i := 9) rfl)
theorem wm_714 : (.selects RX7 yX7_leapsBadly yX7_leapsBadly : Cond) ∈ WA := q_wa_22 _ (List.mem_of_getElem? (i := 10) rfl)
theorem wm_715 : (.code yX7_leapsBadly cX7_leapsBadly 5 (some .boolean) : Cond) ∈ WA := q_wa_22 _ (List.mem_of_getElem? (i := 11) rfl)
theorem wm_716 : (.methodLink RX7 119 yX7_isUnanswered : Cond) ∈ WA := q_wa_22 _ (List.mem_of_getElem? (i := 12) rfl)
theorem wm_717 : (.instanceMethod yX7_isUnanswered : Cond) ∈ WA := q_wa_22 _ (List.mem_of_getElem? (i := 13) rfl)
theorem wm_718 : (.selects RX7 yX7_isUnanswered yX7_isUnanswered : Cond) ∈ WA := q_wa_22 _ (List.mem_of_getElem? (i := 14) rfl)
theorem wm_719 : (.code yX7_isUnanswered cX7_isUnanswered 3 (some .boolean) : Cond) ∈ WA := q_wa_22 _ (List.mem_of_getElem? (i := 15) rfl)
theorem wm_720 : (.methodLink RX7 122 yX7_isNote : Cond) ∈ WA := q_wa_22 _ (List.mem_of_getElem? (i := 16) rfl)
theorem wm_721 : (.static yX7_isNote : Cond) ∈ WA := q_wa_22 _ (List.mem_of_getElem? (i := 17) rfl)
theorem wm_722 : (.code yX7_isNote cX7_isNote 1 (some .boolean) : Cond) ∈ WA := q_wa_22 _ (List.mem_of_getElem? (i := 18) rfl)
theorem wm_723 : (.methodLink RX7 128 yX7_has : Cond) ∈ WA := q_wa_22 _ (List.mem_of_getElem? (i := 19) rfl)
theorem wm_724 : (.instanceMethod yX7_has : Cond) ∈ WA := q_wa_22 _ (List.mem_of_getElem? (i := 20) rfl)
theorem wm_725 : (.selects RX7 yX7_has yX7_has : Cond) ∈ WA := q_wa_22 _ (List.mem_of_getElem? (i := 21) rfl)
theorem wm_726 : (.code yX7_has cX7_has 2 (some .boolean) : Cond) ∈ WA := q_wa_22 _ (List.mem_of_getElem? (i := 22) rfl)
theorem wm_727 : (.methodLink RX7 131 yX7_lawOf : Cond) ∈ WA := q_wa_22 _ (List.mem_of_getElem? (i := 23) rfl)
theorem wm_728 : (.static yX7_lawOf : Cond) ∈ WA := q_wa_22 _ (List.mem_of_getElem? (i := 24) rfl)
theorem wm_729 : (.code yX7_lawOf cX7_lawOf 3 (some .int) : Cond) ∈ WA := q_wa_22 _ (List.mem_of_getElem? (i := 25) rfl)
theorem wm_730 : (.methodLink RX7 138 yX7_isFault : Cond) ∈ WA := q_wa_22 _ (List.mem_of_getElem? (i := 26) rfl)
theorem wm_731 : (.instanceMethod yX7_isFault : Cond) ∈ WA := q_wa_22 _ (List.mem_of_getElem? (i := 27) rfl)
theorem wm_732 : (.selects RX7 yX7_isFault yX7_isFault : Cond) ∈ WA := q_wa_22 _ (List.mem_of_getElem? (i := 28) rfl)
theorem wm_733 : (.code yX7_isFault cX7_isFault 6 (some .boolean) : Cond) ∈ WA := q_wa_22 _ (List.mem_of_getElem? (i := 29) rfl)
theorem wm_734 : (.methodLink RX7 141 yX7_faultsUpTo : Cond) ∈ WA := q_wa_22 _ (List.mem_of_getElem? (i := 30) rfl)
theorem wm_735 : (.instanceMethod yX7_faultsUpTo : Cond) ∈ WA := q_wa_22 _ (List.mem_of_getElem? (i := 31) rfl)
theorem wm_736 : (.selects RX7 yX7_faultsUpTo yX7_faultsUpTo : Cond) ∈ WA := q_wa_23 _ (List.mem_of_getElem? (i := 0) rfl)
theorem wm_737 : (.code yX7_faultsUpTo cX7_faultsUpTo 5 (some .int) : Cond) ∈ WA := q_wa_23 _ (List.mem_of_getElem? (i := 1) rfl)
theorem wm_738 : (.methodLink RX7 144 yX7_faultWith : Cond) ∈ WA := q_wa_23 _ (List.mem_of_getElem? (i := 2) rfl)
theorem wm_739 : (.instanceMethod yX7_faultWith : Cond) ∈ WA := q_wa_23 _ (List.mem_of_getElem? (i := 3) rfl)
theorem wm_740 : (.selects RX7 yX7_faultWith yX7_faultWith : Cond) ∈ WA := q_wa_23 _ (List.mem_of_getElem? (i := 4) rfl)
theorem wm_741 : (.code yX7_faultWith cX7_faultWith 3 (some .int) : Cond) ∈ WA := q_wa_23 _ (List.mem_of_getElem? (i := 5) rfl)
theorem wm_742 : (.methodLink RX7 147 yX7_costNow : Cond) ∈ WA := q_wa_23 _ (List.mem_of_getElem? (i := 6) rfl)
theorem wm_743 : (.instanceMethod yX7_costNow : Cond) ∈ WA := q_wa_23 _ (List.mem_of_getElem? (i := 7) rfl)
theorem wm_744 : (.selects RX7 yX7_costNow yX7_costNow : Cond) ∈ WA := q_wa_23 _ (List.mem_of_getElem? (i := 8) rfl)
theorem wm_745 : (.code yX7_costNow cX7_costNow 4 (some .int) : Cond) ∈ WA := q_wa_23 _ (List.mem_of_getElem? (i := 9) rfl)
theorem wm_746 : (.methodLink RX7 150 yX7_isWhole : Cond) ∈ WA := q_wa_23 _ (List.mem_of_getElem? (i := 10) rfl)
theorem wm_747 : (.instanceMethod yX7_isWhole : Cond) ∈ WA := q_wa_23 _ (List.mem_of_getElem? (i := 11) rfl)
theorem wm_748 : (.selects RX7 yX7_isWhole yX7_isWhole : Cond) ∈ WA := q_wa_23 _ (List.mem_of_getElem? (i := 12) rfl)
theorem wm_749 : (.code yX7_isWhole cX7_isWhole 1 (some .boolean) : Cond) ∈ WA := q_wa_23 _ (List.mem_of_getElem? (i := 13) rfl)
theorem wm_750 : (.constant RX7 154 (1000000) : Cond) ∈ WA := q_wa_23 _ (List.mem_of_getElem? (i := 14) rfl)
theorem wm_751 : (.methodLink RX7 155 yX7_costAt : Cond) ∈ WA := q_wa_23 _ (List.mem_of_getElem? (i := 15) rfl)
theorem wm_752 : (.instanceMethod yX7_costAt : Cond) ∈ WA := q_wa_23 _ (List.mem_of_getElem? (i := 16) rfl)
theorem wm_753 : (.selects RX7 yX7_costAt yX7_costAt : Cond) ∈ WA := q_wa_23 _ (List.mem_of_getElem? (i := 17) rfl)
theorem wm_754 : (.code yX7_costAt cX7_costAt 8 (some .int) : Cond) ∈ WA := q_wa_23 _ (List.mem_of_getElem? (i := 18) rfl)
theorem wm_755 : (.methodLink RX7 159 yX7_paid : Cond) ∈ WA := q_wa_23 _ (List.mem_of_getElem? (i := 19) rfl)
theorem wm_756 : (.instanceMethod yX7_paid : Cond) ∈ WA := q_wa_23 _ (List.mem_of_getElem? (i := 20) rfl)
theorem wm_757 : (.selects RX7 yX7_paid yX7_paid : Cond) ∈ WA := q_wa_23 _ (List.mem_of_getElem? (i := 21) rfl)
theorem wm_758 : (.code yX7_paid cX7_paid 5 (some .int) : Cond) ∈ WA := q_wa_23 _ (List.mem_of_getElem? (i := 22) rfl)
theorem wm_759 : (.methodLink RX7 162 yX7_reckons : Cond) ∈ WA := q_wa_23 _ (List.mem_of_getElem? (i := 23) rfl)
theorem wm_760 : (.instanceMethod yX7_reckons : Cond) ∈ WA := q_wa_23 _ (List.mem_of_getElem? (i := 24) rfl)
theorem wm_761 : (.selects RX7 yX7_reckons yX7_reckons : Cond) ∈ WA := q_wa_23 _ (List.mem_of_getElem? (i := 25) rfl)
theorem wm_762 : (.code yX7_reckons cX7_reckons 10 none : Cond) ∈ WA := q_wa_23 _ (List.mem_of_getElem? (i := 26) rfl)
theorem wm_763 : (.methodLink RX7 166 yX7_paidFirst : Cond) ∈ WA := q_wa_23 _ (List.mem_of_getElem? (i := 27) rfl)
theorem wm_764 : (.instanceMethod yX7_paidFirst : Cond) ∈ WA := q_wa_23 _ (List.mem_of_getElem? (i := 28) rfl)
theorem wm_765 : (.selects RX7 yX7_paidFirst yX7_paidFirst : Cond) ∈ WA := q_wa_23 _ (List.mem_of_getElem? (i := 29) rfl)
theorem wm_766 : (.code yX7_paidFirst cX7_paidFirst 2 (some .int) : Cond) ∈ WA := q_wa_23 _ (List.mem_of_getElem? (i := 30) rfl)
theorem wm_767 : (.methodLink RX7 169 yX7_searchFault : Cond) ∈ WA := q_wa_23 _ (List.mem_of_getElem? (i := 31) rfl)
theorem wm_768 : (.instanceMethod yX7_searchFault : Cond) ∈ WA := q_wa_24 _ (List.mem_of_getElem? (i := 0) rfl)
theorem wm_769 : (.selects RX7 yX7_searchFault yX7_searchFault : Cond) ∈ WA := q_wa_24 _ (List.mem_of_getElem? (i := 1) rfl)
theorem wm_770 : (.code yX7_searchFault cX7_searchFault 1 (some .int) : Cond) ∈ WA := q_wa_24 _ (List.mem_of_getElem? (i := 2) rfl)
theorem wm_771 : (.methodLink RX7 172 yX7_keepsLine : Cond) ∈ WA := q_wa_24 _ (List.mem_of_getElem? (i := 3) rfl)
theorem wm_772 : (.instanceMethod yX7_keepsLine : Cond) ∈ WA := q_wa_24 _ (List.mem_of_getElem? (i := 4) rfl)
theorem wm_773 : (.selects RX7 yX7_keepsLine yX7_keepsLine : Cond) ∈ WA := q_wa_24 _ (List.mem_of_getElem? (i := 5) rfl)
theorem wm_774 : (.code yX7_keepsLine cX7_keepsLine 4 (some .boolean) : Cond) ∈ WA := q_wa_24 _ (List.mem_of_getElem? (i := 6) rfl)
theorem wm_775 : (.methodLink RX7 176 yX7_leastCost : Cond) ∈ WA := q_wa_24 _ (List.mem_of_getElem? (i := 7) rfl)
theorem wm_776 : (.instanceMethod yX7_leastCost : Cond) ∈ WA := q_wa_24 _ (List.mem_of_getElem? (i := 8) rfl)
theorem wm_777 : (.selects RX7 yX7_leastCost yX7_leastCost : Cond) ∈ WA := q_wa_24 _ (List.mem_of_getElem? (i := 9) rfl)
theorem wm_778 : (.code yX7_leastCost cX7_leastCost 6 (some .int) : Cond) ∈ WA := q_wa_24 _ (List.mem_of_getElem? (i := 10) rfl)
theorem wm_779 : (.methodLink RX7 179 yX7_goodWith : Cond) ∈ WA := q_wa_24 _ (List.mem_of_getElem? (i := 11) rfl)
theorem wm_780 : (.instanceMethod yX7_goodWith : Cond) ∈ WA := q_wa_24 _ (List.mem_of_getElem? (i := 12) rfl)
theorem wm_781 : (.selects RX7 yX7_goodWith yX7_goodWith : Cond) ∈ WA := q_wa_24 _ (List.mem_of_getElem? (i := 13) rfl)
theorem wm_782 : (.code yX7_goodWith cX7_goodWith 6 (some .long) : Cond) ∈ WA := q_wa_24 _ (List.mem_of_getElem? (i := 14) rfl)
theorem wm_783 : (.fieldLink RX7 186 "CounterpointeryModel" "barring" "I" : Cond) ∈ WA := q_wa_24 _ (List.mem_of_getElem? (i := 15) rfl)
theorem wm_784 : (.methodLink RX7 183 yX7_bar : Cond) ∈ WA := q_wa_24 _ (List.mem_of_getElem? (i := 16) rfl)
theorem wm_785 : (.instanceMethod yX7_bar : Cond) ∈ WA := q_wa_24 _ (List.mem_of_getElem? (i := 17) rfl)
theorem wm_786 : (.selects RX7 yX7_bar yX7_bar : Cond) ∈ WA := q_wa_24 _ (List.mem_of_getElem? (i := 18) rfl)
theorem wm_787 : (.code yX7_bar cX7_bar 6 (some .int) : Cond) ∈ WA := q_wa_24 _ (List.mem_of_getElem? (i := 19) rfl)
theorem wm_788 : (.methodLink RX7 189 yX7_together : Cond) ∈ WA := q_wa_24 _ (List.mem_of_getElem? (i := 20) rfl)
theorem wm_789 : (.instanceMethod yX7_together : Cond) ∈ WA := q_wa_24 _ (List.mem_of_getElem? (i := 21) rfl)
theorem wm_790 : (.selects RX7 yX7_together yX7_together : Cond) ∈ WA := q_wa_24 _ (List.mem_of_getElem? (i := 22) rfl)
theorem wm_791 : (.code yX7_together cX7_together 5 (some .int) : Cond) ∈ WA := q_wa_24 _ (List.mem_of_getElem? (i := 23) rfl)
theorem wm_792 : (.methodLink RX7 193 yX7_canonFaults : Cond) ∈ WA := q_wa_24 _ (List.mem_of_getElem? (i := 24) rfl)
theorem wm_793 : (.instanceMethod yX7_canonFaults : Cond) ∈ WA := q_wa_24 _ (List.mem_of_getElem? (i := 25) rfl)
theorem wm_794 : (.selects RX7 yX7_canonFaults yX7_canonFaults : Cond) ∈ WA := q_wa_24 _ (List.mem_of_getElem? (i := 26) rfl)
theorem wm_795 : (.code yX7_canonFaults cX7_canonFaults 6 (some .int) : Cond) ∈ WA := q_wa_24 _ (List.mem_of_getElem? (i := 27) rfl)
theorem wm_796 : (.methodLink RX7 196 yX7_canonsUpTo : Cond) ∈ WA := q_wa_24 _ (List.mem_of_getElem? (i := 28) rfl)
theorem wm_797 : (.instanceMethod yX7_canonsUpTo : Cond) ∈ WA := q_wa_24 _ (List.mem_of_getElem? (i := 29) rfl)
theorem wm_798 : (.selects RX7 yX7_canonsUpTo yX7_canonsUpTo : Cond) ∈ WA := q_wa_24 _ (List.mem_of_getElem? (i := 30) rfl)
theorem wm_799 : (.code yX7_canonsUpTo cX7_canonsUpTo 5 (some .int) : Cond) ∈ WA := q_wa_24 _ (List.mem_of_getElem? (i := 31) rfl)
theorem wm_800 : (.classLink RL 13 "java/lang/IllegalArgumentException" : Cond) ∈ WA := q_wa_25 _ (List.mem_of_getElem? (i := 0) rfl)
theorem wm_801 : (.classLink RL 15 "java/lang/IllegalStateException" : Cond) ∈ WA := q_wa_25 _ (List.mem_of_getElem? (i := 1) rfl)
theorem wm_802 : (.methodLink RL 7 yX6_given : Cond) ∈ WA := q_wa_25 _ (List.mem_of_getElem? (i := 2) rfl)
theorem wm_803 : (.instanceMethod yX6_given : Cond) ∈ WA := q_wa_25 _ (List.mem_of_getElem? (i := 3) rfl)
theorem wm_804 : (.selects RX6 yX6_given yX6_given : Cond) ∈ WA := q_wa_25 _ (List.mem_of_getElem? (i := 4) rfl)
theorem wm_805 : (.code yX6_given cX6_given 2 (some .int) : Cond) ∈ WA := q_wa_25 _ (List.mem_of_getElem? (i := 5) rfl)
theorem wm_806 : (.methodLink RL 17 yX6_other : Cond) ∈ WA := q_wa_25 _ (List.mem_of_getElem? (i := 6) rfl)
theorem wm_807 : (.instanceMethod yX6_other : Cond) ∈ WA := q_wa_25 _ (List.mem_of_getElem? (i := 7) rfl)
theorem wm_808 : (.selects RX6 yX6_other yX6_other : Cond) ∈ WA := q_wa_25 _ (List.mem_of_getElem? (i := 8) rfl)
theorem wm_809 : (.code yX6_other cX6_other 2 (some .int) : Cond) ∈ WA := q_wa_25 _ (List.mem_of_getElem? (i := 9) rfl)
theorem wm_810 : (.classLink RL 24 "java/lang/IndexOutOfBoundsException" : Cond) ∈ WA := q_wa_25 _ (List.mem_of_getElem? (i := 10) rfl)
theorem wm_811 : (.methodLink RL 20 yX6_change : Cond) ∈ WA := q_wa_25 _ (List.mem_of_getElem? (i := 11) rfl)
theorem wm_812 : (.instanceMethod yX6_change : Cond) ∈ WA := q_wa_25 _ (List.mem_of_getElem? (i := 12) rfl)
theorem wm_813 : (.selects RX6 yX6_change yX6_change : Cond) ∈ WA := q_wa_25 _ (List.mem_of_getElem? (i := 13) rfl)
theorem wm_814 : (.code yX6_change cX6_change 4 (some .int) : Cond) ∈ WA := q_wa_25 _ (List.mem_of_getElem? (i := 14) rfl)
theorem wm_815 : (.methodLink RL 26 yX6_ratio : Cond) ∈ WA := q_wa_25 _ (List.mem_of_getElem? (i := 15) rfl)
theorem wm_816 : (.instanceMethod yX6_ratio : Cond) ∈ WA := q_wa_25 _ (List.mem_of_getElem? (i := 16) rfl)
theorem wm_817 : (.selects RX6 yX6_ratio yX6_ratio : Cond) ∈ WA := q_wa_25 _ (List.mem_of_getElem? (i := 17) rfl)
theorem wm_818 : (.code yX6_ratio cX6_ratio 3 (some .int) : Cond) ∈ WA := q_wa_25 _ (List.mem_of_getElem? (i := 18) rfl)
theorem wm_819 : (.methodLink RL 29 yX6_noteAt : Cond) ∈ WA := q_wa_25 _ (List.mem_of_getElem? (i := 19) rfl)
theorem wm_820 : (.instanceMethod yX6_noteAt : Cond) ∈ WA := q_wa_25 _ (List.mem_of_getElem? (i := 20) rfl)
theorem wm_821 : (.selects RX6 yX6_noteAt yX6_noteAt : Cond) ∈ WA := q_wa_25 _ (List.mem_of_getElem? (i := 21) rfl)
theorem wm_822 : (.code yX6_noteAt cX6_noteAt 2 (some .int) : Cond) ∈ WA := q_wa_25 _ (List.mem_of_getElem? (i := 22) rfl)
theorem wm_823 : (.methodLink RL 32 yX6_pitch : Cond) ∈ WA := q_wa_25 _ (List.mem_of_getElem? (i := 23) rfl)
theorem wm_824 : (.instanceMethod yX6_pitch : Cond) ∈ WA := q_wa_25 _ (List.mem_of_getElem? (i := 24) rfl)
theorem wm_825 : (.selects RX6 yX6_pitch yX6_pitch : Cond) ∈ WA := q_wa_25 _ (List.mem_of_getElem? (i := 25) rfl)
theorem wm_826 : (.code yX6_pitch cX6_pitch 2 (some .int) : Cond) ∈ WA := q_wa_25 _ (List.mem_of_getElem? (i := 26) rfl)
theorem wm_827 : (.methodLink RL 35 yX6_interval : Cond) ∈ WA := q_wa_25 _ (List.mem_of_getElem? (i := 27) rfl)
theorem wm_828 : (.instanceMethod yX6_interval : Cond) ∈ WA := q_wa_25 _ (List.mem_of_getElem? (i := 28) rfl)
theorem wm_829 : (.selects RX6 yX6_interval yX6_interval : Cond) ∈ WA := q_wa_25 _ (List.mem_of_getElem? (i := 29) rfl)
theorem wm_830 : (.code yX6_interval cX6_interval 2 (some .char) : Cond) ∈ WA := q_wa_25 _ (List.mem_of_getElem? (i := 30) rfl)
theorem wm_831 : (.methodLink RL 39 yX6_setLaw : Cond) ∈ WA := q_wa_25 _ (List.mem_of_getElem? (i := 31) rfl)
theorem wm_832 : (.instanceMethod yX6_setLaw : Cond) ∈ WA := q_wa_26 _ (List.mem_of_getElem? (i := 0) rfl)
theorem wm_833 : (.selects RX6 yX6_setLaw yX6_setLaw : Cond) ∈ WA := q_wa_26 _ (List.mem_of_getElem? (i := 1) rfl)
theorem wm_834 : (.code yX6_setLaw cX6_setLaw 5 (some .int) : Cond) ∈ WA := q_wa_26 _ (List.mem_of_getElem? (i := 2) rfl)
theorem wm_835 : (.methodLink RL 43 yX6_weight : Cond) ∈ WA := q_wa_26 _ (List.mem_of_getElem? (i := 3) rfl)
theorem wm_836 : (.instanceMethod yX6_weight : Cond) ∈ WA := q_wa_26 _ (List.mem_of_getElem? (i := 4) rfl)
theorem wm_837 : (.selects RX6 yX6_weight yX6_weight : Cond) ∈ WA := q_wa_26 _ (List.mem_of_getElem? (i := 5) rfl)
theorem wm_838 : (.code yX6_weight cX6_weight 3 (some .int) : Cond) ∈ WA := q_wa_26 _ (List.mem_of_getElem? (i := 6) rfl)
theorem wm_839 : (.methodLink RL 47 yX6_style : Cond) ∈ WA := q_wa_26 _ (List.mem_of_getElem? (i := 7) rfl)
theorem wm_840 : (.instanceMethod yX6_style : Cond) ∈ WA := q_wa_26 _ (List.mem_of_getElem? (i := 8) rfl)
theorem wm_841 : (.selects RX6 yX6_style yX6_style : Cond) ∈ WA := q_wa_26 _ (List.mem_of_getElem? (i := 9) rfl)
theorem wm_842 : (.code yX6_style cX6_style 2 (some .int) : Cond) ∈ WA := q_wa_26 _ (List.mem_of_getElem? (i := 10) rfl)
theorem wm_843 : (.methodLink RL 50 yX6_faultAt : Cond) ∈ WA := q_wa_26 _ (List.mem_of_getElem? (i := 11) rfl)
theorem wm_844 : (.instanceMethod yX6_faultAt : Cond) ∈ WA := q_wa_26 _ (List.mem_of_getElem? (i := 12) rfl)
theorem wm_845 : (.selects RX6 yX6_faultAt yX6_faultAt : Cond) ∈ WA := q_wa_26 _ (List.mem_of_getElem? (i := 13) rfl)
theorem wm_846 : (.code yX6_faultAt cX6_faultAt 2 (some .int) : Cond) ∈ WA := q_wa_26 _ (List.mem_of_getElem? (i := 14) rfl)
theorem wm_847 : (.methodLink RL 53 yX6_faultOf : Cond) ∈ WA := q_wa_26 _ (List.mem_of_getElem? (i := 15) rfl)
theorem wm_848 : (.instanceMethod yX6_faultOf : Cond) ∈ WA := q_wa_26 _ (List.mem_of_getElem? (i := 16) rfl)
theorem wm_849 : (.selects RX6 yX6_faultOf yX6_faultOf : Cond) ∈ WA := q_wa_26 _ (List.mem_of_getElem? (i := 17) rfl)
theorem wm_850 : (.code yX6_faultOf cX6_faultOf 2 (some .char) : Cond) ∈ WA := q_wa_26 _ (List.mem_of_getElem? (i := 18) rfl)
theorem wm_851 : (.classLink RL 60 "java/util/NoSuchElementException" : Cond) ∈ WA := q_wa_26 _ (List.mem_of_getElem? (i := 19) rfl)
theorem wm_852 : (.methodLink RL 56 yX6_mend : Cond) ∈ WA := q_wa_26 _ (List.mem_of_getElem? (i := 20) rfl)
theorem wm_853 : (.instanceMethod yX6_mend : Cond) ∈ WA := q_wa_26 _ (List.mem_of_getElem? (i := 21) rfl)
theorem wm_854 : (.selects RX6 yX6_mend yX6_mend : Cond) ∈ WA := q_wa_26 _ (List.mem_of_getElem? (i := 22) rfl)
theorem wm_855 : (.code yX6_mend cX6_mend 9 (some .int) : Cond) ∈ WA := q_wa_26 _ (List.mem_of_getElem? (i := 23) rfl)
theorem wm_856 : (.methodLink RL 62 yX6_range : Cond) ∈ WA := q_wa_26 _ (List.mem_of_getElem? (i := 24) rfl)
theorem wm_857 : (.instanceMethod yX6_range : Cond) ∈ WA := q_wa_26 _ (List.mem_of_getElem? (i := 25) rfl)
theorem wm_858 : (.selects RX6 yX6_range yX6_range : Cond) ∈ WA := q_wa_26 _ (List.mem_of_getElem? (i := 26) rfl)
theorem wm_859 : (.code yX6_range cX6_range 3 (some .int) : Cond) ∈ WA := q_wa_26 _ (List.mem_of_getElem? (i := 27) rfl)
theorem wm_860 : (.classLink RL 68 "java/lang/UnsupportedOperationException" : Cond) ∈ WA := q_wa_26 _ (List.mem_of_getElem? (i := 28) rfl)
theorem wm_861 : (.methodLink RL 65 yX6_find : Cond) ∈ WA := q_wa_26 _ (List.mem_of_getElem? (i := 29) rfl)
theorem wm_862 : (.instanceMethod yX6_find : Cond) ∈ WA := q_wa_26 _ (List.mem_of_getElem? (i := 30) rfl)
theorem wm_863 : (.selects RX6 yX6_find yX6_find : Cond) ∈ WA := q_wa_26 _ (List.mem_of_getElem? (i := 31) rfl)
theorem wm_864 : (.code yX6_find cX6_find 4 (some .int) : Cond) ∈ WA := q_wa_27 _ (List.mem_of_getElem? (i := 0) rfl)
theorem wm_865 : (.methodLink RL 70 yX6_goodLines : Cond) ∈ WA := q_wa_27 _ (List.mem_of_getElem? (i := 1) rfl)
theorem wm_866 : (.instanceMethod yX6_goodLines : Cond) ∈ WA := q_wa_27 _ (List.mem_of_getElem? (i := 2) rfl)
theorem wm_867 : (.selects RX6 yX6_goodLines yX6_goodLines : Cond) ∈ WA := q_wa_27 _ (List.mem_of_getElem? (i := 3) rfl)
theorem wm_868 : (.code yX6_goodLines cX6_goodLines 2 (some .long) : Cond) ∈ WA := q_wa_27 _ (List.mem_of_getElem? (i := 4) rfl)
theorem wm_869 : (.methodLink RL 74 yX6_bars : Cond) ∈ WA := q_wa_27 _ (List.mem_of_getElem? (i := 5) rfl)
theorem wm_870 : (.instanceMethod yX6_bars : Cond) ∈ WA := q_wa_27 _ (List.mem_of_getElem? (i := 6) rfl)
theorem wm_871 : (.selects RX6 yX6_bars yX6_bars : Cond) ∈ WA := q_wa_27 _ (List.mem_of_getElem? (i := 7) rfl)
theorem wm_872 : (.code yX6_bars cX6_bars 1 (some .int) : Cond) ∈ WA := q_wa_27 _ (List.mem_of_getElem? (i := 8) rfl)
theorem wm_873 : (.methodLink RL 77 yX6_barAt : Cond) ∈ WA := q_wa_27 _ (List.mem_of_getElem? (i := 9) rfl)
theorem wm_874 : (.instanceMethod yX6_barAt : Cond) ∈ WA := q_wa_27 _ (List.mem_of_getElem? (i := 10) rfl)
theorem wm_875 : (.selects RX6 yX6_barAt yX6_barAt : Cond) ∈ WA := q_wa_27 _ (List.mem_of_getElem? (i := 11) rfl)
theorem wm_876 : (.code yX6_barAt cX6_barAt 3 (some .char) : Cond) ∈ WA := q_wa_27 _ (List.mem_of_getElem? (i := 12) rfl)
theorem wm_877 : (.methodLink RL 80 yX6_exchanged : Cond) ∈ WA := q_wa_27 _ (List.mem_of_getElem? (i := 13) rfl)
theorem wm_878 : (.instanceMethod yX6_exchanged : Cond) ∈ WA := q_wa_27 _ (List.mem_of_getElem? (i := 14) rfl)
theorem wm_879 : (.selects RX6 yX6_exchanged yX6_exchanged : Cond) ∈ WA := q_wa_27 _ (List.mem_of_getElem? (i := 15) rfl)
theorem wm_880 : (.code yX6_exchanged cX6_exchanged 5 (some .int) : Cond) ∈ WA := q_wa_27 _ (List.mem_of_getElem? (i := 16) rfl)
theorem wm_881 : (.methodLink RL 83 yX6_canon : Cond) ∈ WA := q_wa_27 _ (List.mem_of_getElem? (i := 17) rfl)
theorem wm_882 : (.instanceMethod yX6_canon : Cond) ∈ WA := q_wa_27 _ (List.mem_of_getElem? (i := 18) rfl)
theorem wm_883 : (.selects RX6 yX6_canon yX6_canon : Cond) ∈ WA := q_wa_27 _ (List.mem_of_getElem? (i := 19) rfl)
theorem wm_884 : (.code yX6_canon cX6_canon 3 (some .int) : Cond) ∈ WA := q_wa_27 _ (List.mem_of_getElem? (i := 20) rfl)
theorem wm_885 : (.methodLink RL 86 yX6_canons : Cond) ∈ WA := q_wa_27 _ (List.mem_of_getElem? (i := 21) rfl)
theorem wm_886 : (.instanceMethod yX6_canons : Cond) ∈ WA := q_wa_27 _ (List.mem_of_getElem? (i := 22) rfl)
theorem wm_887 : (.selects RX6 yX6_canons yX6_canons : Cond) ∈ WA := q_wa_27 _ (List.mem_of_getElem? (i := 23) rfl)
theorem wm_888 : (.code yX6_canons cX6_canons 1 (some .int) : Cond) ∈ WA := q_wa_27 _ (List.mem_of_getElem? (i := 24) rfl)
theorem wm_889 : (.methodLink RL 89 yX6_canonAt : Cond) ∈ WA := q_wa_27 _ (List.mem_of_getElem? (i := 25) rfl)
theorem wm_890 : (.instanceMethod yX6_canonAt : Cond) ∈ WA := q_wa_27 _ (List.mem_of_getElem? (i := 26) rfl)
theorem wm_891 : (.selects RX6 yX6_canonAt yX6_canonAt : Cond) ∈ WA := q_wa_27 _ (List.mem_of_getElem? (i := 27) rfl)
theorem wm_892 : (.code yX6_canonAt cX6_canonAt 3 (some .int) : Cond) ∈ WA := q_wa_27 _ (List.mem_of_getElem? (i := 28) rfl)
theorem wm_893 : (.classLink RL 96 "java/lang/ArithmeticException" : Cond) ∈ WA := q_wa_27 _ (List.mem_of_getElem? (i := 29) rfl)
theorem wm_894 : (.methodLink RL 92 yX6_stepShare : Cond) ∈ WA := q_wa_27 _ (List.mem_of_getElem? (i := 30) rfl)
theorem wm_895 : (.instanceMethod yX6_stepShare : Cond) ∈ WA := q_wa_27 _ (List.mem_of_getElem? (i := 31) rfl)
theorem wm_896 : (.selects RX6 yX6_stepShare yX6_stepShare : Cond) ∈ WA := q_wa_28 _ (List.mem_of_getElem? (i := 0) rfl)
theorem wm_897 : (.code yX6_stepShare cX6_stepShare 4 (some .float) : Cond) ∈ WA := q_wa_28 _ (List.mem_of_getElem? (i := 1) rfl)
theorem wm_898 : (.methodLink RL 98 yX6_meanPitch : Cond) ∈ WA := q_wa_28 _ (List.mem_of_getElem? (i := 2) rfl)
theorem wm_899 : (.instanceMethod yX6_meanPitch : Cond) ∈ WA := q_wa_28 _ (List.mem_of_getElem? (i := 3) rfl)
theorem wm_900 : (.selects RX6 yX6_meanPitch yX6_meanPitch : Cond) ∈ WA := q_wa_28 _ (List.mem_of_getElem? (i := 4) rfl)
theorem wm_901 : (.code yX6_meanPitch cX6_meanPitch 4 (some .double) : Cond) ∈ WA := q_wa_28 _ (List.mem_of_getElem? (i := 5) rfl)
theorem wm_902 : (.classLink RL 8 RX6 : Cond) ∈ WA := q_wa_28 _ (List.mem_of_getElem? (i := 6) rfl)
theorem wm_903 : (.instantiable RX6 4 : Cond) ∈ WA := q_wa_28 _ (List.mem_of_getElem? (i := 7) rfl)
theorem wm_904 : (.classLink RL 103 RX7 : Cond) ∈ WA := q_wa_28 _ (List.mem_of_getElem? (i := 8) rfl)
theorem wm_905 : (.instantiable RX7 14 : Cond) ∈ WA := q_wa_28 _ (List.mem_of_getElem? (i := 9) rfl)
theorem wm_906 : (.arrayClass .double : Cond) ∈ WA := q_wa_28 _ (List.mem_of_getElem? (i := 10) rfl)
theorem wm_907 : (.methodLink RL 102 yX6_init : Cond) ∈ WA := q_wa_28 _ (List.mem_of_getElem? (i := 11) rfl)
theorem wm_908 : (.instanceMethod yX6_init : Cond) ∈ WA := q_wa_28 _ (List.mem_of_getElem? (i := 12) rfl)
theorem wm_909 : (.code yX6_init cX6_init 1 none : Cond) ∈ WA := q_wa_28 _ (List.mem_of_getElem? (i := 13) rfl)
theorem wm_910 : (.methodLink RL 105 yX7_init : Cond) ∈ WA := q_wa_28 _ (List.mem_of_getElem? (i := 14) rfl)
theorem wm_911 : (.instanceMethod yX7_init : Cond) ∈ WA := q_wa_28 _ (List.mem_of_getElem? (i := 15) rfl)
theorem wm_912 : (.code yX7_init cX7_init 2 none : Cond) ∈ WA := q_wa_28 _ (List.mem_of_getElem? (i := 16) rfl)
theorem wm_913 : (.methodLink RL 106 yL_given : Cond) ∈ WA := q_wa_28 _ (List.mem_of_getElem? (i := 17) rfl)
theorem wm_914 : (.static yL_given : Cond) ∈ WA := q_wa_28 _ (List.mem_of_getElem? (i := 18) rfl)
theorem wm_915 : (.initialized RL : Cond) ∈ WA := q_wa_28 _ (List.mem_of_getElem? (i := 19) rfl)
theorem wm_916 : (.codeWith yL_given cL_given 4 (some .int) [(0, 9, 12, 13), (0, 9, 15, 15)] : Cond) ∈ WA := q_wa_28 _ (List.mem_of_getElem? (i := 20) rfl)
theorem wm_917 : (.methodLink RL 111 yX7_given : Cond) ∈ WA := q_wa_28 _ (List.mem_of_getElem? (i := 21) rfl)
theorem wm_918 : (.instanceMethod yX7_given : Cond) ∈ WA := q_wa_28 _ (List.mem_of_getElem? (i := 22) rfl)
theorem wm_919 : (.selects RX7 yX7_given yX7_given : Cond) ∈ WA := q_wa_28 _ (List.mem_of_getElem? (i := 23) rfl)
theorem wm_920 : (.code yX7_given cX7_given 2 (some .int) : Cond) ∈ WA := q_wa_28 _ (List.mem_of_getElem? (i := 24) rfl)
theorem wm_921 : (.methodLink RL 112 yX7_thrown : Cond) ∈ WA := q_wa_28 _ (List.mem_of_getElem? (i := 25) rfl)
theorem wm_922 : (.instanceMethod yX7_thrown : Cond) ∈ WA := q_wa_28 _ (List.mem_of_getElem? (i := 26) rfl)
theorem wm_923 : (.selects RX7 yX7_thrown yX7_thrown : Cond) ∈ WA := q_wa_28 _ (List.mem_of_getElem? (i := 27) rfl)
theorem wm_924 : (.code yX7_thrown cX7_thrown 1 (some .int) : Cond) ∈ WA := q_wa_28 _ (List.mem_of_getElem? (i := 28) rfl)
theorem wm_925 : (.methodLink RL 115 yL_other : Cond) ∈ WA := q_wa_28 _ (List.mem_of_getElem? (i := 29) rfl)
theorem wm_926 : (.static yL_other : Cond) ∈ WA := q_wa_28 _ (List.mem_of_getElem? (i := 30) rfl)
theorem wm_927 : (.codeWith yL_other cL_other 4 (some .int) [(0, 9, 12, 13), (0, 9, 15, 15)] : Cond) ∈ WA := q_wa_28 _ (List.mem_of_getElem? (i := 31) rfl)
theorem wm_928 : (.methodLink RL 117 yX7_other : Cond) ∈ WA := q_wa_29 _ (List.mem_of_getElem? (i := 0) rfl)
theorem wm_929 : (.instanceMethod yX7_other : Cond) ∈ WA := q_wa_29 _ (List.mem_of_getElem? (i := 1) rfl)
theorem wm_930 : (.selects RX7 yX7_other yX7_other : Cond) ∈ WA := q_wa_29 _ (List.mem_of_getElem? (i := 2) rfl)
theorem wm_931 : (.code yX7_other cX7_other 2 (some .int) : Cond) ∈ WA := q_wa_29 _ (List.mem_of_getElem? (i := 3) rfl)
theorem wm_932 : (.methodLink RL 118 yL_change : Cond) ∈ WA := q_wa_29 _ (List.mem_of_getElem? (i := 4) rfl)
theorem wm_933 : (.static yL_change : Cond) ∈ WA := q_wa_29 _ (List.mem_of_getElem? (i := 5) rfl)
theorem wm_934 : (.codeWith yL_change cL_change 5 (some .int) [(0, 10, 13, 24), (0, 10, 17, 13)] : Cond) ∈ WA := q_wa_29 _ (List.mem_of_getElem? (i := 6) rfl)
theorem wm_935 : (.methodLink RL 121 yX7_change : Cond) ∈ WA := q_wa_29 _ (List.mem_of_getElem? (i := 7) rfl)
theorem wm_936 : (.instanceMethod yX7_change : Cond) ∈ WA := q_wa_29 _ (List.mem_of_getElem? (i := 8) rfl)
theorem wm_937 : (.selects RX7 yX7_change yX7_change : Cond) ∈ WA := q_wa_29 _ (List.mem_of_getElem? (i := 9) rfl)
theorem wm_938 : (.code yX7_change cX7_change 4 (some .int) : Cond) ∈ WA := q_wa_29 _ (List.mem_of_getElem? (i := 10) rfl)
theorem wm_939 : (.methodLink RL 122 yX6_clear : Cond) ∈ WA := q_wa_29 _ (List.mem_of_getElem? (i := 11) rfl)
theorem wm_940 : (.instanceMethod yX6_clear : Cond) ∈ WA := q_wa_29 _ (List.mem_of_getElem? (i := 12) rfl)
theorem wm_941 : (.selects RX6 yX6_clear yX6_clear : Cond) ∈ WA := q_wa_29 _ (List.mem_of_getElem? (i := 13) rfl)
theorem wm_942 : (.code yX6_clear cX6_clear 3 (some .int) : Cond) ∈ WA := q_wa_29 _ (List.mem_of_getElem? (i := 14) rfl)
theorem wm_943 : (.methodLink RL 126 yX7_clear : Cond) ∈ WA := q_wa_29 _ (List.mem_of_getElem? (i := 15) rfl)
theorem wm_944 : (.instanceMethod yX7_clear : Cond) ∈ WA := q_wa_29 _ (List.mem_of_getElem? (i := 16) rfl)
theorem wm_945 : (.selects RX7 yX7_clear yX7_clear : Cond) ∈ WA := q_wa_29 _ (List.mem_of_getElem? (i := 17) rfl)
theorem wm_946 : (.code yX7_clear cX7_clear 3 (some .int) : Cond) ∈ WA := q_wa_29 _ (List.mem_of_getElem? (i := 18) rfl)
theorem wm_947 : (.methodLink RL 127 yL_ratio : Cond) ∈ WA := q_wa_29 _ (List.mem_of_getElem? (i := 19) rfl)
theorem wm_948 : (.static yL_ratio : Cond) ∈ WA := q_wa_29 _ (List.mem_of_getElem? (i := 20) rfl)
theorem wm_949 : (.codeWith yL_ratio cL_ratio 4 (some .int) [(0, 9, 12, 13)] : Cond) ∈ WA := q_wa_29 _ (List.mem_of_getElem? (i := 21) rfl)
theorem wm_950 : (.methodLink RL 129 yX7_ratio : Cond) ∈ WA := q_wa_29 _ (List.mem_of_getElem? (i := 22) rfl)
theorem wm_951 : (.instanceMethod yX7_ratio : Cond) ∈ WA := q_wa_29 _ (List.mem_of_getElem? (i := 23) rfl)
theorem wm_952 : (.selects RX7 yX7_ratio yX7_ratio : Cond) ∈ WA := q_wa_29 _ (List.mem_of_getElem? (i := 24) rfl)
theorem wm_953 : (.code yX7_ratio cX7_ratio 3 (some .int) : Cond) ∈ WA := q_wa_29 _ (List.mem_of_getElem? (i := 25) rfl)
theorem wm_954 : (.methodLink RL 130 yX6_lower : Cond) ∈ WA := q_wa_29 _ (List.mem_of_getElem? (i := 26) rfl)
theorem wm_955 : (.instanceMethod yX6_lower : Cond) ∈ WA := q_wa_29 _ (List.mem_of_getElem? (i := 27) rfl)
theorem wm_956 : (.selects RX6 yX6_lower yX6_lower : Cond) ∈ WA := q_wa_29 _ (List.mem_of_getElem? (i := 28) rfl)
theorem wm_957 : (.code yX6_lower cX6_lower 3 (some .boolean) : Cond) ∈ WA := q_wa_29 _ (List.mem_of_getElem? (i := 29) rfl)
theorem wm_958 : (.methodLink RL 134 yX7_lower : Cond) ∈ WA := q_wa_29 _ (List.mem_of_getElem? (i := 30) rfl)
theorem wm_959 : (.instanceMethod yX7_lower : Cond) ∈ WA := q_wa_29 _ (List.mem_of_getElem? (i := 31) rfl)
theorem wm_960 : (.selects RX7 yX7_lower yX7_lower : Cond) ∈ WA := q_wa_30 _ (List.mem_of_getElem? (i := 0) rfl)
theorem wm_961 : (.code yX7_lower cX7_lower 3 (some .boolean) : Cond) ∈ WA := q_wa_30 _ (List.mem_of_getElem? (i := 1) rfl)
theorem wm_962 : (.methodLink RL 135 yX6_feign : Cond) ∈ WA := q_wa_30 _ (List.mem_of_getElem? (i := 2) rfl)
theorem wm_963 : (.instanceMethod yX6_feign : Cond) ∈ WA := q_wa_30 _ (List.mem_of_getElem? (i := 3) rfl)
theorem wm_964 : (.selects RX6 yX6_feign yX6_feign : Cond) ∈ WA := q_wa_30 _ (List.mem_of_getElem? (i := 4) rfl)
theorem wm_965 : (.code yX6_feign cX6_feign 3 (some .boolean) : Cond) ∈ WA := q_wa_30 _ (List.mem_of_getElem? (i := 5) rfl)
theorem wm_966 : (.methodLink RL 138 yX7_feign : Cond) ∈ WA := q_wa_30 _ (List.mem_of_getElem? (i := 6) rfl)
theorem wm_967 : (.instanceMethod yX7_feign : Cond) ∈ WA := q_wa_30 _ (List.mem_of_getElem? (i := 7) rfl)
theorem wm_968 : (.selects RX7 yX7_feign yX7_feign : Cond) ∈ WA := q_wa_30 _ (List.mem_of_getElem? (i := 8) rfl)
theorem wm_969 : (.code yX7_feign cX7_feign 3 (some .boolean) : Cond) ∈ WA := q_wa_30 _ (List.mem_of_getElem? (i := 9) rfl)
theorem wm_970 : (.methodLink RL 139 yX6_notes : Cond) ∈ WA := q_wa_30 _ (List.mem_of_getElem? (i := 10) rfl)
theorem wm_971 : (.instanceMethod yX6_notes : Cond) ∈ WA := q_wa_30 _ (List.mem_of_getElem? (i := 11) rfl)
theorem wm_972 : (.selects RX6 yX6_notes yX6_notes : Cond) ∈ WA := q_wa_30 _ (List.mem_of_getElem? (i := 12) rfl)
theorem wm_973 : (.code yX6_notes cX6_notes 1 (some .int) : Cond) ∈ WA := q_wa_30 _ (List.mem_of_getElem? (i := 13) rfl)
theorem wm_974 : (.methodLink RL 142 yX7_notes : Cond) ∈ WA := q_wa_30 _ (List.mem_of_getElem? (i := 14) rfl)
theorem wm_975 : (.instanceMethod yX7_notes : Cond) ∈ WA := q_wa_30 _ (List.mem_of_getElem? (i := 15) rfl)
theorem wm_976 : (.selects RX7 yX7_notes yX7_notes : Cond) ∈ WA := q_wa_30 _ (List.mem_of_getElem? (i := 16) rfl)
theorem wm_977 : (.code yX7_notes cX7_notes 1 (some .int) : Cond) ∈ WA := q_wa_30 _ (List.mem_of_getElem? (i := 17) rfl)
theorem wm_978 : (.methodLink RL 143 yL_noteAt : Cond) ∈ WA := q_wa_30 _ (List.mem_of_getElem? (i := 18) rfl)
theorem wm_979 : (.static yL_noteAt : Cond) ∈ WA := q_wa_30 _ (List.mem_of_getElem? (i := 19) rfl)
theorem wm_980 : (.codeWith yL_noteAt cL_noteAt 4 (some .int) [(0, 9, 12, 24)] : Cond) ∈ WA := q_wa_30 _ (List.mem_of_getElem? (i := 20) rfl)
theorem wm_981 : (.methodLink RL 145 yX7_noteAt : Cond) ∈ WA := q_wa_30 _ (List.mem_of_getElem? (i := 21) rfl)
theorem wm_982 : (.instanceMethod yX7_noteAt : Cond) ∈ WA := q_wa_30 _ (List.mem_of_getElem? (i := 22) rfl)
theorem wm_983 : (.selects RX7 yX7_noteAt yX7_noteAt : Cond) ∈ WA := q_wa_30 _ (List.mem_of_getElem? (i := 23) rfl)
theorem wm_984 : (.code yX7_noteAt cX7_noteAt 2 (some .int) : Cond) ∈ WA := q_wa_30 _ (List.mem_of_getElem? (i := 24) rfl)
theorem wm_985 : (.methodLink RL 146 yL_pitch : Cond) ∈ WA := q_wa_30 _ (List.mem_of_getElem? (i := 25) rfl)
theorem wm_986 : (.static yL_pitch : Cond) ∈ WA := q_wa_30 _ (List.mem_of_getElem? (i := 26) rfl)
theorem wm_987 : (.codeWith yL_pitch cL_pitch 4 (some .int) [(0, 9, 12, 24)] : Cond) ∈ WA := q_wa_30 _ (List.mem_of_getElem? (i := 27) rfl)
theorem wm_988 : (.methodLink RL 148 yX7_pitch : Cond) ∈ WA := q_wa_30 _ (List.mem_of_getElem? (i := 28) rfl)
theorem wm_989 : (.instanceMethod yX7_pitch : Cond) ∈ WA := q_wa_30 _ (List.mem_of_getElem? (i := 29) rfl)
theorem wm_990 : (.selects RX7 yX7_pitch yX7_pitch : Cond) ∈ WA := q_wa_30 _ (List.mem_of_getElem? (i := 30) rfl)
theorem wm_991 : (.code yX7_pitch cX7_pitch 2 (some .int) : Cond) ∈ WA := q_wa_30 _ (List.mem_of_getElem? (i := 31) rfl)
theorem wm_992 : (.methodLink RL 149 yL_interval : Cond) ∈ WA := q_wa_31 _ (List.mem_of_getElem? (i := 0) rfl)
theorem wm_993 : (.static yL_interval : Cond) ∈ WA := q_wa_31 _ (List.mem_of_getElem? (i := 1) rfl)
theorem wm_994 : (.codeWith yL_interval cL_interval 4 (some .int) [(0, 9, 12, 24)] : Cond) ∈ WA := q_wa_31 _ (List.mem_of_getElem? (i := 2) rfl)
theorem wm_995 : (.methodLink RL 151 yX7_interval : Cond) ∈ WA := q_wa_31 _ (List.mem_of_getElem? (i := 3) rfl)
theorem wm_996 : (.instanceMethod yX7_interval : Cond) ∈ WA := q_wa_31 _ (List.mem_of_getElem? (i := 4) rfl)
theorem wm_997 : (.selects RX7 yX7_interval yX7_interval : Cond) ∈ WA := q_wa_31 _ (List.mem_of_getElem? (i := 5) rfl)
theorem wm_998 : (.code yX7_interval cX7_interval 3 (some .char) : Cond) ∈ WA := q_wa_31 _ (List.mem_of_getElem? (i := 6) rfl)
theorem wm_999 : (.methodLink RL 152 yL_setLaw : Cond) ∈ WA := q_wa_31 _ (List.mem_of_getElem? (i := 7) rfl)
theorem wm_1000 : (.static yL_setLaw : Cond) ∈ WA := q_wa_31 _ (List.mem_of_getElem? (i := 8) rfl)
theorem wm_1001 : (.codeWith yL_setLaw cL_setLaw 5 (some .int) [(0, 10, 13, 13)] : Cond) ∈ WA := q_wa_31 _ (List.mem_of_getElem? (i := 9) rfl)
theorem wm_1002 : (.methodLink RL 155 yX7_setLaw : Cond) ∈ WA := q_wa_31 _ (List.mem_of_getElem? (i := 10) rfl)
theorem wm_1003 : (.instanceMethod yX7_setLaw : Cond) ∈ WA := q_wa_31 _ (List.mem_of_getElem? (i := 11) rfl)
theorem wm_1004 : (.selects RX7 yX7_setLaw yX7_setLaw : Cond) ∈ WA := q_wa_31 _ (List.mem_of_getElem? (i := 12) rfl)
theorem wm_1005 : (.code yX7_setLaw cX7_setLaw 5 (some .int) : Cond) ∈ WA := q_wa_31 _ (List.mem_of_getElem? (i := 13) rfl)
theorem wm_1006 : (.methodLink RL 156 yL_weight : Cond) ∈ WA := q_wa_31 _ (List.mem_of_getElem? (i := 14) rfl)
theorem wm_1007 : (.static yL_weight : Cond) ∈ WA := q_wa_31 _ (List.mem_of_getElem? (i := 15) rfl)
theorem wm_1008 : (.codeWith yL_weight cL_weight 4 (some .int) [(0, 9, 12, 13)] : Cond) ∈ WA := q_wa_31 _ (List.mem_of_getElem? (i := 16) rfl)
theorem wm_1009 : (.methodLink RL 159 yX7_weight : Cond) ∈ WA := q_wa_31 _ (List.mem_of_getElem? (i := 17) rfl)
theorem wm_1010 : (.instanceMethod yX7_weight : Cond) ∈ WA := q_wa_31 _ (List.mem_of_getElem? (i := 18) rfl)
theorem wm_1011 : (.selects RX7 yX7_weight yX7_weight : Cond) ∈ WA := q_wa_31 _ (List.mem_of_getElem? (i := 19) rfl)
theorem wm_1012 : (.code yX7_weight cX7_weight 3 (some .int) : Cond) ∈ WA := q_wa_31 _ (List.mem_of_getElem? (i := 20) rfl)
theorem wm_1013 : (.methodLink RL 160 yL_style : Cond) ∈ WA := q_wa_31 _ (List.mem_of_getElem? (i := 21) rfl)
theorem wm_1014 : (.static yL_style : Cond) ∈ WA := q_wa_31 _ (List.mem_of_getElem? (i := 22) rfl)
theorem wm_1015 : (.codeWith yL_style cL_style 4 (some .int) [(0, 9, 12, 13)] : Cond) ∈ WA := q_wa_31 _ (List.mem_of_getElem? (i := 23) rfl)
theorem wm_1016 : (.methodLink RL 162 yX7_style : Cond) ∈ WA := q_wa_31 _ (List.mem_of_getElem? (i := 24) rfl)
theorem wm_1017 : (.methodLink RL 163 yX6_faults : Cond) ∈ WA := q_wa_31 _ (List.mem_of_getElem? (i := 25) rfl)
theorem wm_1018 : (.instanceMethod yX6_faults : Cond) ∈ WA := q_wa_31 _ (List.mem_of_getElem? (i := 26) rfl)
theorem wm_1019 : (.selects RX6 yX6_faults yX6_faults : Cond) ∈ WA := q_wa_31 _ (List.mem_of_getElem? (i := 27) rfl)
theorem wm_1020 : (.code yX6_faults cX6_faults 4 (some .int) : Cond) ∈ WA := q_wa_31 _ (List.mem_of_getElem? (i := 28) rfl)
theorem wm_1021 : (.methodLink RL 166 yX7_faults : Cond) ∈ WA := q_wa_31 _ (List.mem_of_getElem? (i := 29) rfl)
theorem wm_1022 : (.instanceMethod yX7_faults : Cond) ∈ WA := q_wa_31 _ (List.mem_of_getElem? (i := 30) rfl)
theorem wm_1023 : (.selects RX7 yX7_faults yX7_faults : Cond) ∈ WA := q_wa_31 _ (List.mem_of_getElem? (i := 31) rfl)
theorem wm_1024 : (.code yX7_faults cX7_faults 1 (some .int) : Cond) ∈ WA := q_wa_32 _ (List.mem_of_getElem? (i := 0) rfl)
theorem wm_1025 : (.methodLink RL 167 yL_faultAt : Cond) ∈ WA := q_wa_32 _ (List.mem_of_getElem? (i := 1) rfl)
theorem wm_1026 : (.static yL_faultAt : Cond) ∈ WA := q_wa_32 _ (List.mem_of_getElem? (i := 2) rfl)
theorem wm_1027 : (.codeWith yL_faultAt cL_faultAt 4 (some .int) [(0, 9, 12, 24)] : Cond) ∈ WA := q_wa_32 _ (List.mem_of_getElem? (i := 3) rfl)
theorem wm_1028 : (.methodLink RL 169 yX7_faultAt : Cond) ∈ WA := q_wa_32 _ (List.mem_of_getElem? (i := 4) rfl)
theorem wm_1029 : (.instanceMethod yX7_faultAt : Cond) ∈ WA := q_wa_32 _ (List.mem_of_getElem? (i := 5) rfl)
theorem wm_1030 : (.selects RX7 yX7_faultAt yX7_faultAt : Cond) ∈ WA := q_wa_32 _ (List.mem_of_getElem? (i := 6) rfl)
theorem wm_1031 : (.code yX7_faultAt cX7_faultAt 3 (some .int) : Cond) ∈ WA := q_wa_32 _ (List.mem_of_getElem? (i := 7) rfl)
theorem wm_1032 : (.methodLink RL 170 yL_faultOf : Cond) ∈ WA := q_wa_32 _ (List.mem_of_getElem? (i := 8) rfl)
theorem wm_1033 : (.static yL_faultOf : Cond) ∈ WA := q_wa_32 _ (List.mem_of_getElem? (i := 9) rfl)
theorem wm_1034 : (.codeWith yL_faultOf cL_faultOf 4 (some .int) [(0, 9, 12, 24)] : Cond) ∈ WA := q_wa_32 _ (List.mem_of_getElem? (i := 10) rfl)
theorem wm_1035 : (.methodLink RL 172 yX7_faultOf : Cond) ∈ WA := q_wa_32 _ (List.mem_of_getElem? (i := 11) rfl)
theorem wm_1036 : (.instanceMethod yX7_faultOf : Cond) ∈ WA := q_wa_32 _ (List.mem_of_getElem? (i := 12) rfl)
theorem wm_1037 : (.selects RX7 yX7_faultOf yX7_faultOf : Cond) ∈ WA := q_wa_32 _ (List.mem_of_getElem? (i := 13) rfl)
theorem wm_1038 : (.code yX7_faultOf cX7_faultOf 3 (some .char) : Cond) ∈ WA := q_wa_32 _ (List.mem_of_getElem? (i := 14) rfl)
theorem wm_1039 : (.methodLink RL 173 yX6_cost : Cond) ∈ WA := q_wa_32 _ (List.mem_of_getElem? (i := 15) rfl)
theorem wm_1040 : (.instanceMethod yX6_cost : Cond) ∈ WA := q_wa_32 _ (List.mem_of_getElem? (i := 16) rfl)
theorem wm_1041 : (.selects RX6 yX6_cost yX6_cost : Cond) ∈ WA := q_wa_32 _ (List.mem_of_getElem? (i := 17) rfl)
theorem wm_1042 : (.code yX6_cost cX6_cost 1 (some .int) : Cond) ∈ WA := q_wa_32 _ (List.mem_of_getElem? (i := 18) rfl)
theorem wm_1043 : (.methodLink RL 176 yX7_cost : Cond) ∈ WA := q_wa_32 _ (List.mem_of_getElem? (i := 19) rfl)
theorem wm_1044 : (.instanceMethod yX7_cost : Cond) ∈ WA := q_wa_32 _ (List.mem_of_getElem? (i := 20) rfl)
theorem wm_1045 : (.selects RX7 yX7_cost yX7_cost : Cond) ∈ WA := q_wa_32 _ (List.mem_of_getElem? (i := 21) rfl)
theorem wm_1046 : (.code yX7_cost cX7_cost 1 (some .int) : Cond) ∈ WA := q_wa_32 _ (List.mem_of_getElem? (i := 22) rfl)
theorem wm_1047 : (.methodLink RL 177 yX6_isGood : Cond) ∈ WA := q_wa_32 _ (List.mem_of_getElem? (i := 23) rfl)
theorem wm_1048 : (.instanceMethod yX6_isGood : Cond) ∈ WA := q_wa_32 _ (List.mem_of_getElem? (i := 24) rfl)
theorem wm_1049 : (.selects RX6 yX6_isGood yX6_isGood : Cond) ∈ WA := q_wa_32 _ (List.mem_of_getElem? (i := 25) rfl)
theorem wm_1050 : (.code yX6_isGood cX6_isGood 1 (some .boolean) : Cond) ∈ WA := q_wa_32 _ (List.mem_of_getElem? (i := 26) rfl)
theorem wm_1051 : (.methodLink RL 181 yX7_isGood : Cond) ∈ WA := q_wa_32 _ (List.mem_of_getElem? (i := 27) rfl)
theorem wm_1052 : (.instanceMethod yX7_isGood : Cond) ∈ WA := q_wa_32 _ (List.mem_of_getElem? (i := 28) rfl)
theorem wm_1053 : (.selects RX7 yX7_isGood yX7_isGood : Cond) ∈ WA := q_wa_32 _ (List.mem_of_getElem? (i := 29) rfl)
theorem wm_1054 : (.code yX7_isGood cX7_isGood 4 (some .boolean) : Cond) ∈ WA := q_wa_32 _ (List.mem_of_getElem? (i := 30) rfl)
theorem wm_1055 : (.methodLink RL 182 yL_mend : Cond) ∈ WA := q_wa_32 _ (List.mem_of_getElem? (i := 31) rfl)
theorem wm_1056 : (.static yL_mend : Cond) ∈ WA := q_wa_33 _ (List.mem_of_getElem? (i := 0) rfl)
theorem wm_1057 : (.codeWith yL_mend cL_mend 3 (some .int) [(0, 8, 11, 15), (0, 8, 14, 60)] : Cond) ∈ WA := q_wa_33 _ (List.mem_of_getElem? (i := 1) rfl)
theorem wm_1058 : (.methodLink RL 185 yX7_mend : Cond) ∈ WA := q_wa_33 _ (List.mem_of_getElem? (i := 2) rfl)
theorem wm_1059 : (.instanceMethod yX7_mend : Cond) ∈ WA := q_wa_33 _ (List.mem_of_getElem? (i := 3) rfl)
theorem wm_1060 : (.selects RX7 yX7_mend yX7_mend : Cond) ∈ WA := q_wa_33 _ (List.mem_of_getElem? (i := 4) rfl)
theorem wm_1061 : (.code yX7_mend cX7_mend 9 (some .int) : Cond) ∈ WA := q_wa_33 _ (List.mem_of_getElem? (i := 5) rfl)
theorem wm_1062 : (.methodLink RL 186 yL_range : Cond) ∈ WA := q_wa_33 _ (List.mem_of_getElem? (i := 6) rfl)
theorem wm_1063 : (.static yL_range : Cond) ∈ WA := q_wa_33 _ (List.mem_of_getElem? (i := 7) rfl)
theorem wm_1064 : (.codeWith yL_range cL_range 5 (some .int) [(0, 10, 13, 13)] : Cond) ∈ WA := q_wa_33 _ (List.mem_of_getElem? (i := 8) rfl)
theorem wm_1065 : (.methodLink RL 188 yX7_range : Cond) ∈ WA := q_wa_33 _ (List.mem_of_getElem? (i := 9) rfl)
theorem wm_1066 : (.instanceMethod yX7_range : Cond) ∈ WA := q_wa_33 _ (List.mem_of_getElem? (i := 10) rfl)
theorem wm_1067 : (.selects RX7 yX7_range yX7_range : Cond) ∈ WA := q_wa_33 _ (List.mem_of_getElem? (i := 11) rfl)
theorem wm_1068 : (.code yX7_range cX7_range 3 (some .int) : Cond) ∈ WA := q_wa_33 _ (List.mem_of_getElem? (i := 12) rfl)
theorem wm_1069 : (.methodLink RL 189 yL_find : Cond) ∈ WA := q_wa_33 _ (List.mem_of_getElem? (i := 13) rfl)
theorem wm_1070 : (.static yL_find : Cond) ∈ WA := q_wa_33 _ (List.mem_of_getElem? (i := 14) rfl)
theorem wm_1071 : (.codeWith yL_find cL_find 3 (some .int) [(0, 8, 11, 15), (0, 8, 14, 68), (0, 8, 17, 60)] : Cond) ∈ WA := q_wa_33 _ (List.mem_of_getElem? (i := 15) rfl)
theorem wm_1072 : (.methodLink RL 191 yX7_find : Cond) ∈ WA := q_wa_33 _ (List.mem_of_getElem? (i := 16) rfl)
theorem wm_1073 : (.instanceMethod yX7_find : Cond) ∈ WA := q_wa_33 _ (List.mem_of_getElem? (i := 17) rfl)
theorem wm_1074 : (.selects RX7 yX7_find yX7_find : Cond) ∈ WA := q_wa_33 _ (List.mem_of_getElem? (i := 18) rfl)
theorem wm_1075 : (.code yX7_find cX7_find 12 (some .int) : Cond) ∈ WA := q_wa_33 _ (List.mem_of_getElem? (i := 19) rfl)
theorem wm_1076 : (.methodLink RL 192 yL_goodLines : Cond) ∈ WA := q_wa_33 _ (List.mem_of_getElem? (i := 20) rfl)
theorem wm_1077 : (.static yL_goodLines : Cond) ∈ WA := q_wa_33 _ (List.mem_of_getElem? (i := 21) rfl)
theorem wm_1078 : (.codeWith yL_goodLines cL_goodLines 3 (some .int) [(0, 7, 10, 15), (0, 7, 13, 68)] : Cond) ∈ WA := q_wa_33 _ (List.mem_of_getElem? (i := 22) rfl)
theorem wm_1079 : (.methodLink RL 194 yX7_goodLines : Cond) ∈ WA := q_wa_33 _ (List.mem_of_getElem? (i := 23) rfl)
theorem wm_1080 : (.instanceMethod yX7_goodLines : Cond) ∈ WA := q_wa_33 _ (List.mem_of_getElem? (i := 24) rfl)
theorem wm_1081 : (.selects RX7 yX7_goodLines yX7_goodLines : Cond) ∈ WA := q_wa_33 _ (List.mem_of_getElem? (i := 25) rfl)
theorem wm_1082 : (.code yX7_goodLines cX7_goodLines 6 (some .long) : Cond) ∈ WA := q_wa_33 _ (List.mem_of_getElem? (i := 26) rfl)
theorem wm_1083 : (.methodLink RL 195 yL_bars : Cond) ∈ WA := q_wa_33 _ (List.mem_of_getElem? (i := 27) rfl)
theorem wm_1084 : (.static yL_bars : Cond) ∈ WA := q_wa_33 _ (List.mem_of_getElem? (i := 28) rfl)
theorem wm_1085 : (.codeWith yL_bars cL_bars 3 (some .int) [(0, 8, 11, 15), (0, 8, 14, 68)] : Cond) ∈ WA := q_wa_33 _ (List.mem_of_getElem? (i := 29) rfl)
theorem wm_1086 : (.methodLink RL 197 yX7_bars : Cond) ∈ WA := q_wa_33 _ (List.mem_of_getElem? (i := 30) rfl)
theorem wm_1087 : (.instanceMethod yX7_bars : Cond) ∈ WA := q_wa_33 _ (List.mem_of_getElem? (i := 31) rfl)
theorem wm_1088 : (.selects RX7 yX7_bars yX7_bars : Cond) ∈ WA := q_wa_34 _ (List.mem_of_getElem? (i := 0) rfl)
theorem wm_1089 : (.code yX7_bars cX7_bars 4 (some .int) : Cond) ∈ WA := q_wa_34 _ (List.mem_of_getElem? (i := 1) rfl)
theorem wm_1090 : (.methodLink RL 198 yL_barAt : Cond) ∈ WA := q_wa_34 _ (List.mem_of_getElem? (i := 2) rfl)
theorem wm_1091 : (.static yL_barAt : Cond) ∈ WA := q_wa_34 _ (List.mem_of_getElem? (i := 3) rfl)
theorem wm_1092 : (.codeWith yL_barAt cL_barAt 4 (some .int) [(0, 9, 12, 15), (0, 9, 15, 68), (0, 9, 18, 24)] : Cond) ∈ WA := q_wa_34 _ (List.mem_of_getElem? (i := 4) rfl)
theorem wm_1093 : (.methodLink RL 200 yX7_barAt : Cond) ∈ WA := q_wa_34 _ (List.mem_of_getElem? (i := 5) rfl)
theorem wm_1094 : (.instanceMethod yX7_barAt : Cond) ∈ WA := q_wa_34 _ (List.mem_of_getElem? (i := 6) rfl)
theorem wm_1095 : (.selects RX7 yX7_barAt yX7_barAt : Cond) ∈ WA := q_wa_34 _ (List.mem_of_getElem? (i := 7) rfl)
theorem wm_1096 : (.code yX7_barAt cX7_barAt 6 (some .char) : Cond) ∈ WA := q_wa_34 _ (List.mem_of_getElem? (i := 8) rfl)
theorem wm_1097 : (.methodLink RL 201 yL_exchanged : Cond) ∈ WA := q_wa_34 _ (List.mem_of_getElem? (i := 9) rfl)
theorem wm_1098 : (.static yL_exchanged : Cond) ∈ WA := q_wa_34 _ (List.mem_of_getElem? (i := 10) rfl)
theorem wm_1099 : (.codeWith yL_exchanged cL_exchanged 4 (some .int) [(0, 9, 12, 13), (0, 9, 15, 15)] : Cond) ∈ WA := q_wa_34 _ (List.mem_of_getElem? (i := 11) rfl)
theorem wm_1100 : (.methodLink RL 203 yX7_exchanged : Cond) ∈ WA := q_wa_34 _ (List.mem_of_getElem? (i := 12) rfl)
theorem wm_1101 : (.instanceMethod yX7_exchanged : Cond) ∈ WA := q_wa_34 _ (List.mem_of_getElem? (i := 13) rfl)
theorem wm_1102 : (.selects RX7 yX7_exchanged yX7_exchanged : Cond) ∈ WA := q_wa_34 _ (List.mem_of_getElem? (i := 14) rfl)
theorem wm_1103 : (.code yX7_exchanged cX7_exchanged 5 (some .int) : Cond) ∈ WA := q_wa_34 _ (List.mem_of_getElem? (i := 15) rfl)
theorem wm_1104 : (.methodLink RL 204 yL_canon : Cond) ∈ WA := q_wa_34 _ (List.mem_of_getElem? (i := 16) rfl)
theorem wm_1105 : (.static yL_canon : Cond) ∈ WA := q_wa_34 _ (List.mem_of_getElem? (i := 17) rfl)
theorem wm_1106 : (.codeWith yL_canon cL_canon 5 (some .int) [(0, 10, 13, 13), (0, 10, 17, 15)] : Cond) ∈ WA := q_wa_34 _ (List.mem_of_getElem? (i := 18) rfl)
theorem wm_1107 : (.methodLink RL 206 yX7_canon : Cond) ∈ WA := q_wa_34 _ (List.mem_of_getElem? (i := 19) rfl)
theorem wm_1108 : (.instanceMethod yX7_canon : Cond) ∈ WA := q_wa_34 _ (List.mem_of_getElem? (i := 20) rfl)
theorem wm_1109 : (.selects RX7 yX7_canon yX7_canon : Cond) ∈ WA := q_wa_34 _ (List.mem_of_getElem? (i := 21) rfl)
theorem wm_1110 : (.code yX7_canon cX7_canon 4 (some .int) : Cond) ∈ WA := q_wa_34 _ (List.mem_of_getElem? (i := 22) rfl)
theorem wm_1111 : (.methodLink RL 207 yL_canons : Cond) ∈ WA := q_wa_34 _ (List.mem_of_getElem? (i := 23) rfl)
theorem wm_1112 : (.static yL_canons : Cond) ∈ WA := q_wa_34 _ (List.mem_of_getElem? (i := 24) rfl)
theorem wm_1113 : (.codeWith yL_canons cL_canons 3 (some .int) [(0, 8, 11, 15)] : Cond) ∈ WA := q_wa_34 _ (List.mem_of_getElem? (i := 25) rfl)
theorem wm_1114 : (.methodLink RL 209 yX7_canons : Cond) ∈ WA := q_wa_34 _ (List.mem_of_getElem? (i := 26) rfl)
theorem wm_1115 : (.instanceMethod yX7_canons : Cond) ∈ WA := q_wa_34 _ (List.mem_of_getElem? (i := 27) rfl)
theorem wm_1116 : (.selects RX7 yX7_canons yX7_canons : Cond) ∈ WA := q_wa_34 _ (List.mem_of_getElem? (i := 28) rfl)
theorem wm_1117 : (.code yX7_canons cX7_canons 1 (some .int) : Cond) ∈ WA := q_wa_34 _ (List.mem_of_getElem? (i := 29) rfl)
theorem wm_1118 : (.methodLink RL 210 yL_canonAt : Cond) ∈ WA := q_wa_34 _ (List.mem_of_getElem? (i := 30) rfl)
theorem wm_1119 : (.static yL_canonAt : Cond) ∈ WA := q_wa_34 _ (List.mem_of_getElem? (i := 31) rfl)
theorem wm_1120 : (.codeWith yL_canonAt cL_canonAt 4 (some .int) [(0, 9, 12, 15), (0, 9, 15, 24)] : Cond) ∈ WA := q_wa_35 _ (List.mem_of_getElem? (i := 0) rfl)
theorem wm_1121 : (.methodLink RL 212 yX7_canonAt : Cond) ∈ WA := q_wa_35 _ (List.mem_of_getElem? (i := 1) rfl)
theorem wm_1122 : (.instanceMethod yX7_canonAt : Cond) ∈ WA := q_wa_35 _ (List.mem_of_getElem? (i := 2) rfl)
theorem wm_1123 : (.selects RX7 yX7_canonAt yX7_canonAt : Cond) ∈ WA := q_wa_35 _ (List.mem_of_getElem? (i := 3) rfl)
theorem wm_1124 : (.code yX7_canonAt cX7_canonAt 3 (some .int) : Cond) ∈ WA := q_wa_35 _ (List.mem_of_getElem? (i := 4) rfl)
theorem wm_1125 : (.methodLink RL 213 yL_stepShare : Cond) ∈ WA := q_wa_35 _ (List.mem_of_getElem? (i := 5) rfl)
theorem wm_1126 : (.static yL_stepShare : Cond) ∈ WA := q_wa_35 _ (List.mem_of_getElem? (i := 6) rfl)
theorem wm_1127 : (.codeWith yL_stepShare cL_stepShare 3 (some .int) [(0, 8, 11, 96)] : Cond) ∈ WA := q_wa_35 _ (List.mem_of_getElem? (i := 7) rfl)
theorem wm_1128 : (.methodLink RL 216 yX7_stepShare : Cond) ∈ WA := q_wa_35 _ (List.mem_of_getElem? (i := 8) rfl)
theorem wm_1129 : (.instanceMethod yX7_stepShare : Cond) ∈ WA := q_wa_35 _ (List.mem_of_getElem? (i := 9) rfl)
theorem wm_1130 : (.selects RX7 yX7_stepShare yX7_stepShare : Cond) ∈ WA := q_wa_35 _ (List.mem_of_getElem? (i := 10) rfl)
theorem wm_1131 : (.code yX7_stepShare cX7_stepShare 3 (some .float) : Cond) ∈ WA := q_wa_35 _ (List.mem_of_getElem? (i := 11) rfl)
theorem wm_1132 : (.methodLink RL 217 yL_meanPitch : Cond) ∈ WA := q_wa_35 _ (List.mem_of_getElem? (i := 12) rfl)
theorem wm_1133 : (.static yL_meanPitch : Cond) ∈ WA := q_wa_35 _ (List.mem_of_getElem? (i := 13) rfl)
theorem wm_1134 : (.codeWith yL_meanPitch cL_meanPitch 3 (some .int) [(0, 7, 10, 96)] : Cond) ∈ WA := q_wa_35 _ (List.mem_of_getElem? (i := 14) rfl)
theorem wm_1135 : (.methodLink RL 219 yX7_meanPitch : Cond) ∈ WA := q_wa_35 _ (List.mem_of_getElem? (i := 15) rfl)
theorem wm_1136 : (.instanceMethod yX7_meanPitch : Cond) ∈ WA := q_wa_35 _ (List.mem_of_getElem? (i := 16) rfl)
theorem wm_1137 : (.selects RX7 yX7_meanPitch yX7_meanPitch : Cond) ∈ WA := q_wa_35 _ (List.mem_of_getElem? (i := 17) rfl)
theorem wm_1138 : (.code yX7_meanPitch cX7_meanPitch 3 (some .double) : Cond) ∈ WA := q_wa_35 _ (List.mem_of_getElem? (i := 18) rfl)
theorem wm_1139 : (.methodLink RL 220 yX6_isConsistent : Cond) ∈ WA := q_wa_35 _ (List.mem_of_getElem? (i := 19) rfl)
theorem wm_1140 : (.instanceMethod yX6_isConsistent : Cond) ∈ WA := q_wa_35 _ (List.mem_of_getElem? (i := 20) rfl)
theorem wm_1141 : (.selects RX6 yX6_isConsistent yX6_isConsistent : Cond) ∈ WA := q_wa_35 _ (List.mem_of_getElem? (i := 21) rfl)
theorem wm_1142 : (.code yX6_isConsistent cX6_isConsistent 1 (some .boolean) : Cond) ∈ WA := q_wa_35 _ (List.mem_of_getElem? (i := 22) rfl)
theorem wm_1143 : (.methodLink RL 223 yX7_isConsistent : Cond) ∈ WA := q_wa_35 _ (List.mem_of_getElem? (i := 23) rfl)
theorem wm_1144 : (.instanceMethod yX7_isConsistent : Cond) ∈ WA := q_wa_35 _ (List.mem_of_getElem? (i := 24) rfl)
theorem wm_1145 : (.selects RX7 yX7_isConsistent yX7_isConsistent : Cond) ∈ WA := q_wa_35 _ (List.mem_of_getElem? (i := 25) rfl)
theorem wm_1146 : (.code yX7_isConsistent cX7_isConsistent 1 (some .boolean) : Cond) ∈ WA := q_wa_35 _ (List.mem_of_getElem? (i := 26) rfl)
theorem WA_good : WA.all goodWord = true := by decide +kernel
theorem WA_g {w : Cond} (h : w ∈ WA) : (w.onTables && w.keeps) = true ∨ ∃ ty, w = .arrayClass ty := good_of_word (List.all_eq_true.mp WA_good w h)
theorem gi_c {c0 y0 : Cond} (h5 : y0 ∈ WA) : GoodIn (c0 :: WA) (y0 :: WA) := fun w h => by
  rcases List.mem_cons.mp h with e | e
  · subst e
    exact ⟨List.mem_cons_of_mem _ h5, WA_g h5⟩
  · exact ⟨List.mem_cons_of_mem _ e, WA_g e⟩
theorem gi_V {c0 y0 : Cond} {own C : String} {idx : Nat} {y : MethodName} (h1 : Cond.methodLink own idx y ∈ WA) (h2 : Cond.instanceMethod y ∈ WA) (h3 : Cond.selects C y y ∈ WA) (h4 : Cond.initialized C ∈ WA) (h5 : y0 ∈ WA) : GoodIn (c0 :: WA) (wsV own idx C y (y0 :: WA)) := fun w h => by
  rcases List.mem_append.mp h with h | h
  · have hm : w ∈ WA := by
      simp only [List.mem_cons, List.not_mem_nil, or_false] at h
      rcases h with e | e | e | e <;> subst e <;> assumption
    exact ⟨List.mem_cons_of_mem _ hm, WA_g hm⟩
  · exact gi_c h5 w h
theorem gi_S {c0 y0 : Cond} {own : String} {idx : Nat} {y : MethodName} (h1 : Cond.methodLink own idx y ∈ WA) (h2 : Cond.static y ∈ WA) (h4 : Cond.initialized y.cls ∈ WA) (h5 : y0 ∈ WA) : GoodIn (c0 :: WA) (va_wsS own idx y (y0 :: WA)) := fun w h => by
  rcases List.mem_append.mp h with h | h
  · have hm : w ∈ WA := by
      simp only [List.mem_cons, List.not_mem_nil, or_false] at h
      rcases h with e | e | e <;> subst e <;> assumption
    exact ⟨List.mem_cons_of_mem _ hm, WA_g hm⟩
  · exact gi_c h5 w h
theorem inC_X1 {c0 : Cond} : ∀ w ∈ u_ws RX1 TX1 8, w ∈ c0 :: WA := fun w h => List.mem_cons_of_mem _ (q_wsX10 w h)
theorem inC_X2 {c0 : Cond} : ∀ w ∈ u_ws RX2 TX2 2, w ∈ c0 :: WA := fun w h => List.mem_cons_of_mem _ (q_wsX20 w h)
theorem inC_X3 {c0 : Cond} : ∀ w ∈ u_ws RX3 TX3 3, w ∈ c0 :: WA := fun w h => List.mem_cons_of_mem _ (q_wsX30 w h)
theorem inC_X4 {c0 : Cond} : ∀ w ∈ u_ws RX4 TX4 14, w ∈ c0 :: WA := fun w h => List.mem_cons_of_mem _ (q_wsX40 w h)
theorem inC_X6 {c0 : Cond} : ∀ w ∈ u_ws RX6 TX6 4, w ∈ c0 :: WA := fun w h => List.mem_cons_of_mem _ (q_wsX60 w h)
theorem inC_X7 {c0 : Cond} : ∀ w ∈ u_ws RX7 TX7 14, w ∈ c0 :: WA := fun w h => List.mem_cons_of_mem _ (q_wsX70 w h)
abbrev wsX0_faultsOf : List Cond := (.code yX0_faultsOf cX0_faultsOf 8 (some .int) : Cond) :: WA
abbrev wsX0_farthestOf : List Cond := (.code yX0_farthestOf cX0_farthestOf 1 (some .int) : Cond) :: WA
abbrev wsX0_faultlessCount : List Cond := (.code yX0_faultlessCount cX0_faultlessCount 4 (some .int) : Cond) :: WA
abbrev wsX0_faultlessNumber : List Cond := (.code yX0_faultlessNumber cX0_faultlessNumber 5 (some .int) : Cond) :: WA
abbrev wsX1_init : List Cond := (.code yX1_init cX1_init 1 none : Cond) :: WA
abbrev wsX1_size : List Cond := (.code yX1_size cX1_size 1 (some .int) : Cond) :: WA
abbrev wsX1_append : List Cond := (.code yX1_append cX1_append 2 none : Cond) :: WA
abbrev wsX1_empty : List Cond := (.code yX1_empty cX1_empty 1 none : Cond) :: WA
abbrev wsX1_perGiven : List Cond := (.code yX1_perGiven cX1_perGiven 1 (some .int) : Cond) :: WA
abbrev wsX1_setPerGiven : List Cond := (.code yX1_setPerGiven cX1_setPerGiven 2 none : Cond) :: WA
abbrev wsX1_isBelow : List Cond := (.code yX1_isBelow cX1_isBelow 1 (some .boolean) : Cond) :: WA
abbrev wsX1_setBelow : List Cond := (.code yX1_setBelow cX1_setBelow 2 none : Cond) :: WA
abbrev wsX1_isFeigning : List Cond := (.code yX1_isFeigning cX1_isFeigning 1 (some .boolean) : Cond) :: WA
abbrev wsX1_setFeigning : List Cond := (.code yX1_setFeigning cX1_setFeigning 2 none : Cond) :: WA
abbrev wsX1_lowest : List Cond := (.code yX1_lowest cX1_lowest 1 (some .int) : Cond) :: WA
abbrev wsX1_width : List Cond := (.code yX1_width cX1_width 1 (some .int) : Cond) :: WA
abbrev wsX1_setRange : List Cond := (.code yX1_setRange cX1_setRange 3 none : Cond) :: WA
abbrev wsX1_changes : List Cond := (.code yX1_changes cX1_changes 1 (some .int) : Cond) :: WA
abbrev wsX1_room : List Cond := (.code yX1_room cX1_room 1 (some .int) : Cond) :: WA
abbrev wsX1_isStrong : List Cond := (.code yX1_isStrong cX1_isStrong 2 (some .boolean) : Cond) :: WA
abbrev wsX1_against : List Cond := (.code yX1_against cX1_against 3 (some .int) : Cond) :: WA
abbrev wsX1_stepTo : List Cond := (.code yX1_stepTo cX1_stepTo 2 (some .int) : Cond) :: WA
abbrev wsX2_init : List Cond := (.code yX2_init cX2_init 1 none : Cond) :: WA
abbrev wsX2_signOf : List Cond := (.code yX2_signOf cX2_signOf 1 (some .char) : Cond) :: WA
abbrev wsX2_nthOf : List Cond := (.code yX2_nthOf cX2_nthOf 4 (some .int) : Cond) :: WA
abbrev wsX2_weightOf : List Cond := (.code yX2_weightOf cX2_weightOf 2 (some .int) : Cond) :: WA
abbrev wsX2_setWeight : List Cond := (.code yX2_setWeight cX2_setWeight 3 none : Cond) :: WA
abbrev wsX2_adopt : List Cond := (.code yX2_adopt cX2_adopt 5 (some .int) : Cond) :: WA
abbrev wsX2_changes : List Cond := (.code yX2_changes cX2_changes 1 (some .int) : Cond) :: WA
abbrev wsX2_weighing : List Cond := (.code yX2_weighing cX2_weighing 4 (some .int) : Cond) :: WA
abbrev wsX2_costOf : List Cond := (.code yX2_costOf cX2_costOf 4 (some .int) : Cond) :: WA
abbrev wsX3_init : List Cond := (.code yX3_init cX3_init 2 none : Cond) :: WA
abbrev wsX3_length : List Cond := (.code yX3_length cX3_length 1 (some .int) : Cond) :: WA
abbrev wsX3_has : List Cond := (.code yX3_has cX3_has 2 (some .boolean) : Cond) :: WA
abbrev wsX3_isFull : List Cond := (.code yX3_isFull cX3_isFull 1 (some .boolean) : Cond) :: WA
abbrev wsX3_isWhole : List Cond := (.code yX3_isWhole cX3_isWhole 1 (some .boolean) : Cond) :: WA
abbrev wsX3_toneAt : List Cond := (.code yX3_toneAt cX3_toneAt 2 (some .int) : Cond) :: WA
abbrev wsX3_put : List Cond := (.code yX3_put cX3_put 3 none : Cond) :: WA
abbrev wsX3_append : List Cond := (.code yX3_append cX3_append 2 none : Cond) :: WA
abbrev wsX3_stretch : List Cond := (.code yX3_stretch cX3_stretch 2 none : Cond) :: WA
abbrev wsX3_stepTo : List Cond := (.code yX3_stepTo cX3_stepTo 2 (some .int) : Cond) :: WA
abbrev wsX3_heightAt : List Cond := (.code yX3_heightAt cX3_heightAt 5 (some .int) : Cond) :: WA
abbrev wsX3_gapAt : List Cond := (.code yX3_gapAt cX3_gapAt 3 (some .int) : Cond) :: WA
abbrev wsX3_faultsAt : List Cond := (.code yX3_faultsAt cX3_faultsAt 2 (some .int) : Cond) :: WA
abbrev wsX3_nearFaults : List Cond := (.code yX3_nearFaults cX3_nearFaults 6 (some .int) : Cond) :: WA
abbrev wsX3_comesByContrarySteps : List Cond := (.code yX3_comesByContrarySteps cX3_comesByContrarySteps 3 (some .boolean) : Cond) :: WA
abbrev wsX3_parallels : List Cond := (.code yX3_parallels cX3_parallels 7 (some .int) : Cond) :: WA
abbrev wsX3_moves : List Cond := (.code yX3_moves cX3_moves 6 (some .int) : Cond) :: WA
abbrev wsX3_farFaults : List Cond := (.code yX3_farFaults cX3_farFaults 7 (some .int) : Cond) :: WA
abbrev wsX3_bothMovedSinceStrong : List Cond := (.code yX3_bothMovedSinceStrong cX3_bothMovedSinceStrong 3 (some .boolean) : Cond) :: WA
abbrev wsX3_faultNumber : List Cond := (.code yX3_faultNumber cX3_faultNumber 7 (some .int) : Cond) :: WA
abbrev wsX3_costBetween : List Cond := (.code yX3_costBetween cX3_costBetween 6 (some .int) : Cond) :: WA
abbrev wsX3_isFree : List Cond := (.code yX3_isFree cX3_isFree 3 (some .boolean) : Cond) :: WA
abbrev wsX3_costAround : List Cond := (.code yX3_costAround cX3_costAround 3 (some .int) : Cond) :: WA
abbrev wsX4_init : List Cond := (.code yX4_init cX4_init 3 none : Cond) :: WA
abbrev wsX4_prepare : List Cond := (.code yX4_prepare cX4_prepare 2 none : Cond) :: WA
abbrev wsX4_makeMasks : List Cond := (.code yX4_makeMasks cX4_makeMasks 9 none : Cond) :: WA
abbrev wsX4_choices : List Cond := (.code yX4_choices cX4_choices 2 (some .int) : Cond) :: WA
abbrev wsX4_maskPlace : List Cond := (.code yX4_maskPlace cX4_maskPlace 5 (some .int) : Cond) :: WA
abbrev wsX4_maskAt : List Cond := (.code yX4_maskAt cX4_maskAt 6 (some .int) : Cond) :: WA
abbrev wsX4_slotAheadOf : List Cond := (.code yX4_slotAheadOf cX4_slotAheadOf 3 (some .int) : Cond) :: WA
abbrev wsX4_tailPlace : List Cond := (.code yX4_tailPlace cX4_tailPlace 4 (some .int) : Cond) :: WA
abbrev wsX4_tailAt : List Cond := (.code yX4_tailAt cX4_tailAt 5 (some .int) : Cond) :: WA
abbrev wsX4_waysAt : List Cond := (.code yX4_waysAt cX4_waysAt 5 (some .long) : Cond) :: WA
abbrev wsX4_priceOf : List Cond := (.code yX4_priceOf cX4_priceOf 3 (some .int) : Cond) :: WA
abbrev wsX4_sweep : List Cond := (.code yX4_sweep cX4_sweep 3 (some .int) : Cond) :: WA
abbrev wsX4_emptyRow : List Cond := (.code yX4_emptyRow cX4_emptyRow 5 none : Cond) :: WA
abbrev wsX4_sweepEnd : List Cond := (.code yX4_sweepEnd cX4_sweepEnd 7 none : Cond) :: WA
abbrev wsX4_sweepPlace : List Cond := (.code yX4_sweepPlace cX4_sweepPlace 6 none : Cond) :: WA
abbrev wsX4_putAhead : List Cond := (.code yX4_putAhead cX4_putAhead 12 none : Cond) :: WA
abbrev wsX4_goodCount : List Cond := (.code yX4_goodCount cX4_goodCount 1 (some .long) : Cond) :: WA
abbrev wsX4_writeBest : List Cond := (.code yX4_writeBest cX4_writeBest 7 none : Cond) :: WA
abbrev wsX4_bestNext : List Cond := (.code yX4_bestNext cX4_bestNext 7 (some .int) : Cond) :: WA
abbrev wsX4_writeBestEnd : List Cond := (.code yX4_writeBestEnd cX4_writeBestEnd 9 none : Cond) :: WA
abbrev wsX4_barring : List Cond := (.code yX4_barring cX4_barring 3 (some .int) : Cond) :: WA
abbrev wsX4_agreesWithTryingAll : List Cond := (.code yX4_agreesWithTryingAll cX4_agreesWithTryingAll 10 (some .boolean) : Cond) :: WA
abbrev wsX4_startTrying : List Cond := (.code yX4_startTrying cX4_startTrying 3 (some .int) : Cond) :: WA
abbrev wsX4_tryNext : List Cond := (.code yX4_tryNext cX4_tryNext 3 none : Cond) :: WA
abbrev wsX4_isSketched : List Cond := (.code yX4_isSketched cX4_isSketched 2 (some .boolean) : Cond) :: WA
abbrev wsX5_isNote : List Cond := (.code yX5_isNote cX5_isNote 1 (some .boolean) : Cond) :: WA
abbrev wsX5_heightOf : List Cond := (.code yX5_heightOf cX5_heightOf 3 (some .int) : Cond) :: WA
abbrev wsX5_gap : List Cond := (.code yX5_gap cX5_gap 2 (some .int) : Cond) :: WA
abbrev wsX5_plainGap : List Cond := (.code yX5_plainGap cX5_plainGap 2 (some .int) : Cond) :: WA
abbrev wsX5_isFifth : List Cond := (.code yX5_isFifth cX5_isFifth 1 (some .boolean) : Cond) :: WA
abbrev wsX5_isUnison : List Cond := (.code yX5_isUnison cX5_isUnison 1 (some .boolean) : Cond) :: WA
abbrev wsX5_isPerfect : List Cond := (.code yX5_isPerfect cX5_isPerfect 1 (some .boolean) : Cond) :: WA
abbrev wsX5_isImperfect : List Cond := (.code yX5_isImperfect cX5_isImperfect 1 (some .boolean) : Cond) :: WA
abbrev wsX5_isDissonant : List Cond := (.code yX5_isDissonant cX5_isDissonant 1 (some .boolean) : Cond) :: WA
abbrev wsX5_signOf : List Cond := (.code yX5_signOf cX5_signOf 1 (some .char) : Cond) :: WA
abbrev wsX6_init : List Cond := (.code yX6_init cX6_init 1 none : Cond) :: WA
abbrev wsX6_given : List Cond := (.code yX6_given cX6_given 2 (some .int) : Cond) :: WA
abbrev wsX6_other : List Cond := (.code yX6_other cX6_other 2 (some .int) : Cond) :: WA
abbrev wsX6_change : List Cond := (.code yX6_change cX6_change 4 (some .int) : Cond) :: WA
abbrev wsX6_clear : List Cond := (.code yX6_clear cX6_clear 3 (some .int) : Cond) :: WA
abbrev wsX6_ratio : List Cond := (.code yX6_ratio cX6_ratio 3 (some .int) : Cond) :: WA
abbrev wsX6_lower : List Cond := (.code yX6_lower cX6_lower 3 (some .boolean) : Cond) :: WA
abbrev wsX6_feign : List Cond := (.code yX6_feign cX6_feign 3 (some .boolean) : Cond) :: WA
abbrev wsX6_notes : List Cond := (.code yX6_notes cX6_notes 1 (some .int) : Cond) :: WA
abbrev wsX6_noteAt : List Cond := (.code yX6_noteAt cX6_noteAt 2 (some .int) : Cond) :: WA
abbrev wsX6_pitch : List Cond := (.code yX6_pitch cX6_pitch 2 (some .int) : Cond) :: WA
abbrev wsX6_interval : List Cond := (.code yX6_interval cX6_interval 2 (some .char) : Cond) :: WA
abbrev wsX6_setLaw : List Cond := (.code yX6_setLaw cX6_setLaw 5 (some .int) : Cond) :: WA
abbrev wsX6_weight : List Cond := (.code yX6_weight cX6_weight 3 (some .int) : Cond) :: WA
abbrev wsX6_style : List Cond := (.code yX6_style cX6_style 2 (some .int) : Cond) :: WA
abbrev wsX6_faults : List Cond := (.code yX6_faults cX6_faults 4 (some .int) : Cond) :: WA
abbrev wsX6_faultAt : List Cond := (.code yX6_faultAt cX6_faultAt 2 (some .int) : Cond) :: WA
abbrev wsX6_faultOf : List Cond := (.code yX6_faultOf cX6_faultOf 2 (some .char) : Cond) :: WA
abbrev wsX6_cost : List Cond := (.code yX6_cost cX6_cost 1 (some .int) : Cond) :: WA
abbrev wsX6_isGood : List Cond := (.code yX6_isGood cX6_isGood 1 (some .boolean) : Cond) :: WA
abbrev wsX6_mend : List Cond := (.code yX6_mend cX6_mend 9 (some .int) : Cond) :: WA
abbrev wsX6_range : List Cond := (.code yX6_range cX6_range 3 (some .int) : Cond) :: WA
abbrev wsX6_find : List Cond := (.code yX6_find cX6_find 4 (some .int) : Cond) :: WA
abbrev wsX6_goodLines : List Cond := (.code yX6_goodLines cX6_goodLines 2 (some .long) : Cond) :: WA
abbrev wsX6_bars : List Cond := (.code yX6_bars cX6_bars 1 (some .int) : Cond) :: WA
abbrev wsX6_barAt : List Cond := (.code yX6_barAt cX6_barAt 3 (some .char) : Cond) :: WA
abbrev wsX6_readySearch : List Cond := (.code yX6_readySearch cX6_readySearch 1 (some (.object "Counterpointery$Search")) : Cond) :: WA
abbrev wsX6_exchanged : List Cond := (.code yX6_exchanged cX6_exchanged 5 (some .int) : Cond) :: WA
abbrev wsX6_canon : List Cond := (.code yX6_canon cX6_canon 3 (some .int) : Cond) :: WA
abbrev wsX6_canons : List Cond := (.code yX6_canons cX6_canons 1 (some .int) : Cond) :: WA
abbrev wsX6_canonAt : List Cond := (.code yX6_canonAt cX6_canonAt 3 (some .int) : Cond) :: WA
abbrev wsX6_stepShare : List Cond := (.code yX6_stepShare cX6_stepShare 4 (some .float) : Cond) :: WA
abbrev wsX6_meanPitch : List Cond := (.code yX6_meanPitch cX6_meanPitch 4 (some .double) : Cond) :: WA
abbrev wsX6_isConsistent : List Cond := (.code yX6_isConsistent cX6_isConsistent 1 (some .boolean) : Cond) :: WA
abbrev wsX6_costIsSumOfFaults : List Cond := (.code yX6_costIsSumOfFaults cX6_costIsSumOfFaults 7 (some .boolean) : Cond) :: WA
abbrev wsX6_canTryAll : List Cond := (.code yX6_canTryAll cX6_canTryAll 1 (some .boolean) : Cond) :: WA
abbrev wsX6_requireNote : List Cond := (.code yX6_requireNote cX6_requireNote 2 none : Cond) :: WA
abbrev wsX6_requireIndex : List Cond := (.code yX6_requireIndex cX6_requireIndex 2 none : Cond) :: WA
abbrev wsX6_requiredLaw : List Cond := (.code yX6_requiredLaw cX6_requiredLaw 3 (some .int) : Cond) :: WA
abbrev wsX6_requiredFault : List Cond := (.code yX6_requiredFault cX6_requiredFault 3 (some .int) : Cond) :: WA
abbrev wsX6_requireWhole : List Cond := (.code yX6_requireWhole cX6_requireWhole 1 none : Cond) :: WA
abbrev wsX6_requireTwoNotes : List Cond := (.code yX6_requireTwoNotes cX6_requireTwoNotes 1 none : Cond) :: WA
abbrev wsX6_requireSearchable : List Cond := (.code yX6_requireSearchable cX6_requireSearchable 1 none : Cond) :: WA
abbrev wsX7_init : List Cond := (.code yX7_init cX7_init 2 none : Cond) :: WA
abbrev wsX7_thrown : List Cond := (.code yX7_thrown cX7_thrown 1 (some .int) : Cond) :: WA
abbrev wsX7_in : List Cond := (.code yX7_in cX7_in 3 (some .boolean) : Cond) :: WA
abbrev wsX7_goesOn : List Cond := (.code yX7_goesOn cX7_goesOn 2 (some .boolean) : Cond) :: WA
abbrev wsX7_size : List Cond := (.code yX7_size cX7_size 1 (some .int) : Cond) :: WA
abbrev wsX7_sign : List Cond := (.code yX7_sign cX7_sign 1 (some .int) : Cond) :: WA
abbrev wsX7_white : List Cond := (.code yX7_white cX7_white 1 (some .int) : Cond) :: WA
abbrev wsX7_pitchOf : List Cond := (.code yX7_pitchOf cX7_pitchOf 2 (some .int) : Cond) :: WA
abbrev wsX7_most : List Cond := (.code yX7_most cX7_most 1 (some .int) : Cond) :: WA
abbrev wsX7_isWhole : List Cond := (.code yX7_isWhole cX7_isWhole 1 (some .boolean) : Cond) :: WA
abbrev wsX7_givenOf : List Cond := (.code yX7_givenOf cX7_givenOf 2 (some .int) : Cond) :: WA
abbrev wsX7_isStrong : List Cond := (.code yX7_isStrong cX7_isStrong 2 (some .boolean) : Cond) :: WA
abbrev wsX7_pitchAt : List Cond := (.code yX7_pitchAt cX7_pitchAt 5 (some .int) : Cond) :: WA
abbrev wsX7_kind : List Cond := (.code yX7_kind cX7_kind 6 (some .int) : Cond) :: WA
abbrev wsX7_kindAt : List Cond := (.code yX7_kindAt cX7_kindAt 4 (some .int) : Cond) :: WA
abbrev wsX7_letterOf : List Cond := (.code yX7_letterOf cX7_letterOf 1 (some .char) : Cond) :: WA
abbrev wsX7_lawOf : List Cond := (.code yX7_lawOf cX7_lawOf 3 (some .int) : Cond) :: WA
abbrev wsX7_move : List Cond := (.code yX7_move cX7_move 2 (some .int) : Cond) :: WA
abbrev wsX7_givenMove : List Cond := (.code yX7_givenMove cX7_givenMove 2 (some .int) : Cond) :: WA
abbrev wsX7_endsBadly : List Cond := (.code yX7_endsBadly cX7_endsBadly 5 (some .boolean) : Cond) :: WA
abbrev wsX7_passesBadly : List Cond := (.code yX7_passesBadly cX7_passesBadly 5 (some .boolean) : Cond) :: WA
abbrev wsX7_isParallel : List Cond := (.code yX7_isParallel cX7_isParallel 6 (some .boolean) : Cond) :: WA
abbrev wsX7_isHidden : List Cond := (.code yX7_isHidden cX7_isHidden 4 (some .boolean) : Cond) :: WA
abbrev wsX7_leapsBadly : List Cond := (.code yX7_leapsBadly cX7_leapsBadly 5 (some .boolean) : Cond) :: WA
abbrev wsX7_isUnanswered : List Cond := (.code yX7_isUnanswered cX7_isUnanswered 3 (some .boolean) : Cond) :: WA
abbrev wsX7_isFault : List Cond := (.code yX7_isFault cX7_isFault 6 (some .boolean) : Cond) :: WA
abbrev wsX7_isNote : List Cond := (.code yX7_isNote cX7_isNote 1 (some .boolean) : Cond) :: WA
abbrev wsX7_given : List Cond := (.code yX7_given cX7_given 2 (some .int) : Cond) :: WA
abbrev wsX7_other : List Cond := (.code yX7_other cX7_other 2 (some .int) : Cond) :: WA
abbrev wsX7_has : List Cond := (.code yX7_has cX7_has 2 (some .boolean) : Cond) :: WA
abbrev wsX7_change : List Cond := (.code yX7_change cX7_change 4 (some .int) : Cond) :: WA
abbrev wsX7_clear : List Cond := (.code yX7_clear cX7_clear 3 (some .int) : Cond) :: WA
abbrev wsX7_ratio : List Cond := (.code yX7_ratio cX7_ratio 3 (some .int) : Cond) :: WA
abbrev wsX7_lower : List Cond := (.code yX7_lower cX7_lower 3 (some .boolean) : Cond) :: WA
abbrev wsX7_feign : List Cond := (.code yX7_feign cX7_feign 3 (some .boolean) : Cond) :: WA
abbrev wsX7_notes : List Cond := (.code yX7_notes cX7_notes 1 (some .int) : Cond) :: WA
abbrev wsX7_noteAt : List Cond := (.code yX7_noteAt cX7_noteAt 2 (some .int) : Cond) :: WA
abbrev wsX7_pitch : List Cond := (.code yX7_pitch cX7_pitch 2 (some .int) : Cond) :: WA
abbrev wsX7_interval : List Cond := (.code yX7_interval cX7_interval 3 (some .char) : Cond) :: WA
abbrev wsX7_setLaw : List Cond := (.code yX7_setLaw cX7_setLaw 5 (some .int) : Cond) :: WA
abbrev wsX7_weight : List Cond := (.code yX7_weight cX7_weight 3 (some .int) : Cond) :: WA
abbrev wsX7_styled : List Cond := (.code yX7_styled cX7_styled 3 (some .int) : Cond) :: WA
abbrev wsX7_style : List Cond := (.code yX7_style cX7_style 4 (some .int) : Cond) :: WA
abbrev wsX7_faultsUpTo : List Cond := (.code yX7_faultsUpTo cX7_faultsUpTo 5 (some .int) : Cond) :: WA
abbrev wsX7_faults : List Cond := (.code yX7_faults cX7_faults 1 (some .int) : Cond) :: WA
abbrev wsX7_faultWith : List Cond := (.code yX7_faultWith cX7_faultWith 3 (some .int) : Cond) :: WA
abbrev wsX7_faultAt : List Cond := (.code yX7_faultAt cX7_faultAt 3 (some .int) : Cond) :: WA
abbrev wsX7_faultOf : List Cond := (.code yX7_faultOf cX7_faultOf 3 (some .char) : Cond) :: WA
abbrev wsX7_costNow : List Cond := (.code yX7_costNow cX7_costNow 4 (some .int) : Cond) :: WA
abbrev wsX7_cost : List Cond := (.code yX7_cost cX7_cost 1 (some .int) : Cond) :: WA
abbrev wsX7_isGood : List Cond := (.code yX7_isGood cX7_isGood 4 (some .boolean) : Cond) :: WA
abbrev wsX7_mend : List Cond := (.code yX7_mend cX7_mend 9 (some .int) : Cond) :: WA
abbrev wsX7_range : List Cond := (.code yX7_range cX7_range 3 (some .int) : Cond) :: WA
abbrev wsX7_costAt : List Cond := (.code yX7_costAt cX7_costAt 8 (some .int) : Cond) :: WA
abbrev wsX7_paid : List Cond := (.code yX7_paid cX7_paid 5 (some .int) : Cond) :: WA
abbrev wsX7_reckons : List Cond := (.code yX7_reckons cX7_reckons 10 none : Cond) :: WA
abbrev wsX7_paidFirst : List Cond := (.code yX7_paidFirst cX7_paidFirst 2 (some .int) : Cond) :: WA
abbrev wsX7_leastCost : List Cond := (.code yX7_leastCost cX7_leastCost 6 (some .int) : Cond) :: WA
abbrev wsX7_keepsLine : List Cond := (.code yX7_keepsLine cX7_keepsLine 4 (some .boolean) : Cond) :: WA
abbrev wsX7_searchFault : List Cond := (.code yX7_searchFault cX7_searchFault 1 (some .int) : Cond) :: WA
abbrev wsX7_find : List Cond := (.code yX7_find cX7_find 12 (some .int) : Cond) :: WA
abbrev wsX7_goodWith : List Cond := (.code yX7_goodWith cX7_goodWith 6 (some .long) : Cond) :: WA
abbrev wsX7_goodLines : List Cond := (.code yX7_goodLines cX7_goodLines 6 (some .long) : Cond) :: WA
abbrev wsX7_bar : List Cond := (.code yX7_bar cX7_bar 6 (some .int) : Cond) :: WA
abbrev wsX7_bars : List Cond := (.code yX7_bars cX7_bars 4 (some .int) : Cond) :: WA
abbrev wsX7_barAt : List Cond := (.code yX7_barAt cX7_barAt 6 (some .char) : Cond) :: WA
abbrev wsX7_exchanged : List Cond := (.code yX7_exchanged cX7_exchanged 5 (some .int) : Cond) :: WA
abbrev wsX7_together : List Cond := (.code yX7_together cX7_together 5 (some .int) : Cond) :: WA
abbrev wsX7_canonFaults : List Cond := (.code yX7_canonFaults cX7_canonFaults 6 (some .int) : Cond) :: WA
abbrev wsX7_canon : List Cond := (.code yX7_canon cX7_canon 4 (some .int) : Cond) :: WA
abbrev wsX7_canonsUpTo : List Cond := (.code yX7_canonsUpTo cX7_canonsUpTo 5 (some .int) : Cond) :: WA
abbrev wsX7_canons : List Cond := (.code yX7_canons cX7_canons 1 (some .int) : Cond) :: WA
abbrev wsX7_canonAt : List Cond := (.code yX7_canonAt cX7_canonAt 3 (some .int) : Cond) :: WA
abbrev wsX7_stepShare : List Cond := (.code yX7_stepShare cX7_stepShare 3 (some .float) : Cond) :: WA
abbrev wsX7_meanPitch : List Cond := (.code yX7_meanPitch cX7_meanPitch 3 (some .double) : Cond) :: WA
abbrev wsX7_isConsistent : List Cond := (.code yX7_isConsistent cX7_isConsistent 1 (some .boolean) : Cond) :: WA
abbrev wsJ11_isValidCodePoint_9a6ad : List Cond := (.code yJ11_isValidCodePoint_9a6ad cJ11_isValidCodePoint_9a6ad 2 (some .boolean) : Cond) :: WA
abbrev wsJ11_highSurrogate_5068e : List Cond := (.code yJ11_highSurrogate_5068e cJ11_highSurrogate_5068e 1 (some .char) : Cond) :: WA
abbrev wsJ11_lowSurrogate_5068e : List Cond := (.code yJ11_lowSurrogate_5068e cJ11_lowSurrogate_5068e 1 (some .char) : Cond) :: WA
abbrev wsJ6_bitCount_0f7a4 : List Cond := (.code yJ6_bitCount_0f7a4 cJ6_bitCount_0f7a4 1 (some .int) : Cond) :: WA
abbrev wsJ0_length_8abf5 : List Cond := (.code yJ0_length_8abf5 cJ0_length_8abf5 1 (some .int) : Cond) :: WA
abbrev wsJ0_charAt_5068e : List Cond := (.code yJ0_charAt_5068e cJ0_charAt_5068e 2 (some .char) : Cond) :: WA
abbrev wsJ0_indexOf_0f7a4 : List Cond := (.code yJ0_indexOf_0f7a4 cJ0_indexOf_0f7a4 2 (some .int) : Cond) :: WA
abbrev wsJ0_indexOf_7cf53 : List Cond := (.code yJ0_indexOf_7cf53 cJ0_indexOf_7cf53 3 (some .int) : Cond) :: WA
abbrev wsJ0_coder_7d493 : List Cond := (.code yJ0_coder_7d493 cJ0_coder_7d493 1 (some .byte) : Cond) :: WA
abbrev wsJ0_isLatin1_aae02 : List Cond := (.code yJ0_isLatin1_aae02 cJ0_isLatin1_aae02 1 (some .boolean) : Cond) :: WA
abbrev wsJ0_checkIndex_df160 : List Cond := (.code yJ0_checkIndex_df160 cJ0_checkIndex_df160 2 none : Cond) :: WA
abbrev wsJ0_checkBoundsBeginEnd_23922 : List Cond := (.code yJ0_checkBoundsBeginEnd_23922 cJ0_checkBoundsBeginEnd_23922 3 none : Cond) :: WA
abbrev wsJ1_charAt_3b067 : List Cond := (.code yJ1_charAt_3b067 cJ1_charAt_3b067 2 (some .char) : Cond) :: WA
abbrev wsJ1_canEncode_9a6ad : List Cond := (.code yJ1_canEncode_9a6ad cJ1_canEncode_9a6ad 1 (some .boolean) : Cond) :: WA
abbrev wsJ1_indexOf_4cfef : List Cond := (.code yJ1_indexOf_4cfef cJ1_indexOf_4cfef 4 (some .int) : Cond) :: WA
abbrev wsJ1_indexOfChar_4cfef : List Cond := (.code yJ1_indexOfChar_4cfef cJ1_indexOfChar_4cfef 6 (some .int) : Cond) :: WA
abbrev wsJ2_getChar_3b067 : List Cond := (.code yJ2_getChar_3b067 cJ2_getChar_3b067 2 (some .char) : Cond) :: WA
abbrev wsJ2_length_9d52b : List Cond := (.code yJ2_length_9d52b cJ2_length_9d52b 1 (some .int) : Cond) :: WA
abbrev wsJ2_indexOf_4cfef : List Cond := (.code yJ2_indexOf_4cfef cJ2_indexOf_4cfef 4 (some .int) : Cond) :: WA
abbrev wsJ2_indexOfChar_4cfef : List Cond := (.code yJ2_indexOfChar_4cfef cJ2_indexOfChar_4cfef 4 (some .int) : Cond) :: WA
abbrev wsJ2_indexOfCharUnsafe_4cfef : List Cond := (.code yJ2_indexOfCharUnsafe_4cfef cJ2_indexOfCharUnsafe_4cfef 5 (some .int) : Cond) :: WA
abbrev wsJ2_indexOfSupplementary_4cfef : List Cond := (.code yJ2_indexOfSupplementary_4cfef cJ2_indexOfSupplementary_4cfef 7 (some .int) : Cond) :: WA
abbrev wsJ2_charAt_3b067 : List Cond := (.code yJ2_charAt_3b067 cJ2_charAt_3b067 2 (some .char) : Cond) :: WA
abbrev wsJ2_checkIndex_2214a : List Cond := (.code yJ2_checkIndex_2214a cJ2_checkIndex_2214a 2 none : Cond) :: WA
abbrev wsJ2_checkBoundsBeginEnd_d044e : List Cond := (.code yJ2_checkBoundsBeginEnd_d044e cJ2_checkBoundsBeginEnd_d044e 3 none : Cond) :: WA
abbrev wsJ3_checkIndex_8e157 : List Cond := (.code yJ3_checkIndex_8e157 cJ3_checkIndex_8e157 3 (some .int) : Cond) :: WA
abbrev wsJ3_checkFromToIndex_8c36e : List Cond := (.code yJ3_checkFromToIndex_8c36e cJ3_checkFromToIndex_8c36e 4 (some .int) : Cond) :: WA
abbrev wsL_given : List Cond := (.codeWith yL_given cL_given 4 (some .int) [(0, 9, 12, 13), (0, 9, 15, 15)] : Cond) :: WA
abbrev wsL_other : List Cond := (.codeWith yL_other cL_other 4 (some .int) [(0, 9, 12, 13), (0, 9, 15, 15)] : Cond) :: WA
abbrev wsL_change : List Cond := (.codeWith yL_change cL_change 5 (some .int) [(0, 10, 13, 24), (0, 10, 17, 13)] : Cond) :: WA
abbrev wsL_ratio : List Cond := (.codeWith yL_ratio cL_ratio 4 (some .int) [(0, 9, 12, 13)] : Cond) :: WA
abbrev wsL_noteAt : List Cond := (.codeWith yL_noteAt cL_noteAt 4 (some .int) [(0, 9, 12, 24)] : Cond) :: WA
abbrev wsL_pitch : List Cond := (.codeWith yL_pitch cL_pitch 4 (some .int) [(0, 9, 12, 24)] : Cond) :: WA
abbrev wsL_interval : List Cond := (.codeWith yL_interval cL_interval 4 (some .int) [(0, 9, 12, 24)] : Cond) :: WA
abbrev wsL_setLaw : List Cond := (.codeWith yL_setLaw cL_setLaw 5 (some .int) [(0, 10, 13, 13)] : Cond) :: WA
abbrev wsL_weight : List Cond := (.codeWith yL_weight cL_weight 4 (some .int) [(0, 9, 12, 13)] : Cond) :: WA
abbrev wsL_style : List Cond := (.codeWith yL_style cL_style 4 (some .int) [(0, 9, 12, 13)] : Cond) :: WA
abbrev wsL_faultAt : List Cond := (.codeWith yL_faultAt cL_faultAt 4 (some .int) [(0, 9, 12, 24)] : Cond) :: WA
abbrev wsL_faultOf : List Cond := (.codeWith yL_faultOf cL_faultOf 4 (some .int) [(0, 9, 12, 24)] : Cond) :: WA
abbrev wsL_mend : List Cond := (.codeWith yL_mend cL_mend 3 (some .int) [(0, 8, 11, 15), (0, 8, 14, 60)] : Cond) :: WA
abbrev wsL_range : List Cond := (.codeWith yL_range cL_range 5 (some .int) [(0, 10, 13, 13)] : Cond) :: WA
abbrev wsL_find : List Cond := (.codeWith yL_find cL_find 3 (some .int) [(0, 8, 11, 15), (0, 8, 14, 68), (0, 8, 17, 60)] : Cond) :: WA
abbrev wsL_goodLines : List Cond := (.codeWith yL_goodLines cL_goodLines 3 (some .int) [(0, 7, 10, 15), (0, 7, 13, 68)] : Cond) :: WA
abbrev wsL_bars : List Cond := (.codeWith yL_bars cL_bars 3 (some .int) [(0, 8, 11, 15), (0, 8, 14, 68)] : Cond) :: WA
abbrev wsL_barAt : List Cond := (.codeWith yL_barAt cL_barAt 4 (some .int) [(0, 9, 12, 15), (0, 9, 15, 68), (0, 9, 18, 24)] : Cond) :: WA
abbrev wsL_exchanged : List Cond := (.codeWith yL_exchanged cL_exchanged 4 (some .int) [(0, 9, 12, 13), (0, 9, 15, 15)] : Cond) :: WA
abbrev wsL_canon : List Cond := (.codeWith yL_canon cL_canon 5 (some .int) [(0, 10, 13, 13), (0, 10, 17, 15)] : Cond) :: WA
abbrev wsL_canons : List Cond := (.codeWith yL_canons cL_canons 3 (some .int) [(0, 8, 11, 15)] : Cond) :: WA
abbrev wsL_canonAt : List Cond := (.codeWith yL_canonAt cL_canonAt 4 (some .int) [(0, 9, 12, 15), (0, 9, 15, 24)] : Cond) :: WA
abbrev wsL_stepShare : List Cond := (.codeWith yL_stepShare cL_stepShare 3 (some .int) [(0, 8, 11, 96)] : Cond) :: WA
abbrev wsL_meanPitch : List Cond := (.codeWith yL_meanPitch cL_meanPitch 3 (some .int) [(0, 7, 10, 96)] : Cond) :: WA

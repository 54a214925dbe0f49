/-! methods, and what the tables say of fields, calls, constants -/
abbrev m_X0_doSecond : MD := (yX0_doSecond, cX0_doSecond, 2, none, 6)
abbrev m_X0_addDue : MD := (yX0_addDue, cX0_addDue, 3, (some .int), 0)
abbrev m_X0_beginDue : MD := (yX0_beginDue, cX0_beginDue, 3, none, 1)
abbrev m_X0_install : MD := (yX0_install, cX0_install, 7, none, 3)
abbrev m_X0_begin : MD := (yX0_begin, cX0_begin, 2, none, 0)
abbrev m_X0_stop : MD := (yX0_stop, cX0_stop, 2, none, 0)
abbrev m_X0_goTo : MD := (yX0_goTo, cX0_goTo, 4, none, 1)
abbrev m_X0_goOn : MD := (yX0_goOn, cX0_goOn, 4, none, 5)
abbrev m_X0_doLine : MD := (yX0_doLine, cX0_doLine, 4, (some .boolean), 4)
abbrev m_X0_decide : MD := (yX0_decide, cX0_decide, 4, (some .boolean), 2)
abbrev m_X0_failOf : MD := (yX0_failOf, cX0_failOf, 2, none, 1)
abbrev m_X0_judge : MD := (yX0_judge, cX0_judge, 5, (some .int), 3)
abbrev m_X0_measure : MD := (yX0_measure, cX0_measure, 2, (some .int), 2)
abbrev m_X0_perform : MD := (yX0_perform, cX0_perform, 4, (some .boolean), 3)
abbrev m_X0_add : MD := (yX0_add, cX0_add, 4, (some .boolean), 2)
abbrev m_X0_record : MD := (yX0_record, cX0_record, 4, (some .boolean), 2)
abbrev m_X0_setMonitor : MD := (yX0_setMonitor, cX0_setMonitor, 5, none, 1)
abbrev m_X0_watch : MD := (yX0_watch, cX0_watch, 2, none, 4)
abbrev m_X0_act : MD := (yX0_act, cX0_act, 3, none, 2)
abbrev m_X0_takeCommand : MD := (yX0_takeCommand, cX0_takeCommand, 4, (some .boolean), 5)
abbrev m_X0_ready : MD := (yX0_ready, cX0_ready, 3, none, 4)
abbrev m_X1_addLeap : MD := (yX1_addLeap, cX1_addLeap, 4, (some .int), 3)
abbrev m_X1_readDate : MD := (yX1_readDate, cX1_readDate, 9, (some .int), 3)
abbrev m_X1_hasSecond : MD := (yX1_hasSecond, cX1_hasSecond, 2, (some .boolean), 3)
abbrev m_X1_writeDate : MD := (yX1_writeDate, cX1_writeDate, 7, (some .int), 4)
abbrev m_X1_writeDay : MD := (yX1_writeDay, cX1_writeDay, 4, none, 3)
abbrev m_X1_writeTwo : MD := (yX1_writeTwo, cX1_writeTwo, 3, none, 0)
abbrev m_X1_hasLeap : MD := (yX1_hasLeap, cX1_hasLeap, 2, (some .boolean), 1)
abbrev m_X1_leapsBefore : MD := (yX1_leapsBefore, cX1_leapsBefore, 3, (some .int), 0)
abbrev m_X1_dayOf : MD := (yX1_dayOf, cX1_dayOf, 5, (some .int), 2)
abbrev m_X1_daysIn : MD := (yX1_daysIn, cX1_daysIn, 2, (some .int), 1)
abbrev m_X2_takeFrame : MD := (yX2_takeFrame, cX2_takeFrame, 5, (some .int), 3)
abbrev m_X2_begin : MD := (yX2_begin, cX2_begin, 4, (some .int), 0)
abbrev m_X2_pieceTogether : MD := (yX2_pieceTogether, cX2_pieceTogether, 8, (some .int), 2)
abbrev m_X2_putInArchive : MD := (yX2_putInArchive, cX2_putInArchive, 1, none, 1)
abbrev m_X2_writePacket : MD := (yX2_writePacket, cX2_writePacket, 5, (some .int), 1)
abbrev m_X2_isFull : MD := (yX2_isFull, cX2_isFull, 1, (some .boolean), 0)
abbrev m_X2_keep : MD := (yX2_keep, cX2_keep, 3, (some .int), 1)
abbrev m_X2_toSend : MD := (yX2_toSend, cX2_toSend, 1, (some .int), 0)
abbrev m_X2_nextToSend : MD := (yX2_nextToSend, cX2_nextToSend, 1, (some .int), 1)
abbrev m_X2_acknowledge : MD := (yX2_acknowledge, cX2_acknowledge, 5, none, 1)
abbrev m_X3_text : MD := (yX3_text, cX3_text, 1, (some (.object "java/lang/String")), 1)
abbrev m_X3_thingText : MD := (yX3_thingText, cX3_thingText, 1, (some (.object "java/lang/String")), 0)
abbrev m_X3_isThere : MD := (yX3_isThere, cX3_isThere, 2, (some .boolean), 1)
abbrev m_X3_countFrom : MD := (yX3_countFrom, cX3_countFrom, 3, (some .int), 2)
abbrev m_X3_erase : MD := (yX3_erase, cX3_erase, 4, none, 0)
abbrev m_X3_copy : MD := (yX3_copy, cX3_copy, 4, none, 0)
abbrev m_X3_readProgram : MD := (yX3_readProgram, cX3_readProgram, 3, (some .int), 11)
abbrev m_X3_readCommand : MD := (yX3_readCommand, cX3_readCommand, 4, none, 11)
abbrev m_X3_readMonitor : MD := (yX3_readMonitor, cX3_readMonitor, 2, none, 9)
abbrev m_X3_readLine : MD := (yX3_readLine, cX3_readLine, 3, none, 10)
abbrev m_X3_readRest : MD := (yX3_readRest, cX3_readRest, 4, none, 9)
abbrev m_X3_greatest : MD := (yX3_greatest, cX3_greatest, 1, (some .int), 0)
abbrev m_X3_readCondition : MD := (yX3_readCondition, cX3_readCondition, 3, none, 8)
abbrev m_X4_recordedPackets : MD := (yX4_recordedPackets, cX4_recordedPackets, 1, (some .int), 0)
abbrev m_X4_label : MD := (yX4_label, cX4_label, 3, none, 0)
abbrev m_X4_record : MD := (yX4_record, cX4_record, 6, (some .int), 1)
abbrev m_X4_slot : MD := (yX4_slot, cX4_slot, 3, (some .int), 0)
abbrev m_X4_lastClass : MD := (yX4_lastClass, cX4_lastClass, 2, (some .int), 0)
abbrev m_X4_firstClass : MD := (yX4_firstClass, cX4_firstClass, 2, (some .int), 0)
abbrev m_X4_takeOldest : MD := (yX4_takeOldest, cX4_takeOldest, 3, none, 0)
abbrev m_X4_sendFrame : MD := (yX4_sendFrame, cX4_sendFrame, 4, none, 3)
abbrev m_X4_fillData : MD := (yX4_fillData, cX4_fillData, 5, (some .int), 2)
abbrev m_X4_startPacket : MD := (yX4_startPacket, cX4_startPacket, 3, none, 1)
abbrev m_X4_oldestFrame : MD := (yX4_oldestFrame, cX4_oldestFrame, 1, (some .int), 0)
abbrev m_X4_dropFrame : MD := (yX4_dropFrame, cX4_dropFrame, 1, none, 0)
abbrev m_X4_checkOf : MD := (yX4_checkOf, cX4_checkOf, 5, (some .int), 0)
abbrev m_X5_write : MD := (yX5_write, cX5_write, 3, none, 1)
abbrev m_X5_byteOf : MD := (yX5_byteOf, cX5_byteOf, 3, (some .int), 1)
abbrev m_X5_mend : MD := (yX5_mend, cX5_mend, 3, (some .boolean), 1)
abbrev m_X5_encoded : MD := (yX5_encoded, cX5_encoded, 5, (some .int), 0)
abbrev m_X5_corrected : MD := (yX5_corrected, cX5_corrected, 4, (some .int), 0)
abbrev m_X5_decoded : MD := (yX5_decoded, cX5_decoded, 3, (some .int), 0)
abbrev m_X6_look : MD := (yX6_look, cX6_look, 2, none, 2)
abbrev m_X6_angle : MD := (yX6_angle, cX6_angle, 2, (some .int), 0)
abbrev m_X6_turn : MD := (yX6_turn, cX6_turn, 2, (some .int), 0)
abbrev m_X6_isInShadow : MD := (yX6_isInShadow, cX6_isInShadow, 2, (some .boolean), 1)
abbrev m_X6_isSeen : MD := (yX6_isSeen, cX6_isSeen, 6, (some .boolean), 1)
abbrev m_X6_inArc : MD := (yX6_inArc, cX6_inArc, 5, (some .int), 0)
abbrev m_X6_firstSight : MD := (yX6_firstSight, cX6_firstSight, 8, (some .int), 2)
abbrev m_X6_whenPassed : MD := (yX6_whenPassed, cX6_whenPassed, 6, (some .int), 1)
abbrev m_X7_add : MD := (yX7_add, cX7_add, 5, (some .int), 0)
abbrev m_X7_choose : MD := (yX7_choose, cX7_choose, 3, none, 2)
abbrev m_X7_findClashes : MD := (yX7_findClashes, cX7_findClashes, 3, none, 1)
abbrev m_X7_goTogether : MD := (yX7_goTogether, cX7_goTogether, 4, (some .boolean), 0)
abbrev m_X7_worthOf : MD := (yX7_worthOf, cX7_worthOf, 4, (some .int), 0)
abbrev m_X7_isAhead : MD := (yX7_isAhead, cX7_isAhead, 4, (some .boolean), 1)
abbrev m_X8_putInOrder : MD := (yX8_putInOrder, cX8_putInOrder, 4, none, 0)
abbrev m_X8_switchTo : MD := (yX8_switchTo, cX8_switchTo, 3, none, 0)
abbrev m_X8_serve : MD := (yX8_serve, cX8_serve, 7, (some .int), 1)
abbrev m_X9_neighbour : MD := (yX9_neighbour, cX9_neighbour, 4, (some .int), 0)
abbrev m_X9_turnsTo : MD := (yX9_turnsTo, cX9_turnsTo, 7, (some .int), 1)
abbrev m_X9_writeTurns : MD := (yX9_writeTurns, cX9_writeTurns, 7, none, 1)
abbrev m_X9_isNearer : MD := (yX9_isNearer, cX9_isNearer, 3, (some .boolean), 0)
abbrev m_X10_append : MD := (yX10_append, cX10_append, 3, none, 0)
abbrev m_X10_open : MD := (yX10_open, cX10_open, 1, none, 0)
abbrev m_X10_isRight : MD := (yX10_isRight, cX10_isRight, 1, (some .boolean), 0)
abbrev m_X10_isAtEnd : MD := (yX10_isAtEnd, cX10_isAtEnd, 1, (some .boolean), 0)
abbrev m_X10_closes : MD := (yX10_closes, cX10_closes, 1, (some .boolean), 1)
abbrev m_X10_wrong : MD := (yX10_wrong, cX10_wrong, 1, (some .int), 0)
abbrev m_X10_byteAt : MD := (yX10_byteAt, cX10_byteAt, 2, (some .int), 0)
abbrev m_X10_isDigit : MD := (yX10_isDigit, cX10_isDigit, 1, (some .boolean), 0)
abbrev m_X10_isLetter : MD := (yX10_isLetter, cX10_isLetter, 1, (some .boolean), 0)
abbrev m_X10_skip : MD := (yX10_skip, cX10_skip, 2, none, 1)
abbrev m_X10_fixed : MD := (yX10_fixed, cX10_fixed, 7, (some .int), 2)
abbrev m_X10_number : MD := (yX10_number, cX10_number, 4, (some .int), 2)
abbrev m_X10_integer : MD := (yX10_integer, cX10_integer, 4, (some .int), 2)
abbrev m_X10_digits : MD := (yX10_digits, cX10_digits, 4, (some .int), 1)
abbrev m_X10_inRange : MD := (yX10_inRange, cX10_inRange, 5, (some .int), 1)
abbrev m_X10_compareSign : MD := (yX10_compareSign, cX10_compareSign, 2, (some .int), 1)
abbrev m_X10_told : MD := (yX10_told, cX10_told, 5, (some .int), 7)
abbrev m_X10_wordEnd : MD := (yX10_wordEnd, cX10_wordEnd, 2, (some .int), 1)
abbrev m_X10_reads : MD := (yX10_reads, cX10_reads, 4, (some .boolean), 6)
abbrev m_X11_feed : MD := (yX11_feed, cX11_feed, 6, (some .int), 1)
abbrev m_X11_end : MD := (yX11_end, cX11_end, 2, (some .int), 1)
abbrev m_X11_out : MD := (yX11_out, cX11_out, 2, (some .int), 1)
abbrev m_X11_leap : MD := (yX11_leap, cX11_leap, 3, (some .int), 4)
abbrev m_X11_date : MD := (yX11_date, cX11_date, 2, (some .int), 4)
abbrev m_X11_written : MD := (yX11_written, cX11_written, 2, (some .int), 5)
abbrev m_X11_orbit : MD := (yX11_orbit, cX11_orbit, 5, (some .int), 2)
abbrev m_X11_station : MD := (yX11_station, cX11_station, 5, (some .int), 2)
abbrev m_X11_sight : MD := (yX11_sight, cX11_sight, 3, (some .int), 3)
abbrev m_X11_power : MD := (yX11_power, cX11_power, 3, (some .int), 1)
abbrev m_X11_load : MD := (yX11_load, cX11_load, 4, (some .int), 2)
abbrev m_X11_program : MD := (yX11_program, cX11_program, 3, (some .int), 12)
abbrev m_X11_due : MD := (yX11_due, cX11_due, 3, (some .int), 2)
abbrev m_X11_mode : MD := (yX11_mode, cX11_mode, 4, (some .int), 1)
abbrev m_X11_monitor : MD := (yX11_monitor, cX11_monitor, 5, (some .int), 10)
abbrev m_X11_flip : MD := (yX11_flip, cX11_flip, 3, (some .int), 2)
abbrev m_X11_tick : MD := (yX11_tick, cX11_tick, 3, (some .int), 7)
abbrev m_X11_ship : MD := (yX11_ship, cX11_ship, 2, (some .int), 2)
abbrev m_X11_served : MD := (yX11_served, cX11_served, 3, (some .int), 2)
abbrev m_X11_runs : MD := (yX11_runs, cX11_runs, 3, (some .int), 3)
abbrev m_X11_word : MD := (yX11_word, cX11_word, 3, (some .int), 2)
abbrev m_X11_noise : MD := (yX11_noise, cX11_noise, 4, (some .int), 1)
abbrev m_X11_lose : MD := (yX11_lose, cX11_lose, 1, (some .int), 1)
abbrev m_X11_receive : MD := (yX11_receive, cX11_receive, 2, (some .int), 4)
abbrev m_X11_packet : MD := (yX11_packet, cX11_packet, 2, (some .int), 2)
abbrev m_X11_command : MD := (yX11_command, cX11_command, 1, (some .int), 12)
abbrev m_X11_send : MD := (yX11_send, cX11_send, 5, (some .int), 6)
abbrev m_X11_ground : MD := (yX11_ground, cX11_ground, 2, (some .int), 1)
abbrev m_X11_pass : MD := (yX11_pass, cX11_pass, 5, (some .int), 2)
abbrev m_X11_gap : MD := (yX11_gap, cX11_gap, 3, (some .int), 1)
abbrev m_X11_clear : MD := (yX11_clear, cX11_clear, 2, (some .int), 0)
abbrev m_X11_best : MD := (yX11_best, cX11_best, 2, (some .int), 3)
abbrev m_X11_bar : MD := (yX11_bar, cX11_bar, 6, (some .int), 2)
abbrev m_X11_way : MD := (yX11_way, cX11_way, 7, (some .int), 2)
abbrev m_X11_within : MD := (yX11_within, cX11_within, 3, (some .boolean), 0)
abbrev m_X11_bit : MD := (yX11_bit, cX11_bit, 1, (some .int), 0)
abbrev m_X11_isDegree : MD := (yX11_isDegree, cX11_isDegree, 1, (some .boolean), 1)
abbrev m_X11_isStation : MD := (yX11_isStation, cX11_isStation, 1, (some .boolean), 1)
abbrev m_X11_isLoad : MD := (yX11_isLoad, cX11_isLoad, 1, (some .boolean), 1)
abbrev m_X11_isProgram : MD := (yX11_isProgram, cX11_isProgram, 1, (some .boolean), 1)
abbrev m_X11_isWord : MD := (yX11_isWord, cX11_isWord, 1, (some .boolean), 1)
abbrev m_X11_isField : MD := (yX11_isField, cX11_isField, 2, (some .boolean), 1)
abbrev m_X12_four : MD := (yX12_four, cX12_four, 3, none, 0)
abbrev m_X12_feed : MD := (yX12_feed, cX12_feed, 6, (some .int), 1)
abbrev m_X12_end : MD := (yX12_end, cX12_end, 2, (some .int), 0)
abbrev m_X12_out : MD := (yX12_out, cX12_out, 2, (some .int), 1)
abbrev m_X12_take : MD := (yX12_take, cX12_take, 2, none, 0)
abbrev m_X12_here : MD := (yX12_here, cX12_here, 1, (some .int), 0)
abbrev m_X12_bad : MD := (yX12_bad, cX12_bad, 1, (some .boolean), 0)
abbrev m_X12_fail : MD := (yX12_fail, cX12_fail, 2, none, 0)
abbrev m_X12_need : MD := (yX12_need, cX12_need, 2, none, 1)
abbrev m_X12_done : MD := (yX12_done, cX12_done, 1, none, 1)
abbrev m_X12_is : MD := (yX12_is, cX12_is, 3, (some .boolean), 0)
abbrev m_X12_isDigit : MD := (yX12_isDigit, cX12_isDigit, 1, (some .boolean), 0)
abbrev m_X12_isSmall : MD := (yX12_isSmall, cX12_isSmall, 1, (some .boolean), 0)
abbrev m_X12_whole : MD := (yX12_whole, cX12_whole, 8, (some .int), 1)
abbrev m_X12_behind : MD := (yX12_behind, cX12_behind, 3, (some .int), 2)
abbrev m_X12_wordEnd : MD := (yX12_wordEnd, cX12_wordEnd, 2, (some .int), 1)
abbrev m_X12_wordOf : MD := (yX12_wordOf, cX12_wordOf, 6, (some .int), 6)
abbrev m_X12_isLong : MD := (yX12_isLong, cX12_isLong, 1, (some .boolean), 0)
abbrev m_X12_days : MD := (yX12_days, cX12_days, 2, (some .int), 1)
abbrev m_X12_dayOf : MD := (yX12_dayOf, cX12_dayOf, 4, (some .int), 2)
abbrev m_X12_leap : MD := (yX12_leap, cX12_leap, 4, (some .int), 3)
abbrev m_X12_hasLeap : MD := (yX12_hasLeap, cX12_hasLeap, 4, (some .boolean), 0)
abbrev m_X12_firstSecond : MD := (yX12_firstSecond, cX12_firstSecond, 4, (some .int), 0)
abbrev m_X12_digits : MD := (yX12_digits, cX12_digits, 7, (some .int), 1)
abbrev m_X12_date : MD := (yX12_date, cX12_date, 8, (some .int), 3)
abbrev m_X12_digit : MD := (yX12_digit, cX12_digit, 5, none, 1)
abbrev m_X12_add : MD := (yX12_add, cX12_add, 2, none, 0)
abbrev m_X12_written : MD := (yX12_written, cX12_written, 9, (some .int), 3)
abbrev m_X12_orbit : MD := (yX12_orbit, cX12_orbit, 5, (some .int), 1)
abbrev m_X12_station : MD := (yX12_station, cX12_station, 5, (some .int), 1)
abbrev m_X12_angle : MD := (yX12_angle, cX12_angle, 2, (some .int), 0)
abbrev m_X12_round : MD := (yX12_round, cX12_round, 2, (some .int), 0)
abbrev m_X12_isShadow : MD := (yX12_isShadow, cX12_isShadow, 1, (some .boolean), 1)
abbrev m_X12_sees : MD := (yX12_sees, cX12_sees, 3, (some .boolean), 1)
abbrev m_X12_isSeen : MD := (yX12_isSeen, cX12_isSeen, 1, (some .boolean), 2)
abbrev m_X12_sight : MD := (yX12_sight, cX12_sight, 4, (some .int), 2)
abbrev m_X12_power : MD := (yX12_power, cX12_power, 3, (some .int), 1)
abbrev m_X12_load : MD := (yX12_load, cX12_load, 4, (some .int), 1)
abbrev m_X12_sunNow : MD := (yX12_sunNow, cX12_sunNow, 1, (some .int), 2)
abbrev m_X12_serve : MD := (yX12_serve, cX12_serve, 5, none, 3)
abbrev m_X12_places : MD := (yX12_places, cX12_places, 3, (some .int), 0)
abbrev m_X12_odd : MD := (yX12_odd, cX12_odd, 3, (some .int), 0)
abbrev m_X12_encoded : MD := (yX12_encoded, cX12_encoded, 5, (some .int), 1)
abbrev m_X12_plain : MD := (yX12_plain, cX12_plain, 4, (some .int), 0)
abbrev m_X12_read : MD := (yX12_read, cX12_read, 4, (some .int), 1)
abbrev m_X12_mend : MD := (yX12_mend, cX12_mend, 3, none, 2)
abbrev m_X12_flip : MD := (yX12_flip, cX12_flip, 3, (some .int), 1)
abbrev m_X12_word : MD := (yX12_word, cX12_word, 3, (some .int), 2)
abbrev m_X12_condition : MD := (yX12_condition, cX12_condition, 2, none, 7)
abbrev m_X12_line : MD := (yX12_line, cX12_line, 3, none, 8)
abbrev m_X12_copyLine : MD := (yX12_copyLine, cX12_copyLine, 3, none, 0)
abbrev m_X12_program : MD := (yX12_program, cX12_program, 5, (some .int), 9)
abbrev m_X12_valueOf : MD := (yX12_valueOf, cX12_valueOf, 3, (some .int), 3)
abbrev m_X12_holds : MD := (yX12_holds, cX12_holds, 3, (some .boolean), 4)
abbrev m_X12_mode : MD := (yX12_mode, cX12_mode, 4, (some .int), 1)
abbrev m_X12_goTo : MD := (yX12_goTo, cX12_goTo, 3, none, 0)
abbrev m_X12_begin : MD := (yX12_begin, cX12_begin, 2, none, 0)
abbrev m_X12_act : MD := (yX12_act, cX12_act, 3, (some .boolean), 5)
abbrev m_X12_goes : MD := (yX12_goes, cX12_goes, 6, none, 6)
abbrev m_X12_due : MD := (yX12_due, cX12_due, 3, (some .int), 1)
abbrev m_X12_starts : MD := (yX12_starts, cX12_starts, 3, none, 1)
abbrev m_X12_monitor : MD := (yX12_monitor, cX12_monitor, 4, (some .int), 8)
abbrev m_X12_watch : MD := (yX12_watch, cX12_watch, 4, none, 5)
abbrev m_X12_recorded : MD := (yX12_recorded, cX12_recorded, 3, (some .int), 0)
abbrev m_X12_drop : MD := (yX12_drop, cX12_drop, 4, none, 0)
abbrev m_X12_sort : MD := (yX12_sort, cX12_sort, 2, (some .int), 0)
abbrev m_X12_emit : MD := (yX12_emit, cX12_emit, 6, none, 4)
abbrev m_X12_check : MD := (yX12_check, cX12_check, 5, (some .int), 0)
abbrev m_X12_link : MD := (yX12_link, cX12_link, 5, none, 3)
abbrev m_X12_tick : MD := (yX12_tick, cX12_tick, 4, (some .int), 7)
abbrev m_X12_ship : MD := (yX12_ship, cX12_ship, 2, (some .int), 2)
abbrev m_X12_served : MD := (yX12_served, cX12_served, 3, (some .int), 1)
abbrev m_X12_runs : MD := (yX12_runs, cX12_runs, 3, (some .int), 1)
abbrev m_X12_noise : MD := (yX12_noise, cX12_noise, 3, (some .int), 1)
abbrev m_X12_shift : MD := (yX12_shift, cX12_shift, 2, none, 0)
abbrev m_X12_lose : MD := (yX12_lose, cX12_lose, 1, (some .int), 1)
abbrev m_X12_receive : MD := (yX12_receive, cX12_receive, 4, (some .int), 2)
abbrev m_X12_pieces : MD := (yX12_pieces, cX12_pieces, 6, (some .int), 1)
abbrev m_X12_packet : MD := (yX12_packet, cX12_packet, 3, (some .int), 1)
abbrev m_X12_acknowledge : MD := (yX12_acknowledge, cX12_acknowledge, 4, none, 1)
abbrev m_X12_command : MD := (yX12_command, cX12_command, 5, (some .int), 9)
abbrev m_X12_send : MD := (yX12_send, cX12_send, 5, (some .int), 6)
abbrev m_X12_ready : MD := (yX12_ready, cX12_ready, 4, none, 0)
abbrev m_X12_ground : MD := (yX12_ground, cX12_ground, 2, (some .int), 0)
abbrev m_X12_pass : MD := (yX12_pass, cX12_pass, 5, (some .int), 1)
abbrev m_X12_gap : MD := (yX12_gap, cX12_gap, 3, (some .int), 1)
abbrev m_X12_clear : MD := (yX12_clear, cX12_clear, 2, (some .int), 0)
abbrev m_X12_areApart : MD := (yX12_areApart, cX12_areApart, 4, (some .boolean), 0)
abbrev m_X12_best : MD := (yX12_best, cX12_best, 9, (some .int), 1)
abbrev m_X12_isField : MD := (yX12_isField, cX12_isField, 2, (some .boolean), 1)
abbrev m_X12_bar : MD := (yX12_bar, cX12_bar, 5, (some .int), 2)
abbrev m_X12_beside : MD := (yX12_beside, cX12_beside, 4, (some .int), 0)
abbrev m_X12_way : MD := (yX12_way, cX12_way, 12, (some .int), 2)
abbrev m_J6_bitCount_0f7a4 : MD := (yJ6_bitCount_0f7a4, cJ6_bitCount_0f7a4, 1, (some .int), 0)
abbrev m_J9_max_7cf53 : MD := (yJ9_max_7cf53, cJ9_max_7cf53, 2, (some .int), 0)
abbrev m_J9_min_7cf53 : MD := (yJ9_min_7cf53, cJ9_min_7cf53, 2, (some .int), 0)
abbrev m_J7_fill_53178 : MD := (yJ7_fill_53178, cJ7_fill_53178, 4, none, 0)
abbrev m_J0_length_8abf5 : MD := (yJ0_length_8abf5, cJ0_length_8abf5, 1, (some .int), 1)
abbrev m_J0_charAt_5068e : MD := (yJ0_charAt_5068e, cJ0_charAt_5068e, 2, (some .char), 5)
abbrev m_J0_coder_7d493 : MD := (yJ0_coder_7d493, cJ0_coder_7d493, 1, (some .byte), 0)
abbrev m_J0_isLatin1_aae02 : MD := (yJ0_isLatin1_aae02, cJ0_isLatin1_aae02, 1, (some .boolean), 0)
abbrev m_J0_checkIndex_df160 : MD := (yJ0_checkIndex_df160, cJ0_checkIndex_df160, 2, none, 2)
abbrev m_J1_charAt_3b067 : MD := (yJ1_charAt_3b067, cJ1_charAt_3b067, 2, (some .char), 3)
abbrev m_J3_checkIndex_8e157 : MD := (yJ3_checkIndex_8e157, cJ3_checkIndex_8e157, 3, (some .int), 1)
abbrev m_L_law : MD := (yL_law, cL_law, 4, (some .boolean), 13)
theorem cls_0 : CLS 0 RX0 TX0 20 tyX0 := ⟨rfl, fun w hw => by
  have e : u_ws RX0 TX0 20 = ([312, 314, 316, 318, 320, 322, 324, 326, 328, 330, 332, 334, 336, 338, 340, 342, 344, 346, 348, 350] : List Nat).filterMap (fun i => tables_1[i]?) := by decide +kernel
  have g : (u_ws RX0 TX0 20).all goodWord = true := by decide +kernel
  have h1 := List.all_eq_true.mp g w hw
  rw [e] at hw
  obtain ⟨i, -, hi⟩ := List.mem_filterMap.mp hw
  exact tbm i hi h1, tyX0_ok, nmX0⟩
theorem cls_1 : CLS 1 RX1 TX1 2 tyX1 := ⟨rfl, fun w hw => by
  have e : u_ws RX1 TX1 2 = ([93, 95] : List Nat).filterMap (fun i => tables_1[i]?) := by decide +kernel
  have g : (u_ws RX1 TX1 2).all goodWord = true := by decide +kernel
  have h1 := List.all_eq_true.mp g w hw
  rw [e] at hw
  obtain ⟨i, -, hi⟩ := List.mem_filterMap.mp hw
  exact tbm i hi h1, tyX1_ok, nmX1⟩
theorem cls_2 : CLS 2 RX2 TX2 12 tyX2 := ⟨rfl, fun w hw => by
  have e : u_ws RX2 TX2 12 = ([380, 382, 384, 386, 388, 390, 392, 394, 396, 398, 400, 402] : List Nat).filterMap (fun i => tables_1[i]?) := by decide +kernel
  have g : (u_ws RX2 TX2 12).all goodWord = true := by decide +kernel
  have h1 := List.all_eq_true.mp g w hw
  rw [e] at hw
  obtain ⟨i, -, hi⟩ := List.mem_filterMap.mp hw
  exact tbm i hi h1, tyX2_ok, nmX2⟩
theorem cls_3 : CLS 3 RX3 TX3 7 tyX3 := ⟨rfl, fun w hw => by
  have e : u_ws RX3 TX3 7 = ([70, 72, 74, 76, 78, 80, 82] : List Nat).filterMap (fun i => tables_1[i]?) := by decide +kernel
  have g : (u_ws RX3 TX3 7).all goodWord = true := by decide +kernel
  have h1 := List.all_eq_true.mp g w hw
  rw [e] at hw
  obtain ⟨i, -, hi⟩ := List.mem_filterMap.mp hw
  exact tbm i hi h1, tyX3_ok, nmX3⟩
theorem cls_4 : CLS 4 RX4 TX4 15 tyX4 := ⟨rfl, fun w hw => by
  have e : u_ws RX4 TX4 15 = ([242, 244, 246, 248, 250, 252, 254, 256, 258, 260, 262, 264, 266, 268, 270] : List Nat).filterMap (fun i => tables_1[i]?) := by decide +kernel
  have g : (u_ws RX4 TX4 15).all goodWord = true := by decide +kernel
  have h1 := List.all_eq_true.mp g w hw
  rw [e] at hw
  obtain ⟨i, -, hi⟩ := List.mem_filterMap.mp hw
  exact tbm i hi h1, tyX4_ok, nmX4⟩
theorem cls_5 : CLS 5 RX5 TX5 3 tyX5 := ⟨rfl, fun w hw => by
  have e : u_ws RX5 TX5 3 = ([205, 207, 209] : List Nat).filterMap (fun i => tables_1[i]?) := by decide +kernel
  have g : (u_ws RX5 TX5 3).all goodWord = true := by decide +kernel
  have h1 := List.all_eq_true.mp g w hw
  rw [e] at hw
  obtain ⟨i, -, hi⟩ := List.mem_filterMap.mp hw
  exact tbm i hi h1, tyX5_ok, nmX5⟩
theorem cls_6 : CLS 6 RX6 TX6 9 tyX6 := ⟨rfl, fun w hw => by
  have e : u_ws RX6 TX6 9 = ([122, 124, 126, 128, 130, 132, 134, 136, 138] : List Nat).filterMap (fun i => tables_1[i]?) := by decide +kernel
  have g : (u_ws RX6 TX6 9).all goodWord = true := by decide +kernel
  have h1 := List.all_eq_true.mp g w hw
  rw [e] at hw
  obtain ⟨i, -, hi⟩ := List.mem_filterMap.mp hw
  exact tbm i hi h1, tyX6_ok, nmX6⟩
theorem cls_7 : CLS 7 RX7 TX7 10 tyX7 := ⟨rfl, fun w hw => by
  have e : u_ws RX7 TX7 10 = ([426, 428, 430, 432, 434, 436, 438, 440, 442, 444] : List Nat).filterMap (fun i => tables_1[i]?) := by decide +kernel
  have g : (u_ws RX7 TX7 10).all goodWord = true := by decide +kernel
  have h1 := List.all_eq_true.mp g w hw
  rw [e] at hw
  obtain ⟨i, -, hi⟩ := List.mem_filterMap.mp hw
  exact tbm i hi h1, tyX7_ok, nmX7⟩
theorem cls_8 : CLS 8 RX8 TX8 10 tyX8 := ⟨rfl, fun w hw => by
  have e : u_ws RX8 TX8 10 = ([170, 172, 174, 176, 178, 180, 182, 184, 186, 188] : List Nat).filterMap (fun i => tables_1[i]?) := by decide +kernel
  have g : (u_ws RX8 TX8 10).all goodWord = true := by decide +kernel
  have h1 := List.all_eq_true.mp g w hw
  rw [e] at hw
  obtain ⟨i, -, hi⟩ := List.mem_filterMap.mp hw
  exact tbm i hi h1, tyX8_ok, nmX8⟩
theorem cls_9 : CLS 9 RX9 TX9 3 tyX9 := ⟨rfl, fun w hw => by
  have e : u_ws RX9 TX9 3 = ([457, 459, 461] : List Nat).filterMap (fun i => tables_1[i]?) := by decide +kernel
  have g : (u_ws RX9 TX9 3).all goodWord = true := by decide +kernel
  have h1 := List.all_eq_true.mp g w hw
  rw [e] at hw
  obtain ⟨i, -, hi⟩ := List.mem_filterMap.mp hw
  exact tbm i hi h1, tyX9_ok, nmX9⟩
theorem cls_10 : CLS 10 RX10 TX10 4 tyX10 := ⟨rfl, fun w hw => by
  have e : u_ws RX10 TX10 4 = ([41, 43, 45, 47] : List Nat).filterMap (fun i => tables_1[i]?) := by decide +kernel
  have g : (u_ws RX10 TX10 4).all goodWord = true := by decide +kernel
  have h1 := List.all_eq_true.mp g w hw
  rw [e] at hw
  obtain ⟨i, -, hi⟩ := List.mem_filterMap.mp hw
  exact tbm i hi h1, tyX10_ok, nmX10⟩
theorem cls_11 : CLS 11 RX11 TX11 13 tyX11 := ⟨rfl, fun w hw => by
  have e : u_ws RX11 TX11 13 = ([477, 479, 481, 483, 485, 487, 489, 491, 493, 495, 497, 499, 501] : List Nat).filterMap (fun i => tables_1[i]?) := by decide +kernel
  have g : (u_ws RX11 TX11 13).all goodWord = true := by decide +kernel
  have h1 := List.all_eq_true.mp g w hw
  rw [e] at hw
  obtain ⟨i, -, hi⟩ := List.mem_filterMap.mp hw
  exact tbm i hi h1, tyX11_ok, nmX11⟩
theorem cls_12 : CLS 12 RX12 TX12 106 tyX12 := ⟨rfl, fun w hw => by
  have e : u_ws RX12 TX12 106 = ([1385, 1387, 1389, 1391, 1393, 1395, 1397, 1399, 1401, 1403, 1405, 1407, 1409, 1411, 1413, 1415, 1417, 1419, 1421, 1423, 1425, 1427, 1429, 1431, 1433, 1435, 1437, 1439, 1441, 1443, 1445, 1447, 1449, 1451, 1453, 1455, 1457, 1459, 1461, 1463, 1465, 1467, 1469, 1471, 1473, 1475, 1477, 1479, 1481, 1483, 1485, 1487, 1489, 1491, 1493, 1495, 1497, 1499, 1501, 1503, 1505, 1507, 1509, 1511, 1513, 1515, 1517, 1519, 1521, 1523, 1525, 1527, 1529, 1531, 1533, 1535, 1537, 1539, 1541, 1543, 1545, 1547, 1549, 1551, 1553, 1555, 1557, 1559, 1561, 1563, 1565, 1567, 1569, 1571, 1573, 1575, 1577, 1579, 1581, 1583, 1585, 1587, 1589, 1591, 1593, 1595] : List Nat).filterMap (fun i => tables_1[i]?) := by decide +kernel
  have g : (u_ws RX12 TX12 106).all goodWord = true := by decide +kernel
  have h1 := List.all_eq_true.mp g w hw
  rw [e] at hw
  obtain ⟨i, -, hi⟩ := List.mem_filterMap.mp hw
  exact tbm i hi h1, tyX12_ok, nmX12⟩
theorem fl_RX11_10 : FLK RX11 10 TX11 0 := tb_2 224 (by decide +kernel) rfl
theorem fl_RX11_21 : FLK RX11 21 TX11 1 := tb_2 225 (by decide +kernel) rfl
theorem fl_RX11_27 : FLK RX11 27 TX11 2 := tb_2 226 (by decide +kernel) rfl
theorem fl_RX11_31 : FLK RX11 31 TX11 3 := tb_2 227 (by decide +kernel) rfl
theorem fl_RX11_38 : FLK RX11 38 TX11 4 := tb_2 228 (by decide +kernel) rfl
theorem fl_RX11_45 : FLK RX11 45 TX11 5 := tb_2 229 (by decide +kernel) rfl
theorem fl_RX11_52 : FLK RX11 52 TX11 6 := tb_2 230 (by decide +kernel) rfl
theorem fl_RX11_59 : FLK RX11 59 TX11 7 := tb_2 231 (by decide +kernel) rfl
theorem fl_RX11_66 : FLK RX11 66 TX11 8 := tb_2 232 (by decide +kernel) rfl
theorem fl_RX11_75 : FLK RX11 75 TX11 9 := tb_2 233 (by decide +kernel) rfl
theorem fl_RX11_82 : FLK RX11 82 TX11 10 := tb_2 234 (by decide +kernel) rfl
theorem fl_RX11_89 : FLK RX11 89 TX11 11 := tb_2 235 (by decide +kernel) rfl
theorem fl_RX11_94 : FLK RX11 94 TX11 12 := tb_2 236 (by decide +kernel) rfl
theorem fl_RX11_98 : FLK RX11 98 TX10 1 := tb_1 37 (by decide +kernel) rfl
theorem fl_RX11_138 : FLK RX11 138 TX6 0 := tb_1 105 (by decide +kernel) rfl
theorem fl_RX11_141 : FLK RX11 141 TX6 1 := tb_1 107 (by decide +kernel) rfl
theorem fl_RX11_144 : FLK RX11 144 TX6 2 := tb_1 109 (by decide +kernel) rfl
theorem fl_RX11_147 : FLK RX11 147 TX6 3 := tb_1 111 (by decide +kernel) rfl
theorem fl_RX11_153 : FLK RX11 153 TX6 6 := tb_1 117 (by decide +kernel) rfl
theorem fl_RX11_156 : FLK RX11 156 TX6 7 := tb_1 119 (by decide +kernel) rfl
theorem fl_RX11_159 : FLK RX11 159 TX6 8 := tb_1 121 (by decide +kernel) rfl
theorem fl_RX11_162 : FLK RX11 162 TX0 4 := tb_2 49 (by decide +kernel) rfl
theorem fl_RX11_170 : FLK RX11 170 TX8 0 := tb_1 148 (by decide +kernel) rfl
theorem fl_RX11_173 : FLK RX11 173 TX8 1 := tb_1 150 (by decide +kernel) rfl
theorem fl_RX11_181 : FLK RX11 181 TX8 2 := tb_1 153 (by decide +kernel) rfl
theorem fl_RX11_187 : FLK RX11 187 TX8 5 := tb_1 160 (by decide +kernel) rfl
theorem fl_RX11_190 : FLK RX11 190 TX8 6 := tb_1 162 (by decide +kernel) rfl
theorem fl_RX11_209 : FLK RX11 209 TX0 7 := tb_2 55 (by decide +kernel) rfl
theorem fl_RX11_223 : FLK RX11 223 TX5 0 := tb_1 199 (by decide +kernel) rfl
theorem fl_RX11_240 : FLK RX11 240 TX8 4 := tb_1 158 (by decide +kernel) rfl
theorem fl_RX11_243 : FLK RX11 243 TX0 6 := tb_2 53 (by decide +kernel) rfl
theorem fl_RX11_246 : FLK RX11 246 TX0 5 := tb_2 51 (by decide +kernel) rfl
theorem fl_RX11_249 : FLK RX11 249 TX5 1 := tb_1 202 (by decide +kernel) rfl
theorem fl_RX11_252 : FLK RX11 252 TX5 2 := tb_1 204 (by decide +kernel) rfl
theorem fl_RX11_255 : FLK RX11 255 TX4 3 := tb_1 223 (by decide +kernel) rfl
theorem fl_RX11_261 : FLK RX11 261 TX4 13 := tb_1 237 (by decide +kernel) rfl
theorem fl_RX11_264 : FLK RX11 264 TX4 14 := tb_2 0 (by decide +kernel) rfl
theorem fl_RX11_267 : FLK RX11 267 TX0 14 := tb_2 66 (by decide +kernel) rfl
theorem fl_RX11_270 : FLK RX11 270 TX4 11 := tb_1 234 (by decide +kernel) rfl
theorem fl_RX11_273 : FLK RX11 273 TX8 7 := tb_1 165 (by decide +kernel) rfl
theorem fl_RX11_277 : FLK RX11 277 TX8 8 := tb_1 168 (by decide +kernel) rfl
theorem fl_RX11_280 : FLK RX11 280 TX0 8 := tb_2 57 (by decide +kernel) rfl
theorem fl_RX11_286 : FLK RX11 286 TX0 10 := tb_2 60 (by decide +kernel) rfl
theorem fl_RX11_289 : FLK RX11 289 TX0 11 := tb_2 62 (by decide +kernel) rfl
theorem fl_RX11_298 : FLK RX11 298 TX4 9 := tb_1 231 (by decide +kernel) rfl
theorem fl_RX11_308 : FLK RX11 308 TX2 7 := tb_2 131 (by decide +kernel) rfl
theorem fl_RX11_333 : FLK RX11 333 TX2 10 := tb_2 137 (by decide +kernel) rfl
theorem fl_RX11_336 : FLK RX11 336 TX2 8 := tb_2 133 (by decide +kernel) rfl
theorem fl_RX11_343 : FLK RX11 343 TX2 0 := tb_2 122 (by decide +kernel) rfl
theorem fl_RX11_346 : FLK RX11 346 TX2 1 := tb_2 124 (by decide +kernel) rfl
theorem fl_RX11_349 : FLK RX11 349 TX2 9 := tb_2 135 (by decide +kernel) rfl
theorem fl_RX11_352 : FLK RX11 352 TX2 11 := tb_2 139 (by decide +kernel) rfl
theorem fl_RX11_360 : FLK RX11 360 TX7 6 := tb_2 179 (by decide +kernel) rfl
theorem fl_RX11_363 : FLK RX11 363 TX7 7 := tb_2 181 (by decide +kernel) rfl
theorem fl_RX11_367 : FLK RX11 367 TX7 5 := tb_2 177 (by decide +kernel) rfl
theorem fl_RX11_373 : FLK RX11 373 TX7 9 := tb_2 185 (by decide +kernel) rfl
theorem fl_RX11_376 : FLK RX11 376 TX7 8 := tb_2 183 (by decide +kernel) rfl
theorem fl_RX11_388 : FLK RX11 388 TX9 0 := tb_2 214 (by decide +kernel) rfl
theorem fl_RX0_9 : FLK RX0 9 TX0 7 := tb_2 54 (by decide +kernel) rfl
theorem fl_RX0_20 : FLK RX0 20 TX0 8 := tb_2 56 (by decide +kernel) rfl
theorem fl_RX0_24 : FLK RX0 24 TX0 9 := tb_2 58 (by decide +kernel) rfl
theorem fl_RX0_27 : FLK RX0 27 TX0 10 := tb_2 59 (by decide +kernel) rfl
theorem fl_RX0_30 : FLK RX0 30 TX0 11 := tb_2 61 (by decide +kernel) rfl
theorem fl_RX0_33 : FLK RX0 33 TX0 12 := tb_2 63 (by decide +kernel) rfl
theorem fl_RX0_36 : FLK RX0 36 TX0 13 := tb_2 64 (by decide +kernel) rfl
theorem fl_RX0_39 : FLK RX0 39 TX0 15 := tb_2 67 (by decide +kernel) rfl
theorem fl_RX0_42 : FLK RX0 42 TX0 16 := tb_2 68 (by decide +kernel) rfl
theorem fl_RX0_45 : FLK RX0 45 TX0 17 := tb_2 69 (by decide +kernel) rfl
theorem fl_RX0_48 : FLK RX0 48 TX0 18 := tb_2 70 (by decide +kernel) rfl
theorem fl_RX0_51 : FLK RX0 51 TX0 19 := tb_2 71 (by decide +kernel) rfl
theorem fl_RX0_54 : FLK RX0 54 TX0 0 := tb_2 44 (by decide +kernel) rfl
theorem fl_RX0_58 : FLK RX0 58 TX0 1 := tb_2 45 (by decide +kernel) rfl
theorem fl_RX0_62 : FLK RX0 62 TX0 2 := tb_2 46 (by decide +kernel) rfl
theorem fl_RX0_66 : FLK RX0 66 TX0 3 := tb_2 47 (by decide +kernel) rfl
theorem fl_RX0_76 : FLK RX0 76 TX0 4 := tb_2 48 (by decide +kernel) rfl
theorem fl_RX0_85 : FLK RX0 85 TX0 5 := tb_2 50 (by decide +kernel) rfl
theorem fl_RX0_88 : FLK RX0 88 TX6 4 := tb_1 113 (by decide +kernel) rfl
theorem fl_RX0_113 : FLK RX0 113 TX8 8 := tb_1 167 (by decide +kernel) rfl
theorem fl_RX0_117 : FLK RX0 117 TX6 5 := tb_1 115 (by decide +kernel) rfl
theorem fl_RX0_125 : FLK RX0 125 TX0 14 := tb_2 65 (by decide +kernel) rfl
theorem fl_RX0_146 : FLK RX0 146 TX0 6 := tb_2 52 (by decide +kernel) rfl
theorem fl_RX0_158 : FLK RX0 158 TX3 1 := tb_1 59 (by decide +kernel) rfl
theorem fl_RX0_161 : FLK RX0 161 TX3 4 := tb_1 65 (by decide +kernel) rfl
theorem fl_RX0_172 : FLK RX0 172 TX3 5 := tb_1 67 (by decide +kernel) rfl
theorem fl_RX0_182 : FLK RX0 182 TX3 2 := tb_1 61 (by decide +kernel) rfl
theorem fl_RX0_188 : FLK RX0 188 TX3 3 := tb_1 63 (by decide +kernel) rfl
theorem fl_RX0_194 : FLK RX0 194 TX8 1 := tb_1 151 (by decide +kernel) rfl
theorem fl_RX0_197 : FLK RX0 197 TX8 3 := tb_1 155 (by decide +kernel) rfl
theorem fl_RX0_200 : FLK RX0 200 TX8 4 := tb_1 157 (by decide +kernel) rfl
theorem fl_RX0_203 : FLK RX0 203 TX4 3 := tb_1 222 (by decide +kernel) rfl
theorem fl_RX0_206 : FLK RX0 206 TX5 1 := tb_1 201 (by decide +kernel) rfl
theorem fl_RX0_215 : FLK RX0 215 TX8 7 := tb_1 164 (by decide +kernel) rfl
theorem fl_RX0_231 : FLK RX0 231 TX4 5 := tb_1 226 (by decide +kernel) rfl
theorem fl_RX0_243 : FLK RX0 243 TX4 13 := tb_1 238 (by decide +kernel) rfl
theorem fl_RX0_246 : FLK RX0 246 TX4 14 := tb_2 1 (by decide +kernel) rfl
theorem fl_RX0_249 : FLK RX0 249 TX3 6 := tb_1 69 (by decide +kernel) rfl
theorem fl_RX1_11 : FLK RX1 11 TX1 0 := tb_1 91 (by decide +kernel) rfl
theorem fl_RX1_23 : FLK RX1 23 TX1 1 := tb_1 92 (by decide +kernel) rfl
theorem fl_RX2_9 : FLK RX2 9 TX2 4 := tb_2 127 (by decide +kernel) rfl
theorem fl_RX2_15 : FLK RX2 15 TX2 6 := tb_2 129 (by decide +kernel) rfl
theorem fl_RX2_23 : FLK RX2 23 TX2 8 := tb_2 132 (by decide +kernel) rfl
theorem fl_RX2_33 : FLK RX2 33 TX2 1 := tb_2 123 (by decide +kernel) rfl
theorem fl_RX2_49 : FLK RX2 49 TX2 2 := tb_2 125 (by decide +kernel) rfl
theorem fl_RX2_53 : FLK RX2 53 TX2 3 := tb_2 126 (by decide +kernel) rfl
theorem fl_RX2_56 : FLK RX2 56 TX2 0 := tb_2 121 (by decide +kernel) rfl
theorem fl_RX2_59 : FLK RX2 59 TX2 5 := tb_2 128 (by decide +kernel) rfl
theorem fl_RX2_69 : FLK RX2 69 TX2 7 := tb_2 130 (by decide +kernel) rfl
theorem fl_RX2_78 : FLK RX2 78 TX2 9 := tb_2 134 (by decide +kernel) rfl
theorem fl_RX2_81 : FLK RX2 81 TX2 11 := tb_2 138 (by decide +kernel) rfl
theorem fl_RX2_88 : FLK RX2 88 TX2 10 := tb_2 136 (by decide +kernel) rfl
theorem fl_RX3_9 : FLK RX3 9 TX3 0 := tb_1 57 (by decide +kernel) rfl
theorem fl_RX3_15 : FLK RX3 15 TX3 1 := tb_1 58 (by decide +kernel) rfl
theorem fl_RX3_19 : FLK RX3 19 TX3 2 := tb_1 60 (by decide +kernel) rfl
theorem fl_RX3_22 : FLK RX3 22 TX3 3 := tb_1 62 (by decide +kernel) rfl
theorem fl_RX3_25 : FLK RX3 25 TX3 4 := tb_1 64 (by decide +kernel) rfl
theorem fl_RX3_28 : FLK RX3 28 TX3 5 := tb_1 66 (by decide +kernel) rfl
theorem fl_RX3_31 : FLK RX3 31 TX3 6 := tb_1 68 (by decide +kernel) rfl
theorem fl_RX4_11 : FLK RX4 11 TX4 0 := tb_1 218 (by decide +kernel) rfl
theorem fl_RX4_15 : FLK RX4 15 TX4 1 := tb_1 219 (by decide +kernel) rfl
theorem fl_RX4_18 : FLK RX4 18 TX4 2 := tb_1 220 (by decide +kernel) rfl
theorem fl_RX4_21 : FLK RX4 21 TX4 4 := tb_1 224 (by decide +kernel) rfl
theorem fl_RX4_24 : FLK RX4 24 TX4 5 := tb_1 225 (by decide +kernel) rfl
theorem fl_RX4_27 : FLK RX4 27 TX4 6 := tb_1 227 (by decide +kernel) rfl
theorem fl_RX4_30 : FLK RX4 30 TX4 9 := tb_1 230 (by decide +kernel) rfl
theorem fl_RX4_33 : FLK RX4 33 TX4 3 := tb_1 221 (by decide +kernel) rfl
theorem fl_RX4_55 : FLK RX4 55 TX4 11 := tb_1 233 (by decide +kernel) rfl
theorem fl_RX4_58 : FLK RX4 58 TX4 10 := tb_1 232 (by decide +kernel) rfl
theorem fl_RX4_61 : FLK RX4 61 TX4 12 := tb_1 235 (by decide +kernel) rfl
theorem fl_RX4_64 : FLK RX4 64 TX4 13 := tb_1 236 (by decide +kernel) rfl
theorem fl_RX4_67 : FLK RX4 67 TX4 14 := tb_1 239 (by decide +kernel) rfl
theorem fl_RX4_78 : FLK RX4 78 TX4 8 := tb_1 229 (by decide +kernel) rfl
theorem fl_RX4_81 : FLK RX4 81 TX4 7 := tb_1 228 (by decide +kernel) rfl
theorem fl_RX5_11 : FLK RX5 11 TX5 0 := tb_1 198 (by decide +kernel) rfl
theorem fl_RX5_25 : FLK RX5 25 TX5 2 := tb_1 203 (by decide +kernel) rfl
theorem fl_RX5_29 : FLK RX5 29 TX5 1 := tb_1 200 (by decide +kernel) rfl
theorem fl_RX6_9 : FLK RX6 9 TX6 0 := tb_1 104 (by decide +kernel) rfl
theorem fl_RX6_15 : FLK RX6 15 TX6 6 := tb_1 116 (by decide +kernel) rfl
theorem fl_RX6_19 : FLK RX6 19 TX6 7 := tb_1 118 (by decide +kernel) rfl
theorem fl_RX6_22 : FLK RX6 22 TX6 8 := tb_1 120 (by decide +kernel) rfl
theorem fl_RX6_29 : FLK RX6 29 TX6 4 := tb_1 112 (by decide +kernel) rfl
theorem fl_RX6_36 : FLK RX6 36 TX6 5 := tb_1 114 (by decide +kernel) rfl
theorem fl_RX6_39 : FLK RX6 39 TX6 1 := tb_1 106 (by decide +kernel) rfl
theorem fl_RX6_46 : FLK RX6 46 TX6 2 := tb_1 108 (by decide +kernel) rfl
theorem fl_RX6_49 : FLK RX6 49 TX6 3 := tb_1 110 (by decide +kernel) rfl
theorem fl_RX7_11 : FLK RX7 11 TX7 0 := tb_2 171 (by decide +kernel) rfl
theorem fl_RX7_15 : FLK RX7 15 TX7 1 := tb_2 172 (by decide +kernel) rfl
theorem fl_RX7_18 : FLK RX7 18 TX7 2 := tb_2 173 (by decide +kernel) rfl
theorem fl_RX7_21 : FLK RX7 21 TX7 3 := tb_2 174 (by decide +kernel) rfl
theorem fl_RX7_24 : FLK RX7 24 TX7 4 := tb_2 175 (by decide +kernel) rfl
theorem fl_RX7_27 : FLK RX7 27 TX7 6 := tb_2 178 (by decide +kernel) rfl
theorem fl_RX7_31 : FLK RX7 31 TX7 5 := tb_2 176 (by decide +kernel) rfl
theorem fl_RX7_34 : FLK RX7 34 TX7 7 := tb_2 180 (by decide +kernel) rfl
theorem fl_RX7_41 : FLK RX7 41 TX7 8 := tb_2 182 (by decide +kernel) rfl
theorem fl_RX7_44 : FLK RX7 44 TX7 9 := tb_2 184 (by decide +kernel) rfl
theorem fl_RX8_9 : FLK RX8 9 TX8 0 := tb_1 147 (by decide +kernel) rfl
theorem fl_RX8_15 : FLK RX8 15 TX8 1 := tb_1 149 (by decide +kernel) rfl
theorem fl_RX8_18 : FLK RX8 18 TX8 2 := tb_1 152 (by decide +kernel) rfl
theorem fl_RX8_21 : FLK RX8 21 TX8 5 := tb_1 159 (by decide +kernel) rfl
theorem fl_RX8_25 : FLK RX8 25 TX8 6 := tb_1 161 (by decide +kernel) rfl
theorem fl_RX8_28 : FLK RX8 28 TX8 7 := tb_1 163 (by decide +kernel) rfl
theorem fl_RX8_32 : FLK RX8 32 TX8 8 := tb_1 166 (by decide +kernel) rfl
theorem fl_RX8_35 : FLK RX8 35 TX8 9 := tb_1 169 (by decide +kernel) rfl
theorem fl_RX8_38 : FLK RX8 38 TX8 3 := tb_1 154 (by decide +kernel) rfl
theorem fl_RX8_41 : FLK RX8 41 TX8 4 := tb_1 156 (by decide +kernel) rfl
theorem fl_RX9_11 : FLK RX9 11 TX9 0 := tb_2 213 (by decide +kernel) rfl
theorem fl_RX9_15 : FLK RX9 15 TX9 1 := tb_2 215 (by decide +kernel) rfl
theorem fl_RX9_19 : FLK RX9 19 TX9 2 := tb_2 216 (by decide +kernel) rfl
theorem fl_RX10_11 : FLK RX10 11 TX10 0 := tb_1 36 (by decide +kernel) rfl
theorem fl_RX10_15 : FLK RX10 15 TX10 3 := tb_1 40 (by decide +kernel) rfl
theorem fl_RX10_19 : FLK RX10 19 TX10 1 := tb_1 38 (by decide +kernel) rfl
theorem fl_RX10_22 : FLK RX10 22 TX10 2 := tb_1 39 (by decide +kernel) rfl
theorem fl_RX12_7 : FLK RX12 7 TX12 0 := tb_6 79 (by decide +kernel) rfl
theorem fl_RX12_13 : FLK RX12 13 TX12 1 := tb_6 80 (by decide +kernel) rfl
theorem fl_RX12_16 : FLK RX12 16 TX12 2 := tb_6 81 (by decide +kernel) rfl
theorem fl_RX12_19 : FLK RX12 19 TX12 8 := tb_6 87 (by decide +kernel) rfl
theorem fl_RX12_22 : FLK RX12 22 TX12 11 := tb_6 90 (by decide +kernel) rfl
theorem fl_RX12_26 : FLK RX12 26 TX12 15 := tb_6 94 (by decide +kernel) rfl
theorem fl_RX12_29 : FLK RX12 29 TX12 16 := tb_6 95 (by decide +kernel) rfl
theorem fl_RX12_32 : FLK RX12 32 TX12 17 := tb_6 96 (by decide +kernel) rfl
theorem fl_RX12_35 : FLK RX12 35 TX12 18 := tb_6 97 (by decide +kernel) rfl
theorem fl_RX12_38 : FLK RX12 38 TX12 19 := tb_6 98 (by decide +kernel) rfl
theorem fl_RX12_41 : FLK RX12 41 TX12 20 := tb_6 99 (by decide +kernel) rfl
theorem fl_RX12_44 : FLK RX12 44 TX12 24 := tb_6 103 (by decide +kernel) rfl
theorem fl_RX12_47 : FLK RX12 47 TX12 25 := tb_6 104 (by decide +kernel) rfl
theorem fl_RX12_50 : FLK RX12 50 TX12 26 := tb_6 105 (by decide +kernel) rfl
theorem fl_RX12_54 : FLK RX12 54 TX12 27 := tb_6 106 (by decide +kernel) rfl
theorem fl_RX12_57 : FLK RX12 57 TX12 28 := tb_6 107 (by decide +kernel) rfl
theorem fl_RX12_91 : FLK RX12 91 TX12 31 := tb_6 110 (by decide +kernel) rfl
theorem fl_RX12_95 : FLK RX12 95 TX12 32 := tb_6 111 (by decide +kernel) rfl
theorem fl_RX12_129 : FLK RX12 129 TX12 33 := tb_6 112 (by decide +kernel) rfl
theorem fl_RX12_132 : FLK RX12 132 TX12 34 := tb_6 113 (by decide +kernel) rfl
theorem fl_RX12_135 : FLK RX12 135 TX12 35 := tb_6 114 (by decide +kernel) rfl
theorem fl_RX12_138 : FLK RX12 138 TX12 36 := tb_6 115 (by decide +kernel) rfl
theorem fl_RX12_141 : FLK RX12 141 TX12 37 := tb_6 116 (by decide +kernel) rfl
theorem fl_RX12_144 : FLK RX12 144 TX12 38 := tb_6 117 (by decide +kernel) rfl
theorem fl_RX12_147 : FLK RX12 147 TX12 39 := tb_6 118 (by decide +kernel) rfl
theorem fl_RX12_150 : FLK RX12 150 TX12 40 := tb_6 119 (by decide +kernel) rfl
theorem fl_RX12_153 : FLK RX12 153 TX12 41 := tb_6 120 (by decide +kernel) rfl
theorem fl_RX12_156 : FLK RX12 156 TX12 42 := tb_6 121 (by decide +kernel) rfl
theorem fl_RX12_159 : FLK RX12 159 TX12 43 := tb_6 122 (by decide +kernel) rfl
theorem fl_RX12_162 : FLK RX12 162 TX12 44 := tb_6 123 (by decide +kernel) rfl
theorem fl_RX12_165 : FLK RX12 165 TX12 45 := tb_6 124 (by decide +kernel) rfl
theorem fl_RX12_168 : FLK RX12 168 TX12 46 := tb_6 125 (by decide +kernel) rfl
theorem fl_RX12_171 : FLK RX12 171 TX12 47 := tb_6 126 (by decide +kernel) rfl
theorem fl_RX12_174 : FLK RX12 174 TX12 48 := tb_6 127 (by decide +kernel) rfl
theorem fl_RX12_177 : FLK RX12 177 TX12 49 := tb_6 128 (by decide +kernel) rfl
theorem fl_RX12_180 : FLK RX12 180 TX12 50 := tb_6 129 (by decide +kernel) rfl
theorem fl_RX12_183 : FLK RX12 183 TX12 51 := tb_6 130 (by decide +kernel) rfl
theorem fl_RX12_186 : FLK RX12 186 TX12 52 := tb_6 131 (by decide +kernel) rfl
theorem fl_RX12_189 : FLK RX12 189 TX12 53 := tb_6 132 (by decide +kernel) rfl
theorem fl_RX12_192 : FLK RX12 192 TX12 54 := tb_6 133 (by decide +kernel) rfl
theorem fl_RX12_195 : FLK RX12 195 TX12 55 := tb_6 134 (by decide +kernel) rfl
theorem fl_RX12_198 : FLK RX12 198 TX12 56 := tb_6 135 (by decide +kernel) rfl
theorem fl_RX12_201 : FLK RX12 201 TX12 58 := tb_6 137 (by decide +kernel) rfl
theorem fl_RX12_204 : FLK RX12 204 TX12 59 := tb_6 138 (by decide +kernel) rfl
theorem fl_RX12_207 : FLK RX12 207 TX12 60 := tb_6 139 (by decide +kernel) rfl
theorem fl_RX12_210 : FLK RX12 210 TX12 61 := tb_6 140 (by decide +kernel) rfl
theorem fl_RX12_213 : FLK RX12 213 TX12 63 := tb_6 142 (by decide +kernel) rfl
theorem fl_RX12_216 : FLK RX12 216 TX12 64 := tb_6 143 (by decide +kernel) rfl
theorem fl_RX12_219 : FLK RX12 219 TX12 65 := tb_6 144 (by decide +kernel) rfl
theorem fl_RX12_222 : FLK RX12 222 TX12 66 := tb_6 145 (by decide +kernel) rfl
theorem fl_RX12_225 : FLK RX12 225 TX12 67 := tb_6 146 (by decide +kernel) rfl
theorem fl_RX12_227 : FLK RX12 227 TX12 68 := tb_6 147 (by decide +kernel) rfl
theorem fl_RX12_229 : FLK RX12 229 TX12 69 := tb_6 148 (by decide +kernel) rfl
theorem fl_RX12_232 : FLK RX12 232 TX12 70 := tb_6 149 (by decide +kernel) rfl
theorem fl_RX12_235 : FLK RX12 235 TX12 71 := tb_6 150 (by decide +kernel) rfl
theorem fl_RX12_238 : FLK RX12 238 TX12 75 := tb_6 154 (by decide +kernel) rfl
theorem fl_RX12_241 : FLK RX12 241 TX12 76 := tb_6 155 (by decide +kernel) rfl
theorem fl_RX12_244 : FLK RX12 244 TX12 77 := tb_6 156 (by decide +kernel) rfl
theorem fl_RX12_247 : FLK RX12 247 TX12 84 := tb_6 163 (by decide +kernel) rfl
theorem fl_RX12_250 : FLK RX12 250 TX12 91 := tb_6 170 (by decide +kernel) rfl
theorem fl_RX12_253 : FLK RX12 253 TX12 92 := tb_6 171 (by decide +kernel) rfl
theorem fl_RX12_256 : FLK RX12 256 TX12 93 := tb_6 172 (by decide +kernel) rfl
theorem fl_RX12_259 : FLK RX12 259 TX12 94 := tb_6 173 (by decide +kernel) rfl
theorem fl_RX12_262 : FLK RX12 262 TX12 95 := tb_6 174 (by decide +kernel) rfl
theorem fl_RX12_265 : FLK RX12 265 TX12 96 := tb_6 175 (by decide +kernel) rfl
theorem fl_RX12_268 : FLK RX12 268 TX12 97 := tb_6 176 (by decide +kernel) rfl
theorem fl_RX12_271 : FLK RX12 271 TX12 98 := tb_6 177 (by decide +kernel) rfl
theorem fl_RX12_274 : FLK RX12 274 TX12 99 := tb_6 178 (by decide +kernel) rfl
theorem fl_RX12_277 : FLK RX12 277 TX12 100 := tb_6 179 (by decide +kernel) rfl
theorem fl_RX12_280 : FLK RX12 280 TX12 101 := tb_6 180 (by decide +kernel) rfl
theorem fl_RX12_283 : FLK RX12 283 TX12 103 := tb_6 182 (by decide +kernel) rfl
theorem fl_RX12_286 : FLK RX12 286 TX12 104 := tb_6 183 (by decide +kernel) rfl
theorem fl_RX12_289 : FLK RX12 289 TX12 105 := tb_6 184 (by decide +kernel) rfl
theorem fl_RX12_292 : FLK RX12 292 TX12 3 := tb_6 82 (by decide +kernel) rfl
theorem fl_RX12_299 : FLK RX12 299 TX12 7 := tb_6 86 (by decide +kernel) rfl
theorem fl_RX12_306 : FLK RX12 306 TX12 4 := tb_6 83 (by decide +kernel) rfl
theorem fl_RX12_309 : FLK RX12 309 TX12 5 := tb_6 84 (by decide +kernel) rfl
theorem fl_RX12_312 : FLK RX12 312 TX12 6 := tb_6 85 (by decide +kernel) rfl
theorem fl_RX12_360 : FLK RX12 360 TX12 9 := tb_6 88 (by decide +kernel) rfl
theorem fl_RX12_387 : FLK RX12 387 TX12 12 := tb_6 91 (by decide +kernel) rfl
theorem fl_RX12_390 : FLK RX12 390 TX12 13 := tb_6 92 (by decide +kernel) rfl
theorem fl_RX12_393 : FLK RX12 393 TX12 14 := tb_6 93 (by decide +kernel) rfl
theorem fl_RX12_398 : FLK RX12 398 TX12 10 := tb_6 89 (by decide +kernel) rfl
theorem fl_RX12_424 : FLK RX12 424 TX12 21 := tb_6 100 (by decide +kernel) rfl
theorem fl_RX12_426 : FLK RX12 426 TX12 22 := tb_6 101 (by decide +kernel) rfl
theorem fl_RX12_444 : FLK RX12 444 TX12 30 := tb_6 109 (by decide +kernel) rfl
theorem fl_RX12_447 : FLK RX12 447 TX12 29 := tb_6 108 (by decide +kernel) rfl
theorem fl_RX12_465 : FLK RX12 465 TX12 23 := tb_6 102 (by decide +kernel) rfl
theorem fl_RX12_474 : FLK RX12 474 TX12 57 := tb_6 136 (by decide +kernel) rfl
theorem fl_RX12_495 : FLK RX12 495 TX12 62 := tb_6 141 (by decide +kernel) rfl
theorem fl_RX12_501 : FLK RX12 501 TX12 72 := tb_6 151 (by decide +kernel) rfl
theorem fl_RX12_511 : FLK RX12 511 TX12 74 := tb_6 153 (by decide +kernel) rfl
theorem fl_RX12_514 : FLK RX12 514 TX12 73 := tb_6 152 (by decide +kernel) rfl
theorem fl_RX12_517 : FLK RX12 517 TX12 79 := tb_6 158 (by decide +kernel) rfl
theorem fl_RX12_520 : FLK RX12 520 TX12 81 := tb_6 160 (by decide +kernel) rfl
theorem fl_RX12_523 : FLK RX12 523 TX12 80 := tb_6 159 (by decide +kernel) rfl
theorem fl_RX12_530 : FLK RX12 530 TX12 78 := tb_6 157 (by decide +kernel) rfl
theorem fl_RX12_554 : FLK RX12 554 TX12 83 := tb_6 162 (by decide +kernel) rfl
theorem fl_RX12_557 : FLK RX12 557 TX12 82 := tb_6 161 (by decide +kernel) rfl
theorem fl_RX12_560 : FLK RX12 560 TX12 85 := tb_6 164 (by decide +kernel) rfl
theorem fl_RX12_569 : FLK RX12 569 TX12 89 := tb_6 168 (by decide +kernel) rfl
theorem fl_RX12_572 : FLK RX12 572 TX12 86 := tb_6 165 (by decide +kernel) rfl
theorem fl_RX12_575 : FLK RX12 575 TX12 87 := tb_6 166 (by decide +kernel) rfl
theorem fl_RX12_578 : FLK RX12 578 TX12 88 := tb_6 167 (by decide +kernel) rfl
theorem fl_RX12_584 : FLK RX12 584 TX12 90 := tb_6 169 (by decide +kernel) rfl
theorem fl_RX12_589 : FLK RX12 589 TX12 102 := tb_6 181 (by decide +kernel) rfl
theorem fs_RX1_61 : Cond.fieldLink RX1 61 "MissionHouse$Calendar" "MONTH_DAYS" "[I" ∈ TB := tb_3 55 (by decide +kernel) rfl
theorem fs_RX5_32 : Cond.fieldLink RX5 32 "MissionHouse$Memory" "DATA_PLACES" "[I" ∈ TB := tb_4 229 (by decide +kernel) rfl
theorem fs_RX9_36 : Cond.fieldLink RX9 36 "MissionHouse$Sky" "LETTERS" "[C" ∈ TB := tb_6 38 (by decide +kernel) rfl
theorem co_RX11_169 : Cond.constant RX11 169 (Int32.ofInt (1000000)) ∈ TB := tb_3 183 (by decide +kernel) rfl
theorem co_RX11_355 : Cond.constant RX11 355 (Int32.ofInt (99999)) ∈ TB := tb_5 207 (by decide +kernel) rfl
theorem co_RX1_40 : Cond.constant RX1 40 (Int32.ofInt (86400)) ∈ TB := tb_3 107 (by decide +kernel) rfl
theorem co_RX3_158 : Cond.constant RX3 158 (Int32.ofInt (-99999)) ∈ TB := tb_4 92 (by decide +kernel) rfl
theorem co_RX3_159 : Cond.constant RX3 159 (Int32.ofInt (99999)) ∈ TB := tb_4 93 (by decide +kernel) rfl
theorem co_RX4_100 : Cond.constant RX4 100 (Int32.ofInt (65535)) ∈ TB := tb_5 78 (by decide +kernel) rfl
theorem co_RX4_101 : Cond.constant RX4 101 (Int32.ofInt (69665)) ∈ TB := tb_5 79 (by decide +kernel) rfl
theorem co_RX12_363 : Cond.constant RX12 363 (Int32.ofInt (86400)) ∈ TB := tb_7 233 (by decide +kernel) rfl
theorem co_RX12_412 : Cond.constant RX12 412 (Int32.ofInt (1000000)) ∈ TB := tb_8 34 (by decide +kernel) rfl
theorem co_RX12_454 : Cond.constant RX12 454 (Int32.ofInt (-99999)) ∈ TB := tb_8 94 (by decide +kernel) rfl
theorem co_RX12_455 : Cond.constant RX12 455 (Int32.ofInt (99999)) ∈ TB := tb_8 95 (by decide +kernel) rfl
theorem co_RX12_510 : Cond.constant RX12 510 (Int32.ofInt (65535)) ∈ TB := tb_8 194 (by decide +kernel) rfl
theorem co_RJ6_265 : Cond.constant RJ6 265 (Int32.ofInt (1431655765)) ∈ TB := tb_6 7 (by decide +kernel) rfl
theorem co_RJ6_266 : Cond.constant RJ6 266 (Int32.ofInt (858993459)) ∈ TB := tb_6 8 (by decide +kernel) rfl
theorem co_RJ6_267 : Cond.constant RJ6 267 (Int32.ofInt (252645135)) ∈ TB := tb_6 9 (by decide +kernel) rfl
theorem co_RX12_396 : Cond.constantLong RX12 396 (Int64.ofInt (3600)) ∈ TB := tb_8 29 (by decide +kernel) rfl
theorem clb_X11_bar : CLB m_X11_bar 3 := ⟨tb_6 14 rfl rfl, tb_1 1 (by decide +kernel) rfl, by decide +kernel, by decide +kernel, by decide +kernel⟩
theorem clb_X11_best : CLB m_X11_best 1 := ⟨tb_5 223 rfl rfl, tb_1 1 (by decide +kernel) rfl, by decide +kernel, by decide +kernel, by decide +kernel⟩
theorem clb_X11_bit : CLB m_X11_bit 1 := ⟨tb_3 59 rfl rfl, tb_1 1 (by decide +kernel) rfl, by decide +kernel, by decide +kernel, by decide +kernel⟩
theorem clb_X11_clear : CLB m_X11_clear 0 := ⟨tb_5 219 rfl rfl, tb_1 1 (by decide +kernel) rfl, by decide +kernel, by decide +kernel, by decide +kernel⟩
theorem clb_X11_command : CLB m_X11_command 0 := ⟨tb_5 163 rfl rfl, tb_1 1 (by decide +kernel) rfl, by decide +kernel, by decide +kernel, by decide +kernel⟩
theorem clb_X11_date : CLB m_X11_date 0 := ⟨tb_3 66 rfl rfl, tb_1 1 (by decide +kernel) rfl, by decide +kernel, by decide +kernel, by decide +kernel⟩
theorem clb_X11_due : CLB m_X11_due 2 := ⟨tb_4 135 rfl rfl, tb_1 1 (by decide +kernel) rfl, by decide +kernel, by decide +kernel, by decide +kernel⟩
theorem clb_X11_end : CLB m_X11_end 1 := ⟨tb_3 35 rfl rfl, tb_1 1 (by decide +kernel) rfl, by decide +kernel, by decide +kernel, by decide +kernel⟩
theorem clb_X11_feed : CLB m_X11_feed 5 := ⟨tb_3 27 rfl rfl, tb_1 1 (by decide +kernel) rfl, by decide +kernel, by decide +kernel, by decide +kernel⟩
theorem clb_X11_flip : CLB m_X11_flip 2 := ⟨tb_4 159 rfl rfl, tb_1 1 (by decide +kernel) rfl, by decide +kernel, by decide +kernel, by decide +kernel⟩
theorem clb_X11_gap : CLB m_X11_gap 1 := ⟨tb_5 215 rfl rfl, tb_1 1 (by decide +kernel) rfl, by decide +kernel, by decide +kernel, by decide +kernel⟩
theorem clb_X11_ground : CLB m_X11_ground 1 := ⟨tb_5 202 rfl rfl, tb_1 1 (by decide +kernel) rfl, by decide +kernel, by decide +kernel, by decide +kernel⟩
theorem clb_X11_isDegree : CLB m_X11_isDegree 1 := ⟨tb_3 144 rfl rfl, tb_1 1 (by decide +kernel) rfl, by decide +kernel, by decide +kernel, by decide +kernel⟩
theorem clb_X11_isField : CLB m_X11_isField 2 := ⟨tb_6 17 rfl rfl, tb_1 1 (by decide +kernel) rfl, by decide +kernel, by decide +kernel, by decide +kernel⟩
theorem clb_X11_isLoad : CLB m_X11_isLoad 1 := ⟨tb_3 191 rfl rfl, tb_1 1 (by decide +kernel) rfl, by decide +kernel, by decide +kernel, by decide +kernel⟩
theorem clb_X11_isProgram : CLB m_X11_isProgram 1 := ⟨tb_3 202 rfl rfl, tb_1 1 (by decide +kernel) rfl, by decide +kernel, by decide +kernel, by decide +kernel⟩
theorem clb_X11_isStation : CLB m_X11_isStation 1 := ⟨tb_3 151 rfl rfl, tb_1 1 (by decide +kernel) rfl, by decide +kernel, by decide +kernel, by decide +kernel⟩
theorem clb_X11_isWord : CLB m_X11_isWord 1 := ⟨tb_4 162 rfl rfl, tb_1 1 (by decide +kernel) rfl, by decide +kernel, by decide +kernel, by decide +kernel⟩
theorem clb_X11_leap : CLB m_X11_leap 2 := ⟨tb_3 46 rfl rfl, tb_1 1 (by decide +kernel) rfl, by decide +kernel, by decide +kernel, by decide +kernel⟩
theorem clb_X11_load : CLB m_X11_load 3 := ⟨tb_3 188 rfl rfl, tb_1 1 (by decide +kernel) rfl, by decide +kernel, by decide +kernel, by decide +kernel⟩
theorem clb_X11_lose : CLB m_X11_lose 0 := ⟨tb_5 116 rfl rfl, tb_1 1 (by decide +kernel) rfl, by decide +kernel, by decide +kernel, by decide +kernel⟩
theorem clb_X11_mode : CLB m_X11_mode 3 := ⟨tb_4 143 rfl rfl, tb_1 1 (by decide +kernel) rfl, by decide +kernel, by decide +kernel, by decide +kernel⟩
theorem clb_X11_monitor : CLB m_X11_monitor 3 := ⟨tb_4 147 rfl rfl, tb_1 1 (by decide +kernel) rfl, by decide +kernel, by decide +kernel, by decide +kernel⟩
theorem clb_X11_noise : CLB m_X11_noise 2 := ⟨tb_5 108 rfl rfl, tb_1 1 (by decide +kernel) rfl, by decide +kernel, by decide +kernel, by decide +kernel⟩
theorem clb_X11_orbit : CLB m_X11_orbit 4 := ⟨tb_3 141 rfl rfl, tb_1 1 (by decide +kernel) rfl, by decide +kernel, by decide +kernel, by decide +kernel⟩
theorem clb_X11_out : CLB m_X11_out 1 := ⟨tb_3 42 rfl rfl, tb_1 1 (by decide +kernel) rfl, by decide +kernel, by decide +kernel, by decide +kernel⟩
theorem clb_X11_packet : CLB m_X11_packet 1 := ⟨tb_5 155 rfl rfl, tb_1 1 (by decide +kernel) rfl, by decide +kernel, by decide +kernel, by decide +kernel⟩
theorem clb_X11_pass : CLB m_X11_pass 4 := ⟨tb_5 206 rfl rfl, tb_1 1 (by decide +kernel) rfl, by decide +kernel, by decide +kernel, by decide +kernel⟩
theorem clb_X11_power : CLB m_X11_power 2 := ⟨tb_3 182 rfl rfl, tb_1 1 (by decide +kernel) rfl, by decide +kernel, by decide +kernel, by decide +kernel⟩
theorem clb_X11_program : CLB m_X11_program 1 := ⟨tb_3 199 rfl rfl, tb_1 1 (by decide +kernel) rfl, by decide +kernel, by decide +kernel, by decide +kernel⟩
theorem clb_X11_receive : CLB m_X11_receive 0 := ⟨tb_5 124 rfl rfl, tb_1 1 (by decide +kernel) rfl, by decide +kernel, by decide +kernel, by decide +kernel⟩
theorem clb_X11_runs : CLB m_X11_runs 2 := ⟨tb_5 98 rfl rfl, tb_1 1 (by decide +kernel) rfl, by decide +kernel, by decide +kernel, by decide +kernel⟩
theorem clb_X11_send : CLB m_X11_send 1 := ⟨tb_5 179 rfl rfl, tb_1 1 (by decide +kernel) rfl, by decide +kernel, by decide +kernel, by decide +kernel⟩
theorem clb_X11_served : CLB m_X11_served 2 := ⟨tb_5 94 rfl rfl, tb_1 1 (by decide +kernel) rfl, by decide +kernel, by decide +kernel, by decide +kernel⟩
theorem clb_X11_ship : CLB m_X11_ship 1 := ⟨tb_5 83 rfl rfl, tb_1 1 (by decide +kernel) rfl, by decide +kernel, by decide +kernel, by decide +kernel⟩
theorem clb_X11_sight : CLB m_X11_sight 2 := ⟨tb_3 155 rfl rfl, tb_1 1 (by decide +kernel) rfl, by decide +kernel, by decide +kernel, by decide +kernel⟩
theorem clb_X11_station : CLB m_X11_station 4 := ⟨tb_3 148 rfl rfl, tb_1 1 (by decide +kernel) rfl, by decide +kernel, by decide +kernel, by decide +kernel⟩
theorem clb_X11_tick : CLB m_X11_tick 1 := ⟨tb_4 166 rfl rfl, tb_1 1 (by decide +kernel) rfl, by decide +kernel, by decide +kernel, by decide +kernel⟩
theorem clb_X11_way : CLB m_X11_way 4 := ⟨tb_6 21 rfl rfl, tb_1 1 (by decide +kernel) rfl, by decide +kernel, by decide +kernel, by decide +kernel⟩
theorem clb_X11_within : CLB m_X11_within 3 := ⟨tb_3 38 rfl rfl, tb_1 1 (by decide +kernel) rfl, by decide +kernel, by decide +kernel, by decide +kernel⟩
theorem clb_X11_word : CLB m_X11_word 2 := ⟨tb_5 103 rfl rfl, tb_1 1 (by decide +kernel) rfl, by decide +kernel, by decide +kernel, by decide +kernel⟩
theorem clb_X11_written : CLB m_X11_written 1 := ⟨tb_3 123 rfl rfl, tb_1 1 (by decide +kernel) rfl, by decide +kernel, by decide +kernel, by decide +kernel⟩
theorem clb_X0_act : CLB m_X0_act 1 := ⟨tb_5 56 rfl rfl, tb_1 9 (by decide +kernel) rfl, by decide +kernel, by decide +kernel, by decide +kernel⟩
theorem clb_X0_add : CLB m_X0_add 2 := ⟨tb_5 13 rfl rfl, tb_1 9 (by decide +kernel) rfl, by decide +kernel, by decide +kernel, by decide +kernel⟩
theorem clb_X0_addDue : CLB m_X0_addDue 2 := ⟨tb_4 139 rfl rfl, tb_1 9 (by decide +kernel) rfl, by decide +kernel, by decide +kernel, by decide +kernel⟩
theorem clb_X0_begin : CLB m_X0_begin 1 := ⟨tb_4 202 rfl rfl, tb_1 9 (by decide +kernel) rfl, by decide +kernel, by decide +kernel, by decide +kernel⟩
theorem clb_X0_beginDue : CLB m_X0_beginDue 0 := ⟨tb_4 198 rfl rfl, tb_1 9 (by decide +kernel) rfl, by decide +kernel, by decide +kernel, by decide +kernel⟩
theorem clb_X0_decide : CLB m_X0_decide 3 := ⟨tb_4 234 rfl rfl, tb_1 9 (by decide +kernel) rfl, by decide +kernel, by decide +kernel, by decide +kernel⟩
theorem clb_X0_doLine : CLB m_X0_doLine 1 := ⟨tb_4 210 rfl rfl, tb_1 9 (by decide +kernel) rfl, by decide +kernel, by decide +kernel, by decide +kernel⟩
theorem clb_X0_doSecond : CLB m_X0_doSecond 0 := ⟨tb_4 170 rfl rfl, tb_1 9 (by decide +kernel) rfl, by decide +kernel, by decide +kernel, by decide +kernel⟩
theorem clb_X0_failOf : CLB m_X0_failOf 1 := ⟨tb_4 238 rfl rfl, tb_1 9 (by decide +kernel) rfl, by decide +kernel, by decide +kernel, by decide +kernel⟩
theorem clb_X0_goOn : CLB m_X0_goOn 1 := ⟨tb_4 206 rfl rfl, tb_1 9 (by decide +kernel) rfl, by decide +kernel, by decide +kernel, by decide +kernel⟩
theorem clb_X0_goTo : CLB m_X0_goTo 1 := ⟨tb_5 44 rfl rfl, tb_1 9 (by decide +kernel) rfl, by decide +kernel, by decide +kernel, by decide +kernel⟩
theorem clb_X0_install : CLB m_X0_install 3 := ⟨tb_4 112 rfl rfl, tb_1 9 (by decide +kernel) rfl, by decide +kernel, by decide +kernel, by decide +kernel⟩
theorem clb_X0_judge : CLB m_X0_judge 2 := ⟨tb_4 215 rfl rfl, tb_1 9 (by decide +kernel) rfl, by decide +kernel, by decide +kernel, by decide +kernel⟩
theorem clb_X0_measure : CLB m_X0_measure 1 := ⟨tb_4 219 rfl rfl, tb_1 9 (by decide +kernel) rfl, by decide +kernel, by decide +kernel, by decide +kernel⟩
theorem clb_X0_perform : CLB m_X0_perform 2 := ⟨tb_5 2 rfl rfl, tb_1 9 (by decide +kernel) rfl, by decide +kernel, by decide +kernel, by decide +kernel⟩
theorem clb_X0_ready : CLB m_X0_ready 1 := ⟨tb_5 197 rfl rfl, tb_1 9 (by decide +kernel) rfl, by decide +kernel, by decide +kernel, by decide +kernel⟩
theorem clb_X0_record : CLB m_X0_record 1 := ⟨tb_5 17 rfl rfl, tb_1 9 (by decide +kernel) rfl, by decide +kernel, by decide +kernel, by decide +kernel⟩
theorem clb_X0_setMonitor : CLB m_X0_setMonitor 4 := ⟨tb_4 155 rfl rfl, tb_1 9 (by decide +kernel) rfl, by decide +kernel, by decide +kernel, by decide +kernel⟩
theorem clb_X0_stop : CLB m_X0_stop 1 := ⟨tb_4 130 rfl rfl, tb_1 9 (by decide +kernel) rfl, by decide +kernel, by decide +kernel, by decide +kernel⟩
theorem clb_X0_takeCommand : CLB m_X0_takeCommand 3 := ⟨tb_5 193 rfl rfl, tb_1 9 (by decide +kernel) rfl, by decide +kernel, by decide +kernel, by decide +kernel⟩
theorem clb_X0_watch : CLB m_X0_watch 1 := ⟨tb_5 52 rfl rfl, tb_1 9 (by decide +kernel) rfl, by decide +kernel, by decide +kernel, by decide +kernel⟩
theorem clb_X1_addLeap : CLB m_X1_addLeap 2 := ⟨tb_3 50 rfl rfl, tb_1 4 (by decide +kernel) rfl, by decide +kernel, by decide +kernel, by decide +kernel⟩
theorem clb_X1_dayOf : CLB m_X1_dayOf 3 := ⟨tb_3 62 rfl rfl, tb_1 4 (by decide +kernel) rfl, by decide +kernel, by decide +kernel, by decide +kernel⟩
theorem clb_X1_daysIn : CLB m_X1_daysIn 2 := ⟨tb_3 53 rfl rfl, tb_1 4 (by decide +kernel) rfl, by decide +kernel, by decide +kernel, by decide +kernel⟩
theorem clb_X1_hasLeap : CLB m_X1_hasLeap 1 := ⟨tb_3 102 rfl rfl, tb_1 4 (by decide +kernel) rfl, by decide +kernel, by decide +kernel, by decide +kernel⟩
theorem clb_X1_hasSecond : CLB m_X1_hasSecond 1 := ⟨tb_3 127 rfl rfl, tb_1 4 (by decide +kernel) rfl, by decide +kernel, by decide +kernel, by decide +kernel⟩
theorem clb_X1_leapsBefore : CLB m_X1_leapsBefore 1 := ⟨tb_3 106 rfl rfl, tb_1 4 (by decide +kernel) rfl, by decide +kernel, by decide +kernel, by decide +kernel⟩
theorem clb_X1_readDate : CLB m_X1_readDate 1 := ⟨tb_3 74 rfl rfl, tb_1 4 (by decide +kernel) rfl, by decide +kernel, by decide +kernel, by decide +kernel⟩
theorem clb_X1_writeDate : CLB m_X1_writeDate 2 := ⟨tb_3 131 rfl rfl, tb_1 4 (by decide +kernel) rfl, by decide +kernel, by decide +kernel, by decide +kernel⟩
theorem clb_X1_writeDay : CLB m_X1_writeDay 2 := ⟨tb_3 134 rfl rfl, tb_1 4 (by decide +kernel) rfl, by decide +kernel, by decide +kernel, by decide +kernel⟩
theorem clb_X1_writeTwo : CLB m_X1_writeTwo 3 := ⟨tb_3 137 rfl rfl, tb_1 4 (by decide +kernel) rfl, by decide +kernel, by decide +kernel, by decide +kernel⟩
theorem clb_X2_acknowledge : CLB m_X2_acknowledge 2 := ⟨tb_5 137 rfl rfl, tb_1 11 (by decide +kernel) rfl, by decide +kernel, by decide +kernel, by decide +kernel⟩
theorem clb_X2_begin : CLB m_X2_begin 2 := ⟨tb_5 133 rfl rfl, tb_1 11 (by decide +kernel) rfl, by decide +kernel, by decide +kernel, by decide +kernel⟩
theorem clb_X2_isFull : CLB m_X2_isFull 0 := ⟨tb_5 167 rfl rfl, tb_1 11 (by decide +kernel) rfl, by decide +kernel, by decide +kernel, by decide +kernel⟩
theorem clb_X2_keep : CLB m_X2_keep 1 := ⟨tb_5 175 rfl rfl, tb_1 11 (by decide +kernel) rfl, by decide +kernel, by decide +kernel, by decide +kernel⟩
theorem clb_X2_nextToSend : CLB m_X2_nextToSend 0 := ⟨tb_5 188 rfl rfl, tb_1 11 (by decide +kernel) rfl, by decide +kernel, by decide +kernel, by decide +kernel⟩
theorem clb_X2_pieceTogether : CLB m_X2_pieceTogether 3 := ⟨tb_5 145 rfl rfl, tb_1 11 (by decide +kernel) rfl, by decide +kernel, by decide +kernel, by decide +kernel⟩
theorem clb_X2_putInArchive : CLB m_X2_putInArchive 0 := ⟨tb_5 150 rfl rfl, tb_1 11 (by decide +kernel) rfl, by decide +kernel, by decide +kernel, by decide +kernel⟩
theorem clb_X2_takeFrame : CLB m_X2_takeFrame 2 := ⟨tb_5 128 rfl rfl, tb_1 11 (by decide +kernel) rfl, by decide +kernel, by decide +kernel, by decide +kernel⟩
theorem clb_X2_toSend : CLB m_X2_toSend 0 := ⟨tb_5 183 rfl rfl, tb_1 11 (by decide +kernel) rfl, by decide +kernel, by decide +kernel, by decide +kernel⟩
theorem clb_X2_writePacket : CLB m_X2_writePacket 2 := ⟨tb_5 159 rfl rfl, tb_1 11 (by decide +kernel) rfl, by decide +kernel, by decide +kernel, by decide +kernel⟩
theorem clb_X3_copy : CLB m_X3_copy 3 := ⟨tb_4 125 rfl rfl, tb_1 3 (by decide +kernel) rfl, by decide +kernel, by decide +kernel, by decide +kernel⟩
theorem clb_X3_countFrom : CLB m_X3_countFrom 1 := ⟨tb_4 116 rfl rfl, tb_1 3 (by decide +kernel) rfl, by decide +kernel, by decide +kernel, by decide +kernel⟩
theorem clb_X3_erase : CLB m_X3_erase 2 := ⟨tb_3 211 rfl rfl, tb_1 3 (by decide +kernel) rfl, by decide +kernel, by decide +kernel, by decide +kernel⟩
theorem clb_X3_greatest : CLB m_X3_greatest 1 := ⟨tb_4 108 rfl rfl, tb_1 3 (by decide +kernel) rfl, by decide +kernel, by decide +kernel, by decide +kernel⟩
theorem clb_X3_isThere : CLB m_X3_isThere 1 := ⟨tb_4 120 rfl rfl, tb_1 3 (by decide +kernel) rfl, by decide +kernel, by decide +kernel, by decide +kernel⟩
theorem clb_X3_readCommand : CLB m_X3_readCommand 1 := ⟨tb_5 171 rfl rfl, tb_1 3 (by decide +kernel) rfl, by decide +kernel, by decide +kernel, by decide +kernel⟩
theorem clb_X3_readCondition : CLB m_X3_readCondition 2 := ⟨tb_4 87 rfl rfl, tb_1 3 (by decide +kernel) rfl, by decide +kernel, by decide +kernel, by decide +kernel⟩
theorem clb_X3_readLine : CLB m_X3_readLine 2 := ⟨tb_3 217 rfl rfl, tb_1 3 (by decide +kernel) rfl, by decide +kernel, by decide +kernel, by decide +kernel⟩
theorem clb_X3_readMonitor : CLB m_X3_readMonitor 1 := ⟨tb_4 151 rfl rfl, tb_1 3 (by decide +kernel) rfl, by decide +kernel, by decide +kernel, by decide +kernel⟩
theorem clb_X3_readProgram : CLB m_X3_readProgram 1 := ⟨tb_3 206 rfl rfl, tb_1 3 (by decide +kernel) rfl, by decide +kernel, by decide +kernel, by decide +kernel⟩
theorem clb_X3_readRest : CLB m_X3_readRest 3 := ⟨tb_4 82 rfl rfl, tb_1 3 (by decide +kernel) rfl, by decide +kernel, by decide +kernel, by decide +kernel⟩
theorem clb_X3_text : CLB m_X3_text 1 := ⟨tb_3 231 rfl rfl, tb_1 3 (by decide +kernel) rfl, by decide +kernel, by decide +kernel, by decide +kernel⟩
theorem clb_X3_thingText : CLB m_X3_thingText 1 := ⟨tb_4 9 rfl rfl, tb_1 3 (by decide +kernel) rfl, by decide +kernel, by decide +kernel, by decide +kernel⟩
theorem clb_X4_checkOf : CLB m_X4_checkOf 2 := ⟨tb_5 77 rfl rfl, tb_1 8 (by decide +kernel) rfl, by decide +kernel, by decide +kernel, by decide +kernel⟩
theorem clb_X4_dropFrame : CLB m_X4_dropFrame 0 := ⟨tb_5 120 rfl rfl, tb_1 8 (by decide +kernel) rfl, by decide +kernel, by decide +kernel, by decide +kernel⟩
theorem clb_X4_fillData : CLB m_X4_fillData 1 := ⟨tb_5 64 rfl rfl, tb_1 8 (by decide +kernel) rfl, by decide +kernel, by decide +kernel, by decide +kernel⟩
theorem clb_X4_firstClass : CLB m_X4_firstClass 0 := ⟨tb_5 68 rfl rfl, tb_1 8 (by decide +kernel) rfl, by decide +kernel, by decide +kernel, by decide +kernel⟩
theorem clb_X4_label : CLB m_X4_label 2 := ⟨tb_5 21 rfl rfl, tb_1 8 (by decide +kernel) rfl, by decide +kernel, by decide +kernel, by decide +kernel⟩
theorem clb_X4_lastClass : CLB m_X4_lastClass 0 := ⟨tb_5 29 rfl rfl, tb_1 8 (by decide +kernel) rfl, by decide +kernel, by decide +kernel, by decide +kernel⟩
theorem clb_X4_oldestFrame : CLB m_X4_oldestFrame 0 := ⟨tb_5 112 rfl rfl, tb_1 8 (by decide +kernel) rfl, by decide +kernel, by decide +kernel, by decide +kernel⟩
theorem clb_X4_record : CLB m_X4_record 0 := ⟨tb_5 25 rfl rfl, tb_1 8 (by decide +kernel) rfl, by decide +kernel, by decide +kernel, by decide +kernel⟩
theorem clb_X4_recordedPackets : CLB m_X4_recordedPackets 0 := ⟨tb_5 90 rfl rfl, tb_1 8 (by decide +kernel) rfl, by decide +kernel, by decide +kernel, by decide +kernel⟩
theorem clb_X4_sendFrame : CLB m_X4_sendFrame 0 := ⟨tb_5 60 rfl rfl, tb_1 8 (by decide +kernel) rfl, by decide +kernel, by decide +kernel, by decide +kernel⟩
theorem clb_X4_slot : CLB m_X4_slot 2 := ⟨tb_5 33 rfl rfl, tb_1 8 (by decide +kernel) rfl, by decide +kernel, by decide +kernel, by decide +kernel⟩
theorem clb_X4_startPacket : CLB m_X4_startPacket 1 := ⟨tb_5 72 rfl rfl, tb_1 8 (by decide +kernel) rfl, by decide +kernel, by decide +kernel, by decide +kernel⟩
theorem clb_X4_takeOldest : CLB m_X4_takeOldest 2 := ⟨tb_5 37 rfl rfl, tb_1 8 (by decide +kernel) rfl, by decide +kernel, by decide +kernel, by decide +kernel⟩
theorem clb_X5_byteOf : CLB m_X5_byteOf 1 := ⟨tb_4 225 rfl rfl, tb_1 7 (by decide +kernel) rfl, by decide +kernel, by decide +kernel, by decide +kernel⟩
theorem clb_X5_corrected : CLB m_X5_corrected 1 := ⟨tb_4 194 rfl rfl, tb_1 7 (by decide +kernel) rfl, by decide +kernel, by decide +kernel, by decide +kernel⟩
theorem clb_X5_decoded : CLB m_X5_decoded 1 := ⟨tb_4 228 rfl rfl, tb_1 7 (by decide +kernel) rfl, by decide +kernel, by decide +kernel, by decide +kernel⟩
theorem clb_X5_encoded : CLB m_X5_encoded 1 := ⟨tb_5 9 rfl rfl, tb_1 7 (by decide +kernel) rfl, by decide +kernel, by decide +kernel, by decide +kernel⟩
theorem clb_X5_mend : CLB m_X5_mend 1 := ⟨tb_4 191 rfl rfl, tb_1 7 (by decide +kernel) rfl, by decide +kernel, by decide +kernel, by decide +kernel⟩
theorem clb_X5_write : CLB m_X5_write 2 := ⟨tb_5 6 rfl rfl, tb_1 7 (by decide +kernel) rfl, by decide +kernel, by decide +kernel, by decide +kernel⟩
theorem clb_X6_angle : CLB m_X6_angle 1 := ⟨tb_3 163 rfl rfl, tb_1 5 (by decide +kernel) rfl, by decide +kernel, by decide +kernel, by decide +kernel⟩
theorem clb_X6_firstSight : CLB m_X6_firstSight 3 := ⟨tb_3 159 rfl rfl, tb_1 5 (by decide +kernel) rfl, by decide +kernel, by decide +kernel, by decide +kernel⟩
theorem clb_X6_inArc : CLB m_X6_inArc 3 := ⟨tb_3 171 rfl rfl, tb_1 5 (by decide +kernel) rfl, by decide +kernel, by decide +kernel, by decide +kernel⟩
theorem clb_X6_isInShadow : CLB m_X6_isInShadow 1 := ⟨tb_4 178 rfl rfl, tb_1 5 (by decide +kernel) rfl, by decide +kernel, by decide +kernel, by decide +kernel⟩
theorem clb_X6_isSeen : CLB m_X6_isSeen 1 := ⟨tb_4 182 rfl rfl, tb_1 5 (by decide +kernel) rfl, by decide +kernel, by decide +kernel, by decide +kernel⟩
theorem clb_X6_look : CLB m_X6_look 1 := ⟨tb_4 174 rfl rfl, tb_1 5 (by decide +kernel) rfl, by decide +kernel, by decide +kernel, by decide +kernel⟩
theorem clb_X6_turn : CLB m_X6_turn 1 := ⟨tb_3 167 rfl rfl, tb_1 5 (by decide +kernel) rfl, by decide +kernel, by decide +kernel, by decide +kernel⟩
theorem clb_X6_whenPassed : CLB m_X6_whenPassed 2 := ⟨tb_3 175 rfl rfl, tb_1 5 (by decide +kernel) rfl, by decide +kernel, by decide +kernel, by decide +kernel⟩
theorem clb_X7_add : CLB m_X7_add 4 := ⟨tb_5 211 rfl rfl, tb_1 12 (by decide +kernel) rfl, by decide +kernel, by decide +kernel, by decide +kernel⟩
theorem clb_X7_choose : CLB m_X7_choose 0 := ⟨tb_5 227 rfl rfl, tb_1 12 (by decide +kernel) rfl, by decide +kernel, by decide +kernel, by decide +kernel⟩
theorem clb_X7_findClashes : CLB m_X7_findClashes 0 := ⟨tb_5 231 rfl rfl, tb_1 12 (by decide +kernel) rfl, by decide +kernel, by decide +kernel, by decide +kernel⟩
theorem clb_X7_goTogether : CLB m_X7_goTogether 2 := ⟨tb_5 235 rfl rfl, tb_1 12 (by decide +kernel) rfl, by decide +kernel, by decide +kernel, by decide +kernel⟩
theorem clb_X7_isAhead : CLB m_X7_isAhead 1 := ⟨tb_6 3 rfl rfl, tb_1 12 (by decide +kernel) rfl, by decide +kernel, by decide +kernel, by decide +kernel⟩
theorem clb_X7_worthOf : CLB m_X7_worthOf 1 := ⟨tb_5 239 rfl rfl, tb_1 12 (by decide +kernel) rfl, by decide +kernel, by decide +kernel, by decide +kernel⟩
theorem clb_X8_putInOrder : CLB m_X8_putInOrder 0 := ⟨tb_3 195 rfl rfl, tb_1 6 (by decide +kernel) rfl, by decide +kernel, by decide +kernel, by decide +kernel⟩
theorem clb_X8_serve : CLB m_X8_serve 1 := ⟨tb_4 186 rfl rfl, tb_1 6 (by decide +kernel) rfl, by decide +kernel, by decide +kernel, by decide +kernel⟩
theorem clb_X8_switchTo : CLB m_X8_switchTo 1 := ⟨tb_5 48 rfl rfl, tb_1 6 (by decide +kernel) rfl, by decide +kernel, by decide +kernel, by decide +kernel⟩
theorem clb_X9_isNearer : CLB m_X9_isNearer 2 := ⟨tb_6 37 rfl rfl, tb_1 13 (by decide +kernel) rfl, by decide +kernel, by decide +kernel, by decide +kernel⟩
theorem clb_X9_neighbour : CLB m_X9_neighbour 2 := ⟨tb_6 29 rfl rfl, tb_1 13 (by decide +kernel) rfl, by decide +kernel, by decide +kernel, by decide +kernel⟩
theorem clb_X9_turnsTo : CLB m_X9_turnsTo 2 := ⟨tb_6 25 rfl rfl, tb_1 13 (by decide +kernel) rfl, by decide +kernel, by decide +kernel, by decide +kernel⟩
theorem clb_X9_writeTurns : CLB m_X9_writeTurns 3 := ⟨tb_6 33 rfl rfl, tb_1 13 (by decide +kernel) rfl, by decide +kernel, by decide +kernel, by decide +kernel⟩
theorem clb_X10_append : CLB m_X10_append 1 := ⟨tb_3 31 rfl rfl, tb_1 2 (by decide +kernel) rfl, by decide +kernel, by decide +kernel, by decide +kernel⟩
theorem clb_X10_byteAt : CLB m_X10_byteAt 1 := ⟨tb_3 86 rfl rfl, tb_1 2 (by decide +kernel) rfl, by decide +kernel, by decide +kernel, by decide +kernel⟩
theorem clb_X10_closes : CLB m_X10_closes 0 := ⟨tb_3 111 rfl rfl, tb_1 2 (by decide +kernel) rfl, by decide +kernel, by decide +kernel, by decide +kernel⟩
theorem clb_X10_compareSign : CLB m_X10_compareSign 0 := ⟨tb_4 91 rfl rfl, tb_1 2 (by decide +kernel) rfl, by decide +kernel, by decide +kernel, by decide +kernel⟩
theorem clb_X10_digits : CLB m_X10_digits 0 := ⟨tb_4 101 rfl rfl, tb_1 2 (by decide +kernel) rfl, by decide +kernel, by decide +kernel, by decide +kernel⟩
theorem clb_X10_fixed : CLB m_X10_fixed 3 := ⟨tb_3 78 rfl rfl, tb_1 2 (by decide +kernel) rfl, by decide +kernel, by decide +kernel, by decide +kernel⟩
theorem clb_X10_inRange : CLB m_X10_inRange 4 := ⟨tb_3 93 rfl rfl, tb_1 2 (by decide +kernel) rfl, by decide +kernel, by decide +kernel, by decide +kernel⟩
theorem clb_X10_integer : CLB m_X10_integer 2 := ⟨tb_4 97 rfl rfl, tb_1 2 (by decide +kernel) rfl, by decide +kernel, by decide +kernel, by decide +kernel⟩
theorem clb_X10_isAtEnd : CLB m_X10_isAtEnd 0 := ⟨tb_3 115 rfl rfl, tb_1 2 (by decide +kernel) rfl, by decide +kernel, by decide +kernel, by decide +kernel⟩
theorem clb_X10_isDigit : CLB m_X10_isDigit 1 := ⟨tb_3 89 rfl rfl, tb_1 2 (by decide +kernel) rfl, by decide +kernel, by decide +kernel, by decide +kernel⟩
theorem clb_X10_isLetter : CLB m_X10_isLetter 1 := ⟨tb_3 228 rfl rfl, tb_1 2 (by decide +kernel) rfl, by decide +kernel, by decide +kernel, by decide +kernel⟩
theorem clb_X10_isRight : CLB m_X10_isRight 0 := ⟨tb_3 82 rfl rfl, tb_1 2 (by decide +kernel) rfl, by decide +kernel, by decide +kernel, by decide +kernel⟩
theorem clb_X10_number : CLB m_X10_number 2 := ⟨tb_4 105 rfl rfl, tb_1 2 (by decide +kernel) rfl, by decide +kernel, by decide +kernel, by decide +kernel⟩
theorem clb_X10_open : CLB m_X10_open 0 := ⟨tb_3 70 rfl rfl, tb_1 2 (by decide +kernel) rfl, by decide +kernel, by decide +kernel, by decide +kernel⟩
theorem clb_X10_reads : CLB m_X10_reads 2 := ⟨tb_4 30 rfl rfl, tb_1 2 (by decide +kernel) rfl, by decide +kernel, by decide +kernel, by decide +kernel⟩
theorem clb_X10_skip : CLB m_X10_skip 1 := ⟨tb_3 98 rfl rfl, tb_1 2 (by decide +kernel) rfl, by decide +kernel, by decide +kernel, by decide +kernel⟩
theorem clb_X10_told : CLB m_X10_told 2 := ⟨tb_3 221 rfl rfl, tb_1 2 (by decide +kernel) rfl, by decide +kernel, by decide +kernel, by decide +kernel⟩
theorem clb_X10_wordEnd : CLB m_X10_wordEnd 0 := ⟨tb_3 225 rfl rfl, tb_1 2 (by decide +kernel) rfl, by decide +kernel, by decide +kernel, by decide +kernel⟩
theorem clb_X10_wrong : CLB m_X10_wrong 0 := ⟨tb_3 119 rfl rfl, tb_1 2 (by decide +kernel) rfl, by decide +kernel, by decide +kernel, by decide +kernel⟩
theorem clb_X12_acknowledge : CLB m_X12_acknowledge 1 := ⟨tb_8 230 rfl rfl, tb_1 14 (by decide +kernel) rfl, by decide +kernel, by decide +kernel, by decide +kernel⟩
theorem clb_X12_act : CLB m_X12_act 1 := ⟨tb_8 166 rfl rfl, tb_1 14 (by decide +kernel) rfl, by decide +kernel, by decide +kernel, by decide +kernel⟩
theorem clb_X12_add : CLB m_X12_add 1 := ⟨tb_8 5 rfl rfl, tb_1 14 (by decide +kernel) rfl, by decide +kernel, by decide +kernel, by decide +kernel⟩
theorem clb_X12_angle : CLB m_X12_angle 1 := ⟨tb_8 25 rfl rfl, tb_1 14 (by decide +kernel) rfl, by decide +kernel, by decide +kernel, by decide +kernel⟩
theorem clb_X12_areApart : CLB m_X12_areApart 2 := ⟨tb_9 31 rfl rfl, tb_1 14 (by decide +kernel) rfl, by decide +kernel, by decide +kernel, by decide +kernel⟩
theorem clb_X12_bad : CLB m_X12_bad 0 := ⟨tb_7 205 rfl rfl, tb_1 14 (by decide +kernel) rfl, by decide +kernel, by decide +kernel, by decide +kernel⟩
theorem clb_X12_bar : CLB m_X12_bar 3 := ⟨tb_9 35 rfl rfl, tb_1 14 (by decide +kernel) rfl, by decide +kernel, by decide +kernel, by decide +kernel⟩
theorem clb_X12_begin : CLB m_X12_begin 1 := ⟨tb_8 142 rfl rfl, tb_1 14 (by decide +kernel) rfl, by decide +kernel, by decide +kernel, by decide +kernel⟩
theorem clb_X12_behind : CLB m_X12_behind 2 := ⟨tb_8 85 rfl rfl, tb_1 14 (by decide +kernel) rfl, by decide +kernel, by decide +kernel, by decide +kernel⟩
theorem clb_X12_beside : CLB m_X12_beside 2 := ⟨tb_9 45 rfl rfl, tb_1 14 (by decide +kernel) rfl, by decide +kernel, by decide +kernel, by decide +kernel⟩
theorem clb_X12_best : CLB m_X12_best 1 := ⟨tb_9 27 rfl rfl, tb_1 14 (by decide +kernel) rfl, by decide +kernel, by decide +kernel, by decide +kernel⟩
theorem clb_X12_check : CLB m_X12_check 2 := ⟨tb_8 193 rfl rfl, tb_1 14 (by decide +kernel) rfl, by decide +kernel, by decide +kernel, by decide +kernel⟩
theorem clb_X12_clear : CLB m_X12_clear 0 := ⟨tb_9 23 rfl rfl, tb_1 14 (by decide +kernel) rfl, by decide +kernel, by decide +kernel, by decide +kernel⟩
theorem clb_X12_command : CLB m_X12_command 0 := ⟨tb_8 239 rfl rfl, tb_1 14 (by decide +kernel) rfl, by decide +kernel, by decide +kernel, by decide +kernel⟩
theorem clb_X12_condition : CLB m_X12_condition 1 := ⟨tb_8 93 rfl rfl, tb_1 14 (by decide +kernel) rfl, by decide +kernel, by decide +kernel, by decide +kernel⟩
theorem clb_X12_copyLine : CLB m_X12_copyLine 2 := ⟨tb_8 111 rfl rfl, tb_1 14 (by decide +kernel) rfl, by decide +kernel, by decide +kernel, by decide +kernel⟩
theorem clb_X12_date : CLB m_X12_date 0 := ⟨tb_7 193 rfl rfl, tb_1 14 (by decide +kernel) rfl, by decide +kernel, by decide +kernel, by decide +kernel⟩
theorem clb_X12_dayOf : CLB m_X12_dayOf 2 := ⟨tb_7 183 rfl rfl, tb_1 14 (by decide +kernel) rfl, by decide +kernel, by decide +kernel, by decide +kernel⟩
theorem clb_X12_days : CLB m_X12_days 2 := ⟨tb_7 189 rfl rfl, tb_1 14 (by decide +kernel) rfl, by decide +kernel, by decide +kernel, by decide +kernel⟩
theorem clb_X12_digit : CLB m_X12_digit 2 := ⟨tb_8 1 rfl rfl, tb_1 14 (by decide +kernel) rfl, by decide +kernel, by decide +kernel, by decide +kernel⟩
theorem clb_X12_digits : CLB m_X12_digits 3 := ⟨tb_7 201 rfl rfl, tb_1 14 (by decide +kernel) rfl, by decide +kernel, by decide +kernel, by decide +kernel⟩
theorem clb_X12_done : CLB m_X12_done 0 := ⟨tb_7 228 rfl rfl, tb_1 14 (by decide +kernel) rfl, by decide +kernel, by decide +kernel, by decide +kernel⟩
theorem clb_X12_drop : CLB m_X12_drop 1 := ⟨tb_8 178 rfl rfl, tb_1 14 (by decide +kernel) rfl, by decide +kernel, by decide +kernel, by decide +kernel⟩
theorem clb_X12_due : CLB m_X12_due 2 := ⟨tb_8 103 rfl rfl, tb_1 14 (by decide +kernel) rfl, by decide +kernel, by decide +kernel, by decide +kernel⟩
theorem clb_X12_emit : CLB m_X12_emit 1 := ⟨tb_8 170 rfl rfl, tb_1 14 (by decide +kernel) rfl, by decide +kernel, by decide +kernel, by decide +kernel⟩
theorem clb_X12_encoded : CLB m_X12_encoded 1 := ⟨tb_8 134 rfl rfl, tb_1 14 (by decide +kernel) rfl, by decide +kernel, by decide +kernel, by decide +kernel⟩
theorem clb_X12_end : CLB m_X12_end 1 := ⟨tb_7 169 rfl rfl, tb_1 14 (by decide +kernel) rfl, by decide +kernel, by decide +kernel, by decide +kernel⟩
theorem clb_X12_fail : CLB m_X12_fail 1 := ⟨tb_7 216 rfl rfl, tb_1 14 (by decide +kernel) rfl, by decide +kernel, by decide +kernel, by decide +kernel⟩
theorem clb_X12_feed : CLB m_X12_feed 5 := ⟨tb_7 161 rfl rfl, tb_1 14 (by decide +kernel) rfl, by decide +kernel, by decide +kernel, by decide +kernel⟩
theorem clb_X12_firstSecond : CLB m_X12_firstSecond 1 := ⟨tb_7 232 rfl rfl, tb_1 14 (by decide +kernel) rfl, by decide +kernel, by decide +kernel, by decide +kernel⟩
theorem clb_X12_flip : CLB m_X12_flip 2 := ⟨tb_8 43 rfl rfl, tb_1 14 (by decide +kernel) rfl, by decide +kernel, by decide +kernel, by decide +kernel⟩
theorem clb_X12_four : CLB m_X12_four 1 := ⟨tb_7 165 rfl rfl, tb_1 14 (by decide +kernel) rfl, by decide +kernel, by decide +kernel, by decide +kernel⟩
theorem clb_X12_gap : CLB m_X12_gap 1 := ⟨tb_9 19 rfl rfl, tb_1 14 (by decide +kernel) rfl, by decide +kernel, by decide +kernel, by decide +kernel⟩
theorem clb_X12_goTo : CLB m_X12_goTo 1 := ⟨tb_8 182 rfl rfl, tb_1 14 (by decide +kernel) rfl, by decide +kernel, by decide +kernel, by decide +kernel⟩
theorem clb_X12_goes : CLB m_X12_goes 1 := ⟨tb_8 146 rfl rfl, tb_1 14 (by decide +kernel) rfl, by decide +kernel, by decide +kernel, by decide +kernel⟩
theorem clb_X12_ground : CLB m_X12_ground 1 := ⟨tb_9 11 rfl rfl, tb_1 14 (by decide +kernel) rfl, by decide +kernel, by decide +kernel, by decide +kernel⟩
theorem clb_X12_hasLeap : CLB m_X12_hasLeap 1 := ⟨tb_7 224 rfl rfl, tb_1 14 (by decide +kernel) rfl, by decide +kernel, by decide +kernel, by decide +kernel⟩
theorem clb_X12_here : CLB m_X12_here 0 := ⟨tb_7 209 rfl rfl, tb_1 14 (by decide +kernel) rfl, by decide +kernel, by decide +kernel, by decide +kernel⟩
theorem clb_X12_holds : CLB m_X12_holds 1 := ⟨tb_8 150 rfl rfl, tb_1 14 (by decide +kernel) rfl, by decide +kernel, by decide +kernel, by decide +kernel⟩
theorem clb_X12_is : CLB m_X12_is 3 := ⟨tb_7 176 rfl rfl, tb_1 14 (by decide +kernel) rfl, by decide +kernel, by decide +kernel, by decide +kernel⟩
theorem clb_X12_isDigit : CLB m_X12_isDigit 1 := ⟨tb_7 212 rfl rfl, tb_1 14 (by decide +kernel) rfl, by decide +kernel, by decide +kernel, by decide +kernel⟩
theorem clb_X12_isField : CLB m_X12_isField 2 := ⟨tb_9 38 rfl rfl, tb_1 14 (by decide +kernel) rfl, by decide +kernel, by decide +kernel, by decide +kernel⟩
theorem clb_X12_isLong : CLB m_X12_isLong 1 := ⟨tb_7 186 rfl rfl, tb_1 14 (by decide +kernel) rfl, by decide +kernel, by decide +kernel, by decide +kernel⟩
theorem clb_X12_isSeen : CLB m_X12_isSeen 0 := ⟨tb_8 162 rfl rfl, tb_1 14 (by decide +kernel) rfl, by decide +kernel, by decide +kernel, by decide +kernel⟩
theorem clb_X12_isShadow : CLB m_X12_isShadow 0 := ⟨tb_8 127 rfl rfl, tb_1 14 (by decide +kernel) rfl, by decide +kernel, by decide +kernel, by decide +kernel⟩
theorem clb_X12_isSmall : CLB m_X12_isSmall 1 := ⟨tb_8 79 rfl rfl, tb_1 14 (by decide +kernel) rfl, by decide +kernel, by decide +kernel, by decide +kernel⟩
theorem clb_X12_leap : CLB m_X12_leap 2 := ⟨tb_7 180 rfl rfl, tb_1 14 (by decide +kernel) rfl, by decide +kernel, by decide +kernel, by decide +kernel⟩
theorem clb_X12_line : CLB m_X12_line 1 := ⟨tb_8 68 rfl rfl, tb_1 14 (by decide +kernel) rfl, by decide +kernel, by decide +kernel, by decide +kernel⟩
theorem clb_X12_link : CLB m_X12_link 0 := ⟨tb_8 190 rfl rfl, tb_1 14 (by decide +kernel) rfl, by decide +kernel, by decide +kernel, by decide +kernel⟩
theorem clb_X12_load : CLB m_X12_load 3 := ⟨tb_8 39 rfl rfl, tb_1 14 (by decide +kernel) rfl, by decide +kernel, by decide +kernel, by decide +kernel⟩
theorem clb_X12_lose : CLB m_X12_lose 0 := ⟨tb_8 214 rfl rfl, tb_1 14 (by decide +kernel) rfl, by decide +kernel, by decide +kernel, by decide +kernel⟩
theorem clb_X12_mend : CLB m_X12_mend 0 := ⟨tb_8 131 rfl rfl, tb_1 14 (by decide +kernel) rfl, by decide +kernel, by decide +kernel, by decide +kernel⟩
theorem clb_X12_mode : CLB m_X12_mode 3 := ⟨tb_8 99 rfl rfl, tb_1 14 (by decide +kernel) rfl, by decide +kernel, by decide +kernel, by decide +kernel⟩
theorem clb_X12_monitor : CLB m_X12_monitor 3 := ⟨tb_8 107 rfl rfl, tb_1 14 (by decide +kernel) rfl, by decide +kernel, by decide +kernel, by decide +kernel⟩
theorem clb_X12_need : CLB m_X12_need 1 := ⟨tb_7 220 rfl rfl, tb_1 14 (by decide +kernel) rfl, by decide +kernel, by decide +kernel, by decide +kernel⟩
theorem clb_X12_noise : CLB m_X12_noise 2 := ⟨tb_8 210 rfl rfl, tb_1 14 (by decide +kernel) rfl, by decide +kernel, by decide +kernel, by decide +kernel⟩
theorem clb_X12_odd : CLB m_X12_odd 1 := ⟨tb_8 57 rfl rfl, tb_1 14 (by decide +kernel) rfl, by decide +kernel, by decide +kernel, by decide +kernel⟩
theorem clb_X12_orbit : CLB m_X12_orbit 4 := ⟨tb_8 9 rfl rfl, tb_1 14 (by decide +kernel) rfl, by decide +kernel, by decide +kernel, by decide +kernel⟩
theorem clb_X12_out : CLB m_X12_out 1 := ⟨tb_7 173 rfl rfl, tb_1 14 (by decide +kernel) rfl, by decide +kernel, by decide +kernel, by decide +kernel⟩
theorem clb_X12_packet : CLB m_X12_packet 1 := ⟨tb_8 235 rfl rfl, tb_1 14 (by decide +kernel) rfl, by decide +kernel, by decide +kernel, by decide +kernel⟩
theorem clb_X12_pass : CLB m_X12_pass 4 := ⟨tb_9 15 rfl rfl, tb_1 14 (by decide +kernel) rfl, by decide +kernel, by decide +kernel, by decide +kernel⟩
theorem clb_X12_pieces : CLB m_X12_pieces 1 := ⟨tb_8 226 rfl rfl, tb_1 14 (by decide +kernel) rfl, by decide +kernel, by decide +kernel, by decide +kernel⟩
theorem clb_X12_places : CLB m_X12_places 1 := ⟨tb_8 54 rfl rfl, tb_1 14 (by decide +kernel) rfl, by decide +kernel, by decide +kernel, by decide +kernel⟩
theorem clb_X12_plain : CLB m_X12_plain 1 := ⟨tb_8 60 rfl rfl, tb_1 14 (by decide +kernel) rfl, by decide +kernel, by decide +kernel, by decide +kernel⟩
theorem clb_X12_power : CLB m_X12_power 2 := ⟨tb_8 33 rfl rfl, tb_1 14 (by decide +kernel) rfl, by decide +kernel, by decide +kernel, by decide +kernel⟩
theorem clb_X12_program : CLB m_X12_program 1 := ⟨tb_8 64 rfl rfl, tb_1 14 (by decide +kernel) rfl, by decide +kernel, by decide +kernel, by decide +kernel⟩
theorem clb_X12_read : CLB m_X12_read 1 := ⟨tb_8 51 rfl rfl, tb_1 14 (by decide +kernel) rfl, by decide +kernel, by decide +kernel, by decide +kernel⟩
theorem clb_X12_ready : CLB m_X12_ready 1 := ⟨tb_9 7 rfl rfl, tb_1 14 (by decide +kernel) rfl, by decide +kernel, by decide +kernel, by decide +kernel⟩
theorem clb_X12_receive : CLB m_X12_receive 0 := ⟨tb_8 222 rfl rfl, tb_1 14 (by decide +kernel) rfl, by decide +kernel, by decide +kernel, by decide +kernel⟩
theorem clb_X12_recorded : CLB m_X12_recorded 0 := ⟨tb_8 158 rfl rfl, tb_1 14 (by decide +kernel) rfl, by decide +kernel, by decide +kernel, by decide +kernel⟩
theorem clb_X12_round : CLB m_X12_round 1 := ⟨tb_8 28 rfl rfl, tb_1 14 (by decide +kernel) rfl, by decide +kernel, by decide +kernel, by decide +kernel⟩
theorem clb_X12_runs : CLB m_X12_runs 2 := ⟨tb_8 206 rfl rfl, tb_1 14 (by decide +kernel) rfl, by decide +kernel, by decide +kernel, by decide +kernel⟩
theorem clb_X12_sees : CLB m_X12_sees 2 := ⟨tb_8 21 rfl rfl, tb_1 14 (by decide +kernel) rfl, by decide +kernel, by decide +kernel, by decide +kernel⟩
theorem clb_X12_send : CLB m_X12_send 1 := ⟨tb_9 3 rfl rfl, tb_1 14 (by decide +kernel) rfl, by decide +kernel, by decide +kernel, by decide +kernel⟩
theorem clb_X12_serve : CLB m_X12_serve 0 := ⟨tb_8 119 rfl rfl, tb_1 14 (by decide +kernel) rfl, by decide +kernel, by decide +kernel, by decide +kernel⟩
theorem clb_X12_served : CLB m_X12_served 2 := ⟨tb_8 202 rfl rfl, tb_1 14 (by decide +kernel) rfl, by decide +kernel, by decide +kernel, by decide +kernel⟩
theorem clb_X12_shift : CLB m_X12_shift 0 := ⟨tb_8 218 rfl rfl, tb_1 14 (by decide +kernel) rfl, by decide +kernel, by decide +kernel, by decide +kernel⟩
theorem clb_X12_ship : CLB m_X12_ship 1 := ⟨tb_8 198 rfl rfl, tb_1 14 (by decide +kernel) rfl, by decide +kernel, by decide +kernel, by decide +kernel⟩
theorem clb_X12_sight : CLB m_X12_sight 2 := ⟨tb_8 17 rfl rfl, tb_1 14 (by decide +kernel) rfl, by decide +kernel, by decide +kernel, by decide +kernel⟩
theorem clb_X12_sort : CLB m_X12_sort 1 := ⟨tb_8 174 rfl rfl, tb_1 14 (by decide +kernel) rfl, by decide +kernel, by decide +kernel, by decide +kernel⟩
theorem clb_X12_starts : CLB m_X12_starts 0 := ⟨tb_8 138 rfl rfl, tb_1 14 (by decide +kernel) rfl, by decide +kernel, by decide +kernel, by decide +kernel⟩
theorem clb_X12_station : CLB m_X12_station 4 := ⟨tb_8 13 rfl rfl, tb_1 14 (by decide +kernel) rfl, by decide +kernel, by decide +kernel, by decide +kernel⟩
theorem clb_X12_sunNow : CLB m_X12_sunNow 0 := ⟨tb_8 123 rfl rfl, tb_1 14 (by decide +kernel) rfl, by decide +kernel, by decide +kernel, by decide +kernel⟩
theorem clb_X12_take : CLB m_X12_take 0 := ⟨tb_7 197 rfl rfl, tb_1 14 (by decide +kernel) rfl, by decide +kernel, by decide +kernel, by decide +kernel⟩
theorem clb_X12_tick : CLB m_X12_tick 1 := ⟨tb_8 115 rfl rfl, tb_1 14 (by decide +kernel) rfl, by decide +kernel, by decide +kernel, by decide +kernel⟩
theorem clb_X12_valueOf : CLB m_X12_valueOf 1 := ⟨tb_8 154 rfl rfl, tb_1 14 (by decide +kernel) rfl, by decide +kernel, by decide +kernel, by decide +kernel⟩
theorem clb_X12_watch : CLB m_X12_watch 0 := ⟨tb_8 186 rfl rfl, tb_1 14 (by decide +kernel) rfl, by decide +kernel, by decide +kernel, by decide +kernel⟩
theorem clb_X12_way : CLB m_X12_way 4 := ⟨tb_9 42 rfl rfl, tb_1 14 (by decide +kernel) rfl, by decide +kernel, by decide +kernel, by decide +kernel⟩
theorem clb_X12_whole : CLB m_X12_whole 3 := ⟨tb_8 89 rfl rfl, tb_1 14 (by decide +kernel) rfl, by decide +kernel, by decide +kernel, by decide +kernel⟩
theorem clb_X12_word : CLB m_X12_word 2 := ⟨tb_8 47 rfl rfl, tb_1 14 (by decide +kernel) rfl, by decide +kernel, by decide +kernel, by decide +kernel⟩
theorem clb_X12_wordEnd : CLB m_X12_wordEnd 0 := ⟨tb_8 76 rfl rfl, tb_1 14 (by decide +kernel) rfl, by decide +kernel, by decide +kernel, by decide +kernel⟩
theorem clb_X12_wordOf : CLB m_X12_wordOf 1 := ⟨tb_8 72 rfl rfl, tb_1 14 (by decide +kernel) rfl, by decide +kernel, by decide +kernel, by decide +kernel⟩
theorem clb_X12_written : CLB m_X12_written 1 := ⟨tb_7 237 rfl rfl, tb_1 14 (by decide +kernel) rfl, by decide +kernel, by decide +kernel, by decide +kernel⟩
theorem clb_J6_bitCount_0f7a4 : CLB m_J6_bitCount_0f7a4 1 := ⟨tb_6 6 rfl rfl, tb_1 21 (by decide +kernel) rfl, by decide +kernel, by decide +kernel, by decide +kernel⟩
theorem clb_J9_max_7cf53 : CLB m_J9_max_7cf53 2 := ⟨tb_5 141 rfl rfl, tb_1 15 (by decide +kernel) rfl, by decide +kernel, by decide +kernel, by decide +kernel⟩
theorem clb_J9_min_7cf53 : CLB m_J9_min_7cf53 2 := ⟨tb_3 178 rfl rfl, tb_1 15 (by decide +kernel) rfl, by decide +kernel, by decide +kernel, by decide +kernel⟩
theorem clb_J0_charAt_5068e : CLB m_J0_charAt_5068e 1 := ⟨tb_4 44 rfl rfl, tb_1 16 (by decide +kernel) rfl, by decide +kernel, by decide +kernel, by decide +kernel⟩
theorem clb_J0_checkIndex_df160 : CLB m_J0_checkIndex_df160 2 := ⟨tb_4 54 rfl rfl, tb_1 16 (by decide +kernel) rfl, by decide +kernel, by decide +kernel, by decide +kernel⟩
theorem clb_J0_coder_7d493 : CLB m_J0_coder_7d493 0 := ⟨tb_4 38 rfl rfl, tb_1 16 (by decide +kernel) rfl, by decide +kernel, by decide +kernel, by decide +kernel⟩
theorem clb_J0_isLatin1_aae02 : CLB m_J0_isLatin1_aae02 0 := ⟨tb_4 48 rfl rfl, tb_1 16 (by decide +kernel) rfl, by decide +kernel, by decide +kernel, by decide +kernel⟩
theorem clb_J0_length_8abf5 : CLB m_J0_length_8abf5 0 := ⟨tb_4 34 rfl rfl, tb_1 16 (by decide +kernel) rfl, by decide +kernel, by decide +kernel, by decide +kernel⟩
theorem clb_J1_charAt_3b067 : CLB m_J1_charAt_3b067 2 := ⟨tb_4 51 rfl rfl, tb_1 17 (by decide +kernel) rfl, by decide +kernel, by decide +kernel, by decide +kernel⟩
theorem clb_J7_fill_53178 : CLB m_J7_fill_53178 2 := ⟨tb_2 43 rfl rfl, tb_1 10 (by decide +kernel) rfl, by decide +kernel, by decide +kernel, by decide +kernel⟩
theorem clb_J3_checkIndex_8e157 : CLB m_J3_checkIndex_8e157 3 := ⟨tb_4 59 rfl rfl, tb_1 18 (by decide +kernel) rfl, by decide +kernel, by decide +kernel, by decide +kernel⟩
theorem cl_RX11_101 : CLV RX11 101 m_X10_append 1 := ⟨clb_X10_append, tb_3 28 (by decide +kernel) rfl, tb_3 29 (by decide +kernel) rfl, tb_3 30 (by decide +kernel) rfl⟩
theorem cl_RX11_104 : CLT RX11 104 m_X11_within 3 := ⟨clb_X11_within, tb_3 36 (by decide +kernel) rfl, tb_3 37 (by decide +kernel) rfl⟩
theorem cl_RX11_108 : CLV RX11 108 m_X1_addLeap 2 := ⟨clb_X1_addLeap, tb_3 47 (by decide +kernel) rfl, tb_3 48 (by decide +kernel) rfl, tb_3 49 (by decide +kernel) rfl⟩
theorem cl_RX11_112 : CLV RX11 112 m_X10_open 0 := ⟨clb_X10_open, tb_3 67 (by decide +kernel) rfl, tb_3 68 (by decide +kernel) rfl, tb_3 69 (by decide +kernel) rfl⟩
theorem cl_RX11_115 : CLV RX11 115 m_X1_readDate 1 := ⟨clb_X1_readDate, tb_3 71 (by decide +kernel) rfl, tb_3 72 (by decide +kernel) rfl, tb_3 73 (by decide +kernel) rfl⟩
theorem cl_RX11_119 : CLV RX11 119 m_X10_closes 0 := ⟨clb_X10_closes, tb_3 108 (by decide +kernel) rfl, tb_3 109 (by decide +kernel) rfl, tb_3 110 (by decide +kernel) rfl⟩
theorem cl_RX11_123 : CLV RX11 123 m_X10_wrong 0 := ⟨clb_X10_wrong, tb_3 116 (by decide +kernel) rfl, tb_3 117 (by decide +kernel) rfl, tb_3 118 (by decide +kernel) rfl⟩
theorem cl_RX11_127 : CLV RX11 127 m_X1_hasSecond 1 := ⟨clb_X1_hasSecond, tb_3 124 (by decide +kernel) rfl, tb_3 125 (by decide +kernel) rfl, tb_3 126 (by decide +kernel) rfl⟩
theorem cl_RX11_131 : CLV RX11 131 m_X1_writeDate 2 := ⟨clb_X1_writeDate, tb_3 128 (by decide +kernel) rfl, tb_3 129 (by decide +kernel) rfl, tb_3 130 (by decide +kernel) rfl⟩
theorem cl_RX11_135 : CLT RX11 135 m_X11_isDegree 1 := ⟨clb_X11_isDegree, tb_3 142 (by decide +kernel) rfl, tb_3 143 (by decide +kernel) rfl⟩
theorem cl_RX11_150 : CLT RX11 150 m_X11_isStation 1 := ⟨clb_X11_isStation, tb_3 149 (by decide +kernel) rfl, tb_3 150 (by decide +kernel) rfl⟩
theorem cl_RX11_165 : CLV RX11 165 m_X6_firstSight 3 := ⟨clb_X6_firstSight, tb_3 156 (by decide +kernel) rfl, tb_3 157 (by decide +kernel) rfl, tb_3 158 (by decide +kernel) rfl⟩
theorem cl_RX11_176 : CLT RX11 176 m_J9_min_7cf53 2 := ⟨clb_J9_min_7cf53, tb_3 184 (by decide +kernel) rfl, tb_3 177 (by decide +kernel) rfl⟩
theorem cl_RX11_184 : CLT RX11 184 m_X11_isLoad 1 := ⟨clb_X11_isLoad, tb_3 189 (by decide +kernel) rfl, tb_3 190 (by decide +kernel) rfl⟩
theorem cl_RX11_193 : CLV RX11 193 m_X8_putInOrder 0 := ⟨clb_X8_putInOrder, tb_3 192 (by decide +kernel) rfl, tb_3 193 (by decide +kernel) rfl, tb_3 194 (by decide +kernel) rfl⟩
theorem cl_RX11_196 : CLT RX11 196 m_X11_isProgram 1 := ⟨clb_X11_isProgram, tb_3 200 (by decide +kernel) rfl, tb_3 201 (by decide +kernel) rfl⟩
theorem cl_RX11_199 : CLV RX11 199 m_X3_readProgram 1 := ⟨clb_X3_readProgram, tb_3 203 (by decide +kernel) rfl, tb_3 204 (by decide +kernel) rfl, tb_3 205 (by decide +kernel) rfl⟩
theorem cl_RX11_202 : CLV RX11 202 m_X0_install 3 := ⟨clb_X0_install, tb_4 109 (by decide +kernel) rfl, tb_4 110 (by decide +kernel) rfl, tb_4 111 (by decide +kernel) rfl⟩
theorem cl_RX11_206 : CLV RX11 206 m_X0_addDue 2 := ⟨clb_X0_addDue, tb_4 136 (by decide +kernel) rfl, tb_4 137 (by decide +kernel) rfl, tb_4 138 (by decide +kernel) rfl⟩
theorem cl_RX11_212 : CLV RX11 212 m_X3_readMonitor 1 := ⟨clb_X3_readMonitor, tb_4 148 (by decide +kernel) rfl, tb_4 149 (by decide +kernel) rfl, tb_4 150 (by decide +kernel) rfl⟩
theorem cl_RX11_216 : CLV RX11 216 m_X0_setMonitor 4 := ⟨clb_X0_setMonitor, tb_4 152 (by decide +kernel) rfl, tb_4 153 (by decide +kernel) rfl, tb_4 154 (by decide +kernel) rfl⟩
theorem cl_RX11_220 : CLT RX11 220 m_X11_isWord 1 := ⟨clb_X11_isWord, tb_4 160 (by decide +kernel) rfl, tb_4 161 (by decide +kernel) rfl⟩
theorem cl_RX11_226 : CLV RX11 226 m_X0_doSecond 0 := ⟨clb_X0_doSecond, tb_4 167 (by decide +kernel) rfl, tb_4 168 (by decide +kernel) rfl, tb_4 169 (by decide +kernel) rfl⟩
theorem cl_RX11_229 : CLV RX11 229 m_X6_angle 1 := ⟨clb_X6_angle, tb_5 84 (by decide +kernel) rfl, tb_3 161 (by decide +kernel) rfl, tb_3 162 (by decide +kernel) rfl⟩
theorem cl_RX11_233 : CLV RX11 233 m_X6_isInShadow 1 := ⟨clb_X6_isInShadow, tb_5 85 (by decide +kernel) rfl, tb_4 176 (by decide +kernel) rfl, tb_4 177 (by decide +kernel) rfl⟩
theorem cl_RX11_236 : CLT RX11 236 m_X11_bit 1 := ⟨clb_X11_bit, tb_5 86 (by decide +kernel) rfl, tb_3 58 (by decide +kernel) rfl⟩
theorem cl_RX11_258 : CLV RX11 258 m_X4_recordedPackets 0 := ⟨clb_X4_recordedPackets, tb_5 87 (by decide +kernel) rfl, tb_5 88 (by decide +kernel) rfl, tb_5 89 (by decide +kernel) rfl⟩
theorem cl_RX11_283 : CLV RX11 283 m_X3_countFrom 1 := ⟨clb_X3_countFrom, tb_5 99 (by decide +kernel) rfl, tb_4 114 (by decide +kernel) rfl, tb_4 115 (by decide +kernel) rfl⟩
theorem cl_RX11_292 : CLV RX11 292 m_X5_byteOf 1 := ⟨clb_X5_byteOf, tb_5 104 (by decide +kernel) rfl, tb_4 223 (by decide +kernel) rfl, tb_4 224 (by decide +kernel) rfl⟩
theorem cl_RX11_295 : CLV RX11 295 m_X4_oldestFrame 0 := ⟨clb_X4_oldestFrame, tb_5 109 (by decide +kernel) rfl, tb_5 110 (by decide +kernel) rfl, tb_5 111 (by decide +kernel) rfl⟩
theorem cl_RX11_301 : CLV RX11 301 m_X4_dropFrame 0 := ⟨clb_X4_dropFrame, tb_5 117 (by decide +kernel) rfl, tb_5 118 (by decide +kernel) rfl, tb_5 119 (by decide +kernel) rfl⟩
theorem cl_RX11_304 : CLV RX11 304 m_X2_takeFrame 2 := ⟨clb_X2_takeFrame, tb_5 125 (by decide +kernel) rfl, tb_5 126 (by decide +kernel) rfl, tb_5 127 (by decide +kernel) rfl⟩
theorem cl_RX11_311 : CLV RX11 311 m_X2_writePacket 2 := ⟨clb_X2_writePacket, tb_5 156 (by decide +kernel) rfl, tb_5 157 (by decide +kernel) rfl, tb_5 158 (by decide +kernel) rfl⟩
theorem cl_RX11_314 : CLV RX11 314 m_X2_isFull 0 := ⟨clb_X2_isFull, tb_5 164 (by decide +kernel) rfl, tb_5 165 (by decide +kernel) rfl, tb_5 166 (by decide +kernel) rfl⟩
theorem cl_RX11_317 : CLV RX11 317 m_X3_readCommand 1 := ⟨clb_X3_readCommand, tb_5 168 (by decide +kernel) rfl, tb_5 169 (by decide +kernel) rfl, tb_5 170 (by decide +kernel) rfl⟩
theorem cl_RX11_320 : CLV RX11 320 m_X2_keep 1 := ⟨clb_X2_keep, tb_5 172 (by decide +kernel) rfl, tb_5 173 (by decide +kernel) rfl, tb_5 174 (by decide +kernel) rfl⟩
theorem cl_RX11_324 : CLV RX11 324 m_X2_toSend 0 := ⟨clb_X2_toSend, tb_5 180 (by decide +kernel) rfl, tb_5 181 (by decide +kernel) rfl, tb_5 182 (by decide +kernel) rfl⟩
theorem cl_RX11_327 : CLV RX11 327 m_X6_isSeen 1 := ⟨clb_X6_isSeen, tb_5 184 (by decide +kernel) rfl, tb_4 180 (by decide +kernel) rfl, tb_4 181 (by decide +kernel) rfl⟩
theorem cl_RX11_330 : CLV RX11 330 m_X2_nextToSend 0 := ⟨clb_X2_nextToSend, tb_5 185 (by decide +kernel) rfl, tb_5 186 (by decide +kernel) rfl, tb_5 187 (by decide +kernel) rfl⟩
theorem cl_RX11_339 : CLV RX11 339 m_X0_takeCommand 3 := ⟨clb_X0_takeCommand, tb_5 190 (by decide +kernel) rfl, tb_5 191 (by decide +kernel) rfl, tb_5 192 (by decide +kernel) rfl⟩
theorem cl_RX11_356 : CLV RX11 356 m_X7_add 4 := ⟨clb_X7_add, tb_5 208 (by decide +kernel) rfl, tb_5 209 (by decide +kernel) rfl, tb_5 210 (by decide +kernel) rfl⟩
theorem cl_RX11_370 : CLV RX11 370 m_X7_choose 0 := ⟨clb_X7_choose, tb_5 224 (by decide +kernel) rfl, tb_5 225 (by decide +kernel) rfl, tb_5 226 (by decide +kernel) rfl⟩
theorem cl_RX11_379 : CLT RX11 379 m_J6_bitCount_0f7a4 1 := ⟨clb_J6_bitCount_0f7a4, tb_6 10 (by decide +kernel) rfl, tb_6 5 (by decide +kernel) rfl⟩
theorem cl_RX11_384 : CLT RX11 384 m_X11_isField 2 := ⟨clb_X11_isField, tb_6 15 (by decide +kernel) rfl, tb_6 16 (by decide +kernel) rfl⟩
theorem cl_RX11_391 : CLV RX11 391 m_X9_turnsTo 2 := ⟨clb_X9_turnsTo, tb_6 22 (by decide +kernel) rfl, tb_6 23 (by decide +kernel) rfl, tb_6 24 (by decide +kernel) rfl⟩
theorem cl_RX11_394 : CLV RX11 394 m_X9_writeTurns 3 := ⟨clb_X9_writeTurns, tb_6 30 (by decide +kernel) rfl, tb_6 31 (by decide +kernel) rfl, tb_6 32 (by decide +kernel) rfl⟩
theorem cl_RX0_80 : CLV RX0 80 m_X6_look 1 := ⟨clb_X6_look, tb_4 171 (by decide +kernel) rfl, tb_4 172 (by decide +kernel) rfl, tb_4 173 (by decide +kernel) rfl⟩
theorem cl_RX0_92 : CLV RX0 92 m_X8_serve 1 := ⟨clb_X8_serve, tb_4 183 (by decide +kernel) rfl, tb_4 184 (by decide +kernel) rfl, tb_4 185 (by decide +kernel) rfl⟩
theorem cl_RX0_100 : CLV RX0 100 m_X5_mend 1 := ⟨clb_X5_mend, tb_4 188 (by decide +kernel) rfl, tb_4 189 (by decide +kernel) rfl, tb_4 190 (by decide +kernel) rfl⟩
theorem cl_RX0_104 : CLV RX0 104 m_X0_beginDue 0 := ⟨clb_X0_beginDue, tb_4 195 (by decide +kernel) rfl, tb_4 197 (by decide +kernel) rfl, tbp 13 (q := (yX0_beginDue, 20)) (by decide +kernel) rfl⟩
theorem cl_RX0_107 : CLV RX0 107 m_X0_goOn 1 := ⟨clb_X0_goOn, tb_4 203 (by decide +kernel) rfl, tb_4 205 (by decide +kernel) rfl, tbp 15 (q := (yX0_goOn, 20)) (by decide +kernel) rfl⟩
theorem cl_RX0_110 : CLV RX0 110 m_X0_watch 1 := ⟨clb_X0_watch, tb_5 49 (by decide +kernel) rfl, tb_5 51 (by decide +kernel) rfl, tbp 28 (q := (yX0_watch, 20)) (by decide +kernel) rfl⟩
theorem cl_RX0_120 : CLV RX0 120 m_X4_sendFrame 0 := ⟨clb_X4_sendFrame, tb_5 57 (by decide +kernel) rfl, tb_5 58 (by decide +kernel) rfl, tb_5 59 (by decide +kernel) rfl⟩
theorem cl_RX0_128 : CLV RX0 128 m_X0_begin 1 := ⟨clb_X0_begin, tb_4 199 (by decide +kernel) rfl, tb_4 201 (by decide +kernel) rfl, tbp 14 (q := (yX0_begin, 20)) (by decide +kernel) rfl⟩
theorem cl_RX0_131 : CLV RX0 131 m_X3_countFrom 1 := ⟨clb_X3_countFrom, tb_4 113 (by decide +kernel) rfl, tb_4 114 (by decide +kernel) rfl, tb_4 115 (by decide +kernel) rfl⟩
theorem cl_RX0_135 : CLV RX0 135 m_X3_copy 3 := ⟨clb_X3_copy, tb_4 122 (by decide +kernel) rfl, tb_4 123 (by decide +kernel) rfl, tb_4 124 (by decide +kernel) rfl⟩
theorem cl_RX0_139 : CLV RX0 139 m_X3_erase 2 := ⟨clb_X3_erase, tb_4 126 (by decide +kernel) rfl, tb_3 209 (by decide +kernel) rfl, tb_3 210 (by decide +kernel) rfl⟩
theorem cl_RX0_143 : CLV RX0 143 m_X0_stop 1 := ⟨clb_X0_stop, tb_4 127 (by decide +kernel) rfl, tb_4 129 (by decide +kernel) rfl, tbp 12 (q := (yX0_stop, 20)) (by decide +kernel) rfl⟩
theorem cl_RX0_149 : CLV RX0 149 m_X8_switchTo 1 := ⟨clb_X8_switchTo, tb_5 45 (by decide +kernel) rfl, tb_5 46 (by decide +kernel) rfl, tb_5 47 (by decide +kernel) rfl⟩
theorem cl_RX0_152 : CLV RX0 152 m_X0_doLine 1 := ⟨clb_X0_doLine, tb_4 207 (by decide +kernel) rfl, tb_4 209 (by decide +kernel) rfl, tbp 16 (q := (yX0_doLine, 20)) (by decide +kernel) rfl⟩
theorem cl_RX0_155 : CLV RX0 155 m_X3_isThere 1 := ⟨clb_X3_isThere, tb_4 211 (by decide +kernel) rfl, tb_4 118 (by decide +kernel) rfl, tb_4 119 (by decide +kernel) rfl⟩
theorem cl_RX0_164 : CLV RX0 164 m_X0_judge 2 := ⟨clb_X0_judge, tb_4 212 (by decide +kernel) rfl, tb_4 214 (by decide +kernel) rfl, tbp 17 (q := (yX0_judge, 20)) (by decide +kernel) rfl⟩
theorem cl_RX0_168 : CLV RX0 168 m_X0_decide 3 := ⟨clb_X0_decide, tb_4 231 (by decide +kernel) rfl, tb_4 233 (by decide +kernel) rfl, tbp 19 (q := (yX0_decide, 20)) (by decide +kernel) rfl⟩
theorem cl_RX0_175 : CLV RX0 175 m_X0_perform 2 := ⟨clb_X0_perform, tb_4 239 (by decide +kernel) rfl, tb_5 1 (by decide +kernel) rfl, tbp 21 (q := (yX0_perform, 20)) (by decide +kernel) rfl⟩
theorem cl_RX0_179 : CLV RX0 179 m_X0_failOf 1 := ⟨clb_X0_failOf, tb_4 235 (by decide +kernel) rfl, tb_4 237 (by decide +kernel) rfl, tbp 20 (q := (yX0_failOf, 20)) (by decide +kernel) rfl⟩
theorem cl_RX0_185 : CLV RX0 185 m_X0_measure 1 := ⟨clb_X0_measure, tb_4 216 (by decide +kernel) rfl, tb_4 218 (by decide +kernel) rfl, tbp 18 (q := (yX0_measure, 20)) (by decide +kernel) rfl⟩
theorem cl_RX0_191 : CLN RX0 191 m_X11_bit 1 := ⟨clb_X11_bit, by decide +kernel, tb_3 58 (by decide +kernel) rfl⟩
theorem cl_RX0_209 : CLV RX0 209 m_X6_turn 1 := ⟨clb_X6_turn, tb_4 220 (by decide +kernel) rfl, tb_3 165 (by decide +kernel) rfl, tb_3 166 (by decide +kernel) rfl⟩
theorem cl_RX0_212 : CLV RX0 212 m_X5_byteOf 1 := ⟨clb_X5_byteOf, tb_4 222 (by decide +kernel) rfl, tb_4 223 (by decide +kernel) rfl, tb_4 224 (by decide +kernel) rfl⟩
theorem cl_RX0_218 : CLV RX0 218 m_X5_write 2 := ⟨clb_X5_write, tb_5 3 (by decide +kernel) rfl, tb_5 4 (by decide +kernel) rfl, tb_5 5 (by decide +kernel) rfl⟩
theorem cl_RX0_221 : CLV RX0 221 m_X0_add 2 := ⟨clb_X0_add, tb_5 10 (by decide +kernel) rfl, tb_5 12 (by decide +kernel) rfl, tbp 22 (q := (yX0_add, 20)) (by decide +kernel) rfl⟩
theorem cl_RX0_225 : CLV RX0 225 m_X0_record 1 := ⟨clb_X0_record, tb_5 14 (by decide +kernel) rfl, tb_5 16 (by decide +kernel) rfl, tbp 23 (q := (yX0_record, 20)) (by decide +kernel) rfl⟩
theorem cl_RX0_228 : CLV RX0 228 m_X0_goTo 1 := ⟨clb_X0_goTo, tb_5 41 (by decide +kernel) rfl, tb_5 43 (by decide +kernel) rfl, tbp 27 (q := (yX0_goTo, 20)) (by decide +kernel) rfl⟩
theorem cl_RX0_234 : CLV RX0 234 m_X4_label 2 := ⟨clb_X4_label, tb_5 18 (by decide +kernel) rfl, tb_5 19 (by decide +kernel) rfl, tb_5 20 (by decide +kernel) rfl⟩
theorem cl_RX0_237 : CLV RX0 237 m_X4_record 0 := ⟨clb_X4_record, tb_5 22 (by decide +kernel) rfl, tb_5 23 (by decide +kernel) rfl, tb_5 24 (by decide +kernel) rfl⟩
theorem cl_RX0_240 : CLV RX0 240 m_X0_act 1 := ⟨clb_X0_act, tb_5 53 (by decide +kernel) rfl, tb_5 55 (by decide +kernel) rfl, tbp 29 (q := (yX0_act, 20)) (by decide +kernel) rfl⟩
theorem cl_RX0_252 : CLV RX0 252 m_X0_ready 1 := ⟨clb_X0_ready, tb_5 194 (by decide +kernel) rfl, tb_5 196 (by decide +kernel) rfl, tbp 37 (q := (yX0_ready, 20)) (by decide +kernel) rfl⟩
theorem cl_RX0_255 : CLV RX0 255 m_X0_install 3 := ⟨clb_X0_install, tb_5 198 (by decide +kernel) rfl, tb_4 110 (by decide +kernel) rfl, tb_4 111 (by decide +kernel) rfl⟩
theorem cl_RX1_15 : CLT RX1 15 m_X1_daysIn 2 := ⟨clb_X1_daysIn, tb_3 51 (by decide +kernel) rfl, tb_3 52 (by decide +kernel) rfl⟩
theorem cl_RX1_19 : CLT RX1 19 m_X1_dayOf 3 := ⟨clb_X1_dayOf, tb_3 60 (by decide +kernel) rfl, tb_3 61 (by decide +kernel) rfl⟩
theorem cl_RX1_27 : CLV RX1 27 m_X10_fixed 3 := ⟨clb_X10_fixed, tb_3 75 (by decide +kernel) rfl, tb_3 76 (by decide +kernel) rfl, tb_3 77 (by decide +kernel) rfl⟩
theorem cl_RX1_32 : CLV RX1 32 m_X10_skip 1 := ⟨clb_X10_skip, tb_3 95 (by decide +kernel) rfl, tb_3 96 (by decide +kernel) rfl, tb_3 97 (by decide +kernel) rfl⟩
theorem cl_RX1_36 : CLV RX1 36 m_X1_hasLeap 1 := ⟨clb_X1_hasLeap, tb_3 99 (by decide +kernel) rfl, tb_3 101 (by decide +kernel) rfl, tbp 2 (q := (yX1_hasLeap, 2)) (by decide +kernel) rfl⟩
theorem cl_RX1_41 : CLV RX1 41 m_X1_leapsBefore 1 := ⟨clb_X1_leapsBefore, tb_3 103 (by decide +kernel) rfl, tb_3 105 (by decide +kernel) rfl, tbp 3 (q := (yX1_leapsBefore, 2)) (by decide +kernel) rfl⟩
theorem cl_RX1_45 : CLN RX1 45 m_X11_within 3 := ⟨clb_X11_within, by decide +kernel, tb_3 37 (by decide +kernel) rfl⟩
theorem cl_RX1_49 : CLN RX1 49 m_X11_bit 1 := ⟨clb_X11_bit, by decide +kernel, tb_3 58 (by decide +kernel) rfl⟩
theorem cl_RX1_53 : CLT RX1 53 m_X1_writeDay 2 := ⟨clb_X1_writeDay, tb_3 132 (by decide +kernel) rfl, tb_3 133 (by decide +kernel) rfl⟩
theorem cl_RX1_57 : CLT RX1 57 m_X1_writeTwo 3 := ⟨clb_X1_writeTwo, tb_3 135 (by decide +kernel) rfl, tb_3 136 (by decide +kernel) rfl⟩
theorem cl_RX2_27 : CLT RX2 27 m_X4_checkOf 2 := ⟨clb_X4_checkOf, tb_5 129 (by decide +kernel) rfl, tb_5 76 (by decide +kernel) rfl⟩
theorem cl_RX2_37 : CLV RX2 37 m_X2_begin 2 := ⟨clb_X2_begin, tb_5 130 (by decide +kernel) rfl, tb_5 132 (by decide +kernel) rfl, tbp 33 (q := (yX2_begin, 12)) (by decide +kernel) rfl⟩
theorem cl_RX2_41 : CLV RX2 41 m_X2_acknowledge 2 := ⟨clb_X2_acknowledge, tb_5 134 (by decide +kernel) rfl, tb_5 136 (by decide +kernel) rfl, tbp 34 (q := (yX2_acknowledge, 12)) (by decide +kernel) rfl⟩
theorem cl_RX2_45 : CLV RX2 45 m_X2_pieceTogether 3 := ⟨clb_X2_pieceTogether, tb_5 142 (by decide +kernel) rfl, tb_5 144 (by decide +kernel) rfl, tbp 35 (q := (yX2_pieceTogether, 12)) (by decide +kernel) rfl⟩
theorem cl_RX2_62 : CLN RX2 62 m_X11_within 3 := ⟨clb_X11_within, by decide +kernel, tb_3 37 (by decide +kernel) rfl⟩
theorem cl_RX2_66 : CLV RX2 66 m_X2_putInArchive 0 := ⟨clb_X2_putInArchive, tb_5 147 (by decide +kernel) rfl, tb_5 149 (by decide +kernel) rfl, tbp 36 (q := (yX2_putInArchive, 12)) (by decide +kernel) rfl⟩
theorem acw_RX2_72 : ACW RX2 72 := ⟨tb_5 151 (by decide +kernel) rfl, tb_5 40 (by decide +kernel) rfl, tb_5 39 (by decide +kernel) rfl, tb_1 20 (by decide +kernel) rfl⟩
theorem cl_RX2_84 : CLV RX2 84 m_X3_copy 3 := ⟨clb_X3_copy, tb_5 138 (by decide +kernel) rfl, tb_4 123 (by decide +kernel) rfl, tb_4 124 (by decide +kernel) rfl⟩
theorem cl_RX2_91 : CLV RX2 91 m_X2_toSend 0 := ⟨clb_X2_toSend, tb_5 189 (by decide +kernel) rfl, tb_5 181 (by decide +kernel) rfl, tb_5 182 (by decide +kernel) rfl⟩
theorem cl_RX2_95 : CLT RX2 95 m_J9_max_7cf53 2 := ⟨clb_J9_max_7cf53, tb_5 139 (by decide +kernel) rfl, tb_5 140 (by decide +kernel) rfl⟩
theorem cl_RX3_64 : CLT RX3 64 m_X3_thingText 1 := ⟨clb_X3_thingText, tb_4 7 (by decide +kernel) rfl, tb_4 8 (by decide +kernel) rfl⟩
theorem cl_RX3_102 : CLN RX3 102 m_X11_within 3 := ⟨clb_X11_within, by decide +kernel, tb_3 37 (by decide +kernel) rfl⟩
theorem cl_RX3_106 : CLV RX3 106 m_X3_isThere 1 := ⟨clb_X3_isThere, tb_4 117 (by decide +kernel) rfl, tb_4 118 (by decide +kernel) rfl, tb_4 119 (by decide +kernel) rfl⟩
theorem cl_RX3_110 : CLV RX3 110 m_X10_open 0 := ⟨clb_X10_open, tb_3 207 (by decide +kernel) rfl, tb_3 68 (by decide +kernel) rfl, tb_3 69 (by decide +kernel) rfl⟩
theorem cl_RX3_115 : CLV RX3 115 m_X3_erase 2 := ⟨clb_X3_erase, tb_3 208 (by decide +kernel) rfl, tb_3 209 (by decide +kernel) rfl, tb_3 210 (by decide +kernel) rfl⟩
theorem cl_RX3_119 : CLV RX3 119 m_X10_isRight 0 := ⟨clb_X10_isRight, tb_3 212 (by decide +kernel) rfl, tb_3 80 (by decide +kernel) rfl, tb_3 81 (by decide +kernel) rfl⟩
theorem cl_RX3_123 : CLV RX3 123 m_X10_isAtEnd 0 := ⟨clb_X10_isAtEnd, tb_3 213 (by decide +kernel) rfl, tb_3 113 (by decide +kernel) rfl, tb_3 114 (by decide +kernel) rfl⟩
theorem cl_RX3_126 : CLV RX3 126 m_X3_readLine 2 := ⟨clb_X3_readLine, tb_3 214 (by decide +kernel) rfl, tb_3 216 (by decide +kernel) rfl, tbp 6 (q := (yX3_readLine, 7)) (by decide +kernel) rfl⟩
theorem cl_RX3_130 : CLV RX3 130 m_X10_skip 1 := ⟨clb_X10_skip, tb_4 83 (by decide +kernel) rfl, tb_3 96 (by decide +kernel) rfl, tb_3 97 (by decide +kernel) rfl⟩
theorem cl_RX3_134 : CLV RX3 134 m_X10_told 2 := ⟨clb_X10_told, tb_3 218 (by decide +kernel) rfl, tb_3 219 (by decide +kernel) rfl, tb_3 220 (by decide +kernel) rfl⟩
theorem cl_RX3_138 : CLV RX3 138 m_X10_number 2 := ⟨clb_X10_number, tb_4 102 (by decide +kernel) rfl, tb_4 103 (by decide +kernel) rfl, tb_4 104 (by decide +kernel) rfl⟩
theorem cl_RX3_141 : CLV RX3 141 m_X3_readRest 3 := ⟨clb_X3_readRest, tb_4 79 (by decide +kernel) rfl, tb_4 81 (by decide +kernel) rfl, tbp 9 (q := (yX3_readRest, 7)) (by decide +kernel) rfl⟩
theorem cl_RX3_145 : CLV RX3 145 m_X3_readCondition 2 := ⟨clb_X3_readCondition, tb_4 84 (by decide +kernel) rfl, tb_4 86 (by decide +kernel) rfl, tbp 10 (q := (yX3_readCondition, 7)) (by decide +kernel) rfl⟩
theorem cl_RX3_148 : CLT RX3 148 m_X3_greatest 1 := ⟨clb_X3_greatest, tb_4 106 (by decide +kernel) rfl, tb_4 107 (by decide +kernel) rfl⟩
theorem cl_RX3_154 : CLV RX3 154 m_X10_compareSign 0 := ⟨clb_X10_compareSign, tb_4 88 (by decide +kernel) rfl, tb_4 89 (by decide +kernel) rfl, tb_4 90 (by decide +kernel) rfl⟩
theorem cl_RX3_160 : CLV RX3 160 m_X10_integer 2 := ⟨clb_X10_integer, tb_4 94 (by decide +kernel) rfl, tb_4 95 (by decide +kernel) rfl, tb_4 96 (by decide +kernel) rfl⟩
theorem cl_RX4_37 : CLV RX4 37 m_X4_lastClass 0 := ⟨clb_X4_lastClass, tb_5 26 (by decide +kernel) rfl, tb_5 28 (by decide +kernel) rfl, tbp 24 (q := (yX4_lastClass, 15)) (by decide +kernel) rfl⟩
theorem cl_RX4_41 : CLV RX4 41 m_X4_slot 2 := ⟨clb_X4_slot, tb_5 30 (by decide +kernel) rfl, tb_5 32 (by decide +kernel) rfl, tbp 25 (q := (yX4_slot, 15)) (by decide +kernel) rfl⟩
theorem cl_RX4_45 : CLV RX4 45 m_X4_takeOldest 2 := ⟨clb_X4_takeOldest, tb_5 34 (by decide +kernel) rfl, tb_5 36 (by decide +kernel) rfl, tbp 26 (q := (yX4_takeOldest, 15)) (by decide +kernel) rfl⟩
theorem acw_RX4_49 : ACW RX4 49 := ⟨tb_5 38 (by decide +kernel) rfl, tb_5 40 (by decide +kernel) rfl, tb_5 39 (by decide +kernel) rfl, tb_1 20 (by decide +kernel) rfl⟩
theorem cl_RX4_70 : CLV RX4 70 m_X4_fillData 1 := ⟨clb_X4_fillData, tb_5 61 (by decide +kernel) rfl, tb_5 63 (by decide +kernel) rfl, tbp 30 (q := (yX4_fillData, 15)) (by decide +kernel) rfl⟩
theorem cl_RX4_74 : CLT RX4 74 m_X4_checkOf 2 := ⟨clb_X4_checkOf, tb_5 75 (by decide +kernel) rfl, tb_5 76 (by decide +kernel) rfl⟩
theorem cl_RX4_84 : CLV RX4 84 m_X4_firstClass 0 := ⟨clb_X4_firstClass, tb_5 65 (by decide +kernel) rfl, tb_5 67 (by decide +kernel) rfl, tbp 31 (q := (yX4_firstClass, 15)) (by decide +kernel) rfl⟩
theorem cl_RX4_87 : CLV RX4 87 m_X4_startPacket 1 := ⟨clb_X4_startPacket, tb_5 69 (by decide +kernel) rfl, tb_5 71 (by decide +kernel) rfl, tbp 32 (q := (yX4_startPacket, 15)) (by decide +kernel) rfl⟩
theorem cl_RX4_91 : CLT RX4 91 m_J9_min_7cf53 2 := ⟨clb_J9_min_7cf53, tb_5 73 (by decide +kernel) rfl, tb_3 177 (by decide +kernel) rfl⟩
theorem cl_RX4_96 : CLN RX4 96 m_X11_bit 1 := ⟨clb_X11_bit, by decide +kernel, tb_3 58 (by decide +kernel) rfl⟩
theorem cl_RX5_15 : CLT RX5 15 m_X5_encoded 1 := ⟨clb_X5_encoded, tb_5 7 (by decide +kernel) rfl, tb_5 8 (by decide +kernel) rfl⟩
theorem cl_RX5_19 : CLT RX5 19 m_X5_corrected 1 := ⟨clb_X5_corrected, tb_4 192 (by decide +kernel) rfl, tb_4 193 (by decide +kernel) rfl⟩
theorem cl_RX5_22 : CLT RX5 22 m_X5_decoded 1 := ⟨clb_X5_decoded, tb_4 226 (by decide +kernel) rfl, tb_4 227 (by decide +kernel) rfl⟩
theorem cl_RX6_25 : CLV RX6 25 m_X6_isInShadow 1 := ⟨clb_X6_isInShadow, tb_4 175 (by decide +kernel) rfl, tb_4 176 (by decide +kernel) rfl, tb_4 177 (by decide +kernel) rfl⟩
theorem cl_RX6_33 : CLV RX6 33 m_X6_isSeen 1 := ⟨clb_X6_isSeen, tb_4 179 (by decide +kernel) rfl, tb_4 180 (by decide +kernel) rfl, tb_4 181 (by decide +kernel) rfl⟩
theorem cl_RX6_42 : CLV RX6 42 m_X6_angle 1 := ⟨clb_X6_angle, tb_3 160 (by decide +kernel) rfl, tb_3 161 (by decide +kernel) rfl, tb_3 162 (by decide +kernel) rfl⟩
theorem cl_RX6_52 : CLV RX6 52 m_X6_turn 1 := ⟨clb_X6_turn, tb_3 164 (by decide +kernel) rfl, tb_3 165 (by decide +kernel) rfl, tb_3 166 (by decide +kernel) rfl⟩
theorem cl_RX6_55 : CLV RX6 55 m_X6_inArc 3 := ⟨clb_X6_inArc, tb_3 168 (by decide +kernel) rfl, tb_3 170 (by decide +kernel) rfl, tbp 4 (q := (yX6_inArc, 9)) (by decide +kernel) rfl⟩
theorem cl_RX6_59 : CLV RX6 59 m_X6_whenPassed 2 := ⟨clb_X6_whenPassed, tb_3 172 (by decide +kernel) rfl, tb_3 174 (by decide +kernel) rfl, tbp 5 (q := (yX6_whenPassed, 9)) (by decide +kernel) rfl⟩
theorem cl_RX6_63 : CLT RX6 63 m_J9_min_7cf53 2 := ⟨clb_J9_min_7cf53, tb_3 176 (by decide +kernel) rfl, tb_3 177 (by decide +kernel) rfl⟩
theorem cl_RX7_38 : CLV RX7 38 m_X7_findClashes 0 := ⟨clb_X7_findClashes, tb_5 228 (by decide +kernel) rfl, tb_5 230 (by decide +kernel) rfl, tbp 38 (q := (yX7_findClashes, 10)) (by decide +kernel) rfl⟩
theorem cl_RX7_47 : CLV RX7 47 m_X7_worthOf 1 := ⟨clb_X7_worthOf, tb_5 236 (by decide +kernel) rfl, tb_5 238 (by decide +kernel) rfl, tbp 40 (q := (yX7_worthOf, 10)) (by decide +kernel) rfl⟩
theorem cl_RX7_51 : CLV RX7 51 m_X7_isAhead 1 := ⟨clb_X7_isAhead, tb_6 0 (by decide +kernel) rfl, tb_6 2 (by decide +kernel) rfl, tbp 41 (q := (yX7_isAhead, 10)) (by decide +kernel) rfl⟩
theorem cl_RX7_55 : CLV RX7 55 m_X7_goTogether 2 := ⟨clb_X7_goTogether, tb_5 232 (by decide +kernel) rfl, tb_5 234 (by decide +kernel) rfl, tbp 39 (q := (yX7_goTogether, 10)) (by decide +kernel) rfl⟩
theorem cl_RX7_59 : CLT RX7 59 m_J6_bitCount_0f7a4 1 := ⟨clb_J6_bitCount_0f7a4, tb_6 4 (by decide +kernel) rfl, tb_6 5 (by decide +kernel) rfl⟩
theorem cl_RX8_44 : CLT RX8 44 m_J9_min_7cf53 2 := ⟨clb_J9_min_7cf53, tb_4 187 (by decide +kernel) rfl, tb_3 177 (by decide +kernel) rfl⟩
theorem cl_RX9_22 : CLT RX9 22 m_J7_fill_53178 2 := ⟨clb_J7_fill_53178, tb_6 26 (by decide +kernel) rfl, tb_2 42 (by decide +kernel) rfl⟩
theorem cl_RX9_28 : CLT RX9 28 m_X9_neighbour 2 := ⟨clb_X9_neighbour, tb_6 27 (by decide +kernel) rfl, tb_6 28 (by decide +kernel) rfl⟩
theorem cl_RX9_32 : CLV RX9 32 m_X9_isNearer 2 := ⟨clb_X9_isNearer, tb_6 34 (by decide +kernel) rfl, tb_6 36 (by decide +kernel) rfl, tbp 42 (q := (yX9_isNearer, 3)) (by decide +kernel) rfl⟩
theorem cl_RX10_25 : CLV RX10 25 m_X10_isRight 0 := ⟨clb_X10_isRight, tb_3 79 (by decide +kernel) rfl, tb_3 80 (by decide +kernel) rfl, tb_3 81 (by decide +kernel) rfl⟩
theorem cl_RX10_29 : CLV RX10 29 m_X10_isAtEnd 0 := ⟨clb_X10_isAtEnd, tb_3 112 (by decide +kernel) rfl, tb_3 113 (by decide +kernel) rfl, tb_3 114 (by decide +kernel) rfl⟩
theorem cl_RX10_32 : CLV RX10 32 m_X10_byteAt 1 := ⟨clb_X10_byteAt, tb_3 83 (by decide +kernel) rfl, tb_3 85 (by decide +kernel) rfl, tbp 0 (q := (yX10_byteAt, 4)) (by decide +kernel) rfl⟩
theorem cl_RX10_36 : CLT RX10 36 m_X10_isDigit 1 := ⟨clb_X10_isDigit, tb_3 87 (by decide +kernel) rfl, tb_3 88 (by decide +kernel) rfl⟩
theorem cl_RX10_40 : CLV RX10 40 m_X10_inRange 4 := ⟨clb_X10_inRange, tb_3 90 (by decide +kernel) rfl, tb_3 92 (by decide +kernel) rfl, tbp 1 (q := (yX10_inRange, 4)) (by decide +kernel) rfl⟩
theorem cl_RX10_44 : CLV RX10 44 m_X10_digits 0 := ⟨clb_X10_digits, tb_4 98 (by decide +kernel) rfl, tb_4 100 (by decide +kernel) rfl, tbp 11 (q := (yX10_digits, 4)) (by decide +kernel) rfl⟩
theorem cl_RX10_48 : CLN RX10 48 m_X11_within 3 := ⟨clb_X11_within, by decide +kernel, tb_3 37 (by decide +kernel) rfl⟩
theorem cl_RX10_52 : CLV RX10 52 m_X10_wordEnd 0 := ⟨clb_X10_wordEnd, tb_3 222 (by decide +kernel) rfl, tb_3 224 (by decide +kernel) rfl, tbp 7 (q := (yX10_wordEnd, 4)) (by decide +kernel) rfl⟩
theorem cl_RX10_55 : CLT RX10 55 m_X3_text 1 := ⟨clb_X3_text, tb_3 229 (by decide +kernel) rfl, tb_3 230 (by decide +kernel) rfl⟩
theorem cl_RX10_61 : CLV RX10 61 m_X10_reads 2 := ⟨clb_X10_reads, tb_4 27 (by decide +kernel) rfl, tb_4 29 (by decide +kernel) rfl, tbp 8 (q := (yX10_reads, 4)) (by decide +kernel) rfl⟩
theorem cl_RX10_65 : CLT RX10 65 m_X10_isLetter 1 := ⟨clb_X10_isLetter, tb_3 226 (by decide +kernel) rfl, tb_3 227 (by decide +kernel) rfl⟩
theorem cl_RX10_68 : CLV RX10 68 m_J0_length_8abf5 0 := ⟨clb_J0_length_8abf5, tb_4 31 (by decide +kernel) rfl, tb_4 32 (by decide +kernel) rfl, tb_4 33 (by decide +kernel) rfl⟩
theorem cl_RX10_73 : CLV RX10 73 m_J0_charAt_5068e 1 := ⟨clb_J0_charAt_5068e, tb_4 41 (by decide +kernel) rfl, tb_4 42 (by decide +kernel) rfl, tb_4 43 (by decide +kernel) rfl⟩
theorem cl_RL_13 : CLV RL 13 m_X11_feed 5 := ⟨clb_X11_feed, tb_3 24 (by decide +kernel) rfl, tb_3 25 (by decide +kernel) rfl, tb_3 26 (by decide +kernel) rfl⟩
theorem cl_RL_17 : CLV RL 17 m_X12_feed 5 := ⟨clb_X12_feed, tb_7 158 (by decide +kernel) rfl, tb_7 159 (by decide +kernel) rfl, tb_7 160 (by decide +kernel) rfl⟩
theorem cl_RL_18 : CLV RL 18 m_X11_end 1 := ⟨clb_X11_end, tb_3 32 (by decide +kernel) rfl, tb_3 33 (by decide +kernel) rfl, tb_3 34 (by decide +kernel) rfl⟩
theorem cl_RL_22 : CLV RL 22 m_X12_end 1 := ⟨clb_X12_end, tb_7 166 (by decide +kernel) rfl, tb_7 167 (by decide +kernel) rfl, tb_7 168 (by decide +kernel) rfl⟩
theorem cl_RL_23 : CLV RL 23 m_X11_out 1 := ⟨clb_X11_out, tb_3 39 (by decide +kernel) rfl, tb_3 40 (by decide +kernel) rfl, tb_3 41 (by decide +kernel) rfl⟩
theorem cl_RL_26 : CLV RL 26 m_X12_out 1 := ⟨clb_X12_out, tb_7 170 (by decide +kernel) rfl, tb_7 171 (by decide +kernel) rfl, tb_7 172 (by decide +kernel) rfl⟩
theorem cl_RL_27 : CLV RL 27 m_X11_leap 2 := ⟨clb_X11_leap, tb_3 43 (by decide +kernel) rfl, tb_3 44 (by decide +kernel) rfl, tb_3 45 (by decide +kernel) rfl⟩
theorem cl_RL_31 : CLV RL 31 m_X12_leap 2 := ⟨clb_X12_leap, tb_7 177 (by decide +kernel) rfl, tb_7 178 (by decide +kernel) rfl, tb_7 179 (by decide +kernel) rfl⟩
theorem cl_RL_32 : CLV RL 32 m_X11_date 0 := ⟨clb_X11_date, tb_3 63 (by decide +kernel) rfl, tb_3 64 (by decide +kernel) rfl, tb_3 65 (by decide +kernel) rfl⟩
theorem cl_RL_36 : CLV RL 36 m_X12_date 0 := ⟨clb_X12_date, tb_7 190 (by decide +kernel) rfl, tb_7 191 (by decide +kernel) rfl, tb_7 192 (by decide +kernel) rfl⟩
theorem cl_RL_37 : CLV RL 37 m_X11_written 1 := ⟨clb_X11_written, tb_3 120 (by decide +kernel) rfl, tb_3 121 (by decide +kernel) rfl, tb_3 122 (by decide +kernel) rfl⟩
theorem cl_RL_40 : CLV RL 40 m_X12_written 1 := ⟨clb_X12_written, tb_7 234 (by decide +kernel) rfl, tb_7 235 (by decide +kernel) rfl, tb_7 236 (by decide +kernel) rfl⟩
theorem cl_RL_41 : CLV RL 41 m_X11_orbit 4 := ⟨clb_X11_orbit, tb_3 138 (by decide +kernel) rfl, tb_3 139 (by decide +kernel) rfl, tb_3 140 (by decide +kernel) rfl⟩
theorem cl_RL_45 : CLV RL 45 m_X12_orbit 4 := ⟨clb_X12_orbit, tb_8 6 (by decide +kernel) rfl, tb_8 7 (by decide +kernel) rfl, tb_8 8 (by decide +kernel) rfl⟩
theorem cl_RL_46 : CLV RL 46 m_X11_station 4 := ⟨clb_X11_station, tb_3 145 (by decide +kernel) rfl, tb_3 146 (by decide +kernel) rfl, tb_3 147 (by decide +kernel) rfl⟩
theorem cl_RL_49 : CLV RL 49 m_X12_station 4 := ⟨clb_X12_station, tb_8 10 (by decide +kernel) rfl, tb_8 11 (by decide +kernel) rfl, tb_8 12 (by decide +kernel) rfl⟩
theorem cl_RL_50 : CLV RL 50 m_X11_sight 2 := ⟨clb_X11_sight, tb_3 152 (by decide +kernel) rfl, tb_3 153 (by decide +kernel) rfl, tb_3 154 (by decide +kernel) rfl⟩
theorem cl_RL_54 : CLV RL 54 m_X12_sight 2 := ⟨clb_X12_sight, tb_8 14 (by decide +kernel) rfl, tb_8 15 (by decide +kernel) rfl, tb_8 16 (by decide +kernel) rfl⟩
theorem cl_RL_55 : CLV RL 55 m_X11_power 2 := ⟨clb_X11_power, tb_3 179 (by decide +kernel) rfl, tb_3 180 (by decide +kernel) rfl, tb_3 181 (by decide +kernel) rfl⟩
theorem cl_RL_58 : CLV RL 58 m_X12_power 2 := ⟨clb_X12_power, tb_8 30 (by decide +kernel) rfl, tb_8 31 (by decide +kernel) rfl, tb_8 32 (by decide +kernel) rfl⟩
theorem cl_RL_59 : CLV RL 59 m_X11_load 3 := ⟨clb_X11_load, tb_3 185 (by decide +kernel) rfl, tb_3 186 (by decide +kernel) rfl, tb_3 187 (by decide +kernel) rfl⟩
theorem cl_RL_63 : CLV RL 63 m_X12_load 3 := ⟨clb_X12_load, tb_8 36 (by decide +kernel) rfl, tb_8 37 (by decide +kernel) rfl, tb_8 38 (by decide +kernel) rfl⟩
theorem cl_RL_64 : CLV RL 64 m_X11_program 1 := ⟨clb_X11_program, tb_3 196 (by decide +kernel) rfl, tb_3 197 (by decide +kernel) rfl, tb_3 198 (by decide +kernel) rfl⟩
theorem cl_RL_67 : CLV RL 67 m_X12_program 1 := ⟨clb_X12_program, tb_8 61 (by decide +kernel) rfl, tb_8 62 (by decide +kernel) rfl, tb_8 63 (by decide +kernel) rfl⟩
theorem cl_RL_68 : CLV RL 68 m_X11_due 2 := ⟨clb_X11_due, tb_4 132 (by decide +kernel) rfl, tb_4 133 (by decide +kernel) rfl, tb_4 134 (by decide +kernel) rfl⟩
theorem cl_RL_71 : CLV RL 71 m_X12_due 2 := ⟨clb_X12_due, tb_8 100 (by decide +kernel) rfl, tb_8 101 (by decide +kernel) rfl, tb_8 102 (by decide +kernel) rfl⟩
theorem cl_RL_72 : CLV RL 72 m_X11_mode 3 := ⟨clb_X11_mode, tb_4 140 (by decide +kernel) rfl, tb_4 141 (by decide +kernel) rfl, tb_4 142 (by decide +kernel) rfl⟩
theorem cl_RL_75 : CLV RL 75 m_X12_mode 3 := ⟨clb_X12_mode, tb_8 96 (by decide +kernel) rfl, tb_8 97 (by decide +kernel) rfl, tb_8 98 (by decide +kernel) rfl⟩
theorem cl_RL_76 : CLV RL 76 m_X11_monitor 3 := ⟨clb_X11_monitor, tb_4 144 (by decide +kernel) rfl, tb_4 145 (by decide +kernel) rfl, tb_4 146 (by decide +kernel) rfl⟩
theorem cl_RL_79 : CLV RL 79 m_X12_monitor 3 := ⟨clb_X12_monitor, tb_8 104 (by decide +kernel) rfl, tb_8 105 (by decide +kernel) rfl, tb_8 106 (by decide +kernel) rfl⟩
theorem cl_RL_80 : CLV RL 80 m_X11_flip 2 := ⟨clb_X11_flip, tb_4 156 (by decide +kernel) rfl, tb_4 157 (by decide +kernel) rfl, tb_4 158 (by decide +kernel) rfl⟩
theorem cl_RL_83 : CLV RL 83 m_X12_flip 2 := ⟨clb_X12_flip, tb_8 40 (by decide +kernel) rfl, tb_8 41 (by decide +kernel) rfl, tb_8 42 (by decide +kernel) rfl⟩
theorem cl_RL_84 : CLV RL 84 m_X11_tick 1 := ⟨clb_X11_tick, tb_4 163 (by decide +kernel) rfl, tb_4 164 (by decide +kernel) rfl, tb_4 165 (by decide +kernel) rfl⟩
theorem cl_RL_87 : CLV RL 87 m_X12_tick 1 := ⟨clb_X12_tick, tb_8 112 (by decide +kernel) rfl, tb_8 113 (by decide +kernel) rfl, tb_8 114 (by decide +kernel) rfl⟩
theorem cl_RL_88 : CLV RL 88 m_X11_ship 1 := ⟨clb_X11_ship, tb_5 80 (by decide +kernel) rfl, tb_5 81 (by decide +kernel) rfl, tb_5 82 (by decide +kernel) rfl⟩
theorem cl_RL_91 : CLV RL 91 m_X12_ship 1 := ⟨clb_X12_ship, tb_8 195 (by decide +kernel) rfl, tb_8 196 (by decide +kernel) rfl, tb_8 197 (by decide +kernel) rfl⟩
theorem cl_RL_92 : CLV RL 92 m_X11_served 2 := ⟨clb_X11_served, tb_5 91 (by decide +kernel) rfl, tb_5 92 (by decide +kernel) rfl, tb_5 93 (by decide +kernel) rfl⟩
theorem cl_RL_95 : CLV RL 95 m_X12_served 2 := ⟨clb_X12_served, tb_8 199 (by decide +kernel) rfl, tb_8 200 (by decide +kernel) rfl, tb_8 201 (by decide +kernel) rfl⟩
theorem cl_RL_96 : CLV RL 96 m_X11_runs 2 := ⟨clb_X11_runs, tb_5 95 (by decide +kernel) rfl, tb_5 96 (by decide +kernel) rfl, tb_5 97 (by decide +kernel) rfl⟩
theorem cl_RL_99 : CLV RL 99 m_X12_runs 2 := ⟨clb_X12_runs, tb_8 203 (by decide +kernel) rfl, tb_8 204 (by decide +kernel) rfl, tb_8 205 (by decide +kernel) rfl⟩
theorem cl_RL_100 : CLV RL 100 m_X11_word 2 := ⟨clb_X11_word, tb_5 100 (by decide +kernel) rfl, tb_5 101 (by decide +kernel) rfl, tb_5 102 (by decide +kernel) rfl⟩
theorem cl_RL_103 : CLV RL 103 m_X12_word 2 := ⟨clb_X12_word, tb_8 44 (by decide +kernel) rfl, tb_8 45 (by decide +kernel) rfl, tb_8 46 (by decide +kernel) rfl⟩
theorem cl_RL_104 : CLV RL 104 m_X11_noise 2 := ⟨clb_X11_noise, tb_5 105 (by decide +kernel) rfl, tb_5 106 (by decide +kernel) rfl, tb_5 107 (by decide +kernel) rfl⟩
theorem cl_RL_107 : CLV RL 107 m_X12_noise 2 := ⟨clb_X12_noise, tb_8 207 (by decide +kernel) rfl, tb_8 208 (by decide +kernel) rfl, tb_8 209 (by decide +kernel) rfl⟩
theorem cl_RL_108 : CLV RL 108 m_X11_lose 0 := ⟨clb_X11_lose, tb_5 113 (by decide +kernel) rfl, tb_5 114 (by decide +kernel) rfl, tb_5 115 (by decide +kernel) rfl⟩
theorem cl_RL_111 : CLV RL 111 m_X12_lose 0 := ⟨clb_X12_lose, tb_8 211 (by decide +kernel) rfl, tb_8 212 (by decide +kernel) rfl, tb_8 213 (by decide +kernel) rfl⟩
theorem cl_RL_112 : CLV RL 112 m_X11_receive 0 := ⟨clb_X11_receive, tb_5 121 (by decide +kernel) rfl, tb_5 122 (by decide +kernel) rfl, tb_5 123 (by decide +kernel) rfl⟩
theorem cl_RL_115 : CLV RL 115 m_X12_receive 0 := ⟨clb_X12_receive, tb_8 219 (by decide +kernel) rfl, tb_8 220 (by decide +kernel) rfl, tb_8 221 (by decide +kernel) rfl⟩
theorem cl_RL_116 : CLV RL 116 m_X11_packet 1 := ⟨clb_X11_packet, tb_5 152 (by decide +kernel) rfl, tb_5 153 (by decide +kernel) rfl, tb_5 154 (by decide +kernel) rfl⟩
theorem cl_RL_119 : CLV RL 119 m_X12_packet 1 := ⟨clb_X12_packet, tb_8 232 (by decide +kernel) rfl, tb_8 233 (by decide +kernel) rfl, tb_8 234 (by decide +kernel) rfl⟩
theorem cl_RL_120 : CLV RL 120 m_X11_command 0 := ⟨clb_X11_command, tb_5 160 (by decide +kernel) rfl, tb_5 161 (by decide +kernel) rfl, tb_5 162 (by decide +kernel) rfl⟩
theorem cl_RL_123 : CLV RL 123 m_X12_command 0 := ⟨clb_X12_command, tb_8 236 (by decide +kernel) rfl, tb_8 237 (by decide +kernel) rfl, tb_8 238 (by decide +kernel) rfl⟩
theorem cl_RL_124 : CLV RL 124 m_X11_send 1 := ⟨clb_X11_send, tb_5 176 (by decide +kernel) rfl, tb_5 177 (by decide +kernel) rfl, tb_5 178 (by decide +kernel) rfl⟩
theorem cl_RL_127 : CLV RL 127 m_X12_send 1 := ⟨clb_X12_send, tb_9 0 (by decide +kernel) rfl, tb_9 1 (by decide +kernel) rfl, tb_9 2 (by decide +kernel) rfl⟩
theorem cl_RL_128 : CLV RL 128 m_X11_ground 1 := ⟨clb_X11_ground, tb_5 199 (by decide +kernel) rfl, tb_5 200 (by decide +kernel) rfl, tb_5 201 (by decide +kernel) rfl⟩
theorem cl_RL_131 : CLV RL 131 m_X12_ground 1 := ⟨clb_X12_ground, tb_9 8 (by decide +kernel) rfl, tb_9 9 (by decide +kernel) rfl, tb_9 10 (by decide +kernel) rfl⟩
theorem cl_RL_132 : CLV RL 132 m_X11_pass 4 := ⟨clb_X11_pass, tb_5 203 (by decide +kernel) rfl, tb_5 204 (by decide +kernel) rfl, tb_5 205 (by decide +kernel) rfl⟩
theorem cl_RL_135 : CLV RL 135 m_X12_pass 4 := ⟨clb_X12_pass, tb_9 12 (by decide +kernel) rfl, tb_9 13 (by decide +kernel) rfl, tb_9 14 (by decide +kernel) rfl⟩
theorem cl_RL_136 : CLV RL 136 m_X11_gap 1 := ⟨clb_X11_gap, tb_5 212 (by decide +kernel) rfl, tb_5 213 (by decide +kernel) rfl, tb_5 214 (by decide +kernel) rfl⟩
theorem cl_RL_139 : CLV RL 139 m_X12_gap 1 := ⟨clb_X12_gap, tb_9 16 (by decide +kernel) rfl, tb_9 17 (by decide +kernel) rfl, tb_9 18 (by decide +kernel) rfl⟩
theorem cl_RL_140 : CLV RL 140 m_X11_clear 0 := ⟨clb_X11_clear, tb_5 216 (by decide +kernel) rfl, tb_5 217 (by decide +kernel) rfl, tb_5 218 (by decide +kernel) rfl⟩
theorem cl_RL_143 : CLV RL 143 m_X12_clear 0 := ⟨clb_X12_clear, tb_9 20 (by decide +kernel) rfl, tb_9 21 (by decide +kernel) rfl, tb_9 22 (by decide +kernel) rfl⟩
theorem cl_RL_144 : CLV RL 144 m_X11_best 1 := ⟨clb_X11_best, tb_5 220 (by decide +kernel) rfl, tb_5 221 (by decide +kernel) rfl, tb_5 222 (by decide +kernel) rfl⟩
theorem cl_RL_147 : CLV RL 147 m_X12_best 1 := ⟨clb_X12_best, tb_9 24 (by decide +kernel) rfl, tb_9 25 (by decide +kernel) rfl, tb_9 26 (by decide +kernel) rfl⟩
theorem cl_RL_148 : CLV RL 148 m_X11_bar 3 := ⟨clb_X11_bar, tb_6 11 (by decide +kernel) rfl, tb_6 12 (by decide +kernel) rfl, tb_6 13 (by decide +kernel) rfl⟩
theorem cl_RL_152 : CLV RL 152 m_X12_bar 3 := ⟨clb_X12_bar, tb_9 32 (by decide +kernel) rfl, tb_9 33 (by decide +kernel) rfl, tb_9 34 (by decide +kernel) rfl⟩
theorem cl_RL_153 : CLV RL 153 m_X11_way 4 := ⟨clb_X11_way, tb_6 18 (by decide +kernel) rfl, tb_6 19 (by decide +kernel) rfl, tb_6 20 (by decide +kernel) rfl⟩
theorem cl_RL_156 : CLV RL 156 m_X12_way 4 := ⟨clb_X12_way, tb_9 39 (by decide +kernel) rfl, tb_9 40 (by decide +kernel) rfl, tb_9 41 (by decide +kernel) rfl⟩
theorem cl_RX12_295 : CLV RX12 295 m_X12_four 1 := ⟨clb_X12_four, tb_7 162 (by decide +kernel) rfl, tb_7 164 (by decide +kernel) rfl, tbp 43 (q := (yX12_four, 106)) (by decide +kernel) rfl⟩
theorem cl_RX12_302 : CLT RX12 302 m_X12_is 3 := ⟨clb_X12_is, tb_7 174 (by decide +kernel) rfl, tb_7 175 (by decide +kernel) rfl⟩
theorem cl_RX12_315 : CLV RX12 315 m_X12_bad 0 := ⟨clb_X12_bad, tb_7 202 (by decide +kernel) rfl, tb_7 204 (by decide +kernel) rfl, tbp 46 (q := (yX12_bad, 106)) (by decide +kernel) rfl⟩
theorem cl_RX12_319 : CLV RX12 319 m_X12_here 0 := ⟨clb_X12_here, tb_7 206 (by decide +kernel) rfl, tb_7 208 (by decide +kernel) rfl, tbp 47 (q := (yX12_here, 106)) (by decide +kernel) rfl⟩
theorem cl_RX12_323 : CLV RX12 323 m_X12_fail 1 := ⟨clb_X12_fail, tb_7 213 (by decide +kernel) rfl, tb_7 215 (by decide +kernel) rfl, tbp 48 (q := (yX12_fail, 106)) (by decide +kernel) rfl⟩
theorem cl_RX12_326 : CLT RX12 326 m_X12_isDigit 1 := ⟨clb_X12_isDigit, tb_7 210 (by decide +kernel) rfl, tb_7 211 (by decide +kernel) rfl⟩
theorem cl_RX12_330 : CLV RX12 330 m_X12_need 1 := ⟨clb_X12_need, tb_7 217 (by decide +kernel) rfl, tb_7 219 (by decide +kernel) rfl, tbp 49 (q := (yX12_need, 106)) (by decide +kernel) rfl⟩
theorem cl_RX12_333 : CLV RX12 333 m_X12_whole 3 := ⟨clb_X12_whole, tb_8 86 (by decide +kernel) rfl, tb_8 88 (by decide +kernel) rfl, tbp 62 (q := (yX12_whole, 106)) (by decide +kernel) rfl⟩
theorem cl_RX12_337 : CLT RX12 337 m_X12_isSmall 1 := ⟨clb_X12_isSmall, tb_8 77 (by decide +kernel) rfl, tb_8 78 (by decide +kernel) rfl⟩
theorem cl_RX12_340 : CLV RX12 340 m_X12_wordEnd 0 := ⟨clb_X12_wordEnd, tb_8 73 (by decide +kernel) rfl, tb_8 75 (by decide +kernel) rfl, tbp 60 (q := (yX12_wordEnd, 106)) (by decide +kernel) rfl⟩
theorem cl_RX12_343 : CLV RX12 343 m_J0_length_8abf5 0 := ⟨clb_J0_length_8abf5, tb_8 80 (by decide +kernel) rfl, tb_4 32 (by decide +kernel) rfl, tb_4 33 (by decide +kernel) rfl⟩
theorem cl_RX12_346 : CLV RX12 346 m_J0_charAt_5068e 1 := ⟨clb_J0_charAt_5068e, tb_8 81 (by decide +kernel) rfl, tb_4 42 (by decide +kernel) rfl, tb_4 43 (by decide +kernel) rfl⟩
theorem cl_RX12_350 : CLT RX12 350 m_X12_isLong 1 := ⟨clb_X12_isLong, tb_7 184 (by decide +kernel) rfl, tb_7 185 (by decide +kernel) rfl⟩
theorem cl_RX12_353 : CLT RX12 353 m_X12_days 2 := ⟨clb_X12_days, tb_7 187 (by decide +kernel) rfl, tb_7 188 (by decide +kernel) rfl⟩
theorem cl_RX12_357 : CLT RX12 357 m_X12_dayOf 2 := ⟨clb_X12_dayOf, tb_7 181 (by decide +kernel) rfl, tb_7 182 (by decide +kernel) rfl⟩
theorem cl_RX12_364 : CLV RX12 364 m_X12_take 0 := ⟨clb_X12_take, tb_7 194 (by decide +kernel) rfl, tb_7 196 (by decide +kernel) rfl, tbp 44 (q := (yX12_take, 106)) (by decide +kernel) rfl⟩
theorem cl_RX12_367 : CLV RX12 367 m_X12_digits 3 := ⟨clb_X12_digits, tb_7 198 (by decide +kernel) rfl, tb_7 200 (by decide +kernel) rfl, tbp 45 (q := (yX12_digits, 106)) (by decide +kernel) rfl⟩
theorem cl_RX12_371 : CLV RX12 371 m_X12_hasLeap 1 := ⟨clb_X12_hasLeap, tb_7 221 (by decide +kernel) rfl, tb_7 223 (by decide +kernel) rfl, tbp 50 (q := (yX12_hasLeap, 106)) (by decide +kernel) rfl⟩
theorem cl_RX12_374 : CLV RX12 374 m_X12_done 0 := ⟨clb_X12_done, tb_7 225 (by decide +kernel) rfl, tb_7 227 (by decide +kernel) rfl, tbp 51 (q := (yX12_done, 106)) (by decide +kernel) rfl⟩
theorem cl_RX12_377 : CLV RX12 377 m_X12_firstSecond 1 := ⟨clb_X12_firstSecond, tb_7 229 (by decide +kernel) rfl, tb_7 231 (by decide +kernel) rfl, tbp 52 (q := (yX12_firstSecond, 106)) (by decide +kernel) rfl⟩
theorem cl_RX12_381 : CLV RX12 381 m_X12_add 1 := ⟨clb_X12_add, tb_8 2 (by decide +kernel) rfl, tb_8 4 (by decide +kernel) rfl, tbp 54 (q := (yX12_add, 106)) (by decide +kernel) rfl⟩
theorem cl_RX12_383 : CLV RX12 383 m_X12_digit 2 := ⟨clb_X12_digit, tb_7 238 (by decide +kernel) rfl, tb_8 0 (by decide +kernel) rfl, tbp 53 (q := (yX12_digit, 106)) (by decide +kernel) rfl⟩
theorem cl_RX12_401 : CLV RX12 401 m_X12_angle 1 := ⟨clb_X12_angle, tb_8 22 (by decide +kernel) rfl, tb_8 24 (by decide +kernel) rfl, tbp 56 (q := (yX12_angle, 106)) (by decide +kernel) rfl⟩
theorem cl_RX12_404 : CLT RX12 404 m_X12_round 1 := ⟨clb_X12_round, tb_8 26 (by decide +kernel) rfl, tb_8 27 (by decide +kernel) rfl⟩
theorem cl_RX12_408 : CLV RX12 408 m_X12_sees 2 := ⟨clb_X12_sees, tb_8 18 (by decide +kernel) rfl, tb_8 20 (by decide +kernel) rfl, tbp 55 (q := (yX12_sees, 106)) (by decide +kernel) rfl⟩
theorem cl_RX12_413 : CLT RX12 413 m_J9_min_7cf53 2 := ⟨clb_J9_min_7cf53, tb_8 35 (by decide +kernel) rfl, tb_3 177 (by decide +kernel) rfl⟩
theorem cl_RX12_418 : CLV RX12 418 m_X12_isShadow 0 := ⟨clb_X12_isShadow, tb_8 124 (by decide +kernel) rfl, tb_8 126 (by decide +kernel) rfl, tbp 67 (q := (yX12_isShadow, 106)) (by decide +kernel) rfl⟩
theorem cl_RX12_421 : CLV RX12 421 m_X12_sunNow 0 := ⟨clb_X12_sunNow, tb_8 120 (by decide +kernel) rfl, tb_8 122 (by decide +kernel) rfl, tbp 66 (q := (yX12_sunNow, 106)) (by decide +kernel) rfl⟩
theorem cl_RX12_429 : CLT RX12 429 m_X12_places 1 := ⟨clb_X12_places, tb_8 52 (by decide +kernel) rfl, tb_8 53 (by decide +kernel) rfl⟩
theorem cl_RX12_432 : CLT RX12 432 m_X12_odd 1 := ⟨clb_X12_odd, tb_8 55 (by decide +kernel) rfl, tb_8 56 (by decide +kernel) rfl⟩
theorem cl_RX12_435 : CLT RX12 435 m_X12_plain 1 := ⟨clb_X12_plain, tb_8 58 (by decide +kernel) rfl, tb_8 59 (by decide +kernel) rfl⟩
theorem cl_RX12_438 : CLV RX12 438 m_X12_read 1 := ⟨clb_X12_read, tb_8 48 (by decide +kernel) rfl, tb_8 50 (by decide +kernel) rfl, tbp 57 (q := (yX12_read, 106)) (by decide +kernel) rfl⟩
theorem cl_RX12_441 : CLT RX12 441 m_X12_encoded 1 := ⟨clb_X12_encoded, tb_8 132 (by decide +kernel) rfl, tb_8 133 (by decide +kernel) rfl⟩
theorem cl_RX12_450 : CLV RX12 450 m_X12_wordOf 1 := ⟨clb_X12_wordOf, tb_8 69 (by decide +kernel) rfl, tb_8 71 (by decide +kernel) rfl, tbp 59 (q := (yX12_wordOf, 106)) (by decide +kernel) rfl⟩
theorem cl_RX12_456 : CLV RX12 456 m_X12_behind 2 := ⟨clb_X12_behind, tb_8 82 (by decide +kernel) rfl, tb_8 84 (by decide +kernel) rfl, tbp 61 (q := (yX12_behind, 106)) (by decide +kernel) rfl⟩
theorem cl_RX12_459 : CLV RX12 459 m_X12_condition 1 := ⟨clb_X12_condition, tb_8 90 (by decide +kernel) rfl, tb_8 92 (by decide +kernel) rfl, tbp 63 (q := (yX12_condition, 106)) (by decide +kernel) rfl⟩
theorem cl_RX12_462 : CLV RX12 462 m_X12_line 1 := ⟨clb_X12_line, tb_8 65 (by decide +kernel) rfl, tb_8 67 (by decide +kernel) rfl, tbp 58 (q := (yX12_line, 106)) (by decide +kernel) rfl⟩
theorem cl_RX12_468 : CLV RX12 468 m_X12_recorded 0 := ⟨clb_X12_recorded, tb_8 155 (by decide +kernel) rfl, tb_8 157 (by decide +kernel) rfl, tbp 74 (q := (yX12_recorded, 106)) (by decide +kernel) rfl⟩
theorem cl_RX12_471 : CLV RX12 471 m_X12_isSeen 0 := ⟨clb_X12_isSeen, tb_8 159 (by decide +kernel) rfl, tb_8 161 (by decide +kernel) rfl, tbp 75 (q := (yX12_isSeen, 106)) (by decide +kernel) rfl⟩
theorem cl_RX12_478 : CLV RX12 478 m_X12_valueOf 1 := ⟨clb_X12_valueOf, tb_8 151 (by decide +kernel) rfl, tb_8 153 (by decide +kernel) rfl, tbp 73 (q := (yX12_valueOf, 106)) (by decide +kernel) rfl⟩
theorem cl_RX12_481 : CLV RX12 481 m_X12_emit 1 := ⟨clb_X12_emit, tb_8 167 (by decide +kernel) rfl, tb_8 169 (by decide +kernel) rfl, tbp 77 (q := (yX12_emit, 106)) (by decide +kernel) rfl⟩
theorem cl_RX12_483 : CLV RX12 483 m_X12_goTo 1 := ⟨clb_X12_goTo, tb_8 179 (by decide +kernel) rfl, tb_8 181 (by decide +kernel) rfl, tbp 80 (q := (yX12_goTo, 106)) (by decide +kernel) rfl⟩
theorem cl_RX12_486 : CLV RX12 486 m_X12_begin 1 := ⟨clb_X12_begin, tb_8 139 (by decide +kernel) rfl, tb_8 141 (by decide +kernel) rfl, tbp 70 (q := (yX12_begin, 106)) (by decide +kernel) rfl⟩
theorem cl_RX12_489 : CLV RX12 489 m_X12_holds 1 := ⟨clb_X12_holds, tb_8 147 (by decide +kernel) rfl, tb_8 149 (by decide +kernel) rfl, tbp 72 (q := (yX12_holds, 106)) (by decide +kernel) rfl⟩
theorem cl_RX12_492 : CLV RX12 492 m_X12_act 1 := ⟨clb_X12_act, tb_8 163 (by decide +kernel) rfl, tb_8 165 (by decide +kernel) rfl, tbp 76 (q := (yX12_act, 106)) (by decide +kernel) rfl⟩
theorem cl_RX12_498 : CLV RX12 498 m_X12_copyLine 2 := ⟨clb_X12_copyLine, tb_8 108 (by decide +kernel) rfl, tb_8 110 (by decide +kernel) rfl, tbp 64 (q := (yX12_copyLine, 106)) (by decide +kernel) rfl⟩
theorem cl_RX12_504 : CLV RX12 504 m_X12_sort 1 := ⟨clb_X12_sort, tb_8 171 (by decide +kernel) rfl, tb_8 173 (by decide +kernel) rfl, tbp 78 (q := (yX12_sort, 106)) (by decide +kernel) rfl⟩
theorem cl_RX12_507 : CLV RX12 507 m_X12_drop 1 := ⟨clb_X12_drop, tb_8 175 (by decide +kernel) rfl, tb_8 177 (by decide +kernel) rfl, tbp 79 (q := (yX12_drop, 106)) (by decide +kernel) rfl⟩
theorem cl_RX12_526 : CLT RX12 526 m_X12_check 2 := ⟨clb_X12_check, tb_8 191 (by decide +kernel) rfl, tb_8 192 (by decide +kernel) rfl⟩
theorem cl_RX12_533 : CLV RX12 533 m_X12_serve 0 := ⟨clb_X12_serve, tb_8 116 (by decide +kernel) rfl, tb_8 118 (by decide +kernel) rfl, tbp 65 (q := (yX12_serve, 106)) (by decide +kernel) rfl⟩
theorem cl_RX12_536 : CLV RX12 536 m_X12_mend 0 := ⟨clb_X12_mend, tb_8 128 (by decide +kernel) rfl, tb_8 130 (by decide +kernel) rfl, tbp 68 (q := (yX12_mend, 106)) (by decide +kernel) rfl⟩
theorem cl_RX12_539 : CLV RX12 539 m_X12_starts 0 := ⟨clb_X12_starts, tb_8 135 (by decide +kernel) rfl, tb_8 137 (by decide +kernel) rfl, tbp 69 (q := (yX12_starts, 106)) (by decide +kernel) rfl⟩
theorem cl_RX12_542 : CLV RX12 542 m_X12_goes 1 := ⟨clb_X12_goes, tb_8 143 (by decide +kernel) rfl, tb_8 145 (by decide +kernel) rfl, tbp 71 (q := (yX12_goes, 106)) (by decide +kernel) rfl⟩
theorem cl_RX12_545 : CLV RX12 545 m_X12_watch 0 := ⟨clb_X12_watch, tb_8 183 (by decide +kernel) rfl, tb_8 185 (by decide +kernel) rfl, tbp 81 (q := (yX12_watch, 106)) (by decide +kernel) rfl⟩
theorem cl_RX12_548 : CLV RX12 548 m_X12_link 0 := ⟨clb_X12_link, tb_8 187 (by decide +kernel) rfl, tb_8 189 (by decide +kernel) rfl, tbp 82 (q := (yX12_link, 106)) (by decide +kernel) rfl⟩
theorem cl_RX12_551 : CLV RX12 551 m_X12_shift 0 := ⟨clb_X12_shift, tb_8 215 (by decide +kernel) rfl, tb_8 217 (by decide +kernel) rfl, tbp 83 (q := (yX12_shift, 106)) (by decide +kernel) rfl⟩
theorem cl_RX12_563 : CLV RX12 563 m_X12_pieces 1 := ⟨clb_X12_pieces, tb_8 223 (by decide +kernel) rfl, tb_8 225 (by decide +kernel) rfl, tbp 84 (q := (yX12_pieces, 106)) (by decide +kernel) rfl⟩
theorem cl_RX12_566 : CLV RX12 566 m_X12_acknowledge 1 := ⟨clb_X12_acknowledge, tb_8 227 (by decide +kernel) rfl, tb_8 229 (by decide +kernel) rfl, tbp 85 (q := (yX12_acknowledge, 106)) (by decide +kernel) rfl⟩
theorem cl_RX12_581 : CLT RX12 581 m_J9_max_7cf53 2 := ⟨clb_J9_max_7cf53, tb_8 231 (by decide +kernel) rfl, tb_5 140 (by decide +kernel) rfl⟩
theorem cl_RX12_587 : CLV RX12 587 m_X12_ready 1 := ⟨clb_X12_ready, tb_9 4 (by decide +kernel) rfl, tb_9 6 (by decide +kernel) rfl, tbp 86 (q := (yX12_ready, 106)) (by decide +kernel) rfl⟩
theorem cl_RX12_592 : CLV RX12 592 m_X12_areApart 2 := ⟨clb_X12_areApart, tb_9 28 (by decide +kernel) rfl, tb_9 30 (by decide +kernel) rfl, tbp 87 (q := (yX12_areApart, 106)) (by decide +kernel) rfl⟩
theorem cl_RX12_595 : CLT RX12 595 m_X12_isField 2 := ⟨clb_X12_isField, tb_9 36 (by decide +kernel) rfl, tb_9 37 (by decide +kernel) rfl⟩
theorem cl_RX12_598 : CLT RX12 598 m_X12_beside 2 := ⟨clb_X12_beside, tb_9 43 (by decide +kernel) rfl, tb_9 44 (by decide +kernel) rfl⟩
theorem cl_RJ0_335 : CLV RJ0 335 m_J0_coder_7d493 0 := ⟨clb_J0_coder_7d493, tb_4 35 (by decide +kernel) rfl, tb_4 36 (by decide +kernel) rfl, tb_4 37 (by decide +kernel) rfl⟩
theorem cl_RJ0_492 : CLV RJ0 492 m_J0_isLatin1_aae02 0 := ⟨clb_J0_isLatin1_aae02, tb_4 45 (by decide +kernel) rfl, tb_4 46 (by decide +kernel) rfl, tb_4 47 (by decide +kernel) rfl⟩
theorem cl_RJ0_495 : CLT RJ0 495 m_J1_charAt_3b067 2 := ⟨clb_J1_charAt_3b067, tb_4 49 (by decide +kernel) rfl, tb_4 50 (by decide +kernel) rfl⟩
theorem cl_RJ0_1059 : CLT RJ0 1059 m_J3_checkIndex_8e157 3 := ⟨clb_J3_checkIndex_8e157, tb_4 57 (by decide +kernel) rfl, tb_4 58 (by decide +kernel) rfl⟩
theorem cl_RJ1_9 : CLT RJ1 9 m_J0_checkIndex_df160 2 := ⟨clb_J0_checkIndex_df160, tb_4 52 (by decide +kernel) rfl, tb_4 53 (by decide +kernel) rfl⟩
theorem cf_1_0 : cOK 1 11 13 0 2 = true := by decide +kernel
theorem cf_1_1 : cOK 1 11 13 1 4 = true := by decide +kernel
theorem cf_1_2 : cOK 1 11 13 2 11 = true := by decide +kernel
theorem cf_1_3 : cOK 1 11 13 3 0 = true := by decide +kernel
theorem cf_1_4 : cOK 1 11 13 4 12 = true := by decide +kernel
theorem cf_1_5 : cOK 1 11 13 5 14 = true := by decide +kernel
theorem cf_1_6 : cOK 1 11 13 6 18 = true := by decide +kernel
theorem cf_1_7 : cOK 1 11 13 7 24 = true := by decide +kernel
theorem cf_1_8 : cOK 1 11 13 8 26 = true := by decide +kernel
theorem cf_1_9 : cOK 1 11 13 9 34 = true := by decide +kernel
theorem cf_1_10 : cOK 1 11 13 10 65 = true := by decide +kernel
theorem cf_1_11 : cOK 1 11 13 11 75 = true := by decide +kernel
theorem cf_1_12 : cOK 1 11 13 12 81 = true := by decide +kernel
theorem cc_1 : cOK 1 11 13 0 (rf 1 0) = true := by decide +kernel
theorem cf_2_0 : cOK 2 10 4 0 3 = true := by decide +kernel
theorem cf_2_1 : cOK 2 10 4 1 0 = true := by decide +kernel
theorem cf_2_2 : cOK 2 10 4 2 0 = true := by decide +kernel
theorem cf_2_3 : cOK 2 10 4 3 0 = true := by decide +kernel
theorem cc_2 : cOK 2 10 4 0 (rf 2 0) = true := by decide +kernel
theorem ar_3 : aOK 3 20 1600 = true := by decide +kernel
theorem cf_4_0 : cOK 4 3 7 0 0 = true := by decide +kernel
theorem cf_4_1 : cOK 4 3 7 1 5 = true := by decide +kernel
theorem cf_4_2 : cOK 4 3 7 2 6 = true := by decide +kernel
theorem cf_4_3 : cOK 4 3 7 3 7 = true := by decide +kernel
theorem cf_4_4 : cOK 4 3 7 4 8 = true := by decide +kernel
theorem cf_4_5 : cOK 4 3 7 5 9 = true := by decide +kernel
theorem cf_4_6 : cOK 4 3 7 6 10 = true := by decide +kernel
theorem cc_4 : cOK 4 3 7 0 (rf 4 0) = true := by decide +kernel
theorem ar_5 : aOK 5 20 30 = true := by decide +kernel
theorem ar_6 : aOK 6 20 30 = true := by decide +kernel
theorem ar_7 : aOK 7 20 30 = true := by decide +kernel
theorem ar_8 : aOK 8 20 30 = true := by decide +kernel
theorem ar_9 : aOK 9 20 30 = true := by decide +kernel
theorem ar_10 : aOK 10 20 30 = true := by decide +kernel
theorem ar_11 : aOK 11 20 288 = true := by decide +kernel
theorem cf_12_0 : cOK 12 1 2 0 13 = true := by decide +kernel
theorem cf_12_1 : cOK 12 1 2 1 0 = true := by decide +kernel
theorem cc_12 : cOK 12 1 2 0 (rf 12 0) = true := by decide +kernel
theorem ar_13 : aOK 13 20 10 = true := by decide +kernel
theorem cf_14_0 : cOK 14 6 9 0 0 = true := by decide +kernel
theorem cf_14_1 : cOK 14 6 9 1 0 = true := by decide +kernel
theorem cf_14_2 : cOK 14 6 9 2 0 = true := by decide +kernel
theorem cf_14_3 : cOK 14 6 9 3 0 = true := by decide +kernel
theorem cf_14_4 : cOK 14 6 9 4 0 = true := by decide +kernel
theorem cf_14_5 : cOK 14 6 9 5 0 = true := by decide +kernel
theorem cf_14_6 : cOK 14 6 9 6 15 = true := by decide +kernel
theorem cf_14_7 : cOK 14 6 9 7 16 = true := by decide +kernel
theorem cf_14_8 : cOK 14 6 9 8 17 = true := by decide +kernel
theorem cc_14 : cOK 14 6 9 0 (rf 14 0) = true := by decide +kernel
theorem ar_15 : aOK 15 20 4 = true := by decide +kernel
theorem ar_16 : aOK 16 20 4 = true := by decide +kernel
theorem ar_17 : aOK 17 20 4 = true := by decide +kernel
theorem cf_18_0 : cOK 18 8 10 0 0 = true := by decide +kernel
theorem cf_18_1 : cOK 18 8 10 1 0 = true := by decide +kernel
theorem cf_18_2 : cOK 18 8 10 2 0 = true := by decide +kernel
theorem cf_18_3 : cOK 18 8 10 3 0 = true := by decide +kernel
theorem cf_18_4 : cOK 18 8 10 4 0 = true := by decide +kernel
theorem cf_18_5 : cOK 18 8 10 5 19 = true := by decide +kernel
theorem cf_18_6 : cOK 18 8 10 6 20 = true := by decide +kernel
theorem cf_18_7 : cOK 18 8 10 7 21 = true := by decide +kernel
theorem cf_18_8 : cOK 18 8 10 8 22 = true := by decide +kernel
theorem cf_18_9 : cOK 18 8 10 9 23 = true := by decide +kernel
theorem cc_18 : cOK 18 8 10 0 (rf 18 0) = true := by decide +kernel
theorem ar_19 : aOK 19 20 8 = true := by decide +kernel
theorem ar_20 : aOK 20 20 8 = true := by decide +kernel
theorem ar_21 : aOK 21 21 8 = true := by decide +kernel
theorem ar_22 : aOK 22 21 8 = true := by decide +kernel
theorem ar_23 : aOK 23 20 8 = true := by decide +kernel
theorem cf_24_0 : cOK 24 5 3 0 25 = true := by decide +kernel
theorem cf_24_1 : cOK 24 5 3 1 0 = true := by decide +kernel
theorem cf_24_2 : cOK 24 5 3 2 0 = true := by decide +kernel
theorem cc_24 : cOK 24 5 3 0 (rf 24 0) = true := by decide +kernel
theorem ar_25 : aOK 25 20 64 = true := by decide +kernel
theorem cf_26_0 : cOK 26 4 15 0 27 = true := by decide +kernel
theorem cf_26_1 : cOK 26 4 15 1 28 = true := by decide +kernel
theorem cf_26_2 : cOK 26 4 15 2 29 = true := by decide +kernel
theorem cf_26_3 : cOK 26 4 15 3 0 = true := by decide +kernel
theorem cf_26_4 : cOK 26 4 15 4 30 = true := by decide +kernel
theorem cf_26_5 : cOK 26 4 15 5 31 = true := by decide +kernel
theorem cf_26_6 : cOK 26 4 15 6 32 = true := by decide +kernel
theorem cf_26_7 : cOK 26 4 15 7 0 = true := by decide +kernel
theorem cf_26_8 : cOK 26 4 15 8 0 = true := by decide +kernel
theorem cf_26_9 : cOK 26 4 15 9 33 = true := by decide +kernel
theorem cf_26_10 : cOK 26 4 15 10 0 = true := by decide +kernel
theorem cf_26_11 : cOK 26 4 15 11 0 = true := by decide +kernel
theorem cf_26_12 : cOK 26 4 15 12 0 = true := by decide +kernel
theorem cf_26_13 : cOK 26 4 15 13 0 = true := by decide +kernel
theorem cf_26_14 : cOK 26 4 15 14 0 = true := by decide +kernel
theorem cc_26 : cOK 26 4 15 0 (rf 26 0) = true := by decide +kernel
theorem ar_27 : aOK 27 20 1800 = true := by decide +kernel
theorem ar_28 : aOK 28 20 4 = true := by decide +kernel
theorem ar_29 : aOK 29 20 4 = true := by decide +kernel
theorem ar_30 : aOK 30 20 16 = true := by decide +kernel
theorem ar_31 : aOK 31 20 9 = true := by decide +kernel
theorem ar_32 : aOK 32 20 9 = true := by decide +kernel
theorem ar_33 : aOK 33 20 744 = true := by decide +kernel
theorem cf_34_0 : cOK 34 0 20 0 14 = true := by decide +kernel
theorem cf_34_1 : cOK 34 0 20 1 18 = true := by decide +kernel
theorem cf_34_2 : cOK 34 0 20 2 24 = true := by decide +kernel
theorem cf_34_3 : cOK 34 0 20 3 26 = true := by decide +kernel
theorem cf_34_4 : cOK 34 0 20 4 0 = true := by decide +kernel
theorem cf_34_5 : cOK 34 0 20 5 0 = true := by decide +kernel
theorem cf_34_6 : cOK 34 0 20 6 0 = true := by decide +kernel
theorem cf_34_7 : cOK 34 0 20 7 35 = true := by decide +kernel
theorem cf_34_8 : cOK 34 0 20 8 36 = true := by decide +kernel
theorem cf_34_9 : cOK 34 0 20 9 43 = true := by decide +kernel
theorem cf_34_10 : cOK 34 0 20 10 50 = true := by decide +kernel
theorem cf_34_11 : cOK 34 0 20 11 51 = true := by decide +kernel
theorem cf_34_12 : cOK 34 0 20 12 52 = true := by decide +kernel
theorem cf_34_13 : cOK 34 0 20 13 53 = true := by decide +kernel
theorem cf_34_14 : cOK 34 0 20 14 0 = true := by decide +kernel
theorem cf_34_15 : cOK 34 0 20 15 54 = true := by decide +kernel
theorem cf_34_16 : cOK 34 0 20 16 61 = true := by decide +kernel
theorem cf_34_17 : cOK 34 0 20 17 62 = true := by decide +kernel
theorem cf_34_18 : cOK 34 0 20 18 63 = true := by decide +kernel
theorem cf_34_19 : cOK 34 0 20 19 64 = true := by decide +kernel
theorem cc_34 : cOK 34 0 20 0 (rf 34 0) = true := by decide +kernel
theorem ar_35 : aOK 35 20 8 = true := by decide +kernel
theorem cf_36_0 : cOK 36 3 7 0 0 = true := by decide +kernel
theorem cf_36_1 : cOK 36 3 7 1 37 = true := by decide +kernel
theorem cf_36_2 : cOK 36 3 7 2 38 = true := by decide +kernel
theorem cf_36_3 : cOK 36 3 7 3 39 = true := by decide +kernel
theorem cf_36_4 : cOK 36 3 7 4 40 = true := by decide +kernel
theorem cf_36_5 : cOK 36 3 7 5 41 = true := by decide +kernel
theorem cf_36_6 : cOK 36 3 7 6 42 = true := by decide +kernel
theorem cc_36 : cOK 36 3 7 0 (rf 36 0) = true := by decide +kernel
theorem ar_37 : aOK 37 20 240 = true := by decide +kernel
theorem ar_38 : aOK 38 20 240 = true := by decide +kernel
theorem ar_39 : aOK 39 20 240 = true := by decide +kernel
theorem ar_40 : aOK 40 20 240 = true := by decide +kernel
theorem ar_41 : aOK 41 20 240 = true := by decide +kernel
theorem ar_42 : aOK 42 20 240 = true := by decide +kernel
theorem cf_43_0 : cOK 43 3 7 0 0 = true := by decide +kernel
theorem cf_43_1 : cOK 43 3 7 1 44 = true := by decide +kernel
theorem cf_43_2 : cOK 43 3 7 2 45 = true := by decide +kernel
theorem cf_43_3 : cOK 43 3 7 3 46 = true := by decide +kernel
theorem cf_43_4 : cOK 43 3 7 4 47 = true := by decide +kernel
theorem cf_43_5 : cOK 43 3 7 5 48 = true := by decide +kernel
theorem cf_43_6 : cOK 43 3 7 6 49 = true := by decide +kernel
theorem cc_43 : cOK 43 3 7 0 (rf 43 0) = true := by decide +kernel
theorem ar_44 : aOK 44 20 240 = true := by decide +kernel
theorem ar_45 : aOK 45 20 240 = true := by decide +kernel
theorem ar_46 : aOK 46 20 240 = true := by decide +kernel
theorem ar_47 : aOK 47 20 240 = true := by decide +kernel
theorem ar_48 : aOK 48 20 240 = true := by decide +kernel
theorem ar_49 : aOK 49 20 240 = true := by decide +kernel
theorem ar_50 : aOK 50 20 8 = true := by decide +kernel
theorem ar_51 : aOK 51 20 8 = true := by decide +kernel
theorem ar_52 : aOK 52 20 10 = true := by decide +kernel
theorem ar_53 : aOK 53 20 10 = true := by decide +kernel
theorem cf_54_0 : cOK 54 3 7 0 0 = true := by decide +kernel
theorem cf_54_1 : cOK 54 3 7 1 55 = true := by decide +kernel
theorem cf_54_2 : cOK 54 3 7 2 56 = true := by decide +kernel
theorem cf_54_3 : cOK 54 3 7 3 57 = true := by decide +kernel
theorem cf_54_4 : cOK 54 3 7 4 58 = true := by decide +kernel
theorem cf_54_5 : cOK 54 3 7 5 59 = true := by decide +kernel
theorem cf_54_6 : cOK 54 3 7 6 60 = true := by decide +kernel
theorem cc_54 : cOK 54 3 7 0 (rf 54 0) = true := by decide +kernel
theorem ar_55 : aOK 55 20 8 = true := by decide +kernel
theorem ar_56 : aOK 56 20 8 = true := by decide +kernel
theorem ar_57 : aOK 57 20 8 = true := by decide +kernel
theorem ar_58 : aOK 58 20 8 = true := by decide +kernel
theorem ar_59 : aOK 59 20 8 = true := by decide +kernel
theorem ar_60 : aOK 60 20 8 = true := by decide +kernel
theorem ar_61 : aOK 61 20 8 = true := by decide +kernel
theorem ar_62 : aOK 62 20 8 = true := by decide +kernel
theorem ar_63 : aOK 63 20 8 = true := by decide +kernel
theorem ar_64 : aOK 64 20 8 = true := by decide +kernel
theorem cf_65_0 : cOK 65 2 12 0 0 = true := by decide +kernel
theorem cf_65_1 : cOK 65 2 12 1 0 = true := by decide +kernel
theorem cf_65_2 : cOK 65 2 12 2 0 = true := by decide +kernel
theorem cf_65_3 : cOK 65 2 12 3 0 = true := by decide +kernel
theorem cf_65_4 : cOK 65 2 12 4 66 = true := by decide +kernel
theorem cf_65_5 : cOK 65 2 12 5 0 = true := by decide +kernel
theorem cf_65_6 : cOK 65 2 12 6 67 = true := by decide +kernel
theorem cf_65_7 : cOK 65 2 12 7 0 = true := by decide +kernel
theorem cf_65_8 : cOK 65 2 12 8 68 = true := by decide +kernel
theorem cf_65_9 : cOK 65 2 12 9 0 = true := by decide +kernel
theorem cf_65_10 : cOK 65 2 12 10 0 = true := by decide +kernel
theorem cf_65_11 : cOK 65 2 12 11 0 = true := by decide +kernel
theorem cc_65 : cOK 65 2 12 0 (rf 65 0) = true := by decide +kernel
theorem ar_66 : aOK 66 20 9 = true := by decide +kernel
theorem ar_67 : aOK 67 20 540 = true := by decide +kernel
theorem cf_68_0 : cOK 68 3 7 0 0 = true := by decide +kernel
theorem cf_68_1 : cOK 68 3 7 1 69 = true := by decide +kernel
theorem cf_68_2 : cOK 68 3 7 2 70 = true := by decide +kernel
theorem cf_68_3 : cOK 68 3 7 3 71 = true := by decide +kernel
theorem cf_68_4 : cOK 68 3 7 4 72 = true := by decide +kernel
theorem cf_68_5 : cOK 68 3 7 5 73 = true := by decide +kernel
theorem cf_68_6 : cOK 68 3 7 6 74 = true := by decide +kernel
theorem cc_68 : cOK 68 3 7 0 (rf 68 0) = true := by decide +kernel
theorem ar_69 : aOK 69 20 8 = true := by decide +kernel
theorem ar_70 : aOK 70 20 8 = true := by decide +kernel
theorem ar_71 : aOK 71 20 8 = true := by decide +kernel
theorem ar_72 : aOK 72 20 8 = true := by decide +kernel
theorem ar_73 : aOK 73 20 8 = true := by decide +kernel
theorem ar_74 : aOK 74 20 8 = true := by decide +kernel
theorem cf_75_0 : cOK 75 7 10 0 76 = true := by decide +kernel
theorem cf_75_1 : cOK 75 7 10 1 77 = true := by decide +kernel
theorem cf_75_2 : cOK 75 7 10 2 78 = true := by decide +kernel
theorem cf_75_3 : cOK 75 7 10 3 79 = true := by decide +kernel
theorem cf_75_4 : cOK 75 7 10 4 80 = true := by decide +kernel
theorem cf_75_5 : cOK 75 7 10 5 0 = true := by decide +kernel
theorem cf_75_6 : cOK 75 7 10 6 0 = true := by decide +kernel
theorem cf_75_7 : cOK 75 7 10 7 0 = true := by decide +kernel
theorem cf_75_8 : cOK 75 7 10 8 0 = true := by decide +kernel
theorem cf_75_9 : cOK 75 7 10 9 0 = true := by decide +kernel
theorem cc_75 : cOK 75 7 10 0 (rf 75 0) = true := by decide +kernel
theorem ar_76 : aOK 76 20 12 = true := by decide +kernel
theorem ar_77 : aOK 77 20 12 = true := by decide +kernel
theorem ar_78 : aOK 78 20 12 = true := by decide +kernel
theorem ar_79 : aOK 79 20 12 = true := by decide +kernel
theorem ar_80 : aOK 80 20 12 = true := by decide +kernel
theorem cf_81_0 : cOK 81 9 3 0 82 = true := by decide +kernel
theorem cf_81_1 : cOK 81 9 3 1 83 = true := by decide +kernel
theorem cf_81_2 : cOK 81 9 3 2 84 = true := by decide +kernel
theorem cc_81 : cOK 81 9 3 0 (rf 81 0) = true := by decide +kernel
theorem ar_82 : aOK 82 21 288 = true := by decide +kernel
theorem ar_83 : aOK 83 20 288 = true := by decide +kernel
theorem ar_84 : aOK 84 20 288 = true := by decide +kernel
theorem cf_85_0 : cOK 85 12 106 0 86 = true := by decide +kernel
theorem cf_85_1 : cOK 85 12 106 1 87 = true := by decide +kernel
theorem cf_85_2 : cOK 85 12 106 2 88 = true := by decide +kernel
theorem cf_85_3 : cOK 85 12 106 3 0 = true := by decide +kernel
theorem cf_85_4 : cOK 85 12 106 4 0 = true := by decide +kernel
theorem cf_85_5 : cOK 85 12 106 5 0 = true := by decide +kernel
theorem cf_85_6 : cOK 85 12 106 6 0 = true := by decide +kernel
theorem cf_85_7 : cOK 85 12 106 7 0 = true := by decide +kernel
theorem cf_85_8 : cOK 85 12 106 8 89 = true := by decide +kernel
theorem cf_85_9 : cOK 85 12 106 9 0 = true := by decide +kernel
theorem cf_85_10 : cOK 85 12 106 10 0 = true := by decide +kernel
theorem cf_85_11 : cOK 85 12 106 11 0 = true := by decide +kernel
theorem cf_85_12 : cOK 85 12 106 12 0 = true := by decide +kernel
theorem cf_85_13 : cOK 85 12 106 13 0 = true := by decide +kernel
theorem cf_85_14 : cOK 85 12 106 14 0 = true := by decide +kernel
theorem cf_85_15 : cOK 85 12 106 15 90 = true := by decide +kernel
theorem cf_85_16 : cOK 85 12 106 16 91 = true := by decide +kernel
theorem cf_85_17 : cOK 85 12 106 17 92 = true := by decide +kernel
theorem cf_85_18 : cOK 85 12 106 18 0 = true := by decide +kernel
theorem cf_85_19 : cOK 85 12 106 19 0 = true := by decide +kernel
theorem cf_85_20 : cOK 85 12 106 20 0 = true := by decide +kernel
theorem cf_85_21 : cOK 85 12 106 21 0 = true := by decide +kernel
theorem cf_85_22 : cOK 85 12 106 22 0 = true := by decide +kernel
theorem cf_85_23 : cOK 85 12 106 23 0 = true := by decide +kernel
theorem cf_85_24 : cOK 85 12 106 24 93 = true := by decide +kernel
theorem cf_85_25 : cOK 85 12 106 25 94 = true := by decide +kernel
theorem cf_85_26 : cOK 85 12 106 26 95 = true := by decide +kernel
theorem cf_85_27 : cOK 85 12 106 27 96 = true := by decide +kernel
theorem cf_85_28 : cOK 85 12 106 28 97 = true := by decide +kernel
theorem cf_85_29 : cOK 85 12 106 29 0 = true := by decide +kernel
theorem cf_85_30 : cOK 85 12 106 30 0 = true := by decide +kernel
theorem cf_85_31 : cOK 85 12 106 31 98 = true := by decide +kernel
theorem cf_85_32 : cOK 85 12 106 32 99 = true := by decide +kernel
theorem cf_85_33 : cOK 85 12 106 33 100 = true := by decide +kernel
theorem cf_85_34 : cOK 85 12 106 34 101 = true := by decide +kernel
theorem cf_85_35 : cOK 85 12 106 35 102 = true := by decide +kernel
theorem cf_85_36 : cOK 85 12 106 36 103 = true := by decide +kernel
theorem cf_85_37 : cOK 85 12 106 37 104 = true := by decide +kernel
theorem cf_85_38 : cOK 85 12 106 38 105 = true := by decide +kernel
theorem cf_85_39 : cOK 85 12 106 39 106 = true := by decide +kernel
theorem cf_85_40 : cOK 85 12 106 40 107 = true := by decide +kernel
theorem cf_85_41 : cOK 85 12 106 41 108 = true := by decide +kernel
theorem cf_85_42 : cOK 85 12 106 42 109 = true := by decide +kernel
theorem cf_85_43 : cOK 85 12 106 43 110 = true := by decide +kernel
theorem cf_85_44 : cOK 85 12 106 44 111 = true := by decide +kernel
theorem cf_85_45 : cOK 85 12 106 45 112 = true := by decide +kernel
theorem cf_85_46 : cOK 85 12 106 46 113 = true := by decide +kernel
theorem cf_85_47 : cOK 85 12 106 47 114 = true := by decide +kernel
theorem cf_85_48 : cOK 85 12 106 48 115 = true := by decide +kernel
theorem cf_85_49 : cOK 85 12 106 49 116 = true := by decide +kernel
theorem cf_85_50 : cOK 85 12 106 50 117 = true := by decide +kernel
theorem cf_85_51 : cOK 85 12 106 51 118 = true := by decide +kernel
theorem cf_85_52 : cOK 85 12 106 52 119 = true := by decide +kernel
theorem cf_85_53 : cOK 85 12 106 53 120 = true := by decide +kernel
theorem cf_85_54 : cOK 85 12 106 54 121 = true := by decide +kernel
theorem cf_85_55 : cOK 85 12 106 55 122 = true := by decide +kernel
theorem cf_85_56 : cOK 85 12 106 56 123 = true := by decide +kernel
theorem cf_85_57 : cOK 85 12 106 57 0 = true := by decide +kernel
theorem cf_85_58 : cOK 85 12 106 58 124 = true := by decide +kernel
theorem cf_85_59 : cOK 85 12 106 59 125 = true := by decide +kernel
theorem cf_85_60 : cOK 85 12 106 60 126 = true := by decide +kernel
theorem cf_85_61 : cOK 85 12 106 61 127 = true := by decide +kernel
theorem cf_85_62 : cOK 85 12 106 62 0 = true := by decide +kernel
theorem cf_85_63 : cOK 85 12 106 63 128 = true := by decide +kernel
theorem cf_85_64 : cOK 85 12 106 64 129 = true := by decide +kernel
theorem cf_85_65 : cOK 85 12 106 65 130 = true := by decide +kernel
theorem cf_85_66 : cOK 85 12 106 66 131 = true := by decide +kernel
theorem cf_85_67 : cOK 85 12 106 67 132 = true := by decide +kernel
theorem cf_85_68 : cOK 85 12 106 68 133 = true := by decide +kernel
theorem cf_85_69 : cOK 85 12 106 69 134 = true := by decide +kernel
theorem cf_85_70 : cOK 85 12 106 70 135 = true := by decide +kernel
theorem cf_85_71 : cOK 85 12 106 71 136 = true := by decide +kernel
theorem cf_85_72 : cOK 85 12 106 72 0 = true := by decide +kernel
theorem cf_85_73 : cOK 85 12 106 73 0 = true := by decide +kernel
theorem cf_85_74 : cOK 85 12 106 74 0 = true := by decide +kernel
theorem cf_85_75 : cOK 85 12 106 75 137 = true := by decide +kernel
theorem cf_85_76 : cOK 85 12 106 76 138 = true := by decide +kernel
theorem cf_85_77 : cOK 85 12 106 77 139 = true := by decide +kernel
theorem cf_85_78 : cOK 85 12 106 78 0 = true := by decide +kernel
theorem cf_85_79 : cOK 85 12 106 79 0 = true := by decide +kernel
theorem cf_85_80 : cOK 85 12 106 80 0 = true := by decide +kernel
theorem cf_85_81 : cOK 85 12 106 81 0 = true := by decide +kernel
theorem cf_85_82 : cOK 85 12 106 82 0 = true := by decide +kernel
theorem cf_85_83 : cOK 85 12 106 83 0 = true := by decide +kernel
theorem cf_85_84 : cOK 85 12 106 84 0 = true := by decide +kernel
theorem cf_85_85 : cOK 85 12 106 85 0 = true := by decide +kernel
theorem cf_85_86 : cOK 85 12 106 86 0 = true := by decide +kernel
theorem cf_85_87 : cOK 85 12 106 87 0 = true := by decide +kernel
theorem cf_85_88 : cOK 85 12 106 88 0 = true := by decide +kernel
theorem cf_85_89 : cOK 85 12 106 89 0 = true := by decide +kernel
theorem cf_85_90 : cOK 85 12 106 90 0 = true := by decide +kernel
theorem cf_85_91 : cOK 85 12 106 91 140 = true := by decide +kernel
theorem cf_85_92 : cOK 85 12 106 92 141 = true := by decide +kernel
theorem cf_85_93 : cOK 85 12 106 93 142 = true := by decide +kernel
theorem cf_85_94 : cOK 85 12 106 94 143 = true := by decide +kernel
theorem cf_85_95 : cOK 85 12 106 95 144 = true := by decide +kernel
theorem cf_85_96 : cOK 85 12 106 96 145 = true := by decide +kernel
theorem cf_85_97 : cOK 85 12 106 97 146 = true := by decide +kernel
theorem cf_85_98 : cOK 85 12 106 98 147 = true := by decide +kernel
theorem cf_85_99 : cOK 85 12 106 99 148 = true := by decide +kernel
theorem cf_85_100 : cOK 85 12 106 100 149 = true := by decide +kernel
theorem cf_85_101 : cOK 85 12 106 101 150 = true := by decide +kernel
theorem cf_85_102 : cOK 85 12 106 102 0 = true := by decide +kernel
theorem cf_85_103 : cOK 85 12 106 103 0 = true := by decide +kernel
theorem cf_85_104 : cOK 85 12 106 104 151 = true := by decide +kernel
theorem cf_85_105 : cOK 85 12 106 105 152 = true := by decide +kernel
theorem cc_85 : cOK 85 12 106 0 (rf 85 0) = true := by decide +kernel
theorem ar_86 : aOK 86 20 1600 = true := by decide +kernel
theorem ar_87 : aOK 87 20 1600 = true := by decide +kernel
theorem ar_88 : aOK 88 20 288 = true := by decide +kernel
theorem ar_89 : aOK 89 20 10 = true := by decide +kernel
theorem ar_90 : aOK 90 20 4 = true := by decide +kernel
theorem ar_91 : aOK 91 20 4 = true := by decide +kernel
theorem ar_92 : aOK 92 20 4 = true := by decide +kernel
theorem ar_93 : aOK 93 20 8 = true := by decide +kernel
theorem ar_94 : aOK 94 20 8 = true := by decide +kernel
theorem ar_95 : aOK 95 21 8 = true := by decide +kernel
theorem ar_96 : aOK 96 21 8 = true := by decide +kernel
theorem ar_97 : aOK 97 20 64 = true := by decide +kernel
theorem ar_98 : aOK 98 22 15 = true := by decide +kernel
theorem ar_99 : aOK 99 22 13 = true := by decide +kernel
theorem ar_100 : aOK 100 22 17 = true := by decide +kernel
theorem ar_101 : aOK 101 22 8 = true := by decide +kernel
theorem ar_102 : aOK 102 22 1 = true := by decide +kernel
theorem ar_103 : aOK 103 20 260 = true := by decide +kernel
theorem ar_104 : aOK 104 20 260 = true := by decide +kernel
theorem ar_105 : aOK 105 20 260 = true := by decide +kernel
theorem ar_106 : aOK 106 20 260 = true := by decide +kernel
theorem ar_107 : aOK 107 20 260 = true := by decide +kernel
theorem ar_108 : aOK 108 20 260 = true := by decide +kernel
theorem ar_109 : aOK 109 20 240 = true := by decide +kernel
theorem ar_110 : aOK 110 20 240 = true := by decide +kernel
theorem ar_111 : aOK 111 20 240 = true := by decide +kernel
theorem ar_112 : aOK 112 20 240 = true := by decide +kernel
theorem ar_113 : aOK 113 20 240 = true := by decide +kernel
theorem ar_114 : aOK 114 20 240 = true := by decide +kernel
theorem ar_115 : aOK 115 20 8 = true := by decide +kernel
theorem ar_116 : aOK 116 20 8 = true := by decide +kernel
theorem ar_117 : aOK 117 20 8 = true := by decide +kernel
theorem ar_118 : aOK 118 20 30 = true := by decide +kernel
theorem ar_119 : aOK 119 20 30 = true := by decide +kernel
theorem ar_120 : aOK 120 20 30 = true := by decide +kernel
theorem ar_121 : aOK 121 20 30 = true := by decide +kernel
theorem ar_122 : aOK 122 20 30 = true := by decide +kernel
theorem ar_123 : aOK 123 20 30 = true := by decide +kernel
theorem ar_124 : aOK 124 20 4 = true := by decide +kernel
theorem ar_125 : aOK 125 20 4 = true := by decide +kernel
theorem ar_126 : aOK 126 20 10 = true := by decide +kernel
theorem ar_127 : aOK 127 20 10 = true := by decide +kernel
theorem ar_128 : aOK 128 20 8 = true := by decide +kernel
theorem ar_129 : aOK 129 20 8 = true := by decide +kernel
theorem ar_130 : aOK 130 20 8 = true := by decide +kernel
theorem ar_131 : aOK 131 20 8 = true := by decide +kernel
theorem ar_132 : aOK 132 21 8 = true := by decide +kernel
theorem ar_133 : aOK 133 20 450 = true := by decide +kernel
theorem ar_134 : aOK 134 20 50 = true := by decide +kernel
theorem ar_135 : aOK 135 20 16 = true := by decide +kernel
theorem ar_136 : aOK 136 20 9 = true := by decide +kernel
theorem ar_137 : aOK 137 20 9 = true := by decide +kernel
theorem ar_138 : aOK 138 20 720 = true := by decide +kernel
theorem ar_139 : aOK 139 20 24 = true := by decide +kernel
theorem ar_140 : aOK 140 20 9 = true := by decide +kernel
theorem ar_141 : aOK 141 20 540 = true := by decide +kernel
theorem ar_142 : aOK 142 20 60 = true := by decide +kernel
theorem ar_143 : aOK 143 20 9 = true := by decide +kernel
theorem ar_144 : aOK 144 20 9 = true := by decide +kernel
theorem ar_145 : aOK 145 20 9 = true := by decide +kernel
theorem ar_146 : aOK 146 20 9 = true := by decide +kernel
theorem ar_147 : aOK 147 20 12 = true := by decide +kernel
theorem ar_148 : aOK 148 20 12 = true := by decide +kernel
theorem ar_149 : aOK 149 20 12 = true := by decide +kernel
theorem ar_150 : aOK 150 20 12 = true := by decide +kernel
theorem ar_151 : aOK 151 21 288 = true := by decide +kernel
theorem ar_152 : aOK 152 20 288 = true := by decide +kernel

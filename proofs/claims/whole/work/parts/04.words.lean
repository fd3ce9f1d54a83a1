def ownS (c : Nat) : String := bif Nat.blt c 6 then (bif Nat.blt c 3 then (bif Nat.blt c 1 then (bif Nat.beq c 0 then RX0 else "") else (bif Nat.blt c 2 then (bif Nat.beq c 1 then RX1 else "") else (bif Nat.beq c 2 then RX2 else ""))) else (bif Nat.blt c 4 then (bif Nat.beq c 3 then RX3 else "") else (bif Nat.blt c 5 then (bif Nat.beq c 4 then RX4 else "") else (bif Nat.beq c 5 then RX5 else "")))) else (bif Nat.blt c 9 then (bif Nat.blt c 7 then (bif Nat.beq c 6 then RX6 else "") else (bif Nat.blt c 8 then (bif Nat.beq c 7 then RX7 else "") else (bif Nat.beq c 8 then RX8 else ""))) else (bif Nat.blt c 11 then (bif Nat.blt c 10 then (bif Nat.beq c 9 then RX9 else "") else (bif Nat.beq c 10 then RJ6 else "")) else (bif Nat.blt c 12 then (bif Nat.beq c 11 then RJ9 else "") else (bif Nat.beq c 12 then RL else ""))))
def ownN (m : Nat) : Nat := bif Nat.blt m 78 then (bif Nat.blt m 39 then (bif Nat.blt m 19 then (bif Nat.blt m 9 then (bif Nat.blt m 4 then (bif Nat.blt m 2 then (bif Nat.blt m 1 then (bif Nat.beq m 0 then 0 else 99) else (bif Nat.beq m 1 then 0 else 99)) else (bif Nat.blt m 3 then (bif Nat.beq m 2 then 0 else 99) else (bif Nat.beq m 3 then 0 else 99))) else (bif Nat.blt m 6 then (bif Nat.blt m 5 then (bif Nat.beq m 4 then 0 else 99) else (bif Nat.beq m 5 then 0 else 99)) else (bif Nat.blt m 7 then (bif Nat.beq m 6 then 0 else 99) else (bif Nat.blt m 8 then (bif Nat.beq m 7 then 1 else 99) else (bif Nat.beq m 8 then 1 else 99))))) else (bif Nat.blt m 14 then (bif Nat.blt m 11 then (bif Nat.blt m 10 then (bif Nat.beq m 9 then 1 else 99) else (bif Nat.beq m 10 then 1 else 99)) else (bif Nat.blt m 12 then (bif Nat.beq m 11 then 1 else 99) else (bif Nat.blt m 13 then (bif Nat.beq m 12 then 1 else 99) else (bif Nat.beq m 13 then 1 else 99)))) else (bif Nat.blt m 16 then (bif Nat.blt m 15 then (bif Nat.beq m 14 then 1 else 99) else (bif Nat.beq m 15 then 1 else 99)) else (bif Nat.blt m 17 then (bif Nat.beq m 16 then 2 else 99) else (bif Nat.blt m 18 then (bif Nat.beq m 17 then 2 else 99) else (bif Nat.beq m 18 then 2 else 99)))))) else (bif Nat.blt m 29 then (bif Nat.blt m 24 then (bif Nat.blt m 21 then (bif Nat.blt m 20 then (bif Nat.beq m 19 then 3 else 99) else (bif Nat.beq m 20 then 3 else 99)) else (bif Nat.blt m 22 then (bif Nat.beq m 21 then 3 else 99) else (bif Nat.blt m 23 then (bif Nat.beq m 22 then 4 else 99) else (bif Nat.beq m 23 then 4 else 99)))) else (bif Nat.blt m 26 then (bif Nat.blt m 25 then (bif Nat.beq m 24 then 4 else 99) else (bif Nat.beq m 25 then 4 else 99)) else (bif Nat.blt m 27 then (bif Nat.beq m 26 then 5 else 99) else (bif Nat.blt m 28 then (bif Nat.beq m 27 then 5 else 99) else (bif Nat.beq m 28 then 5 else 99))))) else (bif Nat.blt m 34 then (bif Nat.blt m 31 then (bif Nat.blt m 30 then (bif Nat.beq m 29 then 6 else 99) else (bif Nat.beq m 30 then 6 else 99)) else (bif Nat.blt m 32 then (bif Nat.beq m 31 then 6 else 99) else (bif Nat.blt m 33 then (bif Nat.beq m 32 then 7 else 99) else (bif Nat.beq m 33 then 7 else 99)))) else (bif Nat.blt m 36 then (bif Nat.blt m 35 then (bif Nat.beq m 34 then 7 else 99) else (bif Nat.beq m 35 then 7 else 99)) else (bif Nat.blt m 37 then (bif Nat.beq m 36 then 8 else 99) else (bif Nat.blt m 38 then (bif Nat.beq m 37 then 8 else 99) else (bif Nat.beq m 38 then 8 else 99))))))) else (bif Nat.blt m 58 then (bif Nat.blt m 48 then (bif Nat.blt m 43 then (bif Nat.blt m 41 then (bif Nat.blt m 40 then (bif Nat.beq m 39 then 8 else 99) else (bif Nat.beq m 40 then 8 else 99)) else (bif Nat.blt m 42 then (bif Nat.beq m 41 then 8 else 99) else (bif Nat.beq m 42 then 8 else 99))) else (bif Nat.blt m 45 then (bif Nat.blt m 44 then (bif Nat.beq m 43 then 8 else 99) else (bif Nat.beq m 44 then 8 else 99)) else (bif Nat.blt m 46 then (bif Nat.beq m 45 then 8 else 99) else (bif Nat.blt m 47 then (bif Nat.beq m 46 then 8 else 99) else (bif Nat.beq m 47 then 8 else 99))))) else (bif Nat.blt m 53 then (bif Nat.blt m 50 then (bif Nat.blt m 49 then (bif Nat.beq m 48 then 8 else 99) else (bif Nat.beq m 49 then 8 else 99)) else (bif Nat.blt m 51 then (bif Nat.beq m 50 then 8 else 99) else (bif Nat.blt m 52 then (bif Nat.beq m 51 then 8 else 99) else (bif Nat.beq m 52 then 8 else 99)))) else (bif Nat.blt m 55 then (bif Nat.blt m 54 then (bif Nat.beq m 53 then 8 else 99) else (bif Nat.beq m 54 then 8 else 99)) else (bif Nat.blt m 56 then (bif Nat.beq m 55 then 8 else 99) else (bif Nat.blt m 57 then (bif Nat.beq m 56 then 8 else 99) else (bif Nat.beq m 57 then 8 else 99)))))) else (bif Nat.blt m 68 then (bif Nat.blt m 63 then (bif Nat.blt m 60 then (bif Nat.blt m 59 then (bif Nat.beq m 58 then 8 else 99) else (bif Nat.beq m 59 then 8 else 99)) else (bif Nat.blt m 61 then (bif Nat.beq m 60 then 8 else 99) else (bif Nat.blt m 62 then (bif Nat.beq m 61 then 8 else 99) else (bif Nat.beq m 62 then 8 else 99)))) else (bif Nat.blt m 65 then (bif Nat.blt m 64 then (bif Nat.beq m 63 then 8 else 99) else (bif Nat.beq m 64 then 8 else 99)) else (bif Nat.blt m 66 then (bif Nat.beq m 65 then 8 else 99) else (bif Nat.blt m 67 then (bif Nat.beq m 66 then 8 else 99) else (bif Nat.beq m 67 then 8 else 99))))) else (bif Nat.blt m 73 then (bif Nat.blt m 70 then (bif Nat.blt m 69 then (bif Nat.beq m 68 then 8 else 99) else (bif Nat.beq m 69 then 8 else 99)) else (bif Nat.blt m 71 then (bif Nat.beq m 70 then 8 else 99) else (bif Nat.blt m 72 then (bif Nat.beq m 71 then 8 else 99) else (bif Nat.beq m 72 then 8 else 99)))) else (bif Nat.blt m 75 then (bif Nat.blt m 74 then (bif Nat.beq m 73 then 8 else 99) else (bif Nat.beq m 74 then 8 else 99)) else (bif Nat.blt m 76 then (bif Nat.beq m 75 then 8 else 99) else (bif Nat.blt m 77 then (bif Nat.beq m 76 then 8 else 99) else (bif Nat.beq m 77 then 8 else 99)))))))) else (bif Nat.blt m 117 then (bif Nat.blt m 97 then (bif Nat.blt m 87 then (bif Nat.blt m 82 then (bif Nat.blt m 80 then (bif Nat.blt m 79 then (bif Nat.beq m 78 then 8 else 99) else (bif Nat.beq m 79 then 8 else 99)) else (bif Nat.blt m 81 then (bif Nat.beq m 80 then 8 else 99) else (bif Nat.beq m 81 then 8 else 99))) else (bif Nat.blt m 84 then (bif Nat.blt m 83 then (bif Nat.beq m 82 then 8 else 99) else (bif Nat.beq m 83 then 8 else 99)) else (bif Nat.blt m 85 then (bif Nat.beq m 84 then 8 else 99) else (bif Nat.blt m 86 then (bif Nat.beq m 85 then 8 else 99) else (bif Nat.beq m 86 then 8 else 99))))) else (bif Nat.blt m 92 then (bif Nat.blt m 89 then (bif Nat.blt m 88 then (bif Nat.beq m 87 then 8 else 99) else (bif Nat.beq m 88 then 8 else 99)) else (bif Nat.blt m 90 then (bif Nat.beq m 89 then 8 else 99) else (bif Nat.blt m 91 then (bif Nat.beq m 90 then 6 else 99) else (bif Nat.beq m 91 then 9 else 99)))) else (bif Nat.blt m 94 then (bif Nat.blt m 93 then (bif Nat.beq m 92 then 9 else 99) else (bif Nat.beq m 93 then 9 else 99)) else (bif Nat.blt m 95 then (bif Nat.beq m 94 then 9 else 99) else (bif Nat.blt m 96 then (bif Nat.beq m 95 then 9 else 99) else (bif Nat.beq m 96 then 9 else 99)))))) else (bif Nat.blt m 107 then (bif Nat.blt m 102 then (bif Nat.blt m 99 then (bif Nat.blt m 98 then (bif Nat.beq m 97 then 9 else 99) else (bif Nat.beq m 98 then 9 else 99)) else (bif Nat.blt m 100 then (bif Nat.beq m 99 then 9 else 99) else (bif Nat.blt m 101 then (bif Nat.beq m 100 then 9 else 99) else (bif Nat.beq m 101 then 9 else 99)))) else (bif Nat.blt m 104 then (bif Nat.blt m 103 then (bif Nat.beq m 102 then 9 else 99) else (bif Nat.beq m 103 then 9 else 99)) else (bif Nat.blt m 105 then (bif Nat.beq m 104 then 9 else 99) else (bif Nat.blt m 106 then (bif Nat.beq m 105 then 9 else 99) else (bif Nat.beq m 106 then 9 else 99))))) else (bif Nat.blt m 112 then (bif Nat.blt m 109 then (bif Nat.blt m 108 then (bif Nat.beq m 107 then 9 else 99) else (bif Nat.beq m 108 then 9 else 99)) else (bif Nat.blt m 110 then (bif Nat.beq m 109 then 9 else 99) else (bif Nat.blt m 111 then (bif Nat.beq m 110 then 9 else 99) else (bif Nat.beq m 111 then 9 else 99)))) else (bif Nat.blt m 114 then (bif Nat.blt m 113 then (bif Nat.beq m 112 then 9 else 99) else (bif Nat.beq m 113 then 9 else 99)) else (bif Nat.blt m 115 then (bif Nat.beq m 114 then 9 else 99) else (bif Nat.blt m 116 then (bif Nat.beq m 115 then 9 else 99) else (bif Nat.beq m 116 then 9 else 99))))))) else (bif Nat.blt m 136 then (bif Nat.blt m 126 then (bif Nat.blt m 121 then (bif Nat.blt m 119 then (bif Nat.blt m 118 then (bif Nat.beq m 117 then 9 else 99) else (bif Nat.beq m 118 then 9 else 99)) else (bif Nat.blt m 120 then (bif Nat.beq m 119 then 9 else 99) else (bif Nat.beq m 120 then 9 else 99))) else (bif Nat.blt m 123 then (bif Nat.blt m 122 then (bif Nat.beq m 121 then 9 else 99) else (bif Nat.beq m 122 then 9 else 99)) else (bif Nat.blt m 124 then (bif Nat.beq m 123 then 9 else 99) else (bif Nat.blt m 125 then (bif Nat.beq m 124 then 9 else 99) else (bif Nat.beq m 125 then 9 else 99))))) else (bif Nat.blt m 131 then (bif Nat.blt m 128 then (bif Nat.blt m 127 then (bif Nat.beq m 126 then 9 else 99) else (bif Nat.beq m 127 then 9 else 99)) else (bif Nat.blt m 129 then (bif Nat.beq m 128 then 9 else 99) else (bif Nat.blt m 130 then (bif Nat.beq m 129 then 9 else 99) else (bif Nat.beq m 130 then 9 else 99)))) else (bif Nat.blt m 133 then (bif Nat.blt m 132 then (bif Nat.beq m 131 then 9 else 99) else (bif Nat.beq m 132 then 9 else 99)) else (bif Nat.blt m 134 then (bif Nat.beq m 133 then 9 else 99) else (bif Nat.blt m 135 then (bif Nat.beq m 134 then 9 else 99) else (bif Nat.beq m 135 then 9 else 99)))))) else (bif Nat.blt m 146 then (bif Nat.blt m 141 then (bif Nat.blt m 138 then (bif Nat.blt m 137 then (bif Nat.beq m 136 then 9 else 99) else (bif Nat.beq m 137 then 9 else 99)) else (bif Nat.blt m 139 then (bif Nat.beq m 138 then 9 else 99) else (bif Nat.blt m 140 then (bif Nat.beq m 139 then 9 else 99) else (bif Nat.beq m 140 then 9 else 99)))) else (bif Nat.blt m 143 then (bif Nat.blt m 142 then (bif Nat.beq m 141 then 9 else 99) else (bif Nat.beq m 142 then 9 else 99)) else (bif Nat.blt m 144 then (bif Nat.beq m 143 then 9 else 99) else (bif Nat.blt m 145 then (bif Nat.beq m 144 then 9 else 99) else (bif Nat.beq m 145 then 9 else 99))))) else (bif Nat.blt m 151 then (bif Nat.blt m 148 then (bif Nat.blt m 147 then (bif Nat.beq m 146 then 9 else 99) else (bif Nat.beq m 147 then 9 else 99)) else (bif Nat.blt m 149 then (bif Nat.beq m 148 then 9 else 99) else (bif Nat.blt m 150 then (bif Nat.beq m 149 then 10 else 99) else (bif Nat.beq m 150 then 8 else 99)))) else (bif Nat.blt m 153 then (bif Nat.blt m 152 then (bif Nat.beq m 151 then 8 else 99) else (bif Nat.beq m 152 then 8 else 99)) else (bif Nat.blt m 154 then (bif Nat.beq m 153 then 11 else 99) else (bif Nat.blt m 155 then (bif Nat.beq m 154 then 11 else 99) else (bif Nat.beq m 155 then 12 else 99))))))))
def bytesT (m : Nat) : ByteArray := bif Nat.blt m 78 then (bif Nat.blt m 39 then (bif Nat.blt m 19 then (bif Nat.blt m 9 then (bif Nat.blt m 4 then (bif Nat.blt m 2 then (bif Nat.blt m 1 then (bif Nat.beq m 0 then cX0_init else cL_law) else (bif Nat.beq m 1 then cX0_perform else cL_law)) else (bif Nat.blt m 3 then (bif Nat.beq m 2 then cX0_begin else cL_law) else (bif Nat.beq m 3 then cX0_send else cL_law))) else (bif Nat.blt m 6 then (bif Nat.blt m 5 then (bif Nat.beq m 4 then cX0_draw else cL_law) else (bif Nat.beq m 5 then cX0_divide else cL_law)) else (bif Nat.blt m 7 then (bif Nat.beq m 6 then cX0_measure else cL_law) else (bif Nat.blt m 8 then (bif Nat.beq m 7 then cX1_init else cL_law) else (bif Nat.beq m 8 then cX1_set else cL_law))))) else (bif Nat.blt m 14 then (bif Nat.blt m 11 then (bif Nat.blt m 10 then (bif Nat.beq m 9 then cX1_keepAhead else cL_law) else (bif Nat.beq m 10 then cX1_takeResults else cL_law)) else (bif Nat.blt m 12 then (bif Nat.beq m 11 then cX1_undo else cL_law) else (bif Nat.blt m 13 then (bif Nat.beq m 12 then cX1_isOpen else cL_law) else (bif Nat.beq m 13 then cX1_keyItem else cL_law)))) else (bif Nat.blt m 16 then (bif Nat.blt m 15 then (bif Nat.beq m 14 then cX1_isBelow else cL_law) else (bif Nat.beq m 15 then cX1_compareKeys else cL_law)) else (bif Nat.blt m 17 then (bif Nat.beq m 16 then cX2_init else cL_law) else (bif Nat.blt m 18 then (bif Nat.beq m 17 then cX2_insert else cL_law) else (bif Nat.beq m 18 then cX2_placeOf else cL_law)))))) else (bif Nat.blt m 29 then (bif Nat.blt m 24 then (bif Nat.blt m 21 then (bif Nat.blt m 20 then (bif Nat.beq m 19 then cX3_init else cL_law) else (bif Nat.beq m 20 then cX3_addToRow else cL_law)) else (bif Nat.blt m 22 then (bif Nat.beq m 21 then cX3_addAct else cL_law) else (bif Nat.blt m 23 then (bif Nat.beq m 22 then cX4_init else cL_law) else (bif Nat.beq m 23 then cX4_begin else cL_law)))) else (bif Nat.blt m 26 then (bif Nat.blt m 25 then (bif Nat.beq m 24 then cX4_add else cL_law) else (bif Nat.beq m 25 then cX4_goUpTo else cL_law)) else (bif Nat.blt m 27 then (bif Nat.beq m 26 then cX5_init else cL_law) else (bif Nat.blt m 28 then (bif Nat.beq m 27 then cX5_add else cL_law) else (bif Nat.beq m 28 then cX5_removeAt else cL_law))))) else (bif Nat.blt m 34 then (bif Nat.blt m 31 then (bif Nat.blt m 30 then (bif Nat.beq m 29 then cX6_init else cL_law) else (bif Nat.beq m 30 then cX6_begin else cL_law)) else (bif Nat.blt m 32 then (bif Nat.beq m 31 then cX6_goOn else cL_law) else (bif Nat.blt m 33 then (bif Nat.beq m 32 then cX7_init else cL_law) else (bif Nat.beq m 33 then cX7_clear else cL_law)))) else (bif Nat.blt m 36 then (bif Nat.blt m 35 then (bif Nat.beq m 34 then cX7_copy else cL_law) else (bif Nat.beq m 35 then cX7_hasCellsOf else cL_law)) else (bif Nat.blt m 37 then (bif Nat.beq m 36 then cX8_init else cL_law) else (bif Nat.blt m 38 then (bif Nat.beq m 37 then cX8_part else cL_law) else (bif Nat.beq m 38 then cX8_tear else cL_law))))))) else (bif Nat.blt m 58 then (bif Nat.blt m 48 then (bif Nat.blt m 43 then (bif Nat.blt m 41 then (bif Nat.blt m 40 then (bif Nat.beq m 39 then cX8_rule else cL_law) else (bif Nat.beq m 40 then cX8_start else cL_law)) else (bif Nat.blt m 42 then (bif Nat.beq m 41 then cX8_step else cL_law) else (bif Nat.beq m 42 then cX8_run else cL_law))) else (bif Nat.blt m 45 then (bif Nat.blt m 44 then (bif Nat.beq m 43 then cX8_deliver else cL_law) else (bif Nat.beq m 44 then cX8_deliverAll else cL_law)) else (bif Nat.blt m 46 then (bif Nat.beq m 45 then cX8_move else cL_law) else (bif Nat.blt m 47 then (bif Nat.beq m 46 then cX8_limit else cL_law) else (bif Nat.beq m 47 then cX8_keep else cL_law))))) else (bif Nat.blt m 53 then (bif Nat.blt m 50 then (bif Nat.blt m 49 then (bif Nat.beq m 48 then cX8_floor else cL_law) else (bif Nat.beq m 49 then cX8_cell else cL_law)) else (bif Nat.blt m 51 then (bif Nat.beq m 50 then cX8_settled else cL_law) else (bif Nat.blt m 52 then (bif Nat.beq m 51 then cX8_told else cL_law) else (bif Nat.beq m 52 then cX8_event else cL_law)))) else (bif Nat.blt m 55 then (bif Nat.blt m 54 then (bif Nat.beq m 53 then cX8_number else cL_law) else (bif Nat.beq m 54 then cX8_way else cL_law)) else (bif Nat.blt m 56 then (bif Nat.beq m 55 then cX8_count else cL_law) else (bif Nat.blt m 57 then (bif Nat.beq m 56 then cX8_out else cL_law) else (bif Nat.beq m 57 then cX8_printed else cL_law)))))) else (bif Nat.blt m 68 then (bif Nat.blt m 63 then (bif Nat.blt m 60 then (bif Nat.blt m 59 then (bif Nat.beq m 58 then cX8_failed else cL_law) else (bif Nat.beq m 59 then cX8_same else cL_law)) else (bif Nat.blt m 61 then (bif Nat.beq m 60 then cX8_isWithin else cL_law) else (bif Nat.blt m 62 then (bif Nat.beq m 61 then cX8_isLine else cL_law) else (bif Nat.beq m 62 then cX8_isPart else cL_law)))) else (bif Nat.blt m 65 then (bif Nat.blt m 64 then (bif Nat.beq m 63 then cX8_isEvent else cL_law) else (bif Nat.beq m 64 then cX8_doNext else cL_law)) else (bif Nat.blt m 66 then (bif Nat.beq m 65 then cX8_leastThere else cL_law) else (bif Nat.blt m 67 then (bif Nat.beq m 66 then cX8_isBeyondLimit else cL_law) else (bif Nat.beq m 67 then cX8_doEvent else cL_law))))) else (bif Nat.blt m 73 then (bif Nat.blt m 70 then (bif Nat.blt m 69 then (bif Nat.beq m 68 then cX8_addEvent else cL_law) else (bif Nat.beq m 69 then cX8_post else cL_law)) else (bif Nat.blt m 71 then (bif Nat.beq m 70 then cX8_handOver else cL_law) else (bif Nat.blt m 72 then (bif Nat.beq m 71 then cX8_workOff else cL_law) else (bif Nat.beq m 72 then cX8_eventComes else cL_law)))) else (bif Nat.blt m 75 then (bif Nat.blt m 74 then (bif Nat.beq m 73 then cX8_shadowComes else cL_law) else (bif Nat.beq m 74 then cX8_meet else cL_law)) else (bif Nat.blt m 76 then (bif Nat.beq m 75 then cX8_goBack else cL_law) else (bif Nat.blt m 77 then (bif Nat.beq m 76 then cX8_sendShadows else cL_law) else (bif Nat.beq m 77 then cX8_isDoneAt else cL_law)))))))) else (bif Nat.blt m 117 then (bif Nat.blt m 97 then (bif Nat.blt m 87 then (bif Nat.blt m 82 then (bif Nat.blt m 80 then (bif Nat.blt m 79 then (bif Nat.beq m 78 then cX8_firstDone else cL_law) else (bif Nat.beq m 79 then cX8_stateAhead else cL_law)) else (bif Nat.blt m 81 then (bif Nat.beq m 80 then cX8_isKeptAt else cL_law) else (bif Nat.beq m 81 then cX8_leastOpen else cL_law))) else (bif Nat.blt m 84 then (bif Nat.blt m 83 then (bif Nat.beq m 82 then cX8_isSettled else cL_law) else (bif Nat.beq m 83 then cX8_settledEnd else cL_law)) else (bif Nat.blt m 85 then (bif Nat.beq m 84 then cX8_settledState else cL_law) else (bif Nat.blt m 86 then (bif Nat.beq m 85 then cX8_settledEvents else cL_law) else (bif Nat.beq m 86 then cX8_firstSettledFailed else cL_law))))) else (bif Nat.blt m 92 then (bif Nat.blt m 89 then (bif Nat.blt m 88 then (bif Nat.beq m 87 then cX8_lastClosedMinute else cL_law) else (bif Nat.beq m 88 then cX8_thereAt else cL_law)) else (bif Nat.blt m 90 then (bif Nat.beq m 89 then cX8_waitingAt else cL_law) else (bif Nat.blt m 91 then (bif Nat.beq m 90 then cX6_isAtEqual else cL_law) else (bif Nat.beq m 91 then cX9_init else cL_law)))) else (bif Nat.blt m 94 then (bif Nat.blt m 93 then (bif Nat.beq m 92 then cX9_in else cL_law) else (bif Nat.beq m 93 then cX9_isPart else cL_law)) else (bif Nat.blt m 95 then (bif Nat.beq m 94 then cX9_part else cL_law) else (bif Nat.blt m 96 then (bif Nat.beq m 95 then cX9_tear else cL_law) else (bif Nat.beq m 96 then cX9_rule else cL_law)))))) else (bif Nat.blt m 107 then (bif Nat.blt m 102 then (bif Nat.blt m 99 then (bif Nat.blt m 98 then (bif Nat.beq m 97 then cX9_compare else cL_law) else (bif Nat.beq m 98 then cX9_keys else cL_law)) else (bif Nat.blt m 100 then (bif Nat.beq m 99 then cX9_isBelow else cL_law) else (bif Nat.blt m 101 then (bif Nat.beq m 100 then cX9_nothing else cL_law) else (bif Nat.beq m 101 then cX9_acts else cL_law)))) else (bif Nat.blt m 104 then (bif Nat.blt m 103 then (bif Nat.beq m 102 then cX9_one else cL_law) else (bif Nat.beq m 103 then cX9_sends else cL_law)) else (bif Nat.blt m 105 then (bif Nat.beq m 104 then cX9_draws else cL_law) else (bif Nat.blt m 106 then (bif Nat.beq m 105 then cX9_state else cL_law) else (bif Nat.beq m 106 then cX9_made else cL_law))))) else (bif Nat.blt m 112 then (bif Nat.blt m 109 then (bif Nat.blt m 108 then (bif Nat.beq m 107 then cX9_goes else cL_law) else (bif Nat.beq m 108 then cX9_come else cL_law)) else (bif Nat.blt m 110 then (bif Nat.beq m 109 then cX9_meet else cL_law) else (bif Nat.blt m 111 then (bif Nat.beq m 110 then cX9_eventComes else cL_law) else (bif Nat.beq m 111 then cX9_shadowComes else cL_law)))) else (bif Nat.blt m 114 then (bif Nat.blt m 113 then (bif Nat.beq m 112 then cX9_back else cL_law) else (bif Nat.beq m 113 then cX9_shadowsOf else cL_law)) else (bif Nat.blt m 115 then (bif Nat.beq m 114 then cX9_lower else cL_law) else (bif Nat.blt m 116 then (bif Nat.beq m 115 then cX9_findFloor else cL_law) else (bif Nat.beq m 116 then cX9_isSettled else cL_law))))))) else (bif Nat.blt m 136 then (bif Nat.blt m 126 then (bif Nat.blt m 121 then (bif Nat.blt m 119 then (bif Nat.blt m 118 then (bif Nat.beq m 117 then cX9_start else cL_law) else (bif Nat.beq m 118 then cX9_nextOf else cL_law)) else (bif Nat.blt m 120 then (bif Nat.beq m 119 then cX9_step else cL_law) else (bif Nat.beq m 120 then cX9_does else cL_law))) else (bif Nat.blt m 123 then (bif Nat.blt m 122 then (bif Nat.beq m 121 then cX9_run else cL_law) else (bif Nat.beq m 122 then cX9_comes else cL_law)) else (bif Nat.blt m 124 then (bif Nat.beq m 123 then cX9_deliver else cL_law) else (bif Nat.blt m 125 then (bif Nat.beq m 124 then cX9_deliverAll else cL_law) else (bif Nat.beq m 125 then cX9_move else cL_law))))) else (bif Nat.blt m 131 then (bif Nat.blt m 128 then (bif Nat.blt m 127 then (bif Nat.beq m 126 then cX9_limit else cL_law) else (bif Nat.beq m 127 then cX9_keep else cL_law)) else (bif Nat.blt m 129 then (bif Nat.beq m 128 then cX9_floor else cL_law) else (bif Nat.blt m 130 then (bif Nat.beq m 129 then cX9_cell else cL_law) else (bif Nat.beq m 130 then cX9_settledOf else cL_law)))) else (bif Nat.blt m 133 then (bif Nat.blt m 132 then (bif Nat.beq m 131 then cX9_settled else cL_law) else (bif Nat.beq m 132 then cX9_waiting else cL_law)) else (bif Nat.blt m 134 then (bif Nat.beq m 133 then cX9_thereOf else cL_law) else (bif Nat.blt m 135 then (bif Nat.beq m 134 then cX9_told else cL_law) else (bif Nat.beq m 135 then cX9_event else cL_law)))))) else (bif Nat.blt m 146 then (bif Nat.blt m 141 then (bif Nat.blt m 138 then (bif Nat.blt m 137 then (bif Nat.beq m 136 then cX9_number else cL_law) else (bif Nat.beq m 137 then cX9_way else cL_law)) else (bif Nat.blt m 139 then (bif Nat.beq m 138 then cX9_settle else cL_law) else (bif Nat.blt m 140 then (bif Nat.beq m 139 then cX9_count else cL_law) else (bif Nat.beq m 140 then cX9_outOf else cL_law)))) else (bif Nat.blt m 143 then (bif Nat.blt m 142 then (bif Nat.beq m 141 then cX9_out else cL_law) else (bif Nat.beq m 142 then cX9_printed else cL_law)) else (bif Nat.blt m 144 then (bif Nat.beq m 143 then cX9_failed else cL_law) else (bif Nat.blt m 145 then (bif Nat.beq m 144 then cX9_plain else cL_law) else (bif Nat.beq m 145 then cX9_isLower else cL_law))))) else (bif Nat.blt m 151 then (bif Nat.blt m 148 then (bif Nat.blt m 147 then (bif Nat.beq m 146 then cX9_nextPlain else cL_law) else (bif Nat.beq m 147 then cX9_plainDoes else cL_law)) else (bif Nat.blt m 149 then (bif Nat.beq m 148 then cX9_same else cL_law) else (bif Nat.blt m 150 then (bif Nat.beq m 149 then cJ6_compare_7cf53 else cL_law) else (bif Nat.beq m 150 then cX8_outCount else cL_law)))) else (bif Nat.blt m 153 then (bif Nat.blt m 152 then (bif Nat.beq m 151 then cX8_goToOut else cL_law) else (bif Nat.beq m 152 then cX8_isOutOfPlain else cL_law)) else (bif Nat.blt m 154 then (bif Nat.beq m 153 then cJ9_floorMod_7cf53 else cL_law) else (bif Nat.blt m 155 then (bif Nat.beq m 154 then cJ9_max_7cf53 else cL_law) else (bif Nat.beq m 155 then cL_law else cL_law))))))))
def yT (m : Nat) : MethodName := bif Nat.blt m 78 then (bif Nat.blt m 39 then (bif Nat.blt m 19 then (bif Nat.blt m 9 then (bif Nat.blt m 4 then (bif Nat.blt m 2 then (bif Nat.blt m 1 then (bif Nat.beq m 0 then yX0_init else yL_law) else (bif Nat.beq m 1 then yX0_perform else yL_law)) else (bif Nat.blt m 3 then (bif Nat.beq m 2 then yX0_begin else yL_law) else (bif Nat.beq m 3 then yX0_send else yL_law))) else (bif Nat.blt m 6 then (bif Nat.blt m 5 then (bif Nat.beq m 4 then yX0_draw else yL_law) else (bif Nat.beq m 5 then yX0_divide else yL_law)) else (bif Nat.blt m 7 then (bif Nat.beq m 6 then yX0_measure else yL_law) else (bif Nat.blt m 8 then (bif Nat.beq m 7 then yX1_init else yL_law) else (bif Nat.beq m 8 then yX1_set else yL_law))))) else (bif Nat.blt m 14 then (bif Nat.blt m 11 then (bif Nat.blt m 10 then (bif Nat.beq m 9 then yX1_keepAhead else yL_law) else (bif Nat.beq m 10 then yX1_takeResults else yL_law)) else (bif Nat.blt m 12 then (bif Nat.beq m 11 then yX1_undo else yL_law) else (bif Nat.blt m 13 then (bif Nat.beq m 12 then yX1_isOpen else yL_law) else (bif Nat.beq m 13 then yX1_keyItem else yL_law)))) else (bif Nat.blt m 16 then (bif Nat.blt m 15 then (bif Nat.beq m 14 then yX1_isBelow else yL_law) else (bif Nat.beq m 15 then yX1_compareKeys else yL_law)) else (bif Nat.blt m 17 then (bif Nat.beq m 16 then yX2_init else yL_law) else (bif Nat.blt m 18 then (bif Nat.beq m 17 then yX2_insert else yL_law) else (bif Nat.beq m 18 then yX2_placeOf else yL_law)))))) else (bif Nat.blt m 29 then (bif Nat.blt m 24 then (bif Nat.blt m 21 then (bif Nat.blt m 20 then (bif Nat.beq m 19 then yX3_init else yL_law) else (bif Nat.beq m 20 then yX3_addToRow else yL_law)) else (bif Nat.blt m 22 then (bif Nat.beq m 21 then yX3_addAct else yL_law) else (bif Nat.blt m 23 then (bif Nat.beq m 22 then yX4_init else yL_law) else (bif Nat.beq m 23 then yX4_begin else yL_law)))) else (bif Nat.blt m 26 then (bif Nat.blt m 25 then (bif Nat.beq m 24 then yX4_add else yL_law) else (bif Nat.beq m 25 then yX4_goUpTo else yL_law)) else (bif Nat.blt m 27 then (bif Nat.beq m 26 then yX5_init else yL_law) else (bif Nat.blt m 28 then (bif Nat.beq m 27 then yX5_add else yL_law) else (bif Nat.beq m 28 then yX5_removeAt else yL_law))))) else (bif Nat.blt m 34 then (bif Nat.blt m 31 then (bif Nat.blt m 30 then (bif Nat.beq m 29 then yX6_init else yL_law) else (bif Nat.beq m 30 then yX6_begin else yL_law)) else (bif Nat.blt m 32 then (bif Nat.beq m 31 then yX6_goOn else yL_law) else (bif Nat.blt m 33 then (bif Nat.beq m 32 then yX7_init else yL_law) else (bif Nat.beq m 33 then yX7_clear else yL_law)))) else (bif Nat.blt m 36 then (bif Nat.blt m 35 then (bif Nat.beq m 34 then yX7_copy else yL_law) else (bif Nat.beq m 35 then yX7_hasCellsOf else yL_law)) else (bif Nat.blt m 37 then (bif Nat.beq m 36 then yX8_init else yL_law) else (bif Nat.blt m 38 then (bif Nat.beq m 37 then yX8_part else yL_law) else (bif Nat.beq m 38 then yX8_tear else yL_law))))))) else (bif Nat.blt m 58 then (bif Nat.blt m 48 then (bif Nat.blt m 43 then (bif Nat.blt m 41 then (bif Nat.blt m 40 then (bif Nat.beq m 39 then yX8_rule else yL_law) else (bif Nat.beq m 40 then yX8_start else yL_law)) else (bif Nat.blt m 42 then (bif Nat.beq m 41 then yX8_step else yL_law) else (bif Nat.beq m 42 then yX8_run else yL_law))) else (bif Nat.blt m 45 then (bif Nat.blt m 44 then (bif Nat.beq m 43 then yX8_deliver else yL_law) else (bif Nat.beq m 44 then yX8_deliverAll else yL_law)) else (bif Nat.blt m 46 then (bif Nat.beq m 45 then yX8_move else yL_law) else (bif Nat.blt m 47 then (bif Nat.beq m 46 then yX8_limit else yL_law) else (bif Nat.beq m 47 then yX8_keep else yL_law))))) else (bif Nat.blt m 53 then (bif Nat.blt m 50 then (bif Nat.blt m 49 then (bif Nat.beq m 48 then yX8_floor else yL_law) else (bif Nat.beq m 49 then yX8_cell else yL_law)) else (bif Nat.blt m 51 then (bif Nat.beq m 50 then yX8_settled else yL_law) else (bif Nat.blt m 52 then (bif Nat.beq m 51 then yX8_told else yL_law) else (bif Nat.beq m 52 then yX8_event else yL_law)))) else (bif Nat.blt m 55 then (bif Nat.blt m 54 then (bif Nat.beq m 53 then yX8_number else yL_law) else (bif Nat.beq m 54 then yX8_way else yL_law)) else (bif Nat.blt m 56 then (bif Nat.beq m 55 then yX8_count else yL_law) else (bif Nat.blt m 57 then (bif Nat.beq m 56 then yX8_out else yL_law) else (bif Nat.beq m 57 then yX8_printed else yL_law)))))) else (bif Nat.blt m 68 then (bif Nat.blt m 63 then (bif Nat.blt m 60 then (bif Nat.blt m 59 then (bif Nat.beq m 58 then yX8_failed else yL_law) else (bif Nat.beq m 59 then yX8_same else yL_law)) else (bif Nat.blt m 61 then (bif Nat.beq m 60 then yX8_isWithin else yL_law) else (bif Nat.blt m 62 then (bif Nat.beq m 61 then yX8_isLine else yL_law) else (bif Nat.beq m 62 then yX8_isPart else yL_law)))) else (bif Nat.blt m 65 then (bif Nat.blt m 64 then (bif Nat.beq m 63 then yX8_isEvent else yL_law) else (bif Nat.beq m 64 then yX8_doNext else yL_law)) else (bif Nat.blt m 66 then (bif Nat.beq m 65 then yX8_leastThere else yL_law) else (bif Nat.blt m 67 then (bif Nat.beq m 66 then yX8_isBeyondLimit else yL_law) else (bif Nat.beq m 67 then yX8_doEvent else yL_law))))) else (bif Nat.blt m 73 then (bif Nat.blt m 70 then (bif Nat.blt m 69 then (bif Nat.beq m 68 then yX8_addEvent else yL_law) else (bif Nat.beq m 69 then yX8_post else yL_law)) else (bif Nat.blt m 71 then (bif Nat.beq m 70 then yX8_handOver else yL_law) else (bif Nat.blt m 72 then (bif Nat.beq m 71 then yX8_workOff else yL_law) else (bif Nat.beq m 72 then yX8_eventComes else yL_law)))) else (bif Nat.blt m 75 then (bif Nat.blt m 74 then (bif Nat.beq m 73 then yX8_shadowComes else yL_law) else (bif Nat.beq m 74 then yX8_meet else yL_law)) else (bif Nat.blt m 76 then (bif Nat.beq m 75 then yX8_goBack else yL_law) else (bif Nat.blt m 77 then (bif Nat.beq m 76 then yX8_sendShadows else yL_law) else (bif Nat.beq m 77 then yX8_isDoneAt else yL_law)))))))) else (bif Nat.blt m 117 then (bif Nat.blt m 97 then (bif Nat.blt m 87 then (bif Nat.blt m 82 then (bif Nat.blt m 80 then (bif Nat.blt m 79 then (bif Nat.beq m 78 then yX8_firstDone else yL_law) else (bif Nat.beq m 79 then yX8_stateAhead else yL_law)) else (bif Nat.blt m 81 then (bif Nat.beq m 80 then yX8_isKeptAt else yL_law) else (bif Nat.beq m 81 then yX8_leastOpen else yL_law))) else (bif Nat.blt m 84 then (bif Nat.blt m 83 then (bif Nat.beq m 82 then yX8_isSettled else yL_law) else (bif Nat.beq m 83 then yX8_settledEnd else yL_law)) else (bif Nat.blt m 85 then (bif Nat.beq m 84 then yX8_settledState else yL_law) else (bif Nat.blt m 86 then (bif Nat.beq m 85 then yX8_settledEvents else yL_law) else (bif Nat.beq m 86 then yX8_firstSettledFailed else yL_law))))) else (bif Nat.blt m 92 then (bif Nat.blt m 89 then (bif Nat.blt m 88 then (bif Nat.beq m 87 then yX8_lastClosedMinute else yL_law) else (bif Nat.beq m 88 then yX8_thereAt else yL_law)) else (bif Nat.blt m 90 then (bif Nat.beq m 89 then yX8_waitingAt else yL_law) else (bif Nat.blt m 91 then (bif Nat.beq m 90 then yX6_isAtEqual else yL_law) else (bif Nat.beq m 91 then yX9_init else yL_law)))) else (bif Nat.blt m 94 then (bif Nat.blt m 93 then (bif Nat.beq m 92 then yX9_in else yL_law) else (bif Nat.beq m 93 then yX9_isPart else yL_law)) else (bif Nat.blt m 95 then (bif Nat.beq m 94 then yX9_part else yL_law) else (bif Nat.blt m 96 then (bif Nat.beq m 95 then yX9_tear else yL_law) else (bif Nat.beq m 96 then yX9_rule else yL_law)))))) else (bif Nat.blt m 107 then (bif Nat.blt m 102 then (bif Nat.blt m 99 then (bif Nat.blt m 98 then (bif Nat.beq m 97 then yX9_compare else yL_law) else (bif Nat.beq m 98 then yX9_keys else yL_law)) else (bif Nat.blt m 100 then (bif Nat.beq m 99 then yX9_isBelow else yL_law) else (bif Nat.blt m 101 then (bif Nat.beq m 100 then yX9_nothing else yL_law) else (bif Nat.beq m 101 then yX9_acts else yL_law)))) else (bif Nat.blt m 104 then (bif Nat.blt m 103 then (bif Nat.beq m 102 then yX9_one else yL_law) else (bif Nat.beq m 103 then yX9_sends else yL_law)) else (bif Nat.blt m 105 then (bif Nat.beq m 104 then yX9_draws else yL_law) else (bif Nat.blt m 106 then (bif Nat.beq m 105 then yX9_state else yL_law) else (bif Nat.beq m 106 then yX9_made else yL_law))))) else (bif Nat.blt m 112 then (bif Nat.blt m 109 then (bif Nat.blt m 108 then (bif Nat.beq m 107 then yX9_goes else yL_law) else (bif Nat.beq m 108 then yX9_come else yL_law)) else (bif Nat.blt m 110 then (bif Nat.beq m 109 then yX9_meet else yL_law) else (bif Nat.blt m 111 then (bif Nat.beq m 110 then yX9_eventComes else yL_law) else (bif Nat.beq m 111 then yX9_shadowComes else yL_law)))) else (bif Nat.blt m 114 then (bif Nat.blt m 113 then (bif Nat.beq m 112 then yX9_back else yL_law) else (bif Nat.beq m 113 then yX9_shadowsOf else yL_law)) else (bif Nat.blt m 115 then (bif Nat.beq m 114 then yX9_lower else yL_law) else (bif Nat.blt m 116 then (bif Nat.beq m 115 then yX9_findFloor else yL_law) else (bif Nat.beq m 116 then yX9_isSettled else yL_law))))))) else (bif Nat.blt m 136 then (bif Nat.blt m 126 then (bif Nat.blt m 121 then (bif Nat.blt m 119 then (bif Nat.blt m 118 then (bif Nat.beq m 117 then yX9_start else yL_law) else (bif Nat.beq m 118 then yX9_nextOf else yL_law)) else (bif Nat.blt m 120 then (bif Nat.beq m 119 then yX9_step else yL_law) else (bif Nat.beq m 120 then yX9_does else yL_law))) else (bif Nat.blt m 123 then (bif Nat.blt m 122 then (bif Nat.beq m 121 then yX9_run else yL_law) else (bif Nat.beq m 122 then yX9_comes else yL_law)) else (bif Nat.blt m 124 then (bif Nat.beq m 123 then yX9_deliver else yL_law) else (bif Nat.blt m 125 then (bif Nat.beq m 124 then yX9_deliverAll else yL_law) else (bif Nat.beq m 125 then yX9_move else yL_law))))) else (bif Nat.blt m 131 then (bif Nat.blt m 128 then (bif Nat.blt m 127 then (bif Nat.beq m 126 then yX9_limit else yL_law) else (bif Nat.beq m 127 then yX9_keep else yL_law)) else (bif Nat.blt m 129 then (bif Nat.beq m 128 then yX9_floor else yL_law) else (bif Nat.blt m 130 then (bif Nat.beq m 129 then yX9_cell else yL_law) else (bif Nat.beq m 130 then yX9_settledOf else yL_law)))) else (bif Nat.blt m 133 then (bif Nat.blt m 132 then (bif Nat.beq m 131 then yX9_settled else yL_law) else (bif Nat.beq m 132 then yX9_waiting else yL_law)) else (bif Nat.blt m 134 then (bif Nat.beq m 133 then yX9_thereOf else yL_law) else (bif Nat.blt m 135 then (bif Nat.beq m 134 then yX9_told else yL_law) else (bif Nat.beq m 135 then yX9_event else yL_law)))))) else (bif Nat.blt m 146 then (bif Nat.blt m 141 then (bif Nat.blt m 138 then (bif Nat.blt m 137 then (bif Nat.beq m 136 then yX9_number else yL_law) else (bif Nat.beq m 137 then yX9_way else yL_law)) else (bif Nat.blt m 139 then (bif Nat.beq m 138 then yX9_settle else yL_law) else (bif Nat.blt m 140 then (bif Nat.beq m 139 then yX9_count else yL_law) else (bif Nat.beq m 140 then yX9_outOf else yL_law)))) else (bif Nat.blt m 143 then (bif Nat.blt m 142 then (bif Nat.beq m 141 then yX9_out else yL_law) else (bif Nat.beq m 142 then yX9_printed else yL_law)) else (bif Nat.blt m 144 then (bif Nat.beq m 143 then yX9_failed else yL_law) else (bif Nat.blt m 145 then (bif Nat.beq m 144 then yX9_plain else yL_law) else (bif Nat.beq m 145 then yX9_isLower else yL_law))))) else (bif Nat.blt m 151 then (bif Nat.blt m 148 then (bif Nat.blt m 147 then (bif Nat.beq m 146 then yX9_nextPlain else yL_law) else (bif Nat.beq m 147 then yX9_plainDoes else yL_law)) else (bif Nat.blt m 149 then (bif Nat.beq m 148 then yX9_same else yL_law) else (bif Nat.blt m 150 then (bif Nat.beq m 149 then yJ6_compare_7cf53 else yL_law) else (bif Nat.beq m 150 then yX8_outCount else yL_law)))) else (bif Nat.blt m 153 then (bif Nat.blt m 152 then (bif Nat.beq m 151 then yX8_goToOut else yL_law) else (bif Nat.beq m 152 then yX8_isOutOfPlain else yL_law)) else (bif Nat.blt m 154 then (bif Nat.beq m 153 then yJ9_floorMod_7cf53 else yL_law) else (bif Nat.blt m 155 then (bif Nat.beq m 154 then yJ9_max_7cf53 else yL_law) else (bif Nat.beq m 155 then yL_law else yL_law))))))))
def retT (m : Nat) : Option FieldType := bif Nat.blt m 78 then (bif Nat.blt m 39 then (bif Nat.blt m 19 then (bif Nat.blt m 9 then (bif Nat.blt m 4 then (bif Nat.blt m 2 then (bif Nat.blt m 1 then (bif Nat.beq m 0 then none else none) else (bif Nat.beq m 1 then none else none)) else (bif Nat.blt m 3 then (bif Nat.beq m 2 then none else none) else (bif Nat.beq m 3 then none else none))) else (bif Nat.blt m 6 then (bif Nat.blt m 5 then (bif Nat.beq m 4 then none else none) else (bif Nat.beq m 5 then none else none)) else (bif Nat.blt m 7 then (bif Nat.beq m 6 then none else none) else (bif Nat.blt m 8 then (bif Nat.beq m 7 then none else none) else (bif Nat.beq m 8 then none else none))))) else (bif Nat.blt m 14 then (bif Nat.blt m 11 then (bif Nat.blt m 10 then (bif Nat.beq m 9 then none else none) else (bif Nat.beq m 10 then none else none)) else (bif Nat.blt m 12 then (bif Nat.beq m 11 then none else none) else (bif Nat.blt m 13 then (bif Nat.beq m 12 then (some .boolean) else none) else (bif Nat.beq m 13 then (some .int) else none)))) else (bif Nat.blt m 16 then (bif Nat.blt m 15 then (bif Nat.beq m 14 then (some .boolean) else none) else (bif Nat.beq m 15 then (some .int) else none)) else (bif Nat.blt m 17 then (bif Nat.beq m 16 then none else none) else (bif Nat.blt m 18 then (bif Nat.beq m 17 then none else none) else (bif Nat.beq m 18 then (some .int) else none)))))) else (bif Nat.blt m 29 then (bif Nat.blt m 24 then (bif Nat.blt m 21 then (bif Nat.blt m 20 then (bif Nat.beq m 19 then none else none) else (bif Nat.beq m 20 then (some .int) else none)) else (bif Nat.blt m 22 then (bif Nat.beq m 21 then (some .int) else none) else (bif Nat.blt m 23 then (bif Nat.beq m 22 then none else none) else (bif Nat.beq m 23 then none else none)))) else (bif Nat.blt m 26 then (bif Nat.blt m 25 then (bif Nat.beq m 24 then none else none) else (bif Nat.beq m 25 then none else none)) else (bif Nat.blt m 27 then (bif Nat.beq m 26 then none else none) else (bif Nat.blt m 28 then (bif Nat.beq m 27 then none else none) else (bif Nat.beq m 28 then none else none))))) else (bif Nat.blt m 34 then (bif Nat.blt m 31 then (bif Nat.blt m 30 then (bif Nat.beq m 29 then none else none) else (bif Nat.beq m 30 then none else none)) else (bif Nat.blt m 32 then (bif Nat.beq m 31 then (some .boolean) else none) else (bif Nat.blt m 33 then (bif Nat.beq m 32 then none else none) else (bif Nat.beq m 33 then none else none)))) else (bif Nat.blt m 36 then (bif Nat.blt m 35 then (bif Nat.beq m 34 then none else none) else (bif Nat.beq m 35 then (some .boolean) else none)) else (bif Nat.blt m 37 then (bif Nat.beq m 36 then none else none) else (bif Nat.blt m 38 then (bif Nat.beq m 37 then (some .int) else none) else (bif Nat.beq m 38 then (some .int) else none))))))) else (bif Nat.blt m 58 then (bif Nat.blt m 48 then (bif Nat.blt m 43 then (bif Nat.blt m 41 then (bif Nat.blt m 40 then (bif Nat.beq m 39 then (some .int) else none) else (bif Nat.beq m 40 then (some .int) else none)) else (bif Nat.blt m 42 then (bif Nat.beq m 41 then (some .int) else none) else (bif Nat.beq m 42 then (some .int) else none))) else (bif Nat.blt m 45 then (bif Nat.blt m 44 then (bif Nat.beq m 43 then (some .int) else none) else (bif Nat.beq m 44 then (some .int) else none)) else (bif Nat.blt m 46 then (bif Nat.beq m 45 then (some .int) else none) else (bif Nat.blt m 47 then (bif Nat.beq m 46 then (some .int) else none) else (bif Nat.beq m 47 then (some .int) else none))))) else (bif Nat.blt m 53 then (bif Nat.blt m 50 then (bif Nat.blt m 49 then (bif Nat.beq m 48 then (some .int) else none) else (bif Nat.beq m 49 then (some .int) else none)) else (bif Nat.blt m 51 then (bif Nat.beq m 50 then (some .int) else none) else (bif Nat.blt m 52 then (bif Nat.beq m 51 then (some .int) else none) else (bif Nat.beq m 52 then (some .int) else none)))) else (bif Nat.blt m 55 then (bif Nat.blt m 54 then (bif Nat.beq m 53 then (some .int) else none) else (bif Nat.beq m 54 then (some .int) else none)) else (bif Nat.blt m 56 then (bif Nat.beq m 55 then (some .int) else none) else (bif Nat.blt m 57 then (bif Nat.beq m 56 then (some .int) else none) else (bif Nat.beq m 57 then (some .int) else none)))))) else (bif Nat.blt m 68 then (bif Nat.blt m 63 then (bif Nat.blt m 60 then (bif Nat.blt m 59 then (bif Nat.beq m 58 then (some .int) else none) else (bif Nat.beq m 59 then (some .int) else none)) else (bif Nat.blt m 61 then (bif Nat.beq m 60 then (some .boolean) else none) else (bif Nat.blt m 62 then (bif Nat.beq m 61 then (some .boolean) else none) else (bif Nat.beq m 62 then (some .boolean) else none)))) else (bif Nat.blt m 65 then (bif Nat.blt m 64 then (bif Nat.beq m 63 then (some .boolean) else none) else (bif Nat.beq m 64 then (some .int) else none)) else (bif Nat.blt m 66 then (bif Nat.beq m 65 then (some (.object "WarpYard$Event")) else none) else (bif Nat.blt m 67 then (bif Nat.beq m 66 then (some .boolean) else none) else (bif Nat.beq m 67 then none else none))))) else (bif Nat.blt m 73 then (bif Nat.blt m 70 then (bif Nat.blt m 69 then (bif Nat.beq m 68 then (some (.object "WarpYard$Event")) else none) else (bif Nat.beq m 69 then none else none)) else (bif Nat.blt m 71 then (bif Nat.beq m 70 then none else none) else (bif Nat.blt m 72 then (bif Nat.beq m 71 then none else none) else (bif Nat.beq m 72 then none else none)))) else (bif Nat.blt m 75 then (bif Nat.blt m 74 then (bif Nat.beq m 73 then none else none) else (bif Nat.beq m 74 then none else none)) else (bif Nat.blt m 76 then (bif Nat.beq m 75 then (some .int) else none) else (bif Nat.blt m 77 then (bif Nat.beq m 76 then none else none) else (bif Nat.beq m 77 then (some .boolean) else none)))))))) else (bif Nat.blt m 117 then (bif Nat.blt m 97 then (bif Nat.blt m 87 then (bif Nat.blt m 82 then (bif Nat.blt m 80 then (bif Nat.blt m 79 then (bif Nat.beq m 78 then (some .int) else none) else (bif Nat.beq m 79 then none else none)) else (bif Nat.blt m 81 then (bif Nat.beq m 80 then (some .boolean) else none) else (bif Nat.beq m 81 then (some (.object "WarpYard$Event")) else none))) else (bif Nat.blt m 84 then (bif Nat.blt m 83 then (bif Nat.beq m 82 then (some .boolean) else none) else (bif Nat.beq m 83 then (some .int) else none)) else (bif Nat.blt m 85 then (bif Nat.beq m 84 then (some (.object "WarpYard$State")) else none) else (bif Nat.blt m 86 then (bif Nat.beq m 85 then (some .int) else none) else (bif Nat.beq m 86 then (some (.object "WarpYard$Event")) else none))))) else (bif Nat.blt m 92 then (bif Nat.blt m 89 then (bif Nat.blt m 88 then (bif Nat.beq m 87 then (some .int) else none) else (bif Nat.beq m 88 then (some .int) else none)) else (bif Nat.blt m 90 then (bif Nat.beq m 89 then (some .int) else none) else (bif Nat.blt m 91 then (bif Nat.beq m 90 then (some .boolean) else none) else (bif Nat.beq m 91 then none else none)))) else (bif Nat.blt m 94 then (bif Nat.blt m 93 then (bif Nat.beq m 92 then (some .boolean) else none) else (bif Nat.beq m 93 then (some .boolean) else none)) else (bif Nat.blt m 95 then (bif Nat.beq m 94 then (some .int) else none) else (bif Nat.blt m 96 then (bif Nat.beq m 95 then (some .int) else none) else (bif Nat.beq m 96 then (some .int) else none)))))) else (bif Nat.blt m 107 then (bif Nat.blt m 102 then (bif Nat.blt m 99 then (bif Nat.blt m 98 then (bif Nat.beq m 97 then (some .int) else none) else (bif Nat.beq m 98 then (some .int) else none)) else (bif Nat.blt m 100 then (bif Nat.beq m 99 then (some .boolean) else none) else (bif Nat.blt m 101 then (bif Nat.beq m 100 then none else none) else (bif Nat.beq m 101 then none else none)))) else (bif Nat.blt m 104 then (bif Nat.blt m 103 then (bif Nat.beq m 102 then none else none) else (bif Nat.beq m 103 then none else none)) else (bif Nat.blt m 105 then (bif Nat.beq m 104 then none else none) else (bif Nat.blt m 106 then (bif Nat.beq m 105 then none else none) else (bif Nat.beq m 106 then (some .int) else none))))) else (bif Nat.blt m 112 then (bif Nat.blt m 109 then (bif Nat.blt m 108 then (bif Nat.beq m 107 then none else none) else (bif Nat.beq m 108 then none else none)) else (bif Nat.blt m 110 then (bif Nat.beq m 109 then none else none) else (bif Nat.blt m 111 then (bif Nat.beq m 110 then none else none) else (bif Nat.beq m 111 then none else none)))) else (bif Nat.blt m 114 then (bif Nat.blt m 113 then (bif Nat.beq m 112 then none else none) else (bif Nat.beq m 113 then none else none)) else (bif Nat.blt m 115 then (bif Nat.beq m 114 then none else none) else (bif Nat.blt m 116 then (bif Nat.beq m 115 then none else none) else (bif Nat.beq m 116 then (some .boolean) else none))))))) else (bif Nat.blt m 136 then (bif Nat.blt m 126 then (bif Nat.blt m 121 then (bif Nat.blt m 119 then (bif Nat.blt m 118 then (bif Nat.beq m 117 then (some .int) else none) else (bif Nat.beq m 118 then (some .int) else none)) else (bif Nat.blt m 120 then (bif Nat.beq m 119 then (some .int) else none) else (bif Nat.beq m 120 then none else none))) else (bif Nat.blt m 123 then (bif Nat.blt m 122 then (bif Nat.beq m 121 then (some .int) else none) else (bif Nat.beq m 122 then (some .int) else none)) else (bif Nat.blt m 124 then (bif Nat.beq m 123 then (some .int) else none) else (bif Nat.blt m 125 then (bif Nat.beq m 124 then (some .int) else none) else (bif Nat.beq m 125 then (some .int) else none))))) else (bif Nat.blt m 131 then (bif Nat.blt m 128 then (bif Nat.blt m 127 then (bif Nat.beq m 126 then (some .int) else none) else (bif Nat.beq m 127 then (some .int) else none)) else (bif Nat.blt m 129 then (bif Nat.beq m 128 then (some .int) else none) else (bif Nat.blt m 130 then (bif Nat.beq m 129 then (some .int) else none) else (bif Nat.beq m 130 then (some .int) else none)))) else (bif Nat.blt m 133 then (bif Nat.blt m 132 then (bif Nat.beq m 131 then (some .int) else none) else (bif Nat.beq m 132 then (some .int) else none)) else (bif Nat.blt m 134 then (bif Nat.beq m 133 then (some .int) else none) else (bif Nat.blt m 135 then (bif Nat.beq m 134 then (some .int) else none) else (bif Nat.beq m 135 then (some .int) else none)))))) else (bif Nat.blt m 146 then (bif Nat.blt m 141 then (bif Nat.blt m 138 then (bif Nat.blt m 137 then (bif Nat.beq m 136 then (some .int) else none) else (bif Nat.beq m 137 then (some .int) else none)) else (bif Nat.blt m 139 then (bif Nat.beq m 138 then none else none) else (bif Nat.blt m 140 then (bif Nat.beq m 139 then (some .int) else none) else (bif Nat.beq m 140 then (some .int) else none)))) else (bif Nat.blt m 143 then (bif Nat.blt m 142 then (bif Nat.beq m 141 then (some .int) else none) else (bif Nat.beq m 142 then (some .int) else none)) else (bif Nat.blt m 144 then (bif Nat.beq m 143 then (some .int) else none) else (bif Nat.blt m 145 then (bif Nat.beq m 144 then none else none) else (bif Nat.beq m 145 then (some .boolean) else none))))) else (bif Nat.blt m 151 then (bif Nat.blt m 148 then (bif Nat.blt m 147 then (bif Nat.beq m 146 then (some .int) else none) else (bif Nat.beq m 147 then none else none)) else (bif Nat.blt m 149 then (bif Nat.beq m 148 then (some .int) else none) else (bif Nat.blt m 150 then (bif Nat.beq m 149 then (some .int) else none) else (bif Nat.beq m 150 then (some .int) else none)))) else (bif Nat.blt m 153 then (bif Nat.blt m 152 then (bif Nat.beq m 151 then (some .boolean) else none) else (bif Nat.beq m 152 then (some .boolean) else none)) else (bif Nat.blt m 154 then (bif Nat.beq m 153 then (some .int) else none) else (bif Nat.blt m 155 then (bif Nat.beq m 154 then (some .int) else none) else (bif Nat.beq m 155 then (some .boolean) else none))))))))
def fwords : List Nat := [90000, 150001, 180002, 210005, 280700, 330308, 390007, 420305, 450306, 480304, 510106, 560307, 590102, 700006, 800003, 830702, 860004, 900303, 930701, 960302, 10090107, 10150108, 10180110, 10220100, 10250101, 10280102, 10310103, 10340104, 10370105, 10400106, 10430115, 10470114, 10580007, 10630109, 10640006, 10670111, 10680005, 20110200, 20170201, 30120301, 30180302, 30220304, 30250305, 30280306, 30310307, 30340300, 30380303, 30410308, 40110400, 40200401, 40270402, 40340403, 40400407, 40480201, 40520404, 40550405, 40580406, 40730200, 40800101, 40870107, 40940109, 40970003, 41000000, 41040001, 41070102, 41100004, 41130002, 50110500, 50170501, 50210502, 60090603, 60150604, 60180605, 60210201, 60260200, 60300107, 60350111, 60380101, 60410600, 60420102, 60450601, 60460110, 60500602, 70090700, 70150701, 70190702, 80110800, 80170802, 80240803, 80310804, 80350805, 80410806, 80480807, 80550808, 80620809, 80660813, 80700814, 80770201, 80800801, 81060810, 81200100, 81260502, 81270501, 81340300, 81440301, 81470700, 81590309, 81620311, 81650310, 81710701, 81740702, 81830101, 81900107, 81930109, 81960106, 81990500, 82020811, 82050812, 82180600, 82190601, 82220602, 82310104, 82340102, 82350105, 82450406, 82490404, 82520405, 82580400, 82780200, 82910112, 82940003, 82970113, 82980000, 83010001, 83040004, 83070002, 83210108, 83630114, 83730115, 83830111, 83910402, 83920401, 90070901, 90130902, 90160903, 90190904, 90220905, 90250906, 90280907, 90310908, 90340909, 90370910, 90400911, 90430912, 90460915, 90490916, 90520917, 90550918, 90580919, 90610920, 90640921, 90670922, 90710923, 90740924, 90770925, 90800926, 90830927, 90860929, 90890931, 90920932, 90960935, 90990940, 91020941, 91050942, 91080944, 91110951, 91140956, 91170957, 91200958, 91230959, 91260960, 91290961, 91320962, 91350963, 91380964, 91410965, 91440900, 91510913, 91660936, 91690937, 91720938, 91750939, 91780943, 92000930, 92030928, 92130934, 92290933, 92350949, 92390945, 92420946, 92450947, 92480948, 92570914, 92940950, 92970952, 93000953, 93060954, 93120955, 93230967, 93260966]
def fwX (o i n : Nat) : Cond := .fieldLink (ownS o) i (clT (n / 100) (n % 100)).1 (clT (n / 100) (n % 100)).2.1 (clT (n / 100) (n % 100)).2.2.1
def fwW (q : Nat) : Cond := fwX (q / 10000000) (q / 10000 % 1000) (q % 10000)
theorem fw_in : ∀ w ∈ fwords.map fwW, w ∈ lw_tbl := in_r _ [140, 143, 146, 155, 186, 354, 159, 349, 351, 347, 447, 353, 437, 157, 149, 192, 152, 345, 189, 343, 449, 453, 458, 430, 432, 436, 441, 442, 444, 446, 467, 465, 160, 455, 158, 461, 156, 100, 104, 340, 342, 346, 348, 350, 352, 338, 344, 355, 244, 246, 248, 250, 257, 106, 251, 253, 255, 102, 434, 451, 456, 150, 141, 144, 439, 153, 147, 120, 122, 124, 213, 214, 215, 107, 101, 450, 460, 433, 207, 438, 209, 459, 211, 185, 188, 191, 275, 277, 278, 279, 280, 281, 282, 283, 284, 288, 289, 105, 276, 285, 431, 125, 123, 339, 341, 187, 356, 358, 357, 190, 193, 435, 452, 457, 448, 121, 286, 287, 208, 210, 212, 443, 440, 445, 256, 252, 254, 245, 103, 463, 151, 464, 142, 145, 154, 148, 454, 466, 468, 462, 249, 247, 819, 820, 821, 822, 823, 824, 825, 826, 827, 828, 829, 830, 833, 834, 835, 836, 837, 838, 839, 840, 841, 842, 843, 844, 845, 847, 849, 850, 853, 858, 859, 860, 862, 869, 874, 875, 876, 877, 878, 879, 880, 881, 882, 883, 818, 831, 854, 855, 856, 857, 861, 848, 846, 852, 851, 867, 863, 864, 865, 866, 832, 868, 870, 871, 872, 873, 885, 884] (by decide +kernel)
def mwords : List Nat := [24002, 62003, 66004, 73005, 77006, 99153, 1054034, 1069015, 1073149, 2021015, 2025154, 4045033, 4062007, 4065008, 4069017, 4076014, 4083001, 4090010, 4116024, 8073061, 8083019, 8086062, 8089020, 8093060, 8097021, 8102087, 8109068, 8113027, 8117071, 8123064, 8131070, 8137081, 8141013, 8151083, 8155084, 8168088, 8177089, 8180063, 8186082, 8208150, 8211085, 8215151, 8225086, 8228023, 8238024, 8241025, 8255152, 8262035, 8266065, 8270066, 8274067, 8279009, 8283001, 8287010, 8310069, 8314007, 8315008, 8318017, 8323028, 8326073, 8329072, 8332074, 8335075, 8338076, 8342018, 8345078, 8349079, 8353077, 8357011, 8360080, 8366034, 8370033, 8376012, 8380014, 8386030, 8387031, 8393090, 9147092, 9154093, 9158097, 9162098, 9181102, 9185103, 9188104, 9193100, 9196101, 9206110, 9210111, 9216109, 9219099, 9223112, 9226113, 9232107, 9251114, 9254115, 9260106, 9263108, 9266118, 9270120, 9273105, 9276119, 9279122, 9282116, 9285130, 9288133, 9291132, 9303138, 9309140, 9315145, 9319144, 9329146, 9333147, 12009036, 12012091, 12013037, 12017094, 12018038, 12022095, 12023039, 12027096, 12028040, 12032117, 12033041, 12036119, 12037042, 12040121, 12041043, 12044123, 12045044, 12049124, 12050045, 12053125, 12054046, 12057126, 12058047, 12061127, 12062048, 12065128, 12066049, 12069129, 12070050, 12073131, 12074051, 12077134, 12078052, 12081135, 12082053, 12085136, 12086054, 12089137, 12090055, 12093139, 12094056, 12097141, 12098057, 12101142, 12102058, 12105143, 12106059, 12109148]
def mwX (o i n : Nat) : Cond := .methodLink (ownS o) i (yT n)
def mwW (q : Nat) : Cond := mwX (q / 1000000) (q / 1000 % 1000) (q % 1000)
theorem mw_in : ∀ w ∈ mwords.map mwW, w ∈ lw_tbl := in_r _ [572, 576, 581, 585, 589, 593, 642, 699, 514, 510, 541, 784, 789, 790, 791, 796, 797, 798, 799, 325, 332, 388, 392, 328, 400, 409, 421, 517, 521, 620, 655, 413, 679, 691, 700, 708, 712, 720, 724, 739, 743, 751, 771, 779, 785, 792, 800, 808, 624, 628, 632, 636, 568, 643, 608, 426, 502, 506, 525, 529, 612, 600, 533, 604, 537, 544, 552, 548, 596, 556, 560, 564, 417, 695, 755, 759, 804, 1027, 1034, 1055, 1075, 1123, 1127, 1131, 1115, 1119, 1063, 1095, 1067, 1071, 1079, 1083, 1087, 1051, 1047, 1059, 1091, 1103, 1107, 1111, 1139, 1144, 1180, 1176, 1188, 1192, 1212, 1220, 1244, 1236, 1240, 1248, 83, 814, 321, 1023, 384, 1030, 396, 1038, 404, 1042, 616, 1099, 647, 1135, 651, 1140, 659, 1148, 663, 1152, 667, 1156, 671, 1160, 675, 1164, 683, 1168, 687, 1172, 704, 1184, 716, 1196, 727, 1200, 731, 1204, 735, 1208, 747, 1216, 763, 1224, 767, 1228, 775, 1232] (by decide +kernel)
def nwords : List Nat := [1053032, 3011032, 4019016, 4026029, 4033000, 4044032, 8023016, 8030026, 8040000, 8047032, 8054029, 8061022]
def nwX (o i n : Nat) : Cond := .methodLinkNest (ownS o) i (yT n) "WarpYard"
def nwW (q : Nat) : Cond := nwX (q / 1000000) (q / 1000 % 1000) (q % 1000)
theorem nw_in : ∀ w ∈ nwords.map nwW, w ∈ lw_tbl := in_r _ [641, 337, 238, 240, 242, 783, 95, 115, 136, 181, 203, 231] (by decide +kernel)
def owords : List Nat := [3, 1003, 2003, 3003, 4003, 5003, 6003, 7003, 8003, 9001]
def owX (o i : Nat) : Cond := .methodLink (ownS o) i objectInit
def owW (q : Nat) : Cond := owX (q / 1000) (q % 1000)
theorem ow_in : ∀ w ∈ owords.map owW, w ∈ lw_tbl := in_r _ [139, 429, 98, 335, 234, 118, 206, 184, 86, 817] (by decide +kernel)
def cwords : List Nat := [1051007, 2009001, 3009007, 4009007, 4017002, 4024006, 4031000, 4038001, 5009001, 8009003, 8015001, 8021002, 8028005, 8038000, 8045007, 8052006, 8059004, 12007008, 12010009]
def cwX (o i n : Nat) : Cond := .classLink (ownS o) i (ownS n)
def cwW (q : Nat) : Cond := cwX (q / 1000000) (q / 1000 % 1000) (q % 1000)
theorem cw_in : ∀ w ∈ cwords.map cwW, w ∈ lw_tbl := in_r _ [640, 99, 336, 235, 237, 239, 241, 243, 119, 89, 91, 93, 113, 134, 179, 201, 229, 81, 812] (by decide +kernel)
def kwords : List (Nat × Nat × Int) := [(0, 89, 100000), (8, 101, 100000), (9, 192, 100000)]
def kwW (q : Nat × Nat × Int) : Cond := .constant (ownS q.1) q.2.1 (Int32.ofInt q.2.2)
theorem kw_in : ∀ w ∈ kwords.map kwW, w ∈ lw_tbl := in_r _ [580, 408, 1046] (by decide +kernel)
theorem ini_in : ∀ w ∈ (List.range 13).map (fun c => Cond.initialized (ownS c)), w ∈ lw_tbl := in_r _ [72, 78, 70, 77, 75, 71, 74, 73, 69, 76, 79, 80, 68] (by decide +kernel)
theorem inst_in : ∀ w ∈ (List.range 10).map (fun c => Cond.instantiable (ownS c) (famT (c + 1)).2.2), w ∈ lw_tbl := in_r _ [135, 425, 94, 331, 230, 114, 202, 180, 82, 813] (by decide +kernel)
def cdW (m : Nat) : Cond := .code (yT m) (bytesT m) (maxLT m) (retT m)
set_option maxRecDepth 100000 in
theorem cd_0 : cdW 0 ∈ lw_tbl := List.mem_of_getElem? (i := 138) rfl
set_option maxRecDepth 100000 in
theorem cd_1 : cdW 1 ∈ lw_tbl := List.mem_of_getElem? (i := 571) rfl
set_option maxRecDepth 100000 in
theorem cd_2 : cdW 2 ∈ lw_tbl := List.mem_of_getElem? (i := 575) rfl
set_option maxRecDepth 100000 in
theorem cd_3 : cdW 3 ∈ lw_tbl := List.mem_of_getElem? (i := 579) rfl
set_option maxRecDepth 100000 in
theorem cd_4 : cdW 4 ∈ lw_tbl := List.mem_of_getElem? (i := 584) rfl
set_option maxRecDepth 100000 in
theorem cd_5 : cdW 5 ∈ lw_tbl := List.mem_of_getElem? (i := 588) rfl
set_option maxRecDepth 100000 in
theorem cd_6 : cdW 6 ∈ lw_tbl := List.mem_of_getElem? (i := 592) rfl
set_option maxRecDepth 100000 in
theorem cd_7 : cdW 7 ∈ lw_tbl := List.mem_of_getElem? (i := 428) rfl
set_option maxRecDepth 100000 in
theorem cd_8 : cdW 8 ∈ lw_tbl := List.mem_of_getElem? (i := 505) rfl
set_option maxRecDepth 100000 in
theorem cd_9 : cdW 9 ∈ lw_tbl := List.mem_of_getElem? (i := 639) rfl
set_option maxRecDepth 100000 in
theorem cd_10 : cdW 10 ∈ lw_tbl := List.mem_of_getElem? (i := 646) rfl
set_option maxRecDepth 100000 in
theorem cd_11 : cdW 11 ∈ lw_tbl := List.mem_of_getElem? (i := 599) rfl
set_option maxRecDepth 100000 in
theorem cd_12 : cdW 12 ∈ lw_tbl := List.mem_of_getElem? (i := 420) rfl
set_option maxRecDepth 100000 in
theorem cd_13 : cdW 13 ∈ lw_tbl := List.mem_of_getElem? (i := 682) rfl
set_option maxRecDepth 100000 in
theorem cd_14 : cdW 14 ∈ lw_tbl := List.mem_of_getElem? (i := 698) rfl
set_option maxRecDepth 100000 in
theorem cd_15 : cdW 15 ∈ lw_tbl := List.mem_of_getElem? (i := 513) rfl
set_option maxRecDepth 100000 in
theorem cd_16 : cdW 16 ∈ lw_tbl := List.mem_of_getElem? (i := 97) rfl
set_option maxRecDepth 100000 in
theorem cd_17 : cdW 17 ∈ lw_tbl := List.mem_of_getElem? (i := 509) rfl
set_option maxRecDepth 100000 in
theorem cd_18 : cdW 18 ∈ lw_tbl := List.mem_of_getElem? (i := 540) rfl
set_option maxRecDepth 100000 in
theorem cd_19 : cdW 19 ∈ lw_tbl := List.mem_of_getElem? (i := 334) rfl
set_option maxRecDepth 100000 in
theorem cd_20 : cdW 20 ∈ lw_tbl := List.mem_of_getElem? (i := 395) rfl
set_option maxRecDepth 100000 in
theorem cd_21 : cdW 21 ∈ lw_tbl := List.mem_of_getElem? (i := 403) rfl
set_option maxRecDepth 100000 in
theorem cd_22 : cdW 22 ∈ lw_tbl := List.mem_of_getElem? (i := 233) rfl
set_option maxRecDepth 100000 in
theorem cd_23 : cdW 23 ∈ lw_tbl := List.mem_of_getElem? (i := 782) rfl
set_option maxRecDepth 100000 in
theorem cd_24 : cdW 24 ∈ lw_tbl := List.mem_of_getElem? (i := 788) rfl
set_option maxRecDepth 100000 in
theorem cd_25 : cdW 25 ∈ lw_tbl := List.mem_of_getElem? (i := 795) rfl
set_option maxRecDepth 100000 in
theorem cd_26 : cdW 26 ∈ lw_tbl := List.mem_of_getElem? (i := 117) rfl
set_option maxRecDepth 100000 in
theorem cd_27 : cdW 27 ∈ lw_tbl := List.mem_of_getElem? (i := 520) rfl
set_option maxRecDepth 100000 in
theorem cd_28 : cdW 28 ∈ lw_tbl := List.mem_of_getElem? (i := 528) rfl
set_option maxRecDepth 100000 in
theorem cd_29 : cdW 29 ∈ lw_tbl := List.mem_of_getElem? (i := 205) rfl
set_option maxRecDepth 100000 in
theorem cd_30 : cdW 30 ∈ lw_tbl := List.mem_of_getElem? (i := 758) rfl
set_option maxRecDepth 100000 in
theorem cd_31 : cdW 31 ∈ lw_tbl := List.mem_of_getElem? (i := 762) rfl
set_option maxRecDepth 100000 in
theorem cd_32 : cdW 32 ∈ lw_tbl := List.mem_of_getElem? (i := 183) rfl
set_option maxRecDepth 100000 in
theorem cd_33 : cdW 33 ∈ lw_tbl := List.mem_of_getElem? (i := 567) rfl
set_option maxRecDepth 100000 in
theorem cd_34 : cdW 34 ∈ lw_tbl := List.mem_of_getElem? (i := 563) rfl
set_option maxRecDepth 100000 in
theorem cd_35 : cdW 35 ∈ lw_tbl := List.mem_of_getElem? (i := 811) rfl
set_option maxRecDepth 100000 in
theorem cd_36 : cdW 36 ∈ lw_tbl := List.mem_of_getElem? (i := 85) rfl
set_option maxRecDepth 100000 in
theorem cd_37 : cdW 37 ∈ lw_tbl := List.mem_of_getElem? (i := 324) rfl
set_option maxRecDepth 100000 in
theorem cd_38 : cdW 38 ∈ lw_tbl := List.mem_of_getElem? (i := 387) rfl
set_option maxRecDepth 100000 in
theorem cd_39 : cdW 39 ∈ lw_tbl := List.mem_of_getElem? (i := 399) rfl
set_option maxRecDepth 100000 in
theorem cd_40 : cdW 40 ∈ lw_tbl := List.mem_of_getElem? (i := 407) rfl
set_option maxRecDepth 100000 in
theorem cd_41 : cdW 41 ∈ lw_tbl := List.mem_of_getElem? (i := 619) rfl
set_option maxRecDepth 100000 in
theorem cd_42 : cdW 42 ∈ lw_tbl := List.mem_of_getElem? (i := 650) rfl
set_option maxRecDepth 100000 in
theorem cd_43 : cdW 43 ∈ lw_tbl := List.mem_of_getElem? (i := 654) rfl
set_option maxRecDepth 100000 in
theorem cd_44 : cdW 44 ∈ lw_tbl := List.mem_of_getElem? (i := 662) rfl
set_option maxRecDepth 100000 in
theorem cd_45 : cdW 45 ∈ lw_tbl := List.mem_of_getElem? (i := 666) rfl
set_option maxRecDepth 100000 in
theorem cd_46 : cdW 46 ∈ lw_tbl := List.mem_of_getElem? (i := 670) rfl
set_option maxRecDepth 100000 in
theorem cd_47 : cdW 47 ∈ lw_tbl := List.mem_of_getElem? (i := 674) rfl
set_option maxRecDepth 100000 in
theorem cd_48 : cdW 48 ∈ lw_tbl := List.mem_of_getElem? (i := 678) rfl
set_option maxRecDepth 100000 in
theorem cd_49 : cdW 49 ∈ lw_tbl := List.mem_of_getElem? (i := 686) rfl
set_option maxRecDepth 100000 in
theorem cd_50 : cdW 50 ∈ lw_tbl := List.mem_of_getElem? (i := 690) rfl
set_option maxRecDepth 100000 in
theorem cd_51 : cdW 51 ∈ lw_tbl := List.mem_of_getElem? (i := 707) rfl
set_option maxRecDepth 100000 in
theorem cd_52 : cdW 52 ∈ lw_tbl := List.mem_of_getElem? (i := 719) rfl
set_option maxRecDepth 100000 in
theorem cd_53 : cdW 53 ∈ lw_tbl := List.mem_of_getElem? (i := 730) rfl
set_option maxRecDepth 100000 in
theorem cd_54 : cdW 54 ∈ lw_tbl := List.mem_of_getElem? (i := 734) rfl
set_option maxRecDepth 100000 in
theorem cd_55 : cdW 55 ∈ lw_tbl := List.mem_of_getElem? (i := 738) rfl
set_option maxRecDepth 100000 in
theorem cd_56 : cdW 56 ∈ lw_tbl := List.mem_of_getElem? (i := 750) rfl
set_option maxRecDepth 100000 in
theorem cd_57 : cdW 57 ∈ lw_tbl := List.mem_of_getElem? (i := 766) rfl
set_option maxRecDepth 100000 in
theorem cd_58 : cdW 58 ∈ lw_tbl := List.mem_of_getElem? (i := 770) rfl
set_option maxRecDepth 100000 in
theorem cd_59 : cdW 59 ∈ lw_tbl := List.mem_of_getElem? (i := 778) rfl
set_option maxRecDepth 100000 in
theorem cd_60 : cdW 60 ∈ lw_tbl := List.mem_of_getElem? (i := 330) rfl
set_option maxRecDepth 100000 in
theorem cd_61 : cdW 61 ∈ lw_tbl := List.mem_of_getElem? (i := 327) rfl
set_option maxRecDepth 100000 in
theorem cd_62 : cdW 62 ∈ lw_tbl := List.mem_of_getElem? (i := 391) rfl
set_option maxRecDepth 100000 in
theorem cd_63 : cdW 63 ∈ lw_tbl := List.mem_of_getElem? (i := 723) rfl
set_option maxRecDepth 100000 in
theorem cd_64 : cdW 64 ∈ lw_tbl := List.mem_of_getElem? (i := 623) rfl
set_option maxRecDepth 100000 in
theorem cd_65 : cdW 65 ∈ lw_tbl := List.mem_of_getElem? (i := 627) rfl
set_option maxRecDepth 100000 in
theorem cd_66 : cdW 66 ∈ lw_tbl := List.mem_of_getElem? (i := 631) rfl
set_option maxRecDepth 100000 in
theorem cd_67 : cdW 67 ∈ lw_tbl := List.mem_of_getElem? (i := 635) rfl
set_option maxRecDepth 100000 in
theorem cd_68 : cdW 68 ∈ lw_tbl := List.mem_of_getElem? (i := 424) rfl
set_option maxRecDepth 100000 in
theorem cd_69 : cdW 69 ∈ lw_tbl := List.mem_of_getElem? (i := 611) rfl
set_option maxRecDepth 100000 in
theorem cd_70 : cdW 70 ∈ lw_tbl := List.mem_of_getElem? (i := 658) rfl
set_option maxRecDepth 100000 in
theorem cd_71 : cdW 71 ∈ lw_tbl := List.mem_of_getElem? (i := 524) rfl
set_option maxRecDepth 100000 in
theorem cd_72 : cdW 72 ∈ lw_tbl := List.mem_of_getElem? (i := 615) rfl
set_option maxRecDepth 100000 in
theorem cd_73 : cdW 73 ∈ lw_tbl := List.mem_of_getElem? (i := 532) rfl
set_option maxRecDepth 100000 in
theorem cd_74 : cdW 74 ∈ lw_tbl := List.mem_of_getElem? (i := 603) rfl
set_option maxRecDepth 100000 in
theorem cd_75 : cdW 75 ∈ lw_tbl := List.mem_of_getElem? (i := 536) rfl
set_option maxRecDepth 100000 in
theorem cd_76 : cdW 76 ∈ lw_tbl := List.mem_of_getElem? (i := 607) rfl
set_option maxRecDepth 100000 in
theorem cd_77 : cdW 77 ∈ lw_tbl := List.mem_of_getElem? (i := 551) rfl
set_option maxRecDepth 100000 in
theorem cd_78 : cdW 78 ∈ lw_tbl := List.mem_of_getElem? (i := 547) rfl
set_option maxRecDepth 100000 in
theorem cd_79 : cdW 79 ∈ lw_tbl := List.mem_of_getElem? (i := 555) rfl
set_option maxRecDepth 100000 in
theorem cd_80 : cdW 80 ∈ lw_tbl := List.mem_of_getElem? (i := 559) rfl
set_option maxRecDepth 100000 in
theorem cd_81 : cdW 81 ∈ lw_tbl := List.mem_of_getElem? (i := 416) rfl
set_option maxRecDepth 100000 in
theorem cd_82 : cdW 82 ∈ lw_tbl := List.mem_of_getElem? (i := 726) rfl
set_option maxRecDepth 100000 in
theorem cd_83 : cdW 83 ∈ lw_tbl := List.mem_of_getElem? (i := 694) rfl
set_option maxRecDepth 100000 in
theorem cd_84 : cdW 84 ∈ lw_tbl := List.mem_of_getElem? (i := 703) rfl
set_option maxRecDepth 100000 in
theorem cd_85 : cdW 85 ∈ lw_tbl := List.mem_of_getElem? (i := 746) rfl
set_option maxRecDepth 100000 in
theorem cd_86 : cdW 86 ∈ lw_tbl := List.mem_of_getElem? (i := 774) rfl
set_option maxRecDepth 100000 in
theorem cd_87 : cdW 87 ∈ lw_tbl := List.mem_of_getElem? (i := 412) rfl
set_option maxRecDepth 100000 in
theorem cd_88 : cdW 88 ∈ lw_tbl := List.mem_of_getElem? (i := 711) rfl
set_option maxRecDepth 100000 in
theorem cd_89 : cdW 89 ∈ lw_tbl := List.mem_of_getElem? (i := 715) rfl
set_option maxRecDepth 100000 in
theorem cd_90 : cdW 90 ∈ lw_tbl := List.mem_of_getElem? (i := 807) rfl
set_option maxRecDepth 100000 in
theorem cd_91 : cdW 91 ∈ lw_tbl := List.mem_of_getElem? (i := 816) rfl
set_option maxRecDepth 100000 in
theorem cd_92 : cdW 92 ∈ lw_tbl := List.mem_of_getElem? (i := 1029) rfl
set_option maxRecDepth 100000 in
theorem cd_93 : cdW 93 ∈ lw_tbl := List.mem_of_getElem? (i := 1037) rfl
set_option maxRecDepth 100000 in
theorem cd_94 : cdW 94 ∈ lw_tbl := List.mem_of_getElem? (i := 1026) rfl
set_option maxRecDepth 100000 in
theorem cd_95 : cdW 95 ∈ lw_tbl := List.mem_of_getElem? (i := 1033) rfl
set_option maxRecDepth 100000 in
theorem cd_96 : cdW 96 ∈ lw_tbl := List.mem_of_getElem? (i := 1041) rfl
set_option maxRecDepth 100000 in
theorem cd_97 : cdW 97 ∈ lw_tbl := List.mem_of_getElem? (i := 1058) rfl
set_option maxRecDepth 100000 in
theorem cd_98 : cdW 98 ∈ lw_tbl := List.mem_of_getElem? (i := 1078) rfl
set_option maxRecDepth 100000 in
theorem cd_99 : cdW 99 ∈ lw_tbl := List.mem_of_getElem? (i := 1074) rfl
set_option maxRecDepth 100000 in
theorem cd_100 : cdW 100 ∈ lw_tbl := List.mem_of_getElem? (i := 1118) rfl
set_option maxRecDepth 100000 in
theorem cd_101 : cdW 101 ∈ lw_tbl := List.mem_of_getElem? (i := 1122) rfl
set_option maxRecDepth 100000 in
theorem cd_102 : cdW 102 ∈ lw_tbl := List.mem_of_getElem? (i := 1126) rfl
set_option maxRecDepth 100000 in
theorem cd_103 : cdW 103 ∈ lw_tbl := List.mem_of_getElem? (i := 1130) rfl
set_option maxRecDepth 100000 in
theorem cd_104 : cdW 104 ∈ lw_tbl := List.mem_of_getElem? (i := 1134) rfl
set_option maxRecDepth 100000 in
theorem cd_105 : cdW 105 ∈ lw_tbl := List.mem_of_getElem? (i := 1114) rfl
set_option maxRecDepth 100000 in
theorem cd_106 : cdW 106 ∈ lw_tbl := List.mem_of_getElem? (i := 1062) rfl
set_option maxRecDepth 100000 in
theorem cd_107 : cdW 107 ∈ lw_tbl := List.mem_of_getElem? (i := 1090) rfl
set_option maxRecDepth 100000 in
theorem cd_108 : cdW 108 ∈ lw_tbl := List.mem_of_getElem? (i := 1094) rfl
set_option maxRecDepth 100000 in
theorem cd_109 : cdW 109 ∈ lw_tbl := List.mem_of_getElem? (i := 1070) rfl
set_option maxRecDepth 100000 in
theorem cd_110 : cdW 110 ∈ lw_tbl := List.mem_of_getElem? (i := 1066) rfl
set_option maxRecDepth 100000 in
theorem cd_111 : cdW 111 ∈ lw_tbl := List.mem_of_getElem? (i := 1098) rfl
set_option maxRecDepth 100000 in
theorem cd_112 : cdW 112 ∈ lw_tbl := List.mem_of_getElem? (i := 1082) rfl
set_option maxRecDepth 100000 in
theorem cd_113 : cdW 113 ∈ lw_tbl := List.mem_of_getElem? (i := 1086) rfl
set_option maxRecDepth 100000 in
theorem cd_114 : cdW 114 ∈ lw_tbl := List.mem_of_getElem? (i := 1054) rfl
set_option maxRecDepth 100000 in
theorem cd_115 : cdW 115 ∈ lw_tbl := List.mem_of_getElem? (i := 1050) rfl
set_option maxRecDepth 100000 in
theorem cd_116 : cdW 116 ∈ lw_tbl := List.mem_of_getElem? (i := 1183) rfl
set_option maxRecDepth 100000 in
theorem cd_117 : cdW 117 ∈ lw_tbl := List.mem_of_getElem? (i := 1045) rfl
set_option maxRecDepth 100000 in
theorem cd_118 : cdW 118 ∈ lw_tbl := List.mem_of_getElem? (i := 1106) rfl
set_option maxRecDepth 100000 in
theorem cd_119 : cdW 119 ∈ lw_tbl := List.mem_of_getElem? (i := 1102) rfl
set_option maxRecDepth 100000 in
theorem cd_120 : cdW 120 ∈ lw_tbl := List.mem_of_getElem? (i := 1110) rfl
set_option maxRecDepth 100000 in
theorem cd_121 : cdW 121 ∈ lw_tbl := List.mem_of_getElem? (i := 1138) rfl
set_option maxRecDepth 100000 in
theorem cd_122 : cdW 122 ∈ lw_tbl := List.mem_of_getElem? (i := 1147) rfl
set_option maxRecDepth 100000 in
theorem cd_123 : cdW 123 ∈ lw_tbl := List.mem_of_getElem? (i := 1143) rfl
set_option maxRecDepth 100000 in
theorem cd_124 : cdW 124 ∈ lw_tbl := List.mem_of_getElem? (i := 1151) rfl
set_option maxRecDepth 100000 in
theorem cd_125 : cdW 125 ∈ lw_tbl := List.mem_of_getElem? (i := 1155) rfl
set_option maxRecDepth 100000 in
theorem cd_126 : cdW 126 ∈ lw_tbl := List.mem_of_getElem? (i := 1159) rfl
set_option maxRecDepth 100000 in
theorem cd_127 : cdW 127 ∈ lw_tbl := List.mem_of_getElem? (i := 1163) rfl
set_option maxRecDepth 100000 in
theorem cd_128 : cdW 128 ∈ lw_tbl := List.mem_of_getElem? (i := 1167) rfl
set_option maxRecDepth 100000 in
theorem cd_129 : cdW 129 ∈ lw_tbl := List.mem_of_getElem? (i := 1171) rfl
set_option maxRecDepth 100000 in
theorem cd_130 : cdW 130 ∈ lw_tbl := List.mem_of_getElem? (i := 1179) rfl
set_option maxRecDepth 100000 in
theorem cd_131 : cdW 131 ∈ lw_tbl := List.mem_of_getElem? (i := 1175) rfl
set_option maxRecDepth 100000 in
theorem cd_132 : cdW 132 ∈ lw_tbl := List.mem_of_getElem? (i := 1195) rfl
set_option maxRecDepth 100000 in
theorem cd_133 : cdW 133 ∈ lw_tbl := List.mem_of_getElem? (i := 1191) rfl
set_option maxRecDepth 100000 in
theorem cd_134 : cdW 134 ∈ lw_tbl := List.mem_of_getElem? (i := 1187) rfl
set_option maxRecDepth 100000 in
theorem cd_135 : cdW 135 ∈ lw_tbl := List.mem_of_getElem? (i := 1199) rfl
set_option maxRecDepth 100000 in
theorem cd_136 : cdW 136 ∈ lw_tbl := List.mem_of_getElem? (i := 1203) rfl
set_option maxRecDepth 100000 in
theorem cd_137 : cdW 137 ∈ lw_tbl := List.mem_of_getElem? (i := 1207) rfl
set_option maxRecDepth 100000 in
theorem cd_138 : cdW 138 ∈ lw_tbl := List.mem_of_getElem? (i := 1215) rfl
set_option maxRecDepth 100000 in
theorem cd_139 : cdW 139 ∈ lw_tbl := List.mem_of_getElem? (i := 1211) rfl
set_option maxRecDepth 100000 in
theorem cd_140 : cdW 140 ∈ lw_tbl := List.mem_of_getElem? (i := 1223) rfl
set_option maxRecDepth 100000 in
theorem cd_141 : cdW 141 ∈ lw_tbl := List.mem_of_getElem? (i := 1219) rfl
set_option maxRecDepth 100000 in
theorem cd_142 : cdW 142 ∈ lw_tbl := List.mem_of_getElem? (i := 1227) rfl
set_option maxRecDepth 100000 in
theorem cd_143 : cdW 143 ∈ lw_tbl := List.mem_of_getElem? (i := 1231) rfl
set_option maxRecDepth 100000 in
theorem cd_144 : cdW 144 ∈ lw_tbl := List.mem_of_getElem? (i := 1239) rfl
set_option maxRecDepth 100000 in
theorem cd_145 : cdW 145 ∈ lw_tbl := List.mem_of_getElem? (i := 1247) rfl
set_option maxRecDepth 100000 in
theorem cd_146 : cdW 146 ∈ lw_tbl := List.mem_of_getElem? (i := 1243) rfl
set_option maxRecDepth 100000 in
theorem cd_147 : cdW 147 ∈ lw_tbl := List.mem_of_getElem? (i := 1251) rfl
set_option maxRecDepth 100000 in
theorem cd_148 : cdW 148 ∈ lw_tbl := List.mem_of_getElem? (i := 1235) rfl
set_option maxRecDepth 100000 in
theorem cd_149 : cdW 149 ∈ lw_tbl := List.mem_of_getElem? (i := 516) rfl
set_option maxRecDepth 100000 in
theorem cd_150 : cdW 150 ∈ lw_tbl := List.mem_of_getElem? (i := 742) rfl
set_option maxRecDepth 100000 in
theorem cd_151 : cdW 151 ∈ lw_tbl := List.mem_of_getElem? (i := 754) rfl
set_option maxRecDepth 100000 in
theorem cd_152 : cdW 152 ∈ lw_tbl := List.mem_of_getElem? (i := 803) rfl
set_option maxRecDepth 100000 in
theorem cd_153 : cdW 153 ∈ lw_tbl := List.mem_of_getElem? (i := 595) rfl
set_option maxRecDepth 100000 in
theorem cd_154 : cdW 154 ∈ lw_tbl := List.mem_of_getElem? (i := 543) rfl
theorem cd_in : ∀ m, m < 155 → cdW m ∈ lw_tbl := by
  intro m hm
  match m, hm with
  | 0, _ => exact cd_0
  | 1, _ => exact cd_1
  | 2, _ => exact cd_2
  | 3, _ => exact cd_3
  | 4, _ => exact cd_4
  | 5, _ => exact cd_5
  | 6, _ => exact cd_6
  | 7, _ => exact cd_7
  | 8, _ => exact cd_8
  | 9, _ => exact cd_9
  | 10, _ => exact cd_10
  | 11, _ => exact cd_11
  | 12, _ => exact cd_12
  | 13, _ => exact cd_13
  | 14, _ => exact cd_14
  | 15, _ => exact cd_15
  | 16, _ => exact cd_16
  | 17, _ => exact cd_17
  | 18, _ => exact cd_18
  | 19, _ => exact cd_19
  | 20, _ => exact cd_20
  | 21, _ => exact cd_21
  | 22, _ => exact cd_22
  | 23, _ => exact cd_23
  | 24, _ => exact cd_24
  | 25, _ => exact cd_25
  | 26, _ => exact cd_26
  | 27, _ => exact cd_27
  | 28, _ => exact cd_28
  | 29, _ => exact cd_29
  | 30, _ => exact cd_30
  | 31, _ => exact cd_31
  | 32, _ => exact cd_32
  | 33, _ => exact cd_33
  | 34, _ => exact cd_34
  | 35, _ => exact cd_35
  | 36, _ => exact cd_36
  | 37, _ => exact cd_37
  | 38, _ => exact cd_38
  | 39, _ => exact cd_39
  | 40, _ => exact cd_40
  | 41, _ => exact cd_41
  | 42, _ => exact cd_42
  | 43, _ => exact cd_43
  | 44, _ => exact cd_44
  | 45, _ => exact cd_45
  | 46, _ => exact cd_46
  | 47, _ => exact cd_47
  | 48, _ => exact cd_48
  | 49, _ => exact cd_49
  | 50, _ => exact cd_50
  | 51, _ => exact cd_51
  | 52, _ => exact cd_52
  | 53, _ => exact cd_53
  | 54, _ => exact cd_54
  | 55, _ => exact cd_55
  | 56, _ => exact cd_56
  | 57, _ => exact cd_57
  | 58, _ => exact cd_58
  | 59, _ => exact cd_59
  | 60, _ => exact cd_60
  | 61, _ => exact cd_61
  | 62, _ => exact cd_62
  | 63, _ => exact cd_63
  | 64, _ => exact cd_64
  | 65, _ => exact cd_65
  | 66, _ => exact cd_66
  | 67, _ => exact cd_67
  | 68, _ => exact cd_68
  | 69, _ => exact cd_69
  | 70, _ => exact cd_70
  | 71, _ => exact cd_71
  | 72, _ => exact cd_72
  | 73, _ => exact cd_73
  | 74, _ => exact cd_74
  | 75, _ => exact cd_75
  | 76, _ => exact cd_76
  | 77, _ => exact cd_77
  | 78, _ => exact cd_78
  | 79, _ => exact cd_79
  | 80, _ => exact cd_80
  | 81, _ => exact cd_81
  | 82, _ => exact cd_82
  | 83, _ => exact cd_83
  | 84, _ => exact cd_84
  | 85, _ => exact cd_85
  | 86, _ => exact cd_86
  | 87, _ => exact cd_87
  | 88, _ => exact cd_88
  | 89, _ => exact cd_89
  | 90, _ => exact cd_90
  | 91, _ => exact cd_91
  | 92, _ => exact cd_92
  | 93, _ => exact cd_93
  | 94, _ => exact cd_94
  | 95, _ => exact cd_95
  | 96, _ => exact cd_96
  | 97, _ => exact cd_97
  | 98, _ => exact cd_98
  | 99, _ => exact cd_99
  | 100, _ => exact cd_100
  | 101, _ => exact cd_101
  | 102, _ => exact cd_102
  | 103, _ => exact cd_103
  | 104, _ => exact cd_104
  | 105, _ => exact cd_105
  | 106, _ => exact cd_106
  | 107, _ => exact cd_107
  | 108, _ => exact cd_108
  | 109, _ => exact cd_109
  | 110, _ => exact cd_110
  | 111, _ => exact cd_111
  | 112, _ => exact cd_112
  | 113, _ => exact cd_113
  | 114, _ => exact cd_114
  | 115, _ => exact cd_115
  | 116, _ => exact cd_116
  | 117, _ => exact cd_117
  | 118, _ => exact cd_118
  | 119, _ => exact cd_119
  | 120, _ => exact cd_120
  | 121, _ => exact cd_121
  | 122, _ => exact cd_122
  | 123, _ => exact cd_123
  | 124, _ => exact cd_124
  | 125, _ => exact cd_125
  | 126, _ => exact cd_126
  | 127, _ => exact cd_127
  | 128, _ => exact cd_128
  | 129, _ => exact cd_129
  | 130, _ => exact cd_130
  | 131, _ => exact cd_131
  | 132, _ => exact cd_132
  | 133, _ => exact cd_133
  | 134, _ => exact cd_134
  | 135, _ => exact cd_135
  | 136, _ => exact cd_136
  | 137, _ => exact cd_137
  | 138, _ => exact cd_138
  | 139, _ => exact cd_139
  | 140, _ => exact cd_140
  | 141, _ => exact cd_141
  | 142, _ => exact cd_142
  | 143, _ => exact cd_143
  | 144, _ => exact cd_144
  | 145, _ => exact cd_145
  | 146, _ => exact cd_146
  | 147, _ => exact cd_147
  | 148, _ => exact cd_148
  | 149, _ => exact cd_149
  | 150, _ => exact cd_150
  | 151, _ => exact cd_151
  | 152, _ => exact cd_152
  | 153, _ => exact cd_153
  | 154, _ => exact cd_154
  | n + 155, h => omega
def virtL : List Nat := [1, 2, 3, 4, 5, 6, 8, 9, 10, 11, 12, 13, 14, 15, 17, 18, 20, 21, 23, 24, 25, 27, 28, 30, 31, 33, 34, 35, 37, 38, 39, 40, 41, 42, 43, 44, 45, 46, 47, 48, 49, 50, 51, 52, 53, 54, 55, 56, 57, 58, 59, 62, 63, 64, 65, 66, 67, 68, 69, 70, 71, 72, 73, 74, 75, 76, 77, 78, 79, 80, 81, 83, 84, 85, 86, 87, 88, 89, 90, 93, 94, 95, 96, 97, 98, 99, 100, 101, 102, 103, 104, 105, 106, 107, 108, 109, 110, 111, 112, 113, 114, 115, 116, 117, 118, 119, 120, 121, 122, 123, 124, 125, 126, 127, 128, 129, 130, 131, 132, 133, 134, 135, 136, 137, 138, 139, 140, 141, 142, 143, 144, 145, 146, 147, 148, 150, 151, 152]
def instL : List Nat := [0, 1, 2, 3, 4, 5, 6, 7, 8, 9, 10, 11, 12, 13, 14, 15, 16, 17, 18, 19, 20, 21, 22, 23, 24, 25, 26, 27, 28, 29, 30, 31, 32, 33, 34, 35, 36, 37, 38, 39, 40, 41, 42, 43, 44, 45, 46, 47, 48, 49, 50, 51, 52, 53, 54, 55, 56, 57, 58, 59, 62, 63, 64, 65, 66, 67, 68, 69, 70, 71, 72, 73, 74, 75, 76, 77, 78, 79, 80, 81, 83, 84, 85, 86, 87, 88, 89, 90, 91, 93, 94, 95, 96, 97, 98, 99, 100, 101, 102, 103, 104, 105, 106, 107, 108, 109, 110, 111, 112, 113, 114, 115, 116, 117, 118, 119, 120, 121, 122, 123, 124, 125, 126, 127, 128, 129, 130, 131, 132, 133, 134, 135, 136, 137, 138, 139, 140, 141, 142, 143, 144, 145, 146, 147, 148, 150, 151, 152]
def statL : List Nat := [60, 61, 82, 92, 149, 153, 154]
theorem im_in : ∀ w ∈ instL.map (fun m => Cond.instanceMethod (yT m)), w ∈ lw_tbl := in_r _ [137, 569, 574, 578, 583, 587, 591, 427, 503, 637, 644, 597, 418, 680, 696, 511, 96, 507, 538, 333, 393, 401, 232, 780, 786, 793, 116, 518, 526, 204, 756, 760, 182, 565, 561, 809, 84, 322, 385, 397, 405, 617, 648, 652, 660, 664, 668, 672, 676, 684, 688, 705, 717, 728, 732, 736, 748, 764, 768, 776, 390, 722, 622, 626, 630, 634, 423, 610, 657, 523, 614, 531, 602, 535, 606, 550, 546, 554, 558, 415, 693, 702, 745, 773, 411, 710, 714, 805, 815, 1036, 1024, 1031, 1039, 1057, 1077, 1073, 1117, 1121, 1125, 1129, 1133, 1113, 1061, 1089, 1093, 1069, 1065, 1097, 1081, 1085, 1053, 1049, 1182, 1043, 1105, 1100, 1109, 1136, 1146, 1141, 1149, 1153, 1157, 1161, 1165, 1169, 1178, 1173, 1194, 1190, 1185, 1197, 1201, 1205, 1214, 1209, 1222, 1217, 1225, 1229, 1238, 1246, 1242, 1250, 1233, 741, 753, 802] (by decide +kernel)
theorem sel_in : ∀ w ∈ virtL.map (fun m => Cond.selects (yT m).cls (yT m) (yT m)), w ∈ lw_tbl := in_r _ [570, 11, 12, 13, 14, 15, 504, 638, 645, 598, 419, 681, 697, 512, 508, 539, 394, 402, 781, 787, 794, 519, 527, 757, 761, 566, 562, 810, 323, 386, 398, 406, 618, 649, 653, 661, 665, 669, 673, 677, 685, 689, 706, 718, 729, 733, 737, 749, 765, 769, 777, 0, 29, 20, 21, 22, 23, 3, 18, 24, 4, 19, 5, 16, 6, 17, 8, 7, 9, 10, 2, 25, 26, 31, 33, 1, 27, 28, 806, 35, 1025, 1032, 1040, 38, 43, 42, 52, 53, 54, 55, 56, 51, 39, 46, 47, 41, 40, 48, 44, 45, 37, 36, 59, 1044, 49, 1101, 50, 1137, 57, 1142, 1150, 1154, 1158, 1162, 1166, 1170, 58, 1174, 61, 60, 1186, 1198, 1202, 1206, 62, 1210, 63, 1218, 1226, 1230, 64, 66, 65, 67, 1234, 30, 32, 34] (by decide +kernel)
theorem st_in : ∀ w ∈ statL.map (fun m => Cond.static (yT m)), w ∈ lw_tbl := in_r _ [329, 326, 725, 1028, 515, 594, 542] (by decide +kernel)
theorem obj_in : ∀ w ∈ [Cond.instanceMethod objectInit, Cond.arrayClass .int, Cond.arrayClass .boolean, Cond.arrayOver (.object RX1), Cond.arrayOver (.object RX3), Cond.arrayOver (.object RX7)], w ∈ lw_tbl := in_r _ [87, 178, 133, 92, 90, 236] (by decide +kernel)
theorem objc_in : ∀ w ∈ [Cond.code objectInit ⟨#[0xb1]⟩ 1 none], w ∈ lw_tbl := in_r _ [88] rfl

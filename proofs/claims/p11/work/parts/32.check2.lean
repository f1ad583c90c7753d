set_option maxRecDepth 100000 in
theorem zd0 : k2L lw_tbl zCk zSs zZs zOs zK zM0 0 zC0 = true := by decide +kernel
set_option maxRecDepth 100000 in
theorem zd1 : k2L lw_tbl zCk zSs zZs zOs zK zM1 0 zC1 = true := by decide +kernel
set_option maxRecDepth 100000 in
theorem zd2 : k2L lw_tbl zCk zSs zZs zOs zK zM2 0 zC2 = true := by decide +kernel
set_option maxRecDepth 100000 in
theorem zd3 : k2L lw_tbl zCk zSs zZs zOs zK zM3 0 zC3 = true := by decide +kernel
set_option maxRecDepth 100000 in
theorem zd4 : k2L lw_tbl zCk zSs zZs zOs zK zM4 0 zC4 = true := by decide +kernel
set_option maxRecDepth 100000 in
theorem zd5 : k2L lw_tbl zCk zSs zZs zOs zK zM5 0 zC5 = true := by decide +kernel
set_option maxRecDepth 100000 in
theorem zd6 : k2L lw_tbl zCk zSs zZs zOs zK zM6 0 zC6 = true := by decide +kernel
set_option maxRecDepth 100000 in
theorem zd7 : k2L lw_tbl zCk zSs zZs zOs zK zM7 0 zC7 = true := by decide +kernel
set_option maxRecDepth 100000 in
theorem zd8 : k2L lw_tbl zCk zSs zZs zOs zK zM8 0 zC8 = true := by decide +kernel
set_option maxRecDepth 100000 in
theorem zd9 : k2L lw_tbl zCk zSs zZs zOs zK zM9 0 zC9 = true := by decide +kernel
set_option maxRecDepth 100000 in
theorem zd10 : k2L lw_tbl zCk zSs zZs zOs zK zM10 0 zC10 = true := by decide +kernel
set_option maxRecDepth 100000 in
theorem zd11 : k2L lw_tbl zCk zSs zZs zOs zK zM11 0 zC11 = true := by decide +kernel
set_option maxRecDepth 100000 in
theorem zd12 : k2L lw_tbl zCk zSs zZs zOs zK zM12 0 zC12 = true := by decide +kernel
set_option maxRecDepth 100000 in
theorem zd13 : k2L lw_tbl zCk zSs zZs zOs zK zM13 0 zC13 = true := by decide +kernel
set_option maxRecDepth 100000 in
theorem zd14 : k2L lw_tbl zCk zSs zZs zOs zK zM14 0 zC14 = true := by decide +kernel
set_option maxRecDepth 100000 in
theorem zd15 : k2L lw_tbl zCk zSs zZs zOs zK zM15 0 zC15 = true := by decide +kernel
set_option maxRecDepth 100000 in
theorem zd16 : k2L lw_tbl zCk zSs zZs zOs zK zM16 0 zC16 = true := by decide +kernel
set_option maxRecDepth 100000 in
theorem zd17 : k2L lw_tbl zCk zSs zZs zOs zK zM17 0 zC17 = true := by decide +kernel
set_option maxRecDepth 100000 in
theorem zd18 : k2L lw_tbl zCk zSs zZs zOs zK zM18 0 zC18 = true := by decide +kernel
set_option maxRecDepth 100000 in
theorem zd19 : k2L lw_tbl zCk zSs zZs zOs zK zM19 0 zC19 = true := by decide +kernel
set_option maxRecDepth 100000 in
theorem zd20 : k2L lw_tbl zCk zSs zZs zOs zK zM20 0 zC20 = true := by decide +kernel
set_option maxRecDepth 100000 in
theorem zd21 : k2L lw_tbl zCk zSs zZs zOs zK zM21 0 zC21 = true := by decide +kernel
set_option maxRecDepth 100000 in
theorem zd22 : k2L lw_tbl zCk zSs zZs zOs zK zM22 0 zC22 = true := by decide +kernel
set_option maxRecDepth 100000 in
theorem zd23 : k2L lw_tbl zCk zSs zZs zOs zK zM23 0 zC23 = true := by decide +kernel
set_option maxRecDepth 100000 in
theorem zd24 : k2L lw_tbl zCk zSs zZs zOs zK zM24 0 zC24 = true := by decide +kernel
set_option maxRecDepth 100000 in
theorem zd25 : k2L lw_tbl zCk zSs zZs zOs zK zM25 0 zC25 = true := by decide +kernel
set_option maxRecDepth 100000 in
theorem zd26 : k2L lw_tbl zCk zSs zZs zOs zK zM26 0 zC26 = true := by decide +kernel
set_option maxRecDepth 100000 in
theorem zd27 : k2L lw_tbl zCk zSs zZs zOs zK zM27 0 zC27 = true := by decide +kernel
set_option maxRecDepth 100000 in
theorem zd28 : k2L lw_tbl zCk zSs zZs zOs zK zM28 0 zC28 = true := by decide +kernel
set_option maxRecDepth 100000 in
theorem zd29 : k2L lw_tbl zCk zSs zZs zOs zK zM29 0 zC29 = true := by decide +kernel
set_option maxRecDepth 100000 in
theorem zd30 : k2L lw_tbl zCk zSs zZs zOs zK zM30 0 zC30 = true := by decide +kernel
set_option maxRecDepth 100000 in
theorem zd31 : k2L lw_tbl zCk zSs zZs zOs zK zM31 0 zC31 = true := by decide +kernel
set_option maxRecDepth 100000 in
theorem zd32 : k2L lw_tbl zCk zSs zZs zOs zK zM32 0 zC32 = true := by decide +kernel
set_option maxRecDepth 100000 in
theorem zd33 : k2L lw_tbl zCk zSs zZs zOs zK zM33 0 zC33 = true := by decide +kernel
set_option maxRecDepth 100000 in
theorem zd34 : k2L lw_tbl zCk zSs zZs zOs zK zM34 0 zC34 = true := by decide +kernel
set_option maxRecDepth 100000 in
theorem zd35 : k2L lw_tbl zCk zSs zZs zOs zK zM35 0 zC35 = true := by decide +kernel
set_option maxRecDepth 100000 in
theorem zd36 : k2L lw_tbl zCk zSs zZs zOs zK zM36 0 zC36 = true := by decide +kernel
set_option maxRecDepth 100000 in
theorem zd37 : k2L lw_tbl zCk zSs zZs zOs zK zM37 0 zC37 = true := by decide +kernel
set_option maxRecDepth 100000 in
theorem zd38 : k2L lw_tbl zCk zSs zZs zOs zK zM38 0 zC38 = true := by decide +kernel
set_option maxRecDepth 100000 in
theorem zd39 : k2L lw_tbl zCk zSs zZs zOs zK zM39 0 zC39 = true := by decide +kernel
set_option maxRecDepth 100000 in
theorem zd40 : k2L lw_tbl zCk zSs zZs zOs zK zM40 0 zC40 = true := by decide +kernel
set_option maxRecDepth 100000 in
theorem zd41 : k2L lw_tbl zCk zSs zZs zOs zK zM41 0 zC41 = true := by decide +kernel
set_option maxRecDepth 100000 in
theorem zd42 : k2L lw_tbl zCk zSs zZs zOs zK zM42 0 zC42 = true := by decide +kernel
set_option maxRecDepth 100000 in
theorem zd43 : k2L lw_tbl zCk zSs zZs zOs zK zM43 0 zC43 = true := by decide +kernel
set_option maxRecDepth 100000 in
theorem zd44 : k2L lw_tbl zCk zSs zZs zOs zK zM44 0 zC44 = true := by decide +kernel
set_option maxRecDepth 100000 in
theorem zd45 : k2L lw_tbl zCk zSs zZs zOs zK zM45 0 zC45 = true := by decide +kernel
set_option maxRecDepth 100000 in
theorem zd46 : k2L lw_tbl zCk zSs zZs zOs zK zM46 0 zC46 = true := by decide +kernel
set_option maxRecDepth 100000 in
theorem zd47 : k2L lw_tbl zCk zSs zZs zOs zK zM47 0 zC47 = true := by decide +kernel
set_option maxRecDepth 100000 in
theorem zd48 : k2L lw_tbl zCk zSs zZs zOs zK zM48 0 zC48 = true := by decide +kernel
set_option maxRecDepth 100000 in
theorem zd49 : k2L lw_tbl zCk zSs zZs zOs zK zM49 0 zC49 = true := by decide +kernel
set_option maxRecDepth 100000 in
theorem zd50 : k2L lw_tbl zCk zSs zZs zOs zK zM50 0 zC50 = true := by decide +kernel
set_option maxRecDepth 100000 in
theorem zd51 : k2L lw_tbl zCk zSs zZs zOs zK zM51 0 zC51 = true := by decide +kernel
set_option maxRecDepth 100000 in
theorem zd52 : k2L lw_tbl zCk zSs zZs zOs zK zM52 0 zC52 = true := by decide +kernel
set_option maxRecDepth 100000 in
theorem zd53 : k2L lw_tbl zCk zSs zZs zOs zK zM53 0 zC53 = true := by decide +kernel
set_option maxRecDepth 100000 in
theorem zd54 : k2L lw_tbl zCk zSs zZs zOs zK zM54 0 zC54 = true := by decide +kernel
set_option maxRecDepth 100000 in
theorem zd55 : k2L lw_tbl zCk zSs zZs zOs zK zM55 0 zC55 = true := by decide +kernel
set_option maxRecDepth 100000 in
theorem zd56 : k2L lw_tbl zCk zSs zZs zOs zK zM56 0 zC56 = true := by decide +kernel
set_option maxRecDepth 100000 in
theorem zd57 : k2L lw_tbl zCk zSs zZs zOs zK zM57 0 zC57 = true := by decide +kernel
set_option maxRecDepth 100000 in
theorem zd58 : k2L lw_tbl zCk zSs zZs zOs zK zM58 0 zC58 = true := by decide +kernel
set_option maxRecDepth 100000 in
theorem zd59 : k2L lw_tbl zCk zSs zZs zOs zK zM59 0 zC59 = true := by decide +kernel
set_option maxRecDepth 100000 in
theorem zd60 : k2L lw_tbl zCk zSs zZs zOs zK zM60 0 zC60 = true := by decide +kernel
set_option maxRecDepth 100000 in
theorem zd61 : k2L lw_tbl zCk zSs zZs zOs zK zM61 0 zC61 = true := by decide +kernel
set_option maxRecDepth 100000 in
theorem zd62 : k2L lw_tbl zCk zSs zZs zOs zK zM62 0 zC62 = true := by decide +kernel
set_option maxRecDepth 100000 in
theorem zd63 : k2L lw_tbl zCk zSs zZs zOs zK zM63 0 zC63 = true := by decide +kernel
set_option maxRecDepth 100000 in
theorem zd64 : k2L lw_tbl zCk zSs zZs zOs zK zM64 0 zC64 = true := by decide +kernel
set_option maxRecDepth 100000 in
theorem zd65 : k2L lw_tbl zCk zSs zZs zOs zK zM65 0 zC65 = true := by decide +kernel
set_option maxRecDepth 100000 in
theorem zd66 : k2L lw_tbl zCk zSs zZs zOs zK zM66 0 zC66 = true := by decide +kernel
set_option maxRecDepth 100000 in
theorem zd67 : k2L lw_tbl zCk zSs zZs zOs zK zM67 0 zC67 = true := by decide +kernel
set_option maxRecDepth 100000 in
theorem zd68 : k2L lw_tbl zCk zSs zZs zOs zK zM68 0 zC68 = true := by decide +kernel
set_option maxRecDepth 100000 in
theorem zd69 : k2L lw_tbl zCk zSs zZs zOs zK zM69 0 zC69 = true := by decide +kernel
set_option maxRecDepth 100000 in
theorem zd70 : k2L lw_tbl zCk zSs zZs zOs zK zM70 0 zC70 = true := by decide +kernel
set_option maxRecDepth 100000 in
theorem zd71 : k2L lw_tbl zCk zSs zZs zOs zK zM71 0 zC71 = true := by decide +kernel
set_option maxRecDepth 100000 in
theorem zd72 : k2L lw_tbl zCk zSs zZs zOs zK zM72 0 zC72 = true := by decide +kernel
set_option maxRecDepth 100000 in
theorem zd73 : k2L lw_tbl zCk zSs zZs zOs zK zM73 0 zC73 = true := by decide +kernel
set_option maxRecDepth 100000 in
theorem zd74 : k2L lw_tbl zCk zSs zZs zOs zK zM74 0 zC74 = true := by decide +kernel
set_option maxRecDepth 100000 in
theorem zd75 : k2L lw_tbl zCk zSs zZs zOs zK zM75 0 zC75 = true := by decide +kernel
set_option maxRecDepth 100000 in
theorem zd76 : k2L lw_tbl zCk zSs zZs zOs zK zM76 0 zC76 = true := by decide +kernel
set_option maxRecDepth 100000 in
theorem zd77 : k2L lw_tbl zCk zSs zZs zOs zK zM77 0 zC77 = true := by decide +kernel
set_option maxRecDepth 100000 in
theorem zd78 : k2L lw_tbl zCk zSs zZs zOs zK zM78 0 zC78 = true := by decide +kernel
set_option maxRecDepth 100000 in
theorem zd79 : k2L lw_tbl zCk zSs zZs zOs zK zM79 0 zC79 = true := by decide +kernel
set_option maxRecDepth 100000 in
theorem zd80 : k2L lw_tbl zCk zSs zZs zOs zK zM80 0 zC80 = true := by decide +kernel
set_option maxRecDepth 100000 in
theorem zd81 : k2L lw_tbl zCk zSs zZs zOs zK zM81 0 zC81 = true := by decide +kernel
set_option maxRecDepth 100000 in
theorem zd82 : k2L lw_tbl zCk zSs zZs zOs zK zM82 0 zC82 = true := by decide +kernel
set_option maxRecDepth 100000 in
theorem zd83 : k2L lw_tbl zCk zSs zZs zOs zK zM83 0 zC83 = true := by decide +kernel
set_option maxRecDepth 100000 in
theorem zd84 : k2L lw_tbl zCk zSs zZs zOs zK zM84 0 zC84 = true := by decide +kernel
set_option maxRecDepth 100000 in
theorem zd85 : k2L lw_tbl zCk zSs zZs zOs zK zM85 0 zC85 = true := by decide +kernel
set_option maxRecDepth 100000 in
theorem zd86 : k2L lw_tbl zCk zSs zZs zOs zK zM86 0 zC86 = true := by decide +kernel
set_option maxRecDepth 100000 in
theorem zd87 : k2L lw_tbl zCk zSs zZs zOs zK zM87 0 zC87 = true := by decide +kernel
set_option maxRecDepth 100000 in
theorem zd88 : k2L lw_tbl zCk zSs zZs zOs zK zM88 0 zC88 = true := by decide +kernel
set_option maxRecDepth 100000 in
theorem zd89 : k2L lw_tbl zCk zSs zZs zOs zK zM89 0 zC89 = true := by decide +kernel
set_option maxRecDepth 100000 in
theorem zd90 : k2L lw_tbl zCk zSs zZs zOs zK zM90 0 zC90 = true := by decide +kernel
set_option maxRecDepth 100000 in
theorem zd91 : k2L lw_tbl zCk zSs zZs zOs zK zM91 0 zC91 = true := by decide +kernel
set_option maxRecDepth 100000 in
theorem zd92 : k2L lw_tbl zCk zSs zZs zOs zK zM92 0 zC92 = true := by decide +kernel
set_option maxRecDepth 100000 in
theorem zd93 : k2L lw_tbl zCk zSs zZs zOs zK zM93 0 zC93 = true := by decide +kernel
set_option maxRecDepth 100000 in
theorem zd94 : k2L lw_tbl zCk zSs zZs zOs zK zM94 0 zC94 = true := by decide +kernel
set_option maxRecDepth 100000 in
theorem zd95 : k2L lw_tbl zCk zSs zZs zOs zK zM95 0 zC95 = true := by decide +kernel
set_option maxRecDepth 100000 in
theorem zd96 : k2L lw_tbl zCk zSs zZs zOs zK zM96 0 zC96 = true := by decide +kernel
set_option maxRecDepth 100000 in
theorem zd97 : k2L lw_tbl zCk zSs zZs zOs zK zM97 0 zC97 = true := by decide +kernel
set_option maxRecDepth 100000 in
theorem zd98 : k2L lw_tbl zCk zSs zZs zOs zK zM98 0 zC98 = true := by decide +kernel
set_option maxRecDepth 100000 in
theorem zd99 : k2L lw_tbl zCk zSs zZs zOs zK zM99 0 zC99 = true := by decide +kernel
set_option maxRecDepth 100000 in
theorem zd100 : k2L lw_tbl zCk zSs zZs zOs zK zM100 0 zC100 = true := by decide +kernel
set_option maxRecDepth 100000 in
theorem zd101 : k2L lw_tbl zCk zSs zZs zOs zK zM101 0 zC101 = true := by decide +kernel
set_option maxRecDepth 100000 in
theorem zd102 : k2L lw_tbl zCk zSs zZs zOs zK zM102 0 zC102 = true := by decide +kernel
set_option maxRecDepth 100000 in
theorem zd103 : k2L lw_tbl zCk zSs zZs zOs zK zM103 0 zC103 = true := by decide +kernel
set_option maxRecDepth 100000 in
theorem zd104 : k2L lw_tbl zCk zSs zZs zOs zK zM104 0 zC104 = true := by decide +kernel
set_option maxRecDepth 100000 in
theorem zd105 : k2L lw_tbl zCk zSs zZs zOs zK zM105 0 zC105 = true := by decide +kernel
set_option maxRecDepth 100000 in
theorem zd106 : k2L lw_tbl zCk zSs zZs zOs zK zM106 0 zC106 = true := by decide +kernel
set_option maxRecDepth 100000 in
theorem zd107 : k2L lw_tbl zCk zSs zZs zOs zK zM107 0 zC107 = true := by decide +kernel
set_option maxRecDepth 100000 in
theorem zd108 : k2L lw_tbl zCk zSs zZs zOs zK zM108 0 zC108 = true := by decide +kernel
set_option maxRecDepth 100000 in
theorem zd109 : k2L lw_tbl zCk zSs zZs zOs zK zM109 0 zC109 = true := by decide +kernel
set_option maxRecDepth 100000 in
theorem zd110 : k2L lw_tbl zCk zSs zZs zOs zK zM110 0 zC110 = true := by decide +kernel
set_option maxRecDepth 100000 in
theorem zd111 : k2L lw_tbl zCk zSs zZs zOs zK zM111 0 zC111 = true := by decide +kernel
set_option maxRecDepth 100000 in
theorem zd112 : k2L lw_tbl zCk zSs zZs zOs zK zM112 0 zC112 = true := by decide +kernel
set_option maxRecDepth 100000 in
theorem zd113 : k2L lw_tbl zCk zSs zZs zOs zK zM113 0 zC113 = true := by decide +kernel
set_option maxRecDepth 100000 in
theorem zd114 : k2L lw_tbl zCk zSs zZs zOs zK zM114 0 zC114 = true := by decide +kernel
set_option maxRecDepth 100000 in
theorem zd115 : k2L lw_tbl zCk zSs zZs zOs zK zM115 0 zC115 = true := by decide +kernel
set_option maxRecDepth 100000 in
theorem zd116 : k2L lw_tbl zCk zSs zZs zOs zK zM116 0 zC116 = true := by decide +kernel
set_option maxRecDepth 100000 in
theorem zd117 : k2L lw_tbl zCk zSs zZs zOs zK zM117 0 zC117 = true := by decide +kernel
set_option maxRecDepth 100000 in
theorem zd118 : k2L lw_tbl zCk zSs zZs zOs zK zM118 0 zC118 = true := by decide +kernel
set_option maxRecDepth 100000 in
theorem zd119 : k2L lw_tbl zCk zSs zZs zOs zK zM119 0 zC119 = true := by decide +kernel
set_option maxRecDepth 100000 in
theorem zd120 : k2L lw_tbl zCk zSs zZs zOs zK zM120 0 zC120 = true := by decide +kernel
set_option maxRecDepth 100000 in
theorem zd121 : k2L lw_tbl zCk zSs zZs zOs zK zM121 0 zC121 = true := by decide +kernel
set_option maxRecDepth 100000 in
theorem zd122 : k2L lw_tbl zCk zSs zZs zOs zK zM122 0 zC122 = true := by decide +kernel
set_option maxRecDepth 100000 in
theorem zd123 : k2L lw_tbl zCk zSs zZs zOs zK zM123 0 zC123 = true := by decide +kernel
set_option maxRecDepth 100000 in
theorem zd124 : k2L lw_tbl zCk zSs zZs zOs zK zM124 0 zC124 = true := by decide +kernel
set_option maxRecDepth 100000 in
theorem zd125 : k2L lw_tbl zCk zSs zZs zOs zK zM125 0 zC125 = true := by decide +kernel
set_option maxRecDepth 100000 in
theorem zd126 : k2L lw_tbl zCk zSs zZs zOs zK zM126 0 zC126 = true := by decide +kernel
set_option maxRecDepth 100000 in
theorem zd127 : k2L lw_tbl zCk zSs zZs zOs zK zM127 0 zC127 = true := by decide +kernel
set_option maxRecDepth 100000 in
theorem zd128 : k2L lw_tbl zCk zSs zZs zOs zK zM128 0 zC128 = true := by decide +kernel
set_option maxRecDepth 100000 in
theorem zd129 : k2L lw_tbl zCk zSs zZs zOs zK zM129 0 zC129 = true := by decide +kernel
set_option maxRecDepth 100000 in
theorem zd130 : k2L lw_tbl zCk zSs zZs zOs zK zM130 0 zC130 = true := by decide +kernel
set_option maxRecDepth 100000 in
theorem zd131 : k2L lw_tbl zCk zSs zZs zOs zK zM131 0 zC131 = true := by decide +kernel
set_option maxRecDepth 100000 in
theorem zd132 : k2L lw_tbl zCk zSs zZs zOs zK zM132 0 zC132 = true := by decide +kernel
set_option maxRecDepth 100000 in
theorem zd133 : k2L lw_tbl zCk zSs zZs zOs zK zM133 0 zC133 = true := by decide +kernel
set_option maxRecDepth 100000 in
theorem zd134 : k2L lw_tbl zCk zSs zZs zOs zK zM134 0 zC134 = true := by decide +kernel
set_option maxRecDepth 100000 in
theorem zd135 : k2L lw_tbl zCk zSs zZs zOs zK zM135 0 zC135 = true := by decide +kernel
set_option maxRecDepth 100000 in
theorem zd136 : k2L lw_tbl zCk zSs zZs zOs zK zM136 0 zC136 = true := by decide +kernel
set_option maxRecDepth 100000 in
theorem zd137 : k2L lw_tbl zCk zSs zZs zOs zK zM137 0 zC137 = true := by decide +kernel
set_option maxRecDepth 100000 in
theorem zd138 : k2L lw_tbl zCk zSs zZs zOs zK zM138 0 zC138 = true := by decide +kernel
set_option maxRecDepth 100000 in
theorem zd139 : k2L lw_tbl zCk zSs zZs zOs zK zM139 0 zC139 = true := by decide +kernel
set_option maxRecDepth 100000 in
theorem zd140 : k2L lw_tbl zCk zSs zZs zOs zK zM140 0 zC140 = true := by decide +kernel
set_option maxRecDepth 100000 in
theorem zd141 : k2L lw_tbl zCk zSs zZs zOs zK zM141 0 zC141 = true := by decide +kernel
set_option maxRecDepth 100000 in
theorem zd142 : k2L lw_tbl zCk zSs zZs zOs zK zM142 0 zC142 = true := by decide +kernel
set_option maxRecDepth 100000 in
theorem zd143 : k2L lw_tbl zCk zSs zZs zOs zK zM143 0 zC143 = true := by decide +kernel
set_option maxRecDepth 100000 in
theorem zd144 : k2L lw_tbl zCk zSs zZs zOs zK zM144 0 zC144 = true := by decide +kernel
set_option maxRecDepth 100000 in
theorem zd145 : k2L lw_tbl zCk zSs zZs zOs zK zM145 0 zC145 = true := by decide +kernel
set_option maxRecDepth 100000 in
theorem zd146 : k2L lw_tbl zCk zSs zZs zOs zK zM146 0 zC146 = true := by decide +kernel
set_option maxRecDepth 100000 in
theorem zd147 : k2L lw_tbl zCk zSs zZs zOs zK zM147 0 zC147 = true := by decide +kernel
set_option maxRecDepth 100000 in
theorem zd148 : k2L lw_tbl zCk zSs zZs zOs zK zM148 0 zC148 = true := by decide +kernel
set_option maxRecDepth 100000 in
theorem zd149 : k2L lw_tbl zCk zSs zZs zOs zK zM149 0 zC149 = true := by decide +kernel
set_option maxRecDepth 100000 in
theorem zd150 : k2L lw_tbl zCk zSs zZs zOs zK zM150 0 zC150 = true := by decide +kernel
set_option maxRecDepth 100000 in
theorem zd151 : k2L lw_tbl zCk zSs zZs zOs zK zM151 0 zC151 = true := by decide +kernel
set_option maxRecDepth 100000 in
theorem zd152 : k2L lw_tbl zCk zSs zZs zOs zK zM152 0 zC152 = true := by decide +kernel
set_option maxRecDepth 100000 in
theorem zd153 : k2L lw_tbl zCk zSs zZs zOs zK zM153 0 zC153 = true := by decide +kernel
set_option maxRecDepth 100000 in
theorem zd154 : k2L lw_tbl zCk zSs zZs zOs zK zM154 0 zC154 = true := by decide +kernel
set_option maxRecDepth 100000 in
theorem zd155 : k2L lw_tbl zCk zSs zZs zOs zK zM155 0 zC155 = true := by decide +kernel
set_option maxRecDepth 100000 in
theorem zd156 : k2L lw_tbl zCk zSs zZs zOs zK zM156 0 zC156 = true := by decide +kernel
set_option maxRecDepth 100000 in
theorem zd157 : k2L lw_tbl zCk zSs zZs zOs zK zM157 0 zC157 = true := by decide +kernel
set_option maxRecDepth 100000 in
theorem zd158 : k2L lw_tbl zCk zSs zZs zOs zK zM158 0 zC158 = true := by decide +kernel
set_option maxRecDepth 100000 in
theorem zd159 : k2L lw_tbl zCk zSs zZs zOs zK zM159 0 zC159 = true := by decide +kernel
set_option maxRecDepth 100000 in
theorem zd160 : k2L lw_tbl zCk zSs zZs zOs zK zM160 0 zC160 = true := by decide +kernel
set_option maxRecDepth 100000 in
theorem zd161 : k2L lw_tbl zCk zSs zZs zOs zK zM161 0 zC161 = true := by decide +kernel
set_option maxRecDepth 100000 in
theorem zd162 : k2L lw_tbl zCk zSs zZs zOs zK zM162 0 zC162 = true := by decide +kernel
set_option maxRecDepth 100000 in
theorem zd163 : k2L lw_tbl zCk zSs zZs zOs zK zM163 0 zC163 = true := by decide +kernel
set_option maxRecDepth 100000 in
theorem zd164 : k2L lw_tbl zCk zSs zZs zOs zK zM164 0 zC164 = true := by decide +kernel
set_option maxRecDepth 100000 in
theorem zd165 : k2L lw_tbl zCk zSs zZs zOs zK zM165 0 zC165 = true := by decide +kernel
set_option maxRecDepth 100000 in
theorem zd166 : k2L lw_tbl zCk zSs zZs zOs zK zM166 0 zC166 = true := by decide +kernel
set_option maxRecDepth 100000 in
theorem zd167 : k2L lw_tbl zCk zSs zZs zOs zK zM167 0 zC167 = true := by decide +kernel
set_option maxRecDepth 100000 in
theorem zd168 : k2L lw_tbl zCk zSs zZs zOs zK zM168 0 zC168 = true := by decide +kernel
set_option maxRecDepth 100000 in
theorem zd169 : k2L lw_tbl zCk zSs zZs zOs zK zM169 0 zC169 = true := by decide +kernel
set_option maxRecDepth 100000 in
theorem zd170 : k2L lw_tbl zCk zSs zZs zOs zK zM170 0 zC170 = true := by decide +kernel
set_option maxRecDepth 100000 in
theorem zd171 : k2L lw_tbl zCk zSs zZs zOs zK zM171 0 zC171 = true := by decide +kernel
set_option maxRecDepth 100000 in
theorem zd172 : k2L lw_tbl zCk zSs zZs zOs zK zM172 0 zC172 = true := by decide +kernel
set_option maxRecDepth 100000 in
theorem zd173 : k2L lw_tbl zCk zSs zZs zOs zK zM173 0 zC173 = true := by decide +kernel
set_option maxRecDepth 100000 in
theorem zd174 : k2L lw_tbl zCk zSs zZs zOs zK zM174 0 zC174 = true := by decide +kernel
set_option maxRecDepth 100000 in
theorem zd175 : k2L lw_tbl zCk zSs zZs zOs zK zM175 0 zC175 = true := by decide +kernel
set_option maxRecDepth 100000 in
theorem zd176 : k2L lw_tbl zCk zSs zZs zOs zK zM176 0 zC176 = true := by decide +kernel
set_option maxRecDepth 100000 in
theorem zd177 : k2L lw_tbl zCk zSs zZs zOs zK zM177 0 zC177 = true := by decide +kernel
set_option maxRecDepth 100000 in
theorem zd178 : k2L lw_tbl zCk zSs zZs zOs zK zM178 0 zC178 = true := by decide +kernel
set_option maxRecDepth 100000 in
theorem zd179 : k2L lw_tbl zCk zSs zZs zOs zK zM179 0 zC179 = true := by decide +kernel
set_option maxRecDepth 100000 in
theorem zd180 : k2L lw_tbl zCk zSs zZs zOs zK zM180 0 zC180 = true := by decide +kernel
set_option maxRecDepth 100000 in
theorem zd181 : k2L lw_tbl zCk zSs zZs zOs zK zM181 0 zC181 = true := by decide +kernel
set_option maxRecDepth 100000 in
theorem zd182 : k2L lw_tbl zCk zSs zZs zOs zK zM182 0 zC182 = true := by decide +kernel
set_option maxRecDepth 100000 in
theorem zd183 : k2L lw_tbl zCk zSs zZs zOs zK zM183 0 zC183 = true := by decide +kernel
set_option maxRecDepth 100000 in
theorem zd184 : k2L lw_tbl zCk zSs zZs zOs zK zM184 0 zC184 = true := by decide +kernel
set_option maxRecDepth 100000 in
theorem zd185 : k2L lw_tbl zCk zSs zZs zOs zK zM185 0 zC185 = true := by decide +kernel
set_option maxRecDepth 100000 in
theorem zd186 : k2L lw_tbl zCk zSs zZs zOs zK zM186 0 zC186 = true := by decide +kernel
set_option maxRecDepth 100000 in
theorem zd187 : k2L lw_tbl zCk zSs zZs zOs zK zM187 0 zC187 = true := by decide +kernel
set_option maxRecDepth 100000 in
theorem zd188 : k2L lw_tbl zCk zSs zZs zOs zK zM188 0 zC188 = true := by decide +kernel
set_option maxRecDepth 100000 in
theorem zd189 : k2L lw_tbl zCk zSs zZs zOs zK zM189 0 zC189 = true := by decide +kernel
set_option maxRecDepth 100000 in
theorem zd190 : k2L lw_tbl zCk zSs zZs zOs zK zM190 0 zC190 = true := by decide +kernel
set_option maxRecDepth 100000 in
theorem zd191 : k2L lw_tbl zCk zSs zZs zOs zK zM191 0 zC191 = true := by decide +kernel
set_option maxRecDepth 100000 in
theorem zd192 : k2L lw_tbl zCk zSs zZs zOs zK zM192 0 zC192 = true := by decide +kernel
set_option maxRecDepth 100000 in
theorem zd193 : k2L lw_tbl zCk zSs zZs zOs zK zM193 0 zC193 = true := by decide +kernel
set_option maxRecDepth 100000 in
theorem zd194 : k2L lw_tbl zCk zSs zZs zOs zK zM194 0 zC194 = true := by decide +kernel
set_option maxRecDepth 100000 in
theorem zd195 : k2L lw_tbl zCk zSs zZs zOs zK zM195 0 zC195 = true := by decide +kernel
set_option maxRecDepth 100000 in
theorem zd196 : k2L lw_tbl zCk zSs zZs zOs zK zM196 0 zC196 = true := by decide +kernel
set_option maxRecDepth 100000 in
theorem zd197 : k2L lw_tbl zCk zSs zZs zOs zK zM197 0 zC197 = true := by decide +kernel
set_option maxRecDepth 100000 in
theorem zd198 : k2L lw_tbl zCk zSs zZs zOs zK zM198 0 zC198 = true := by decide +kernel
set_option maxRecDepth 100000 in
theorem zd199 : k2L lw_tbl zCk zSs zZs zOs zK zM199 0 zC199 = true := by decide +kernel
set_option maxRecDepth 100000 in
theorem zd200 : k2L lw_tbl zCk zSs zZs zOs zK zM200 0 zC200 = true := by decide +kernel
set_option maxRecDepth 100000 in
theorem zd201 : k2L lw_tbl zCk zSs zZs zOs zK zM201 0 zC201 = true := by decide +kernel
set_option maxRecDepth 100000 in
theorem zd202 : k2L lw_tbl zCk zSs zZs zOs zK zM202 0 zC202 = true := by decide +kernel
set_option maxRecDepth 100000 in
theorem zd203 : k2L lw_tbl zCk zSs zZs zOs zK zM203 0 zC203 = true := by decide +kernel
set_option maxRecDepth 100000 in
theorem zd204 : k2L lw_tbl zCk zSs zZs zOs zK zM204 0 zC204 = true := by decide +kernel
set_option maxRecDepth 100000 in
theorem zd205 : k2L lw_tbl zCk zSs zZs zOs zK zM205 0 zC205 = true := by decide +kernel
set_option maxRecDepth 100000 in
theorem zd206 : k2L lw_tbl zCk zSs zZs zOs zK zM206 0 zC206 = true := by decide +kernel
set_option maxRecDepth 100000 in
theorem zd207 : k2L lw_tbl zCk zSs zZs zOs zK zM207 0 zC207 = true := by decide +kernel
set_option maxRecDepth 100000 in
theorem zd208 : k2L lw_tbl zCk zSs zZs zOs zK zM208 0 zC208 = true := by decide +kernel
set_option maxRecDepth 100000 in
theorem zd209 : k2L lw_tbl zCk zSs zZs zOs zK zM209 0 zC209 = true := by decide +kernel
set_option maxRecDepth 100000 in
theorem zd210 : k2L lw_tbl zCk zSs zZs zOs zK zM210 0 zC210 = true := by decide +kernel
set_option maxRecDepth 100000 in
theorem zd211 : k2L lw_tbl zCk zSs zZs zOs zK zM211 0 zC211 = true := by decide +kernel
set_option maxRecDepth 100000 in
theorem zd212 : k2L lw_tbl zCk zSs zZs zOs zK zM212 0 zC212 = true := by decide +kernel
set_option maxRecDepth 100000 in
theorem zd213 : k2L lw_tbl zCk zSs zZs zOs zK zM213 0 zC213 = true := by decide +kernel
set_option maxRecDepth 100000 in
theorem zd214 : k2L lw_tbl zCk zSs zZs zOs zK zM214 0 zC214 = true := by decide +kernel
set_option maxRecDepth 100000 in
theorem zd215 : k2L lw_tbl zCk zSs zZs zOs zK zM215 0 zC215 = true := by decide +kernel
set_option maxRecDepth 100000 in
theorem zd216 : k2L lw_tbl zCk zSs zZs zOs zK zM216 0 zC216 = true := by decide +kernel
set_option maxRecDepth 100000 in
theorem zd217 : k2L lw_tbl zCk zSs zZs zOs zK zM217 0 zC217 = true := by decide +kernel
set_option maxRecDepth 100000 in
theorem zd218 : k2L lw_tbl zCk zSs zZs zOs zK zM218 0 zC218 = true := by decide +kernel
set_option maxRecDepth 100000 in
theorem zd219 : k2L lw_tbl zCk zSs zZs zOs zK zM219 0 zC219 = true := by decide +kernel
set_option maxRecDepth 100000 in
theorem zd220 : k2L lw_tbl zCk zSs zZs zOs zK zM220 0 zC220 = true := by decide +kernel
set_option maxRecDepth 100000 in
theorem zd221 : k2L lw_tbl zCk zSs zZs zOs zK zM221 0 zC221 = true := by decide +kernel
set_option maxRecDepth 100000 in
theorem zd222 : k2L lw_tbl zCk zSs zZs zOs zK zM222 0 zC222 = true := by decide +kernel
set_option maxRecDepth 100000 in
theorem zd223 : k2L lw_tbl zCk zSs zZs zOs zK zM223 0 zC223 = true := by decide +kernel
set_option maxRecDepth 100000 in
theorem zd224 : k2L lw_tbl zCk zSs zZs zOs zK zM224 0 zC224 = true := by decide +kernel
set_option maxRecDepth 100000 in
theorem zd225 : k2L lw_tbl zCk zSs zZs zOs zK zM225 0 zC225 = true := by decide +kernel
set_option maxRecDepth 100000 in
theorem zd226 : k2L lw_tbl zCk zSs zZs zOs zK zM226 0 zC226 = true := by decide +kernel
set_option maxRecDepth 100000 in
theorem zd227 : k2L lw_tbl zCk zSs zZs zOs zK zM227 0 zC227 = true := by decide +kernel
set_option maxRecDepth 100000 in
theorem zd228 : k2L lw_tbl zCk zSs zZs zOs zK zM228 0 zC228 = true := by decide +kernel
set_option maxRecDepth 100000 in
theorem zd229 : k2L lw_tbl zCk zSs zZs zOs zK zM229 0 zC229 = true := by decide +kernel
set_option maxRecDepth 100000 in
theorem zd230 : k2L lw_tbl zCk zSs zZs zOs zK zM230 0 zC230 = true := by decide +kernel
set_option maxRecDepth 100000 in
theorem zd231 : k2L lw_tbl zCk zSs zZs zOs zK zM231 0 zC231 = true := by decide +kernel
set_option maxRecDepth 100000 in
theorem zd232 : k2L lw_tbl zCk zSs zZs zOs zK zM232 0 zC232 = true := by decide +kernel
set_option maxRecDepth 100000 in
theorem zd233 : k2L lw_tbl zCk zSs zZs zOs zK zM233 0 zC233 = true := by decide +kernel
set_option maxRecDepth 100000 in
theorem zd234 : k2L lw_tbl zCk zSs zZs zOs zK zM234 0 zC234 = true := by decide +kernel
set_option maxRecDepth 100000 in
theorem zd235 : k2L lw_tbl zCk zSs zZs zOs zK zM235 0 zC235 = true := by decide +kernel
set_option maxRecDepth 100000 in
theorem zd236 : k2L lw_tbl zCk zSs zZs zOs zK zM236 0 zC236 = true := by decide +kernel
set_option maxRecDepth 100000 in
theorem zd237 : k2L lw_tbl zCk zSs zZs zOs zK zM237 0 zC237 = true := by decide +kernel
set_option maxRecDepth 100000 in
theorem zd238 : k2L lw_tbl zCk zSs zZs zOs zK zM238 0 zC238 = true := by decide +kernel
set_option maxRecDepth 100000 in
theorem zd239 : k2L lw_tbl zCk zSs zZs zOs zK zM239 0 zC239 = true := by decide +kernel
set_option maxRecDepth 100000 in
theorem zd240 : k2L lw_tbl zCk zSs zZs zOs zK zM240 0 zC240 = true := by decide +kernel
set_option maxRecDepth 100000 in
theorem zd241 : k2L lw_tbl zCk zSs zZs zOs zK zM241 0 zC241 = true := by decide +kernel
set_option maxRecDepth 100000 in
theorem zd242 : k2L lw_tbl zCk zSs zZs zOs zK zM242 0 zC242 = true := by decide +kernel
set_option maxRecDepth 100000 in
theorem zd243 : k2L lw_tbl zCk zSs zZs zOs zK zM243 0 zC243 = true := by decide +kernel
set_option maxRecDepth 100000 in
theorem zd244 : k2L lw_tbl zCk zSs zZs zOs zK zM244 0 zC244 = true := by decide +kernel
set_option maxRecDepth 100000 in
theorem zd245 : k2L lw_tbl zCk zSs zZs zOs zK zM245 0 zC245 = true := by decide +kernel
set_option maxRecDepth 100000 in
theorem zd246 : k2L lw_tbl zCk zSs zZs zOs zK zM246 0 zC246 = true := by decide +kernel
set_option maxRecDepth 100000 in
theorem zd247 : k2L lw_tbl zCk zSs zZs zOs zK zM247 0 zC247 = true := by decide +kernel
set_option maxRecDepth 100000 in
theorem zd248 : k2L lw_tbl zCk zSs zZs zOs zK zM248 0 zC248 = true := by decide +kernel
set_option maxRecDepth 100000 in
theorem zd249 : k2L lw_tbl zCk zSs zZs zOs zK zM249 0 zC249 = true := by decide +kernel
set_option maxRecDepth 100000 in
theorem zd250 : k2L lw_tbl zCk zSs zZs zOs zK zM250 0 zC250 = true := by decide +kernel
set_option maxRecDepth 100000 in
theorem zd251 : k2L lw_tbl zCk zSs zZs zOs zK zM251 0 zC251 = true := by decide +kernel
set_option maxRecDepth 100000 in
theorem zd252 : k2L lw_tbl zCk zSs zZs zOs zK zM252 0 zC252 = true := by decide +kernel
set_option maxRecDepth 100000 in
theorem zd253 : k2L lw_tbl zCk zSs zZs zOs zK zM253 0 zC253 = true := by decide +kernel
set_option maxRecDepth 100000 in
theorem zd254 : k2L lw_tbl zCk zSs zZs zOs zK zM254 0 zC254 = true := by decide +kernel
set_option maxRecDepth 100000 in
theorem zd255 : k2L lw_tbl zCk zSs zZs zOs zK zM255 0 zC255 = true := by decide +kernel
set_option maxRecDepth 100000 in
theorem zd256 : k2L lw_tbl zCk zSs zZs zOs zK zM256 0 zC256 = true := by decide +kernel
set_option maxRecDepth 100000 in
theorem zd257 : k2L lw_tbl zCk zSs zZs zOs zK zM257 0 zC257 = true := by decide +kernel
set_option maxRecDepth 100000 in
theorem zd258 : k2L lw_tbl zCk zSs zZs zOs zK zM258 0 zC258 = true := by decide +kernel
set_option maxRecDepth 100000 in
theorem zd259 : k2L lw_tbl zCk zSs zZs zOs zK zM259 0 zC259 = true := by decide +kernel
set_option maxRecDepth 100000 in
theorem zd260 : k2L lw_tbl zCk zSs zZs zOs zK zM260 0 zC260 = true := by decide +kernel
set_option maxRecDepth 100000 in
theorem zd261 : k2L lw_tbl zCk zSs zZs zOs zK zM261 0 zC261 = true := by decide +kernel
set_option maxRecDepth 100000 in
theorem zd262 : k2L lw_tbl zCk zSs zZs zOs zK zM262 0 zC262 = true := by decide +kernel
set_option maxRecDepth 100000 in
theorem zO_ok : ∀ q ∈ zOs, ∀ a ∈ Bundle.ownAtoms q.1 q.2.1 q.2.2 kNames, a ∈ lw_tbl.filter goodWord ∨ a ∈ zAs := by decide +kernel
set_option maxRecDepth 100000 in
theorem zCl_ok : ∀ q ∈ zCl, xclok (lw_tbl.filter goodWord) q := by
  intro q hq
  simp only [zCl, List.mem_cons, List.not_mem_nil, or_false] at hq
  rcases hq with rfl | rfl | rfl | rfl | rfl | rfl | rfl | rfl | rfl | rfl <;> exact ⟨by decide +kernel, by decide +kernel, by decide +kernel⟩

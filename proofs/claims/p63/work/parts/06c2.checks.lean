/-! CHECKS OF THE CODE of a long method, in pieces. By program (wip/p63/gen4.py). -/
set_option maxRecDepth 100000 in
theorem pk_158_000010 : pAll 5 (pLeaf 158) 16 64 pI_158.1.1.1.1.2.1 = true := by decide +kernel
set_option maxRecDepth 100000 in
theorem pk_158_000110 : pAll 5 (pLeaf 158) 24 64 pI_158.1.1.1.2.2.1 = true := by decide +kernel
set_option maxRecDepth 100000 in
theorem pk_158_001010 : pAll 5 (pLeaf 158) 20 64 pI_158.1.1.2.1.2.1 = true := by decide +kernel
set_option maxRecDepth 100000 in
theorem pk_158_001110 : pAll 5 (pLeaf 158) 28 64 pI_158.1.1.2.2.2.1 = true := by decide +kernel
set_option maxRecDepth 100000 in
theorem pk_158_010010 : pAll 5 (pLeaf 158) 18 64 pI_158.1.2.1.1.2.1 = true := by decide +kernel
set_option maxRecDepth 100000 in
theorem pk_158_010110 : pAll 5 (pLeaf 158) 26 64 pI_158.1.2.1.2.2.1 = true := by decide +kernel
set_option maxRecDepth 100000 in
theorem pk_158_011010 : pAll 5 (pLeaf 158) 22 64 pI_158.1.2.2.1.2.1 = true := by decide +kernel
set_option maxRecDepth 100000 in
theorem pk_158_011110 : pAll 5 (pLeaf 158) 30 64 pI_158.1.2.2.2.2.1 = true := by decide +kernel
set_option maxRecDepth 100000 in
theorem pk_158_100010 : pAll 5 (pLeaf 158) 17 64 pI_158.2.1.1.1.2.1 = true := by decide +kernel
set_option maxRecDepth 100000 in
theorem pk_158_100110 : pAll 5 (pLeaf 158) 25 64 pI_158.2.1.1.2.2.1 = true := by decide +kernel
set_option maxRecDepth 100000 in
theorem pk_158_101010 : pAll 5 (pLeaf 158) 21 64 pI_158.2.1.2.1.2.1 = true := by decide +kernel
set_option maxRecDepth 100000 in
theorem pk_158_101110 : pAll 5 (pLeaf 158) 29 64 pI_158.2.1.2.2.2.1 = true := by decide +kernel
set_option maxRecDepth 100000 in
theorem pk_158_110010 : pAll 5 (pLeaf 158) 19 64 pI_158.2.2.1.1.2.1 = true := by decide +kernel
set_option maxRecDepth 100000 in
theorem pk_158_110110 : pAll 5 (pLeaf 158) 27 64 pI_158.2.2.1.2.2.1 = true := by decide +kernel
set_option maxRecDepth 100000 in
theorem pk_158_111010 : pAll 5 (pLeaf 158) 23 64 pI_158.2.2.2.1.2.1 = true := by decide +kernel
set_option maxRecDepth 100000 in
theorem pk_158_111110 : pAll 5 (pLeaf 158) 31 64 pI_158.2.2.2.2.2.1 = true := by decide +kernel

/-! The rows of the law, out of its bytes. -/
def lk_0 : List UInt8 := [0xbb, 0x00, 0x08, 0x59, 0xb7, 0x00, 0xa7, 0x4c, 0xbb, 0x00, 0xa8, 0x59, 0xb7, 0x00, 0xaa, 0x4d, 0xbb, 0x00, 0x0e, 0x59, 0xb7, 0x00, 0xab, 0x4e, 0x03, 0x36, 0x04, 0x15, 0x04, 0x2a, 0xbe, 0x08, 0x64, 0xa3, 0x08, 0x84, 0x2a, 0x15, 0x04, 0x2e, 0x10, 0x3f, 0x7e, 0xaa, 0x00, 0x00, 0x08, 0x74, 0x00, 0x00, 0x00, 0x00, 0x00, 0x00, 0x00, 0x2e, 0x00, 0x00, 0x00, 0xc9, 0x00, 0x00, 0x00, 0xf1]
def lk_1 : List UInt8 := [0x00, 0x00, 0x01, 0x19, 0x00, 0x00, 0x01, 0x5d, 0x00, 0x00, 0x01, 0x91, 0x00, 0x00, 0x01, 0xd5, 0x00, 0x00, 0x01, 0xfd, 0x00, 0x00, 0x02, 0x31, 0x00, 0x00, 0x02, 0x71, 0x00, 0x00, 0x02, 0x99, 0x00, 0x00, 0x02, 0xb5, 0x00, 0x00, 0x02, 0xd1, 0x00, 0x00, 0x02, 0xf9, 0x00, 0x00, 0x03, 0x21, 0x00, 0x00, 0x03, 0x55, 0x00, 0x00, 0x03, 0x89, 0x00, 0x00, 0x03, 0xbd, 0x00, 0x00, 0x03, 0xf1]
def lk_2 : List UInt8 := [0x00, 0x00, 0x04, 0x31, 0x00, 0x00, 0x04, 0x59, 0x00, 0x00, 0x04, 0x75, 0x00, 0x00, 0x04, 0x91, 0x00, 0x00, 0x04, 0xad, 0x00, 0x00, 0x04, 0xf9, 0x00, 0x00, 0x05, 0x15, 0x00, 0x00, 0x05, 0x4d, 0x00, 0x00, 0x05, 0x81, 0x00, 0x00, 0x05, 0xb5, 0x00, 0x00, 0x05, 0xdd, 0x00, 0x00, 0x05, 0xf9, 0x00, 0x00, 0x06, 0x3d, 0x00, 0x00, 0x06, 0x81, 0x00, 0x00, 0x06, 0x9d, 0x00, 0x00, 0x06, 0xb9]
def lk_3 : List UInt8 := [0x00, 0x00, 0x06, 0xd5, 0x00, 0x00, 0x06, 0xf1, 0x00, 0x00, 0x07, 0x0d, 0x00, 0x00, 0x07, 0x35, 0x00, 0x00, 0x07, 0x51, 0x00, 0x00, 0x07, 0x89, 0x00, 0x00, 0x07, 0xc1, 0x00, 0x00, 0x07, 0xf9, 0x00, 0x00, 0x08, 0x15, 0x00, 0x00, 0x08, 0x31, 0x00, 0x00, 0x08, 0x4d, 0x00, 0x00, 0x08, 0x5a, 0x00, 0x00, 0x08, 0x67, 0x2b, 0x2a, 0x15, 0x04, 0x04, 0x60, 0x2e, 0x2a, 0x15, 0x04, 0x05, 0x60]
def lk_4 : List UInt8 := [0x2e, 0x2d, 0xb8, 0x00, 0xac, 0x36, 0x05, 0x2c, 0x2a, 0x15, 0x04, 0x04, 0x60, 0x2e, 0x2a, 0x15, 0x04, 0x05, 0x60, 0x2e, 0xb6, 0x00, 0xb1, 0x36, 0x06, 0xa7, 0x07, 0x86, 0x2b, 0x2a, 0x15, 0x04, 0x04, 0x60, 0x2e, 0x2a, 0x15, 0x04, 0x05, 0x60, 0x2e, 0x2d, 0xb8, 0x00, 0xb2, 0x36, 0x05, 0x2c, 0x2a, 0x15, 0x04, 0x04, 0x60, 0x2e, 0x2a, 0x15, 0x04, 0x05, 0x60, 0x2e, 0xb6, 0x00, 0xb4, 0x36]
def lk_5 : List UInt8 := [0x06, 0xa7, 0x07, 0x5e, 0x2b, 0x2a, 0x15, 0x04, 0x04, 0x60, 0x2e, 0x2a, 0x15, 0x04, 0x05, 0x60, 0x2e, 0x2a, 0x15, 0x04, 0x06, 0x60, 0x2e, 0x99, 0x00, 0x07, 0x04, 0xa7, 0x00, 0x04, 0x03, 0x2d, 0xb8, 0x00, 0xb5, 0x36, 0x05, 0x2c, 0x2a, 0x15, 0x04, 0x04, 0x60, 0x2e, 0x2a, 0x15, 0x04, 0x05, 0x60, 0x2e, 0x2a, 0x15, 0x04, 0x06, 0x60, 0x2e, 0x99, 0x00, 0x07, 0x04, 0xa7, 0x00, 0x04, 0x03]
def lk_6 : List UInt8 := [0xb6, 0x00, 0xb8, 0x36, 0x06, 0xa7, 0x07, 0x1a, 0x2b, 0x2a, 0x15, 0x04, 0x04, 0x60, 0x2e, 0x2a, 0x15, 0x04, 0x05, 0x60, 0x2e, 0x2a, 0x15, 0x04, 0x06, 0x60, 0x2e, 0x2d, 0xb8, 0x00, 0xb9, 0x36, 0x05, 0x2c, 0x2a, 0x15, 0x04, 0x04, 0x60, 0x2e, 0x2a, 0x15, 0x04, 0x05, 0x60, 0x2e, 0x2a, 0x15, 0x04, 0x06, 0x60, 0x2e, 0xb6, 0x00, 0xbc, 0x36, 0x06, 0xa7, 0x06, 0xe6, 0x2b, 0x2a, 0x15, 0x04]
def lk_7 : List UInt8 := [0x04, 0x60, 0x2e, 0x2a, 0x15, 0x04, 0x05, 0x60, 0x2e, 0x2a, 0x15, 0x04, 0x06, 0x60, 0x2e, 0x99, 0x00, 0x07, 0x04, 0xa7, 0x00, 0x04, 0x03, 0x2d, 0xb8, 0x00, 0xbd, 0x36, 0x05, 0x2c, 0x2a, 0x15, 0x04, 0x04, 0x60, 0x2e, 0x2a, 0x15, 0x04, 0x05, 0x60, 0x2e, 0x2a, 0x15, 0x04, 0x06, 0x60, 0x2e, 0x99, 0x00, 0x07, 0x04, 0xa7, 0x00, 0x04, 0x03, 0xb6, 0x00, 0xbf, 0x36, 0x06, 0xa7, 0x06, 0xa2]
def lk_8 : List UInt8 := [0x2b, 0x2a, 0x15, 0x04, 0x04, 0x60, 0x2e, 0x2a, 0x15, 0x04, 0x05, 0x60, 0x2e, 0x2d, 0xb8, 0x00, 0xc0, 0x36, 0x05, 0x2c, 0x2a, 0x15, 0x04, 0x04, 0x60, 0x2e, 0x2a, 0x15, 0x04, 0x05, 0x60, 0x2e, 0xb6, 0x00, 0xc2, 0x36, 0x06, 0xa7, 0x06, 0x7a, 0x2b, 0x2a, 0x15, 0x04, 0x04, 0x60, 0x2e, 0x2a, 0x15, 0x04, 0x05, 0x60, 0x2e, 0x2a, 0x15, 0x04, 0x06, 0x60, 0x2e, 0x2d, 0xb8, 0x00, 0xc3, 0x36]
def lk_9 : List UInt8 := [0x05, 0x2c, 0x2a, 0x15, 0x04, 0x04, 0x60, 0x2e, 0x2a, 0x15, 0x04, 0x05, 0x60, 0x2e, 0x2a, 0x15, 0x04, 0x06, 0x60, 0x2e, 0xb6, 0x00, 0xc5, 0x36, 0x06, 0xa7, 0x06, 0x46, 0x2b, 0x2a, 0x15, 0x04, 0x04, 0x60, 0x2e, 0x2a, 0x15, 0x04, 0x05, 0x60, 0x2e, 0x2a, 0x15, 0x04, 0x06, 0x60, 0x2e, 0x2a, 0x15, 0x04, 0x07, 0x60, 0x2e, 0x2d, 0xb8, 0x00, 0xc6, 0x36, 0x05, 0x2c, 0x2a, 0x15, 0x04, 0x04]
def lk_10 : List UInt8 := [0x60, 0x2e, 0x2a, 0x15, 0x04, 0x05, 0x60, 0x2e, 0x2a, 0x15, 0x04, 0x06, 0x60, 0x2e, 0x2a, 0x15, 0x04, 0x07, 0x60, 0x2e, 0xb6, 0x00, 0xc9, 0x36, 0x06, 0xa7, 0x06, 0x06, 0x2b, 0x2a, 0x15, 0x04, 0x04, 0x60, 0x2e, 0x2a, 0x15, 0x04, 0x05, 0x60, 0x2e, 0x2d, 0xb8, 0x00, 0xca, 0x36, 0x05, 0x2c, 0x2a, 0x15, 0x04, 0x04, 0x60, 0x2e, 0x2a, 0x15, 0x04, 0x05, 0x60, 0x2e, 0xb6, 0x00, 0xcc, 0x36]
def lk_11 : List UInt8 := [0x06, 0xa7, 0x05, 0xde, 0x2b, 0x2a, 0x15, 0x04, 0x04, 0x60, 0x2e, 0x2d, 0xb8, 0x00, 0xcd, 0x36, 0x05, 0x2c, 0x2a, 0x15, 0x04, 0x04, 0x60, 0x2e, 0xb6, 0x00, 0xd0, 0x36, 0x06, 0xa7, 0x05, 0xc2, 0x2b, 0x2a, 0x15, 0x04, 0x04, 0x60, 0x2e, 0x2d, 0xb8, 0x00, 0xd1, 0x36, 0x05, 0x2c, 0x2a, 0x15, 0x04, 0x04, 0x60, 0x2e, 0xb6, 0x00, 0xd3, 0x36, 0x06, 0xa7, 0x05, 0xa6, 0x2b, 0x2a, 0x15, 0x04]
def lk_12 : List UInt8 := [0x04, 0x60, 0x2e, 0x2a, 0x15, 0x04, 0x05, 0x60, 0x2e, 0x2d, 0xb8, 0x00, 0xd4, 0x36, 0x05, 0x2c, 0x2a, 0x15, 0x04, 0x04, 0x60, 0x2e, 0x2a, 0x15, 0x04, 0x05, 0x60, 0x2e, 0xb6, 0x00, 0xd6, 0x36, 0x06, 0xa7, 0x05, 0x7e, 0x2b, 0x2a, 0x15, 0x04, 0x04, 0x60, 0x2e, 0x2a, 0x15, 0x04, 0x05, 0x60, 0x2e, 0x2d, 0xb8, 0x00, 0xd7, 0x36, 0x05, 0x2c, 0x2a, 0x15, 0x04, 0x04, 0x60, 0x2e, 0x2a, 0x15]
def lk_13 : List UInt8 := [0x04, 0x05, 0x60, 0x2e, 0xb6, 0x00, 0xd9, 0x36, 0x06, 0xa7, 0x05, 0x56, 0x2b, 0x2a, 0x15, 0x04, 0x04, 0x60, 0x2e, 0x2a, 0x15, 0x04, 0x05, 0x60, 0x2e, 0x2a, 0x15, 0x04, 0x06, 0x60, 0x2e, 0x2d, 0xb8, 0x00, 0xda, 0x36, 0x05, 0x2c, 0x2a, 0x15, 0x04, 0x04, 0x60, 0x2e, 0x2a, 0x15, 0x04, 0x05, 0x60, 0x2e, 0x2a, 0x15, 0x04, 0x06, 0x60, 0x2e, 0xb6, 0x00, 0xdc, 0x36, 0x06, 0xa7, 0x05, 0x22]
def lk_14 : List UInt8 := [0x2b, 0x2a, 0x15, 0x04, 0x04, 0x60, 0x2e, 0x2a, 0x15, 0x04, 0x05, 0x60, 0x2e, 0x2a, 0x15, 0x04, 0x06, 0x60, 0x2e, 0x2d, 0xb8, 0x00, 0xdd, 0x36, 0x05, 0x2c, 0x2a, 0x15, 0x04, 0x04, 0x60, 0x2e, 0x2a, 0x15, 0x04, 0x05, 0x60, 0x2e, 0x2a, 0x15, 0x04, 0x06, 0x60, 0x2e, 0xb6, 0x00, 0xdf, 0x36, 0x06, 0xa7, 0x04, 0xee, 0x2b, 0x2a, 0x15, 0x04, 0x04, 0x60, 0x2e, 0x2a, 0x15, 0x04, 0x05, 0x60]
def lk_15 : List UInt8 := [0x2e, 0x2a, 0x15, 0x04, 0x06, 0x60, 0x2e, 0x2d, 0xb8, 0x00, 0xe0, 0x36, 0x05, 0x2c, 0x2a, 0x15, 0x04, 0x04, 0x60, 0x2e, 0x2a, 0x15, 0x04, 0x05, 0x60, 0x2e, 0x2a, 0x15, 0x04, 0x06, 0x60, 0x2e, 0xb6, 0x00, 0xe2, 0x36, 0x06, 0xa7, 0x04, 0xba, 0x2b, 0x2a, 0x15, 0x04, 0x04, 0x60, 0x2e, 0x2a, 0x15, 0x04, 0x05, 0x60, 0x2e, 0x2a, 0x15, 0x04, 0x06, 0x60, 0x2e, 0x2d, 0xb8, 0x00, 0xe3, 0x36]
def lk_16 : List UInt8 := [0x05, 0x2c, 0x2a, 0x15, 0x04, 0x04, 0x60, 0x2e, 0x2a, 0x15, 0x04, 0x05, 0x60, 0x2e, 0x2a, 0x15, 0x04, 0x06, 0x60, 0x2e, 0xb6, 0x00, 0xe5, 0x36, 0x06, 0xa7, 0x04, 0x86, 0x2b, 0x2a, 0x15, 0x04, 0x04, 0x60, 0x2e, 0x2a, 0x15, 0x04, 0x05, 0x60, 0x2e, 0x2a, 0x15, 0x04, 0x06, 0x60, 0x2e, 0x2a, 0x15, 0x04, 0x07, 0x60, 0x2e, 0x2d, 0xb8, 0x00, 0xe6, 0x36, 0x05, 0x2c, 0x2a, 0x15, 0x04, 0x04]
def lk_17 : List UInt8 := [0x60, 0x2e, 0x2a, 0x15, 0x04, 0x05, 0x60, 0x2e, 0x2a, 0x15, 0x04, 0x06, 0x60, 0x2e, 0x2a, 0x15, 0x04, 0x07, 0x60, 0x2e, 0xb6, 0x00, 0xe8, 0x36, 0x06, 0xa7, 0x04, 0x46, 0x2b, 0x2a, 0x15, 0x04, 0x04, 0x60, 0x2e, 0x2a, 0x15, 0x04, 0x05, 0x60, 0x2e, 0x2d, 0xb8, 0x00, 0xe9, 0x36, 0x05, 0x2c, 0x2a, 0x15, 0x04, 0x04, 0x60, 0x2e, 0x2a, 0x15, 0x04, 0x05, 0x60, 0x2e, 0xb6, 0x00, 0xeb, 0x36]
def lk_18 : List UInt8 := [0x06, 0xa7, 0x04, 0x1e, 0x2b, 0x2a, 0x15, 0x04, 0x04, 0x60, 0x2e, 0x2d, 0xb8, 0x00, 0xec, 0x36, 0x05, 0x2c, 0x2a, 0x15, 0x04, 0x04, 0x60, 0x2e, 0xb6, 0x00, 0xee, 0x36, 0x06, 0xa7, 0x04, 0x02, 0x2b, 0x2a, 0x15, 0x04, 0x04, 0x60, 0x2e, 0x2d, 0xb8, 0x00, 0xef, 0x36, 0x05, 0x2c, 0x2a, 0x15, 0x04, 0x04, 0x60, 0x2e, 0xb6, 0x00, 0xf1, 0x36, 0x06, 0xa7, 0x03, 0xe6, 0x2b, 0x2a, 0x15, 0x04]
def lk_19 : List UInt8 := [0x04, 0x60, 0x2e, 0x2d, 0xb8, 0x00, 0xf2, 0x36, 0x05, 0x2c, 0x2a, 0x15, 0x04, 0x04, 0x60, 0x2e, 0xb6, 0x00, 0xf4, 0x36, 0x06, 0xa7, 0x03, 0xca, 0x2b, 0x2a, 0x15, 0x04, 0x04, 0x60, 0x2e, 0x2a, 0x15, 0x04, 0x05, 0x60, 0x2e, 0x2d, 0xb8, 0x00, 0xf5, 0x36, 0x05, 0x2c, 0x2a, 0x15, 0x04, 0x04, 0x60, 0x2e, 0x2a, 0x15, 0x04, 0x05, 0x60, 0x2e, 0xb6, 0x00, 0xf7, 0x36, 0x06, 0x2c, 0xb6, 0x00]
def lk_20 : List UInt8 := [0xf8, 0x15, 0x05, 0x9f, 0x00, 0x05, 0x03, 0xac, 0x15, 0x05, 0x9a, 0x00, 0x17, 0x2d, 0xb4, 0x00, 0x0d, 0x15, 0x06, 0x99, 0x00, 0x07, 0x0a, 0xa7, 0x00, 0x04, 0x09, 0x94, 0x99, 0x00, 0x05, 0x03, 0xac, 0xa7, 0x03, 0x7e, 0x2b, 0x2a, 0x15, 0x04, 0x04, 0x60, 0x2e, 0x2d, 0xb8, 0x00, 0xfc, 0x36, 0x05, 0x2c, 0x2a, 0x15, 0x04, 0x04, 0x60, 0x2e, 0xb6, 0x00, 0xfe, 0x3a, 0x06, 0xa7, 0x03, 0x62]
def lk_21 : List UInt8 := [0x2b, 0x2a, 0x15, 0x04, 0x04, 0x60, 0x2e, 0x2a, 0x15, 0x04, 0x05, 0x60, 0x2e, 0x99, 0x00, 0x07, 0x04, 0xa7, 0x00, 0x04, 0x03, 0x2d, 0xb8, 0x00, 0xff, 0x36, 0x05, 0x2c, 0x2a, 0x15, 0x04, 0x04, 0x60, 0x2e, 0x2a, 0x15, 0x04, 0x05, 0x60, 0x2e, 0x99, 0x00, 0x07, 0x04, 0xa7, 0x00, 0x04, 0x03, 0xb6, 0x01, 0x02, 0x36, 0x06, 0xa7, 0x03, 0x2a, 0x2b, 0x2a, 0x15, 0x04, 0x04, 0x60, 0x2e, 0x2a]
def lk_22 : List UInt8 := [0x15, 0x04, 0x05, 0x60, 0x2e, 0x2a, 0x15, 0x04, 0x06, 0x60, 0x2e, 0x2d, 0xb8, 0x01, 0x03, 0x36, 0x05, 0x2c, 0x2a, 0x15, 0x04, 0x04, 0x60, 0x2e, 0x2a, 0x15, 0x04, 0x05, 0x60, 0x2e, 0x2a, 0x15, 0x04, 0x06, 0x60, 0x2e, 0xb6, 0x01, 0x05, 0x36, 0x06, 0xa7, 0x02, 0xf6, 0x2b, 0x2a, 0x15, 0x04, 0x04, 0x60, 0x2e, 0x2a, 0x15, 0x04, 0x05, 0x60, 0x2e, 0x2a, 0x15, 0x04, 0x06, 0x60, 0x2e, 0x2d]
def lk_23 : List UInt8 := [0xb8, 0x01, 0x06, 0x36, 0x05, 0x2c, 0x2a, 0x15, 0x04, 0x04, 0x60, 0x2e, 0x2a, 0x15, 0x04, 0x05, 0x60, 0x2e, 0x2a, 0x15, 0x04, 0x06, 0x60, 0x2e, 0xb6, 0x01, 0x08, 0x36, 0x06, 0xa7, 0x02, 0xc2, 0x2b, 0x2a, 0x15, 0x04, 0x04, 0x60, 0x2e, 0x2a, 0x15, 0x04, 0x05, 0x60, 0x2e, 0x2d, 0xb8, 0x01, 0x09, 0x36, 0x05, 0x2c, 0x2a, 0x15, 0x04, 0x04, 0x60, 0x2e, 0x2a, 0x15, 0x04, 0x05, 0x60, 0x2e]
def lk_24 : List UInt8 := [0xb6, 0x01, 0x0b, 0x36, 0x06, 0xa7, 0x02, 0x9a, 0x2b, 0x2a, 0x15, 0x04, 0x04, 0x60, 0x2e, 0x2d, 0xb8, 0x01, 0x0c, 0x36, 0x05, 0x2c, 0x2a, 0x15, 0x04, 0x04, 0x60, 0x2e, 0xb6, 0x01, 0x0e, 0x36, 0x06, 0xa7, 0x02, 0x7e, 0x2b, 0x2a, 0x15, 0x04, 0x04, 0x60, 0x2e, 0x2a, 0x15, 0x04, 0x05, 0x60, 0x2e, 0x2a, 0x15, 0x04, 0x06, 0x60, 0x2e, 0x99, 0x00, 0x07, 0x04, 0xa7, 0x00, 0x04, 0x03, 0x2d]
def lk_25 : List UInt8 := [0xb8, 0x01, 0x0f, 0x36, 0x05, 0x2c, 0x2a, 0x15, 0x04, 0x04, 0x60, 0x2e, 0x2a, 0x15, 0x04, 0x05, 0x60, 0x2e, 0x2a, 0x15, 0x04, 0x06, 0x60, 0x2e, 0x99, 0x00, 0x07, 0x04, 0xa7, 0x00, 0x04, 0x03, 0xb6, 0x01, 0x11, 0x36, 0x06, 0xa7, 0x02, 0x3a, 0x2b, 0x2a, 0x15, 0x04, 0x04, 0x60, 0x2e, 0x2a, 0x15, 0x04, 0x05, 0x60, 0x2e, 0x2a, 0x15, 0x04, 0x06, 0x60, 0x2e, 0x99, 0x00, 0x07, 0x04, 0xa7]
def lk_26 : List UInt8 := [0x00, 0x04, 0x03, 0x2d, 0xb8, 0x01, 0x12, 0x36, 0x05, 0x2c, 0x2a, 0x15, 0x04, 0x04, 0x60, 0x2e, 0x2a, 0x15, 0x04, 0x05, 0x60, 0x2e, 0x2a, 0x15, 0x04, 0x06, 0x60, 0x2e, 0x99, 0x00, 0x07, 0x04, 0xa7, 0x00, 0x04, 0x03, 0xb6, 0x01, 0x14, 0x36, 0x06, 0xa7, 0x01, 0xf6, 0x2b, 0x2a, 0x15, 0x04, 0x04, 0x60, 0x2e, 0x2d, 0xb8, 0x01, 0x15, 0x36, 0x05, 0x2c, 0x2a, 0x15, 0x04, 0x04, 0x60, 0x2e]
def lk_27 : List UInt8 := [0xb6, 0x01, 0x17, 0x36, 0x06, 0xa7, 0x01, 0xda, 0x2b, 0x2a, 0x15, 0x04, 0x04, 0x60, 0x2e, 0x2d, 0xb8, 0x01, 0x18, 0x36, 0x05, 0x2c, 0x2a, 0x15, 0x04, 0x04, 0x60, 0x2e, 0xb6, 0x01, 0x1a, 0x36, 0x06, 0xa7, 0x01, 0xbe, 0x2b, 0x2a, 0x15, 0x04, 0x04, 0x60, 0x2e, 0x2d, 0xb8, 0x01, 0x1b, 0x36, 0x05, 0x2c, 0x2a, 0x15, 0x04, 0x04, 0x60, 0x2e, 0xb6, 0x01, 0x1d, 0x36, 0x06, 0xa7, 0x01, 0xa2]
def lk_28 : List UInt8 := [0x2b, 0x2a, 0x15, 0x04, 0x04, 0x60, 0x2e, 0x2d, 0xb8, 0x01, 0x1e, 0x36, 0x05, 0x2c, 0x2a, 0x15, 0x04, 0x04, 0x60, 0x2e, 0xb6, 0x01, 0x20, 0x36, 0x06, 0xa7, 0x01, 0x86, 0x2b, 0x2a, 0x15, 0x04, 0x04, 0x60, 0x2e, 0x2d, 0xb8, 0x01, 0x21, 0x36, 0x05, 0x2c, 0x2a, 0x15, 0x04, 0x04, 0x60, 0x2e, 0xb6, 0x01, 0x23, 0x36, 0x06, 0xa7, 0x01, 0x6a, 0x2b, 0x2a, 0x15, 0x04, 0x04, 0x60, 0x2e, 0x2a]
def lk_29 : List UInt8 := [0x15, 0x04, 0x05, 0x60, 0x2e, 0x2d, 0xb8, 0x01, 0x24, 0x36, 0x05, 0x2c, 0x2a, 0x15, 0x04, 0x04, 0x60, 0x2e, 0x2a, 0x15, 0x04, 0x05, 0x60, 0x2e, 0xb6, 0x01, 0x26, 0x36, 0x06, 0xa7, 0x01, 0x42, 0x2b, 0x2a, 0x15, 0x04, 0x04, 0x60, 0x2e, 0x2d, 0xb8, 0x01, 0x27, 0x36, 0x05, 0x2c, 0x2a, 0x15, 0x04, 0x04, 0x60, 0x2e, 0xb6, 0x01, 0x29, 0x3a, 0x06, 0xa7, 0x01, 0x26, 0x2b, 0x2a, 0x15, 0x04]
def lk_30 : List UInt8 := [0x04, 0x60, 0x2e, 0x2a, 0x15, 0x04, 0x05, 0x60, 0x2e, 0x99, 0x00, 0x07, 0x04, 0xa7, 0x00, 0x04, 0x03, 0x2d, 0xb8, 0x01, 0x2a, 0x36, 0x05, 0x2c, 0x2a, 0x15, 0x04, 0x04, 0x60, 0x2e, 0x2a, 0x15, 0x04, 0x05, 0x60, 0x2e, 0x99, 0x00, 0x07, 0x04, 0xa7, 0x00, 0x04, 0x03, 0xb6, 0x01, 0x2c, 0x3a, 0x06, 0xa7, 0x00, 0xee, 0x2b, 0x2a, 0x15, 0x04, 0x04, 0x60, 0x2e, 0x2a, 0x15, 0x04, 0x05, 0x60]
def lk_31 : List UInt8 := [0x2e, 0x99, 0x00, 0x07, 0x04, 0xa7, 0x00, 0x04, 0x03, 0x2d, 0xb8, 0x01, 0x2d, 0x36, 0x05, 0x2c, 0x2a, 0x15, 0x04, 0x04, 0x60, 0x2e, 0x2a, 0x15, 0x04, 0x05, 0x60, 0x2e, 0x99, 0x00, 0x07, 0x04, 0xa7, 0x00, 0x04, 0x03, 0xb6, 0x01, 0x2f, 0x36, 0x06, 0xa7, 0x00, 0xb6, 0x2b, 0x2a, 0x15, 0x04, 0x04, 0x60, 0x2e, 0x2a, 0x15, 0x04, 0x05, 0x60, 0x2e, 0x99, 0x00, 0x07, 0x04, 0xa7, 0x00, 0x04]
def lk_32 : List UInt8 := [0x03, 0x2d, 0xb8, 0x01, 0x30, 0x36, 0x05, 0x2c, 0x2a, 0x15, 0x04, 0x04, 0x60, 0x2e, 0x2a, 0x15, 0x04, 0x05, 0x60, 0x2e, 0x99, 0x00, 0x07, 0x04, 0xa7, 0x00, 0x04, 0x03, 0xb6, 0x01, 0x32, 0x36, 0x06, 0xa7, 0x00, 0x7e, 0x2b, 0x2a, 0x15, 0x04, 0x04, 0x60, 0x2e, 0x2d, 0xb8, 0x01, 0x33, 0x36, 0x05, 0x2c, 0x2a, 0x15, 0x04, 0x04, 0x60, 0x2e, 0xb6, 0x01, 0x35, 0x36, 0x06, 0xa7, 0x00, 0x62]
def lk_33 : List UInt8 := [0x2b, 0x2a, 0x15, 0x04, 0x04, 0x60, 0x2e, 0x2d, 0xb8, 0x01, 0x36, 0x36, 0x05, 0x2c, 0x2a, 0x15, 0x04, 0x04, 0x60, 0x2e, 0xb6, 0x01, 0x38, 0x36, 0x06, 0xa7, 0x00, 0x46, 0x2b, 0x2a, 0x15, 0x04, 0x04, 0x60, 0x2e, 0x2d, 0xb8, 0x01, 0x39, 0x36, 0x05, 0x2c, 0x2a, 0x15, 0x04, 0x04, 0x60, 0x2e, 0xb6, 0x01, 0x3b, 0x36, 0x06, 0xa7, 0x00, 0x2a, 0x2b, 0xb6, 0x01, 0x3c, 0x57, 0x2c, 0xb6, 0x01]
def lk_34 : List UInt8 := [0x3f, 0x57, 0xa7, 0x00, 0x1d, 0x2b, 0xb6, 0x01, 0x40, 0x57, 0x2c, 0xb6, 0x01, 0x44, 0x57, 0xa7, 0x00, 0x10, 0x2b, 0xb6, 0x01, 0x45, 0x58, 0x2c, 0xb6, 0x01, 0x49, 0x58, 0xa7, 0x00, 0x03, 0x84, 0x04, 0x05, 0xa7, 0xf7, 0x79, 0x04, 0xac]
def tk_34 : List UInt8 := lk_34 ++ []
def tk_33 : List UInt8 := lk_33 ++ tk_34
def tk_32 : List UInt8 := lk_32 ++ tk_33
def tk_31 : List UInt8 := lk_31 ++ tk_32
def tk_30 : List UInt8 := lk_30 ++ tk_31
def tk_29 : List UInt8 := lk_29 ++ tk_30
def tk_28 : List UInt8 := lk_28 ++ tk_29
def tk_27 : List UInt8 := lk_27 ++ tk_28
def tk_26 : List UInt8 := lk_26 ++ tk_27
def tk_25 : List UInt8 := lk_25 ++ tk_26
def tk_24 : List UInt8 := lk_24 ++ tk_25
def tk_23 : List UInt8 := lk_23 ++ tk_24
def tk_22 : List UInt8 := lk_22 ++ tk_23
def tk_21 : List UInt8 := lk_21 ++ tk_22
def tk_20 : List UInt8 := lk_20 ++ tk_21
def tk_19 : List UInt8 := lk_19 ++ tk_20
def tk_18 : List UInt8 := lk_18 ++ tk_19
def tk_17 : List UInt8 := lk_17 ++ tk_18
def tk_16 : List UInt8 := lk_16 ++ tk_17
def tk_15 : List UInt8 := lk_15 ++ tk_16
def tk_14 : List UInt8 := lk_14 ++ tk_15
def tk_13 : List UInt8 := lk_13 ++ tk_14
def tk_12 : List UInt8 := lk_12 ++ tk_13
def tk_11 : List UInt8 := lk_11 ++ tk_12
def tk_10 : List UInt8 := lk_10 ++ tk_11
def tk_9 : List UInt8 := lk_9 ++ tk_10
def tk_8 : List UInt8 := lk_8 ++ tk_9
def tk_7 : List UInt8 := lk_7 ++ tk_8
def tk_6 : List UInt8 := lk_6 ++ tk_7
def tk_5 : List UInt8 := lk_5 ++ tk_6
def tk_4 : List UInt8 := lk_4 ++ tk_5
def tk_3 : List UInt8 := lk_3 ++ tk_4
def tk_2 : List UInt8 := lk_2 ++ tk_3
def tk_1 : List UInt8 := lk_1 ++ tk_2
def tk_0 : List UInt8 := lk_0 ++ tk_1
theorem dr_0 : code.data.toList.drop 0 = lk_0 ++ tk_1 := by decide +kernel
theorem dr_1 : code.data.toList.drop 64 = lk_1 ++ tk_2 := dr_step dr_0 rfl
theorem dr_2 : code.data.toList.drop 128 = lk_2 ++ tk_3 := dr_step dr_1 rfl
theorem dr_3 : code.data.toList.drop 192 = lk_3 ++ tk_4 := dr_step dr_2 rfl
theorem dr_4 : code.data.toList.drop 256 = lk_4 ++ tk_5 := dr_step dr_3 rfl
theorem dr_5 : code.data.toList.drop 320 = lk_5 ++ tk_6 := dr_step dr_4 rfl
theorem dr_6 : code.data.toList.drop 384 = lk_6 ++ tk_7 := dr_step dr_5 rfl
theorem dr_7 : code.data.toList.drop 448 = lk_7 ++ tk_8 := dr_step dr_6 rfl
theorem dr_8 : code.data.toList.drop 512 = lk_8 ++ tk_9 := dr_step dr_7 rfl
theorem dr_9 : code.data.toList.drop 576 = lk_9 ++ tk_10 := dr_step dr_8 rfl
theorem dr_10 : code.data.toList.drop 640 = lk_10 ++ tk_11 := dr_step dr_9 rfl
theorem dr_11 : code.data.toList.drop 704 = lk_11 ++ tk_12 := dr_step dr_10 rfl
theorem dr_12 : code.data.toList.drop 768 = lk_12 ++ tk_13 := dr_step dr_11 rfl
theorem dr_13 : code.data.toList.drop 832 = lk_13 ++ tk_14 := dr_step dr_12 rfl
theorem dr_14 : code.data.toList.drop 896 = lk_14 ++ tk_15 := dr_step dr_13 rfl
theorem dr_15 : code.data.toList.drop 960 = lk_15 ++ tk_16 := dr_step dr_14 rfl
theorem dr_16 : code.data.toList.drop 1024 = lk_16 ++ tk_17 := dr_step dr_15 rfl
theorem dr_17 : code.data.toList.drop 1088 = lk_17 ++ tk_18 := dr_step dr_16 rfl
theorem dr_18 : code.data.toList.drop 1152 = lk_18 ++ tk_19 := dr_step dr_17 rfl
theorem dr_19 : code.data.toList.drop 1216 = lk_19 ++ tk_20 := dr_step dr_18 rfl
theorem dr_20 : code.data.toList.drop 1280 = lk_20 ++ tk_21 := dr_step dr_19 rfl
theorem dr_21 : code.data.toList.drop 1344 = lk_21 ++ tk_22 := dr_step dr_20 rfl
theorem dr_22 : code.data.toList.drop 1408 = lk_22 ++ tk_23 := dr_step dr_21 rfl
theorem dr_23 : code.data.toList.drop 1472 = lk_23 ++ tk_24 := dr_step dr_22 rfl
theorem dr_24 : code.data.toList.drop 1536 = lk_24 ++ tk_25 := dr_step dr_23 rfl
theorem dr_25 : code.data.toList.drop 1600 = lk_25 ++ tk_26 := dr_step dr_24 rfl
theorem dr_26 : code.data.toList.drop 1664 = lk_26 ++ tk_27 := dr_step dr_25 rfl
theorem dr_27 : code.data.toList.drop 1728 = lk_27 ++ tk_28 := dr_step dr_26 rfl
theorem dr_28 : code.data.toList.drop 1792 = lk_28 ++ tk_29 := dr_step dr_27 rfl
theorem dr_29 : code.data.toList.drop 1856 = lk_29 ++ tk_30 := dr_step dr_28 rfl
theorem dr_30 : code.data.toList.drop 1920 = lk_30 ++ tk_31 := dr_step dr_29 rfl
theorem dr_31 : code.data.toList.drop 1984 = lk_31 ++ tk_32 := dr_step dr_30 rfl
theorem dr_32 : code.data.toList.drop 2048 = lk_32 ++ tk_33 := dr_step dr_31 rfl
theorem dr_33 : code.data.toList.drop 2112 = lk_33 ++ tk_34 := dr_step dr_32 rfl
theorem dr_34 : code.data.toList.drop 2176 = lk_34 ++ [] := dr_step dr_33 rfl
theorem dL_law_0 : decode cL_law 0 = .ok (.new 8, 3) := e_187 (x := 0) (y := 8) dr_0 0 rfl rfl
theorem dL_law_3 : decode cL_law 3 = .ok (.dup, 1) := dec_89 (gB dr_0 3 rfl rfl)
theorem dL_law_4 : decode cL_law 4 = .ok (.invokespecial 167, 3) := e_183 (x := 0) (y := 167) dr_0 4 rfl rfl
theorem dL_law_7 : decode cL_law 7 = .ok (.astore_n 1, 1) := dec_76 (gB dr_0 7 rfl rfl)
theorem dL_law_8 : decode cL_law 8 = .ok (.new 168, 3) := e_187 (x := 0) (y := 168) dr_0 8 rfl rfl
theorem dL_law_11 : decode cL_law 11 = .ok (.dup, 1) := dec_89 (gB dr_0 11 rfl rfl)
theorem dL_law_12 : decode cL_law 12 = .ok (.invokespecial 170, 3) := e_183 (x := 0) (y := 170) dr_0 12 rfl rfl
theorem dL_law_15 : decode cL_law 15 = .ok (.astore_n 2, 1) := dec_77 (gB dr_0 15 rfl rfl)
theorem dL_law_16 : decode cL_law 16 = .ok (.new 14, 3) := e_187 (x := 0) (y := 14) dr_0 16 rfl rfl
theorem dL_law_19 : decode cL_law 19 = .ok (.dup, 1) := dec_89 (gB dr_0 19 rfl rfl)
theorem dL_law_20 : decode cL_law 20 = .ok (.invokespecial 171, 3) := e_183 (x := 0) (y := 171) dr_0 20 rfl rfl
theorem dL_law_23 : decode cL_law 23 = .ok (.astore_n 3, 1) := dec_78 (gB dr_0 23 rfl rfl)
theorem dL_law_24 : decode cL_law 24 = .ok (.iconst 0, 1) := dec_3 (gB dr_0 24 rfl rfl)
theorem dL_law_25 : decode cL_law 25 = .ok (.istore 4, 2) := e_54 (x := 4) dr_0 25 rfl rfl
theorem dL_law_27 : decode cL_law 27 = .ok (.iload 4, 2) := e_21 (x := 4) dr_0 27 rfl rfl
theorem dL_law_29 : decode cL_law 29 = .ok (.aload_n 0, 1) := dec_42 (gB dr_0 29 rfl rfl)
theorem dL_law_30 : decode cL_law 30 = .ok (.arraylength, 1) := dec_190 (gB dr_0 30 rfl rfl)
theorem dL_law_31 : decode cL_law 31 = .ok (.iconst 5, 1) := dec_8 (gB dr_0 31 rfl rfl)
theorem dL_law_32 : decode cL_law 32 = .ok (.isub, 1) := dec_100 (gB dr_0 32 rfl rfl)
theorem dL_law_33 : decode cL_law 33 = .ok (.if_icmp .gt 2180, 3) := e_163 (x := 8) (y := 132) dr_0 33 rfl rfl
theorem dL_law_36 : decode cL_law 36 = .ok (.aload_n 0, 1) := dec_42 (gB dr_0 36 rfl rfl)
theorem dL_law_37 : decode cL_law 37 = .ok (.iload 4, 2) := e_21 (x := 4) dr_0 37 rfl rfl
theorem dL_law_39 : decode cL_law 39 = .ok (.iaload, 1) := dec_46 (gB dr_0 39 rfl rfl)
theorem dL_law_40 : decode cL_law 40 = .ok (.bipush 63, 2) := e_16 (x := 63) dr_0 40 rfl rfl
theorem dL_law_42 : decode cL_law 42 = .ok (.iand, 1) := dec_126 (gB dr_0 42 rfl rfl)
theorem dL_law_43 : decode cL_law 43 = .ok (.tableswitch 2164 0 46 #[201, 241, 281, 349, 401, 469, 509, 561, 625, 665, 693, 721, 761, 801, 853, 905, 957, 1009, 1073, 1113, 1141, 1169, 1197, 1273, 1301, 1357, 1409, 1461, 1501, 1529, 1597, 1665, 1693, 1721, 1749, 1777, 1805, 1845, 1873, 1929, 1985, 2041, 2069, 2097, 2125, 2138, 2151], 201) := by decide +kernel
theorem dL_law_244 : decode cL_law 244 = .ok (.aload_n 1, 1) := dec_43 (gB dr_3 52 rfl rfl)
theorem dL_law_245 : decode cL_law 245 = .ok (.aload_n 0, 1) := dec_42 (gB dr_3 53 rfl rfl)
theorem dL_law_246 : decode cL_law 246 = .ok (.iload 4, 2) := e_21 (x := 4) dr_3 54 rfl rfl
theorem dL_law_248 : decode cL_law 248 = .ok (.iconst 1, 1) := dec_4 (gB dr_3 56 rfl rfl)
theorem dL_law_249 : decode cL_law 249 = .ok (.iadd, 1) := dec_96 (gB dr_3 57 rfl rfl)
theorem dL_law_250 : decode cL_law 250 = .ok (.iaload, 1) := dec_46 (gB dr_3 58 rfl rfl)
theorem dL_law_251 : decode cL_law 251 = .ok (.aload_n 0, 1) := dec_42 (gB dr_3 59 rfl rfl)
theorem dL_law_252 : decode cL_law 252 = .ok (.iload 4, 2) := e_21 (x := 4) dr_3 60 rfl rfl
theorem dL_law_254 : decode cL_law 254 = .ok (.iconst 2, 1) := dec_5 (gB dr_3 62 rfl rfl)
theorem dL_law_255 : decode cL_law 255 = .ok (.iadd, 1) := dec_96 (gB dr_3 63 rfl rfl)
theorem dL_law_256 : decode cL_law 256 = .ok (.iaload, 1) := dec_46 (gB dr_4 0 rfl rfl)
theorem dL_law_257 : decode cL_law 257 = .ok (.aload_n 3, 1) := dec_45 (gB dr_4 1 rfl rfl)
theorem dL_law_258 : decode cL_law 258 = .ok (.invokestatic 172, 3) := e_184 (x := 0) (y := 172) dr_4 2 rfl rfl
theorem dL_law_261 : decode cL_law 261 = .ok (.istore 5, 2) := e_54 (x := 5) dr_4 5 rfl rfl
theorem dL_law_263 : decode cL_law 263 = .ok (.aload_n 2, 1) := dec_44 (gB dr_4 7 rfl rfl)
theorem dL_law_264 : decode cL_law 264 = .ok (.aload_n 0, 1) := dec_42 (gB dr_4 8 rfl rfl)
theorem dL_law_265 : decode cL_law 265 = .ok (.iload 4, 2) := e_21 (x := 4) dr_4 9 rfl rfl
theorem dL_law_267 : decode cL_law 267 = .ok (.iconst 1, 1) := dec_4 (gB dr_4 11 rfl rfl)
theorem dL_law_268 : decode cL_law 268 = .ok (.iadd, 1) := dec_96 (gB dr_4 12 rfl rfl)
theorem dL_law_269 : decode cL_law 269 = .ok (.iaload, 1) := dec_46 (gB dr_4 13 rfl rfl)
theorem dL_law_270 : decode cL_law 270 = .ok (.aload_n 0, 1) := dec_42 (gB dr_4 14 rfl rfl)
theorem dL_law_271 : decode cL_law 271 = .ok (.iload 4, 2) := e_21 (x := 4) dr_4 15 rfl rfl
theorem dL_law_273 : decode cL_law 273 = .ok (.iconst 2, 1) := dec_5 (gB dr_4 17 rfl rfl)
theorem dL_law_274 : decode cL_law 274 = .ok (.iadd, 1) := dec_96 (gB dr_4 18 rfl rfl)
theorem dL_law_275 : decode cL_law 275 = .ok (.iaload, 1) := dec_46 (gB dr_4 19 rfl rfl)
theorem dL_law_276 : decode cL_law 276 = .ok (.invokevirtual 177, 3) := e_182 (x := 0) (y := 177) dr_4 20 rfl rfl
theorem dL_law_279 : decode cL_law 279 = .ok (.istore 6, 2) := e_54 (x := 6) dr_4 23 rfl rfl
theorem dL_law_281 : decode cL_law 281 = .ok (.goto 1926, 3) := e_167 (x := 7) (y := 134) dr_4 25 rfl rfl
theorem dL_law_284 : decode cL_law 284 = .ok (.aload_n 1, 1) := dec_43 (gB dr_4 28 rfl rfl)
theorem dL_law_285 : decode cL_law 285 = .ok (.aload_n 0, 1) := dec_42 (gB dr_4 29 rfl rfl)
theorem dL_law_286 : decode cL_law 286 = .ok (.iload 4, 2) := e_21 (x := 4) dr_4 30 rfl rfl
theorem dL_law_288 : decode cL_law 288 = .ok (.iconst 1, 1) := dec_4 (gB dr_4 32 rfl rfl)
theorem dL_law_289 : decode cL_law 289 = .ok (.iadd, 1) := dec_96 (gB dr_4 33 rfl rfl)
theorem dL_law_290 : decode cL_law 290 = .ok (.iaload, 1) := dec_46 (gB dr_4 34 rfl rfl)
theorem dL_law_291 : decode cL_law 291 = .ok (.aload_n 0, 1) := dec_42 (gB dr_4 35 rfl rfl)
theorem dL_law_292 : decode cL_law 292 = .ok (.iload 4, 2) := e_21 (x := 4) dr_4 36 rfl rfl
theorem dL_law_294 : decode cL_law 294 = .ok (.iconst 2, 1) := dec_5 (gB dr_4 38 rfl rfl)
theorem dL_law_295 : decode cL_law 295 = .ok (.iadd, 1) := dec_96 (gB dr_4 39 rfl rfl)
theorem dL_law_296 : decode cL_law 296 = .ok (.iaload, 1) := dec_46 (gB dr_4 40 rfl rfl)
theorem dL_law_297 : decode cL_law 297 = .ok (.aload_n 3, 1) := dec_45 (gB dr_4 41 rfl rfl)
theorem dL_law_298 : decode cL_law 298 = .ok (.invokestatic 178, 3) := e_184 (x := 0) (y := 178) dr_4 42 rfl rfl
theorem dL_law_301 : decode cL_law 301 = .ok (.istore 5, 2) := e_54 (x := 5) dr_4 45 rfl rfl
theorem dL_law_303 : decode cL_law 303 = .ok (.aload_n 2, 1) := dec_44 (gB dr_4 47 rfl rfl)
theorem dL_law_304 : decode cL_law 304 = .ok (.aload_n 0, 1) := dec_42 (gB dr_4 48 rfl rfl)
theorem dL_law_305 : decode cL_law 305 = .ok (.iload 4, 2) := e_21 (x := 4) dr_4 49 rfl rfl
theorem dL_law_307 : decode cL_law 307 = .ok (.iconst 1, 1) := dec_4 (gB dr_4 51 rfl rfl)
theorem dL_law_308 : decode cL_law 308 = .ok (.iadd, 1) := dec_96 (gB dr_4 52 rfl rfl)
theorem dL_law_309 : decode cL_law 309 = .ok (.iaload, 1) := dec_46 (gB dr_4 53 rfl rfl)
theorem dL_law_310 : decode cL_law 310 = .ok (.aload_n 0, 1) := dec_42 (gB dr_4 54 rfl rfl)
theorem dL_law_311 : decode cL_law 311 = .ok (.iload 4, 2) := e_21 (x := 4) dr_4 55 rfl rfl
theorem dL_law_313 : decode cL_law 313 = .ok (.iconst 2, 1) := dec_5 (gB dr_4 57 rfl rfl)
theorem dL_law_314 : decode cL_law 314 = .ok (.iadd, 1) := dec_96 (gB dr_4 58 rfl rfl)
theorem dL_law_315 : decode cL_law 315 = .ok (.iaload, 1) := dec_46 (gB dr_4 59 rfl rfl)
theorem dL_law_316 : decode cL_law 316 = .ok (.invokevirtual 180, 3) := e_182 (x := 0) (y := 180) dr_4 60 rfl rfl
theorem dL_law_319 : decode cL_law 319 = .ok (.istore 6, 2) := dec_54 (a := 6) (gB dr_4 63 rfl rfl) (gB dr_5 0 rfl rfl)
theorem dL_law_321 : decode cL_law 321 = .ok (.goto 1886, 3) := e_167 (x := 7) (y := 94) dr_5 1 rfl rfl
theorem dL_law_324 : decode cL_law 324 = .ok (.aload_n 1, 1) := dec_43 (gB dr_5 4 rfl rfl)
theorem dL_law_325 : decode cL_law 325 = .ok (.aload_n 0, 1) := dec_42 (gB dr_5 5 rfl rfl)
theorem dL_law_326 : decode cL_law 326 = .ok (.iload 4, 2) := e_21 (x := 4) dr_5 6 rfl rfl
theorem dL_law_328 : decode cL_law 328 = .ok (.iconst 1, 1) := dec_4 (gB dr_5 8 rfl rfl)
theorem dL_law_329 : decode cL_law 329 = .ok (.iadd, 1) := dec_96 (gB dr_5 9 rfl rfl)
theorem dL_law_330 : decode cL_law 330 = .ok (.iaload, 1) := dec_46 (gB dr_5 10 rfl rfl)
theorem dL_law_331 : decode cL_law 331 = .ok (.aload_n 0, 1) := dec_42 (gB dr_5 11 rfl rfl)
theorem dL_law_332 : decode cL_law 332 = .ok (.iload 4, 2) := e_21 (x := 4) dr_5 12 rfl rfl
theorem dL_law_334 : decode cL_law 334 = .ok (.iconst 2, 1) := dec_5 (gB dr_5 14 rfl rfl)
theorem dL_law_335 : decode cL_law 335 = .ok (.iadd, 1) := dec_96 (gB dr_5 15 rfl rfl)
theorem dL_law_336 : decode cL_law 336 = .ok (.iaload, 1) := dec_46 (gB dr_5 16 rfl rfl)
theorem dL_law_337 : decode cL_law 337 = .ok (.aload_n 0, 1) := dec_42 (gB dr_5 17 rfl rfl)
theorem dL_law_338 : decode cL_law 338 = .ok (.iload 4, 2) := e_21 (x := 4) dr_5 18 rfl rfl
theorem dL_law_340 : decode cL_law 340 = .ok (.iconst 3, 1) := dec_6 (gB dr_5 20 rfl rfl)
theorem dL_law_341 : decode cL_law 341 = .ok (.iadd, 1) := dec_96 (gB dr_5 21 rfl rfl)
theorem dL_law_342 : decode cL_law 342 = .ok (.iaload, 1) := dec_46 (gB dr_5 22 rfl rfl)
theorem dL_law_343 : decode cL_law 343 = .ok (.ifCond .eq 7, 3) := e_153 (x := 0) (y := 7) dr_5 23 rfl rfl
theorem dL_law_346 : decode cL_law 346 = .ok (.iconst 1, 1) := dec_4 (gB dr_5 26 rfl rfl)
theorem dL_law_347 : decode cL_law 347 = .ok (.goto 4, 3) := e_167 (x := 0) (y := 4) dr_5 27 rfl rfl
theorem dL_law_350 : decode cL_law 350 = .ok (.iconst 0, 1) := dec_3 (gB dr_5 30 rfl rfl)
theorem dL_law_351 : decode cL_law 351 = .ok (.aload_n 3, 1) := dec_45 (gB dr_5 31 rfl rfl)
theorem dL_law_352 : decode cL_law 352 = .ok (.invokestatic 181, 3) := e_184 (x := 0) (y := 181) dr_5 32 rfl rfl
theorem dL_law_355 : decode cL_law 355 = .ok (.istore 5, 2) := e_54 (x := 5) dr_5 35 rfl rfl
theorem dL_law_357 : decode cL_law 357 = .ok (.aload_n 2, 1) := dec_44 (gB dr_5 37 rfl rfl)
theorem dL_law_358 : decode cL_law 358 = .ok (.aload_n 0, 1) := dec_42 (gB dr_5 38 rfl rfl)
theorem dL_law_359 : decode cL_law 359 = .ok (.iload 4, 2) := e_21 (x := 4) dr_5 39 rfl rfl
theorem dL_law_361 : decode cL_law 361 = .ok (.iconst 1, 1) := dec_4 (gB dr_5 41 rfl rfl)
theorem dL_law_362 : decode cL_law 362 = .ok (.iadd, 1) := dec_96 (gB dr_5 42 rfl rfl)
theorem dL_law_363 : decode cL_law 363 = .ok (.iaload, 1) := dec_46 (gB dr_5 43 rfl rfl)
theorem dL_law_364 : decode cL_law 364 = .ok (.aload_n 0, 1) := dec_42 (gB dr_5 44 rfl rfl)
theorem dL_law_365 : decode cL_law 365 = .ok (.iload 4, 2) := e_21 (x := 4) dr_5 45 rfl rfl
theorem dL_law_367 : decode cL_law 367 = .ok (.iconst 2, 1) := dec_5 (gB dr_5 47 rfl rfl)
theorem dL_law_368 : decode cL_law 368 = .ok (.iadd, 1) := dec_96 (gB dr_5 48 rfl rfl)
theorem dL_law_369 : decode cL_law 369 = .ok (.iaload, 1) := dec_46 (gB dr_5 49 rfl rfl)
theorem dL_law_370 : decode cL_law 370 = .ok (.aload_n 0, 1) := dec_42 (gB dr_5 50 rfl rfl)
theorem dL_law_371 : decode cL_law 371 = .ok (.iload 4, 2) := e_21 (x := 4) dr_5 51 rfl rfl
theorem dL_law_373 : decode cL_law 373 = .ok (.iconst 3, 1) := dec_6 (gB dr_5 53 rfl rfl)
theorem dL_law_374 : decode cL_law 374 = .ok (.iadd, 1) := dec_96 (gB dr_5 54 rfl rfl)
theorem dL_law_375 : decode cL_law 375 = .ok (.iaload, 1) := dec_46 (gB dr_5 55 rfl rfl)
theorem dL_law_376 : decode cL_law 376 = .ok (.ifCond .eq 7, 3) := e_153 (x := 0) (y := 7) dr_5 56 rfl rfl
theorem dL_law_379 : decode cL_law 379 = .ok (.iconst 1, 1) := dec_4 (gB dr_5 59 rfl rfl)
theorem dL_law_380 : decode cL_law 380 = .ok (.goto 4, 3) := e_167 (x := 0) (y := 4) dr_5 60 rfl rfl
theorem dL_law_383 : decode cL_law 383 = .ok (.iconst 0, 1) := dec_3 (gB dr_5 63 rfl rfl)
theorem dL_law_384 : decode cL_law 384 = .ok (.invokevirtual 184, 3) := e_182 (x := 0) (y := 184) dr_6 0 rfl rfl
theorem dL_law_387 : decode cL_law 387 = .ok (.istore 6, 2) := e_54 (x := 6) dr_6 3 rfl rfl
theorem dL_law_389 : decode cL_law 389 = .ok (.goto 1818, 3) := e_167 (x := 7) (y := 26) dr_6 5 rfl rfl
theorem dL_law_392 : decode cL_law 392 = .ok (.aload_n 1, 1) := dec_43 (gB dr_6 8 rfl rfl)
theorem dL_law_393 : decode cL_law 393 = .ok (.aload_n 0, 1) := dec_42 (gB dr_6 9 rfl rfl)
theorem dL_law_394 : decode cL_law 394 = .ok (.iload 4, 2) := e_21 (x := 4) dr_6 10 rfl rfl
theorem dL_law_396 : decode cL_law 396 = .ok (.iconst 1, 1) := dec_4 (gB dr_6 12 rfl rfl)
theorem dL_law_397 : decode cL_law 397 = .ok (.iadd, 1) := dec_96 (gB dr_6 13 rfl rfl)
theorem dL_law_398 : decode cL_law 398 = .ok (.iaload, 1) := dec_46 (gB dr_6 14 rfl rfl)
theorem dL_law_399 : decode cL_law 399 = .ok (.aload_n 0, 1) := dec_42 (gB dr_6 15 rfl rfl)
theorem dL_law_400 : decode cL_law 400 = .ok (.iload 4, 2) := e_21 (x := 4) dr_6 16 rfl rfl
theorem dL_law_402 : decode cL_law 402 = .ok (.iconst 2, 1) := dec_5 (gB dr_6 18 rfl rfl)
theorem dL_law_403 : decode cL_law 403 = .ok (.iadd, 1) := dec_96 (gB dr_6 19 rfl rfl)
theorem dL_law_404 : decode cL_law 404 = .ok (.iaload, 1) := dec_46 (gB dr_6 20 rfl rfl)
theorem dL_law_405 : decode cL_law 405 = .ok (.aload_n 0, 1) := dec_42 (gB dr_6 21 rfl rfl)
theorem dL_law_406 : decode cL_law 406 = .ok (.iload 4, 2) := e_21 (x := 4) dr_6 22 rfl rfl
theorem dL_law_408 : decode cL_law 408 = .ok (.iconst 3, 1) := dec_6 (gB dr_6 24 rfl rfl)
theorem dL_law_409 : decode cL_law 409 = .ok (.iadd, 1) := dec_96 (gB dr_6 25 rfl rfl)
theorem dL_law_410 : decode cL_law 410 = .ok (.iaload, 1) := dec_46 (gB dr_6 26 rfl rfl)
theorem dL_law_411 : decode cL_law 411 = .ok (.aload_n 3, 1) := dec_45 (gB dr_6 27 rfl rfl)
theorem dL_law_412 : decode cL_law 412 = .ok (.invokestatic 185, 3) := e_184 (x := 0) (y := 185) dr_6 28 rfl rfl
theorem dL_law_415 : decode cL_law 415 = .ok (.istore 5, 2) := e_54 (x := 5) dr_6 31 rfl rfl
theorem dL_law_417 : decode cL_law 417 = .ok (.aload_n 2, 1) := dec_44 (gB dr_6 33 rfl rfl)
theorem dL_law_418 : decode cL_law 418 = .ok (.aload_n 0, 1) := dec_42 (gB dr_6 34 rfl rfl)
theorem dL_law_419 : decode cL_law 419 = .ok (.iload 4, 2) := e_21 (x := 4) dr_6 35 rfl rfl
theorem dL_law_421 : decode cL_law 421 = .ok (.iconst 1, 1) := dec_4 (gB dr_6 37 rfl rfl)
theorem dL_law_422 : decode cL_law 422 = .ok (.iadd, 1) := dec_96 (gB dr_6 38 rfl rfl)
theorem dL_law_423 : decode cL_law 423 = .ok (.iaload, 1) := dec_46 (gB dr_6 39 rfl rfl)
theorem dL_law_424 : decode cL_law 424 = .ok (.aload_n 0, 1) := dec_42 (gB dr_6 40 rfl rfl)
theorem dL_law_425 : decode cL_law 425 = .ok (.iload 4, 2) := e_21 (x := 4) dr_6 41 rfl rfl
theorem dL_law_427 : decode cL_law 427 = .ok (.iconst 2, 1) := dec_5 (gB dr_6 43 rfl rfl)
theorem dL_law_428 : decode cL_law 428 = .ok (.iadd, 1) := dec_96 (gB dr_6 44 rfl rfl)
theorem dL_law_429 : decode cL_law 429 = .ok (.iaload, 1) := dec_46 (gB dr_6 45 rfl rfl)
theorem dL_law_430 : decode cL_law 430 = .ok (.aload_n 0, 1) := dec_42 (gB dr_6 46 rfl rfl)
theorem dL_law_431 : decode cL_law 431 = .ok (.iload 4, 2) := e_21 (x := 4) dr_6 47 rfl rfl
theorem dL_law_433 : decode cL_law 433 = .ok (.iconst 3, 1) := dec_6 (gB dr_6 49 rfl rfl)
theorem dL_law_434 : decode cL_law 434 = .ok (.iadd, 1) := dec_96 (gB dr_6 50 rfl rfl)
theorem dL_law_435 : decode cL_law 435 = .ok (.iaload, 1) := dec_46 (gB dr_6 51 rfl rfl)
theorem dL_law_436 : decode cL_law 436 = .ok (.invokevirtual 188, 3) := e_182 (x := 0) (y := 188) dr_6 52 rfl rfl
theorem dL_law_439 : decode cL_law 439 = .ok (.istore 6, 2) := e_54 (x := 6) dr_6 55 rfl rfl
theorem dL_law_441 : decode cL_law 441 = .ok (.goto 1766, 3) := e_167 (x := 6) (y := 230) dr_6 57 rfl rfl
theorem dL_law_444 : decode cL_law 444 = .ok (.aload_n 1, 1) := dec_43 (gB dr_6 60 rfl rfl)
theorem dL_law_445 : decode cL_law 445 = .ok (.aload_n 0, 1) := dec_42 (gB dr_6 61 rfl rfl)
theorem dL_law_446 : decode cL_law 446 = .ok (.iload 4, 2) := e_21 (x := 4) dr_6 62 rfl rfl
theorem dL_law_448 : decode cL_law 448 = .ok (.iconst 1, 1) := dec_4 (gB dr_7 0 rfl rfl)
theorem dL_law_449 : decode cL_law 449 = .ok (.iadd, 1) := dec_96 (gB dr_7 1 rfl rfl)
theorem dL_law_450 : decode cL_law 450 = .ok (.iaload, 1) := dec_46 (gB dr_7 2 rfl rfl)
theorem dL_law_451 : decode cL_law 451 = .ok (.aload_n 0, 1) := dec_42 (gB dr_7 3 rfl rfl)
theorem dL_law_452 : decode cL_law 452 = .ok (.iload 4, 2) := e_21 (x := 4) dr_7 4 rfl rfl
theorem dL_law_454 : decode cL_law 454 = .ok (.iconst 2, 1) := dec_5 (gB dr_7 6 rfl rfl)
theorem dL_law_455 : decode cL_law 455 = .ok (.iadd, 1) := dec_96 (gB dr_7 7 rfl rfl)
theorem dL_law_456 : decode cL_law 456 = .ok (.iaload, 1) := dec_46 (gB dr_7 8 rfl rfl)
theorem dL_law_457 : decode cL_law 457 = .ok (.aload_n 0, 1) := dec_42 (gB dr_7 9 rfl rfl)
theorem dL_law_458 : decode cL_law 458 = .ok (.iload 4, 2) := e_21 (x := 4) dr_7 10 rfl rfl
theorem dL_law_460 : decode cL_law 460 = .ok (.iconst 3, 1) := dec_6 (gB dr_7 12 rfl rfl)
theorem dL_law_461 : decode cL_law 461 = .ok (.iadd, 1) := dec_96 (gB dr_7 13 rfl rfl)
theorem dL_law_462 : decode cL_law 462 = .ok (.iaload, 1) := dec_46 (gB dr_7 14 rfl rfl)
theorem dL_law_463 : decode cL_law 463 = .ok (.ifCond .eq 7, 3) := e_153 (x := 0) (y := 7) dr_7 15 rfl rfl
theorem dL_law_466 : decode cL_law 466 = .ok (.iconst 1, 1) := dec_4 (gB dr_7 18 rfl rfl)
theorem dL_law_467 : decode cL_law 467 = .ok (.goto 4, 3) := e_167 (x := 0) (y := 4) dr_7 19 rfl rfl
theorem dL_law_470 : decode cL_law 470 = .ok (.iconst 0, 1) := dec_3 (gB dr_7 22 rfl rfl)
theorem dL_law_471 : decode cL_law 471 = .ok (.aload_n 3, 1) := dec_45 (gB dr_7 23 rfl rfl)
theorem dL_law_472 : decode cL_law 472 = .ok (.invokestatic 189, 3) := e_184 (x := 0) (y := 189) dr_7 24 rfl rfl
theorem dL_law_475 : decode cL_law 475 = .ok (.istore 5, 2) := e_54 (x := 5) dr_7 27 rfl rfl
theorem dL_law_477 : decode cL_law 477 = .ok (.aload_n 2, 1) := dec_44 (gB dr_7 29 rfl rfl)
theorem dL_law_478 : decode cL_law 478 = .ok (.aload_n 0, 1) := dec_42 (gB dr_7 30 rfl rfl)
theorem dL_law_479 : decode cL_law 479 = .ok (.iload 4, 2) := e_21 (x := 4) dr_7 31 rfl rfl
theorem dL_law_481 : decode cL_law 481 = .ok (.iconst 1, 1) := dec_4 (gB dr_7 33 rfl rfl)
theorem dL_law_482 : decode cL_law 482 = .ok (.iadd, 1) := dec_96 (gB dr_7 34 rfl rfl)
theorem dL_law_483 : decode cL_law 483 = .ok (.iaload, 1) := dec_46 (gB dr_7 35 rfl rfl)
theorem dL_law_484 : decode cL_law 484 = .ok (.aload_n 0, 1) := dec_42 (gB dr_7 36 rfl rfl)
theorem dL_law_485 : decode cL_law 485 = .ok (.iload 4, 2) := e_21 (x := 4) dr_7 37 rfl rfl
theorem dL_law_487 : decode cL_law 487 = .ok (.iconst 2, 1) := dec_5 (gB dr_7 39 rfl rfl)
theorem dL_law_488 : decode cL_law 488 = .ok (.iadd, 1) := dec_96 (gB dr_7 40 rfl rfl)
theorem dL_law_489 : decode cL_law 489 = .ok (.iaload, 1) := dec_46 (gB dr_7 41 rfl rfl)
theorem dL_law_490 : decode cL_law 490 = .ok (.aload_n 0, 1) := dec_42 (gB dr_7 42 rfl rfl)
theorem dL_law_491 : decode cL_law 491 = .ok (.iload 4, 2) := e_21 (x := 4) dr_7 43 rfl rfl
theorem dL_law_493 : decode cL_law 493 = .ok (.iconst 3, 1) := dec_6 (gB dr_7 45 rfl rfl)
theorem dL_law_494 : decode cL_law 494 = .ok (.iadd, 1) := dec_96 (gB dr_7 46 rfl rfl)
theorem dL_law_495 : decode cL_law 495 = .ok (.iaload, 1) := dec_46 (gB dr_7 47 rfl rfl)
theorem dL_law_496 : decode cL_law 496 = .ok (.ifCond .eq 7, 3) := e_153 (x := 0) (y := 7) dr_7 48 rfl rfl
theorem dL_law_499 : decode cL_law 499 = .ok (.iconst 1, 1) := dec_4 (gB dr_7 51 rfl rfl)
theorem dL_law_500 : decode cL_law 500 = .ok (.goto 4, 3) := e_167 (x := 0) (y := 4) dr_7 52 rfl rfl
theorem dL_law_503 : decode cL_law 503 = .ok (.iconst 0, 1) := dec_3 (gB dr_7 55 rfl rfl)
theorem dL_law_504 : decode cL_law 504 = .ok (.invokevirtual 191, 3) := e_182 (x := 0) (y := 191) dr_7 56 rfl rfl
theorem dL_law_507 : decode cL_law 507 = .ok (.istore 6, 2) := e_54 (x := 6) dr_7 59 rfl rfl
theorem dL_law_509 : decode cL_law 509 = .ok (.goto 1698, 3) := e_167 (x := 6) (y := 162) dr_7 61 rfl rfl
theorem dL_law_512 : decode cL_law 512 = .ok (.aload_n 1, 1) := dec_43 (gB dr_8 0 rfl rfl)
theorem dL_law_513 : decode cL_law 513 = .ok (.aload_n 0, 1) := dec_42 (gB dr_8 1 rfl rfl)
theorem dL_law_514 : decode cL_law 514 = .ok (.iload 4, 2) := e_21 (x := 4) dr_8 2 rfl rfl
theorem dL_law_516 : decode cL_law 516 = .ok (.iconst 1, 1) := dec_4 (gB dr_8 4 rfl rfl)
theorem dL_law_517 : decode cL_law 517 = .ok (.iadd, 1) := dec_96 (gB dr_8 5 rfl rfl)
theorem dL_law_518 : decode cL_law 518 = .ok (.iaload, 1) := dec_46 (gB dr_8 6 rfl rfl)
theorem dL_law_519 : decode cL_law 519 = .ok (.aload_n 0, 1) := dec_42 (gB dr_8 7 rfl rfl)
theorem dL_law_520 : decode cL_law 520 = .ok (.iload 4, 2) := e_21 (x := 4) dr_8 8 rfl rfl
theorem dL_law_522 : decode cL_law 522 = .ok (.iconst 2, 1) := dec_5 (gB dr_8 10 rfl rfl)
theorem dL_law_523 : decode cL_law 523 = .ok (.iadd, 1) := dec_96 (gB dr_8 11 rfl rfl)
theorem dL_law_524 : decode cL_law 524 = .ok (.iaload, 1) := dec_46 (gB dr_8 12 rfl rfl)
theorem dL_law_525 : decode cL_law 525 = .ok (.aload_n 3, 1) := dec_45 (gB dr_8 13 rfl rfl)
theorem dL_law_526 : decode cL_law 526 = .ok (.invokestatic 192, 3) := e_184 (x := 0) (y := 192) dr_8 14 rfl rfl
theorem dL_law_529 : decode cL_law 529 = .ok (.istore 5, 2) := e_54 (x := 5) dr_8 17 rfl rfl
theorem dL_law_531 : decode cL_law 531 = .ok (.aload_n 2, 1) := dec_44 (gB dr_8 19 rfl rfl)
theorem dL_law_532 : decode cL_law 532 = .ok (.aload_n 0, 1) := dec_42 (gB dr_8 20 rfl rfl)
theorem dL_law_533 : decode cL_law 533 = .ok (.iload 4, 2) := e_21 (x := 4) dr_8 21 rfl rfl
theorem dL_law_535 : decode cL_law 535 = .ok (.iconst 1, 1) := dec_4 (gB dr_8 23 rfl rfl)
theorem dL_law_536 : decode cL_law 536 = .ok (.iadd, 1) := dec_96 (gB dr_8 24 rfl rfl)
theorem dL_law_537 : decode cL_law 537 = .ok (.iaload, 1) := dec_46 (gB dr_8 25 rfl rfl)
theorem dL_law_538 : decode cL_law 538 = .ok (.aload_n 0, 1) := dec_42 (gB dr_8 26 rfl rfl)
theorem dL_law_539 : decode cL_law 539 = .ok (.iload 4, 2) := e_21 (x := 4) dr_8 27 rfl rfl
theorem dL_law_541 : decode cL_law 541 = .ok (.iconst 2, 1) := dec_5 (gB dr_8 29 rfl rfl)
theorem dL_law_542 : decode cL_law 542 = .ok (.iadd, 1) := dec_96 (gB dr_8 30 rfl rfl)
theorem dL_law_543 : decode cL_law 543 = .ok (.iaload, 1) := dec_46 (gB dr_8 31 rfl rfl)
theorem dL_law_544 : decode cL_law 544 = .ok (.invokevirtual 194, 3) := e_182 (x := 0) (y := 194) dr_8 32 rfl rfl
theorem dL_law_547 : decode cL_law 547 = .ok (.istore 6, 2) := e_54 (x := 6) dr_8 35 rfl rfl
theorem dL_law_549 : decode cL_law 549 = .ok (.goto 1658, 3) := e_167 (x := 6) (y := 122) dr_8 37 rfl rfl
theorem dL_law_552 : decode cL_law 552 = .ok (.aload_n 1, 1) := dec_43 (gB dr_8 40 rfl rfl)
theorem dL_law_553 : decode cL_law 553 = .ok (.aload_n 0, 1) := dec_42 (gB dr_8 41 rfl rfl)
theorem dL_law_554 : decode cL_law 554 = .ok (.iload 4, 2) := e_21 (x := 4) dr_8 42 rfl rfl
theorem dL_law_556 : decode cL_law 556 = .ok (.iconst 1, 1) := dec_4 (gB dr_8 44 rfl rfl)
theorem dL_law_557 : decode cL_law 557 = .ok (.iadd, 1) := dec_96 (gB dr_8 45 rfl rfl)
theorem dL_law_558 : decode cL_law 558 = .ok (.iaload, 1) := dec_46 (gB dr_8 46 rfl rfl)
theorem dL_law_559 : decode cL_law 559 = .ok (.aload_n 0, 1) := dec_42 (gB dr_8 47 rfl rfl)
theorem dL_law_560 : decode cL_law 560 = .ok (.iload 4, 2) := e_21 (x := 4) dr_8 48 rfl rfl
theorem dL_law_562 : decode cL_law 562 = .ok (.iconst 2, 1) := dec_5 (gB dr_8 50 rfl rfl)
theorem dL_law_563 : decode cL_law 563 = .ok (.iadd, 1) := dec_96 (gB dr_8 51 rfl rfl)
theorem dL_law_564 : decode cL_law 564 = .ok (.iaload, 1) := dec_46 (gB dr_8 52 rfl rfl)
theorem dL_law_565 : decode cL_law 565 = .ok (.aload_n 0, 1) := dec_42 (gB dr_8 53 rfl rfl)
theorem dL_law_566 : decode cL_law 566 = .ok (.iload 4, 2) := e_21 (x := 4) dr_8 54 rfl rfl
theorem dL_law_568 : decode cL_law 568 = .ok (.iconst 3, 1) := dec_6 (gB dr_8 56 rfl rfl)
theorem dL_law_569 : decode cL_law 569 = .ok (.iadd, 1) := dec_96 (gB dr_8 57 rfl rfl)
theorem dL_law_570 : decode cL_law 570 = .ok (.iaload, 1) := dec_46 (gB dr_8 58 rfl rfl)
theorem dL_law_571 : decode cL_law 571 = .ok (.aload_n 3, 1) := dec_45 (gB dr_8 59 rfl rfl)
theorem dL_law_572 : decode cL_law 572 = .ok (.invokestatic 195, 3) := e_184 (x := 0) (y := 195) dr_8 60 rfl rfl
theorem dL_law_575 : decode cL_law 575 = .ok (.istore 5, 2) := dec_54 (a := 5) (gB dr_8 63 rfl rfl) (gB dr_9 0 rfl rfl)
theorem dL_law_577 : decode cL_law 577 = .ok (.aload_n 2, 1) := dec_44 (gB dr_9 1 rfl rfl)
theorem dL_law_578 : decode cL_law 578 = .ok (.aload_n 0, 1) := dec_42 (gB dr_9 2 rfl rfl)
theorem dL_law_579 : decode cL_law 579 = .ok (.iload 4, 2) := e_21 (x := 4) dr_9 3 rfl rfl
theorem dL_law_581 : decode cL_law 581 = .ok (.iconst 1, 1) := dec_4 (gB dr_9 5 rfl rfl)
theorem dL_law_582 : decode cL_law 582 = .ok (.iadd, 1) := dec_96 (gB dr_9 6 rfl rfl)
theorem dL_law_583 : decode cL_law 583 = .ok (.iaload, 1) := dec_46 (gB dr_9 7 rfl rfl)
theorem dL_law_584 : decode cL_law 584 = .ok (.aload_n 0, 1) := dec_42 (gB dr_9 8 rfl rfl)
theorem dL_law_585 : decode cL_law 585 = .ok (.iload 4, 2) := e_21 (x := 4) dr_9 9 rfl rfl
theorem dL_law_587 : decode cL_law 587 = .ok (.iconst 2, 1) := dec_5 (gB dr_9 11 rfl rfl)
theorem dL_law_588 : decode cL_law 588 = .ok (.iadd, 1) := dec_96 (gB dr_9 12 rfl rfl)
theorem dL_law_589 : decode cL_law 589 = .ok (.iaload, 1) := dec_46 (gB dr_9 13 rfl rfl)
theorem dL_law_590 : decode cL_law 590 = .ok (.aload_n 0, 1) := dec_42 (gB dr_9 14 rfl rfl)
theorem dL_law_591 : decode cL_law 591 = .ok (.iload 4, 2) := e_21 (x := 4) dr_9 15 rfl rfl
theorem dL_law_593 : decode cL_law 593 = .ok (.iconst 3, 1) := dec_6 (gB dr_9 17 rfl rfl)
theorem dL_law_594 : decode cL_law 594 = .ok (.iadd, 1) := dec_96 (gB dr_9 18 rfl rfl)
theorem dL_law_595 : decode cL_law 595 = .ok (.iaload, 1) := dec_46 (gB dr_9 19 rfl rfl)
theorem dL_law_596 : decode cL_law 596 = .ok (.invokevirtual 197, 3) := e_182 (x := 0) (y := 197) dr_9 20 rfl rfl
theorem dL_law_599 : decode cL_law 599 = .ok (.istore 6, 2) := e_54 (x := 6) dr_9 23 rfl rfl
theorem dL_law_601 : decode cL_law 601 = .ok (.goto 1606, 3) := e_167 (x := 6) (y := 70) dr_9 25 rfl rfl
theorem dL_law_604 : decode cL_law 604 = .ok (.aload_n 1, 1) := dec_43 (gB dr_9 28 rfl rfl)
theorem dL_law_605 : decode cL_law 605 = .ok (.aload_n 0, 1) := dec_42 (gB dr_9 29 rfl rfl)
theorem dL_law_606 : decode cL_law 606 = .ok (.iload 4, 2) := e_21 (x := 4) dr_9 30 rfl rfl
theorem dL_law_608 : decode cL_law 608 = .ok (.iconst 1, 1) := dec_4 (gB dr_9 32 rfl rfl)
theorem dL_law_609 : decode cL_law 609 = .ok (.iadd, 1) := dec_96 (gB dr_9 33 rfl rfl)
theorem dL_law_610 : decode cL_law 610 = .ok (.iaload, 1) := dec_46 (gB dr_9 34 rfl rfl)
theorem dL_law_611 : decode cL_law 611 = .ok (.aload_n 0, 1) := dec_42 (gB dr_9 35 rfl rfl)
theorem dL_law_612 : decode cL_law 612 = .ok (.iload 4, 2) := e_21 (x := 4) dr_9 36 rfl rfl
theorem dL_law_614 : decode cL_law 614 = .ok (.iconst 2, 1) := dec_5 (gB dr_9 38 rfl rfl)
theorem dL_law_615 : decode cL_law 615 = .ok (.iadd, 1) := dec_96 (gB dr_9 39 rfl rfl)
theorem dL_law_616 : decode cL_law 616 = .ok (.iaload, 1) := dec_46 (gB dr_9 40 rfl rfl)
theorem dL_law_617 : decode cL_law 617 = .ok (.aload_n 0, 1) := dec_42 (gB dr_9 41 rfl rfl)
theorem dL_law_618 : decode cL_law 618 = .ok (.iload 4, 2) := e_21 (x := 4) dr_9 42 rfl rfl
theorem dL_law_620 : decode cL_law 620 = .ok (.iconst 3, 1) := dec_6 (gB dr_9 44 rfl rfl)
theorem dL_law_621 : decode cL_law 621 = .ok (.iadd, 1) := dec_96 (gB dr_9 45 rfl rfl)
theorem dL_law_622 : decode cL_law 622 = .ok (.iaload, 1) := dec_46 (gB dr_9 46 rfl rfl)
theorem dL_law_623 : decode cL_law 623 = .ok (.aload_n 0, 1) := dec_42 (gB dr_9 47 rfl rfl)
theorem dL_law_624 : decode cL_law 624 = .ok (.iload 4, 2) := e_21 (x := 4) dr_9 48 rfl rfl
theorem dL_law_626 : decode cL_law 626 = .ok (.iconst 4, 1) := dec_7 (gB dr_9 50 rfl rfl)
theorem dL_law_627 : decode cL_law 627 = .ok (.iadd, 1) := dec_96 (gB dr_9 51 rfl rfl)
theorem dL_law_628 : decode cL_law 628 = .ok (.iaload, 1) := dec_46 (gB dr_9 52 rfl rfl)
theorem dL_law_629 : decode cL_law 629 = .ok (.aload_n 3, 1) := dec_45 (gB dr_9 53 rfl rfl)
theorem dL_law_630 : decode cL_law 630 = .ok (.invokestatic 198, 3) := e_184 (x := 0) (y := 198) dr_9 54 rfl rfl
theorem dL_law_633 : decode cL_law 633 = .ok (.istore 5, 2) := e_54 (x := 5) dr_9 57 rfl rfl
theorem dL_law_635 : decode cL_law 635 = .ok (.aload_n 2, 1) := dec_44 (gB dr_9 59 rfl rfl)
theorem dL_law_636 : decode cL_law 636 = .ok (.aload_n 0, 1) := dec_42 (gB dr_9 60 rfl rfl)
theorem dL_law_637 : decode cL_law 637 = .ok (.iload 4, 2) := e_21 (x := 4) dr_9 61 rfl rfl
theorem dL_law_639 : decode cL_law 639 = .ok (.iconst 1, 1) := dec_4 (gB dr_9 63 rfl rfl)
theorem dL_law_640 : decode cL_law 640 = .ok (.iadd, 1) := dec_96 (gB dr_10 0 rfl rfl)
theorem dL_law_641 : decode cL_law 641 = .ok (.iaload, 1) := dec_46 (gB dr_10 1 rfl rfl)
theorem dL_law_642 : decode cL_law 642 = .ok (.aload_n 0, 1) := dec_42 (gB dr_10 2 rfl rfl)
theorem dL_law_643 : decode cL_law 643 = .ok (.iload 4, 2) := e_21 (x := 4) dr_10 3 rfl rfl
theorem dL_law_645 : decode cL_law 645 = .ok (.iconst 2, 1) := dec_5 (gB dr_10 5 rfl rfl)
theorem dL_law_646 : decode cL_law 646 = .ok (.iadd, 1) := dec_96 (gB dr_10 6 rfl rfl)
theorem dL_law_647 : decode cL_law 647 = .ok (.iaload, 1) := dec_46 (gB dr_10 7 rfl rfl)
theorem dL_law_648 : decode cL_law 648 = .ok (.aload_n 0, 1) := dec_42 (gB dr_10 8 rfl rfl)
theorem dL_law_649 : decode cL_law 649 = .ok (.iload 4, 2) := e_21 (x := 4) dr_10 9 rfl rfl
theorem dL_law_651 : decode cL_law 651 = .ok (.iconst 3, 1) := dec_6 (gB dr_10 11 rfl rfl)
theorem dL_law_652 : decode cL_law 652 = .ok (.iadd, 1) := dec_96 (gB dr_10 12 rfl rfl)
theorem dL_law_653 : decode cL_law 653 = .ok (.iaload, 1) := dec_46 (gB dr_10 13 rfl rfl)
theorem dL_law_654 : decode cL_law 654 = .ok (.aload_n 0, 1) := dec_42 (gB dr_10 14 rfl rfl)
theorem dL_law_655 : decode cL_law 655 = .ok (.iload 4, 2) := e_21 (x := 4) dr_10 15 rfl rfl
theorem dL_law_657 : decode cL_law 657 = .ok (.iconst 4, 1) := dec_7 (gB dr_10 17 rfl rfl)
theorem dL_law_658 : decode cL_law 658 = .ok (.iadd, 1) := dec_96 (gB dr_10 18 rfl rfl)
theorem dL_law_659 : decode cL_law 659 = .ok (.iaload, 1) := dec_46 (gB dr_10 19 rfl rfl)
theorem dL_law_660 : decode cL_law 660 = .ok (.invokevirtual 201, 3) := e_182 (x := 0) (y := 201) dr_10 20 rfl rfl
theorem dL_law_663 : decode cL_law 663 = .ok (.istore 6, 2) := e_54 (x := 6) dr_10 23 rfl rfl
theorem dL_law_665 : decode cL_law 665 = .ok (.goto 1542, 3) := e_167 (x := 6) (y := 6) dr_10 25 rfl rfl
theorem dL_law_668 : decode cL_law 668 = .ok (.aload_n 1, 1) := dec_43 (gB dr_10 28 rfl rfl)
theorem dL_law_669 : decode cL_law 669 = .ok (.aload_n 0, 1) := dec_42 (gB dr_10 29 rfl rfl)
theorem dL_law_670 : decode cL_law 670 = .ok (.iload 4, 2) := e_21 (x := 4) dr_10 30 rfl rfl
theorem dL_law_672 : decode cL_law 672 = .ok (.iconst 1, 1) := dec_4 (gB dr_10 32 rfl rfl)
theorem dL_law_673 : decode cL_law 673 = .ok (.iadd, 1) := dec_96 (gB dr_10 33 rfl rfl)
theorem dL_law_674 : decode cL_law 674 = .ok (.iaload, 1) := dec_46 (gB dr_10 34 rfl rfl)
theorem dL_law_675 : decode cL_law 675 = .ok (.aload_n 0, 1) := dec_42 (gB dr_10 35 rfl rfl)
theorem dL_law_676 : decode cL_law 676 = .ok (.iload 4, 2) := e_21 (x := 4) dr_10 36 rfl rfl
theorem dL_law_678 : decode cL_law 678 = .ok (.iconst 2, 1) := dec_5 (gB dr_10 38 rfl rfl)
theorem dL_law_679 : decode cL_law 679 = .ok (.iadd, 1) := dec_96 (gB dr_10 39 rfl rfl)
theorem dL_law_680 : decode cL_law 680 = .ok (.iaload, 1) := dec_46 (gB dr_10 40 rfl rfl)
theorem dL_law_681 : decode cL_law 681 = .ok (.aload_n 3, 1) := dec_45 (gB dr_10 41 rfl rfl)
theorem dL_law_682 : decode cL_law 682 = .ok (.invokestatic 202, 3) := e_184 (x := 0) (y := 202) dr_10 42 rfl rfl
theorem dL_law_685 : decode cL_law 685 = .ok (.istore 5, 2) := e_54 (x := 5) dr_10 45 rfl rfl
theorem dL_law_687 : decode cL_law 687 = .ok (.aload_n 2, 1) := dec_44 (gB dr_10 47 rfl rfl)
theorem dL_law_688 : decode cL_law 688 = .ok (.aload_n 0, 1) := dec_42 (gB dr_10 48 rfl rfl)
theorem dL_law_689 : decode cL_law 689 = .ok (.iload 4, 2) := e_21 (x := 4) dr_10 49 rfl rfl
theorem dL_law_691 : decode cL_law 691 = .ok (.iconst 1, 1) := dec_4 (gB dr_10 51 rfl rfl)
theorem dL_law_692 : decode cL_law 692 = .ok (.iadd, 1) := dec_96 (gB dr_10 52 rfl rfl)
theorem dL_law_693 : decode cL_law 693 = .ok (.iaload, 1) := dec_46 (gB dr_10 53 rfl rfl)
theorem dL_law_694 : decode cL_law 694 = .ok (.aload_n 0, 1) := dec_42 (gB dr_10 54 rfl rfl)
theorem dL_law_695 : decode cL_law 695 = .ok (.iload 4, 2) := e_21 (x := 4) dr_10 55 rfl rfl
theorem dL_law_697 : decode cL_law 697 = .ok (.iconst 2, 1) := dec_5 (gB dr_10 57 rfl rfl)
theorem dL_law_698 : decode cL_law 698 = .ok (.iadd, 1) := dec_96 (gB dr_10 58 rfl rfl)
theorem dL_law_699 : decode cL_law 699 = .ok (.iaload, 1) := dec_46 (gB dr_10 59 rfl rfl)
theorem dL_law_700 : decode cL_law 700 = .ok (.invokevirtual 204, 3) := e_182 (x := 0) (y := 204) dr_10 60 rfl rfl
theorem dL_law_703 : decode cL_law 703 = .ok (.istore 6, 2) := dec_54 (a := 6) (gB dr_10 63 rfl rfl) (gB dr_11 0 rfl rfl)
theorem dL_law_705 : decode cL_law 705 = .ok (.goto 1502, 3) := e_167 (x := 5) (y := 222) dr_11 1 rfl rfl
theorem dL_law_708 : decode cL_law 708 = .ok (.aload_n 1, 1) := dec_43 (gB dr_11 4 rfl rfl)
theorem dL_law_709 : decode cL_law 709 = .ok (.aload_n 0, 1) := dec_42 (gB dr_11 5 rfl rfl)
theorem dL_law_710 : decode cL_law 710 = .ok (.iload 4, 2) := e_21 (x := 4) dr_11 6 rfl rfl
theorem dL_law_712 : decode cL_law 712 = .ok (.iconst 1, 1) := dec_4 (gB dr_11 8 rfl rfl)
theorem dL_law_713 : decode cL_law 713 = .ok (.iadd, 1) := dec_96 (gB dr_11 9 rfl rfl)
theorem dL_law_714 : decode cL_law 714 = .ok (.iaload, 1) := dec_46 (gB dr_11 10 rfl rfl)
theorem dL_law_715 : decode cL_law 715 = .ok (.aload_n 3, 1) := dec_45 (gB dr_11 11 rfl rfl)
theorem dL_law_716 : decode cL_law 716 = .ok (.invokestatic 205, 3) := e_184 (x := 0) (y := 205) dr_11 12 rfl rfl
theorem dL_law_719 : decode cL_law 719 = .ok (.istore 5, 2) := e_54 (x := 5) dr_11 15 rfl rfl
theorem dL_law_721 : decode cL_law 721 = .ok (.aload_n 2, 1) := dec_44 (gB dr_11 17 rfl rfl)
theorem dL_law_722 : decode cL_law 722 = .ok (.aload_n 0, 1) := dec_42 (gB dr_11 18 rfl rfl)
theorem dL_law_723 : decode cL_law 723 = .ok (.iload 4, 2) := e_21 (x := 4) dr_11 19 rfl rfl
theorem dL_law_725 : decode cL_law 725 = .ok (.iconst 1, 1) := dec_4 (gB dr_11 21 rfl rfl)
theorem dL_law_726 : decode cL_law 726 = .ok (.iadd, 1) := dec_96 (gB dr_11 22 rfl rfl)
theorem dL_law_727 : decode cL_law 727 = .ok (.iaload, 1) := dec_46 (gB dr_11 23 rfl rfl)
theorem dL_law_728 : decode cL_law 728 = .ok (.invokevirtual 208, 3) := e_182 (x := 0) (y := 208) dr_11 24 rfl rfl
theorem dL_law_731 : decode cL_law 731 = .ok (.istore 6, 2) := e_54 (x := 6) dr_11 27 rfl rfl
theorem dL_law_733 : decode cL_law 733 = .ok (.goto 1474, 3) := e_167 (x := 5) (y := 194) dr_11 29 rfl rfl
theorem dL_law_736 : decode cL_law 736 = .ok (.aload_n 1, 1) := dec_43 (gB dr_11 32 rfl rfl)
theorem dL_law_737 : decode cL_law 737 = .ok (.aload_n 0, 1) := dec_42 (gB dr_11 33 rfl rfl)
theorem dL_law_738 : decode cL_law 738 = .ok (.iload 4, 2) := e_21 (x := 4) dr_11 34 rfl rfl
theorem dL_law_740 : decode cL_law 740 = .ok (.iconst 1, 1) := dec_4 (gB dr_11 36 rfl rfl)
theorem dL_law_741 : decode cL_law 741 = .ok (.iadd, 1) := dec_96 (gB dr_11 37 rfl rfl)
theorem dL_law_742 : decode cL_law 742 = .ok (.iaload, 1) := dec_46 (gB dr_11 38 rfl rfl)
theorem dL_law_743 : decode cL_law 743 = .ok (.aload_n 3, 1) := dec_45 (gB dr_11 39 rfl rfl)
theorem dL_law_744 : decode cL_law 744 = .ok (.invokestatic 209, 3) := e_184 (x := 0) (y := 209) dr_11 40 rfl rfl
theorem dL_law_747 : decode cL_law 747 = .ok (.istore 5, 2) := e_54 (x := 5) dr_11 43 rfl rfl
theorem dL_law_749 : decode cL_law 749 = .ok (.aload_n 2, 1) := dec_44 (gB dr_11 45 rfl rfl)
theorem dL_law_750 : decode cL_law 750 = .ok (.aload_n 0, 1) := dec_42 (gB dr_11 46 rfl rfl)
theorem dL_law_751 : decode cL_law 751 = .ok (.iload 4, 2) := e_21 (x := 4) dr_11 47 rfl rfl
theorem dL_law_753 : decode cL_law 753 = .ok (.iconst 1, 1) := dec_4 (gB dr_11 49 rfl rfl)
theorem dL_law_754 : decode cL_law 754 = .ok (.iadd, 1) := dec_96 (gB dr_11 50 rfl rfl)
theorem dL_law_755 : decode cL_law 755 = .ok (.iaload, 1) := dec_46 (gB dr_11 51 rfl rfl)
theorem dL_law_756 : decode cL_law 756 = .ok (.invokevirtual 211, 3) := e_182 (x := 0) (y := 211) dr_11 52 rfl rfl
theorem dL_law_759 : decode cL_law 759 = .ok (.istore 6, 2) := e_54 (x := 6) dr_11 55 rfl rfl
theorem dL_law_761 : decode cL_law 761 = .ok (.goto 1446, 3) := e_167 (x := 5) (y := 166) dr_11 57 rfl rfl
theorem dL_law_764 : decode cL_law 764 = .ok (.aload_n 1, 1) := dec_43 (gB dr_11 60 rfl rfl)
theorem dL_law_765 : decode cL_law 765 = .ok (.aload_n 0, 1) := dec_42 (gB dr_11 61 rfl rfl)
theorem dL_law_766 : decode cL_law 766 = .ok (.iload 4, 2) := e_21 (x := 4) dr_11 62 rfl rfl
theorem dL_law_768 : decode cL_law 768 = .ok (.iconst 1, 1) := dec_4 (gB dr_12 0 rfl rfl)
theorem dL_law_769 : decode cL_law 769 = .ok (.iadd, 1) := dec_96 (gB dr_12 1 rfl rfl)
theorem dL_law_770 : decode cL_law 770 = .ok (.iaload, 1) := dec_46 (gB dr_12 2 rfl rfl)
theorem dL_law_771 : decode cL_law 771 = .ok (.aload_n 0, 1) := dec_42 (gB dr_12 3 rfl rfl)
theorem dL_law_772 : decode cL_law 772 = .ok (.iload 4, 2) := e_21 (x := 4) dr_12 4 rfl rfl
theorem dL_law_774 : decode cL_law 774 = .ok (.iconst 2, 1) := dec_5 (gB dr_12 6 rfl rfl)
theorem dL_law_775 : decode cL_law 775 = .ok (.iadd, 1) := dec_96 (gB dr_12 7 rfl rfl)
theorem dL_law_776 : decode cL_law 776 = .ok (.iaload, 1) := dec_46 (gB dr_12 8 rfl rfl)
theorem dL_law_777 : decode cL_law 777 = .ok (.aload_n 3, 1) := dec_45 (gB dr_12 9 rfl rfl)
theorem dL_law_778 : decode cL_law 778 = .ok (.invokestatic 212, 3) := e_184 (x := 0) (y := 212) dr_12 10 rfl rfl
theorem dL_law_781 : decode cL_law 781 = .ok (.istore 5, 2) := e_54 (x := 5) dr_12 13 rfl rfl
theorem dL_law_783 : decode cL_law 783 = .ok (.aload_n 2, 1) := dec_44 (gB dr_12 15 rfl rfl)
theorem dL_law_784 : decode cL_law 784 = .ok (.aload_n 0, 1) := dec_42 (gB dr_12 16 rfl rfl)
theorem dL_law_785 : decode cL_law 785 = .ok (.iload 4, 2) := e_21 (x := 4) dr_12 17 rfl rfl
theorem dL_law_787 : decode cL_law 787 = .ok (.iconst 1, 1) := dec_4 (gB dr_12 19 rfl rfl)
theorem dL_law_788 : decode cL_law 788 = .ok (.iadd, 1) := dec_96 (gB dr_12 20 rfl rfl)
theorem dL_law_789 : decode cL_law 789 = .ok (.iaload, 1) := dec_46 (gB dr_12 21 rfl rfl)
theorem dL_law_790 : decode cL_law 790 = .ok (.aload_n 0, 1) := dec_42 (gB dr_12 22 rfl rfl)
theorem dL_law_791 : decode cL_law 791 = .ok (.iload 4, 2) := e_21 (x := 4) dr_12 23 rfl rfl
theorem dL_law_793 : decode cL_law 793 = .ok (.iconst 2, 1) := dec_5 (gB dr_12 25 rfl rfl)
theorem dL_law_794 : decode cL_law 794 = .ok (.iadd, 1) := dec_96 (gB dr_12 26 rfl rfl)
theorem dL_law_795 : decode cL_law 795 = .ok (.iaload, 1) := dec_46 (gB dr_12 27 rfl rfl)
theorem dL_law_796 : decode cL_law 796 = .ok (.invokevirtual 214, 3) := e_182 (x := 0) (y := 214) dr_12 28 rfl rfl
theorem dL_law_799 : decode cL_law 799 = .ok (.istore 6, 2) := e_54 (x := 6) dr_12 31 rfl rfl
theorem dL_law_801 : decode cL_law 801 = .ok (.goto 1406, 3) := e_167 (x := 5) (y := 126) dr_12 33 rfl rfl
theorem dL_law_804 : decode cL_law 804 = .ok (.aload_n 1, 1) := dec_43 (gB dr_12 36 rfl rfl)
theorem dL_law_805 : decode cL_law 805 = .ok (.aload_n 0, 1) := dec_42 (gB dr_12 37 rfl rfl)
theorem dL_law_806 : decode cL_law 806 = .ok (.iload 4, 2) := e_21 (x := 4) dr_12 38 rfl rfl
theorem dL_law_808 : decode cL_law 808 = .ok (.iconst 1, 1) := dec_4 (gB dr_12 40 rfl rfl)
theorem dL_law_809 : decode cL_law 809 = .ok (.iadd, 1) := dec_96 (gB dr_12 41 rfl rfl)
theorem dL_law_810 : decode cL_law 810 = .ok (.iaload, 1) := dec_46 (gB dr_12 42 rfl rfl)
theorem dL_law_811 : decode cL_law 811 = .ok (.aload_n 0, 1) := dec_42 (gB dr_12 43 rfl rfl)
theorem dL_law_812 : decode cL_law 812 = .ok (.iload 4, 2) := e_21 (x := 4) dr_12 44 rfl rfl
theorem dL_law_814 : decode cL_law 814 = .ok (.iconst 2, 1) := dec_5 (gB dr_12 46 rfl rfl)
theorem dL_law_815 : decode cL_law 815 = .ok (.iadd, 1) := dec_96 (gB dr_12 47 rfl rfl)
theorem dL_law_816 : decode cL_law 816 = .ok (.iaload, 1) := dec_46 (gB dr_12 48 rfl rfl)
theorem dL_law_817 : decode cL_law 817 = .ok (.aload_n 3, 1) := dec_45 (gB dr_12 49 rfl rfl)
theorem dL_law_818 : decode cL_law 818 = .ok (.invokestatic 215, 3) := e_184 (x := 0) (y := 215) dr_12 50 rfl rfl
theorem dL_law_821 : decode cL_law 821 = .ok (.istore 5, 2) := e_54 (x := 5) dr_12 53 rfl rfl
theorem dL_law_823 : decode cL_law 823 = .ok (.aload_n 2, 1) := dec_44 (gB dr_12 55 rfl rfl)
theorem dL_law_824 : decode cL_law 824 = .ok (.aload_n 0, 1) := dec_42 (gB dr_12 56 rfl rfl)
theorem dL_law_825 : decode cL_law 825 = .ok (.iload 4, 2) := e_21 (x := 4) dr_12 57 rfl rfl
theorem dL_law_827 : decode cL_law 827 = .ok (.iconst 1, 1) := dec_4 (gB dr_12 59 rfl rfl)
theorem dL_law_828 : decode cL_law 828 = .ok (.iadd, 1) := dec_96 (gB dr_12 60 rfl rfl)
theorem dL_law_829 : decode cL_law 829 = .ok (.iaload, 1) := dec_46 (gB dr_12 61 rfl rfl)
theorem dL_law_830 : decode cL_law 830 = .ok (.aload_n 0, 1) := dec_42 (gB dr_12 62 rfl rfl)
theorem dL_law_831 : decode cL_law 831 = .ok (.iload 4, 2) := dec_21 (a := 4) (gB dr_12 63 rfl rfl) (gB dr_13 0 rfl rfl)
theorem dL_law_833 : decode cL_law 833 = .ok (.iconst 2, 1) := dec_5 (gB dr_13 1 rfl rfl)
theorem dL_law_834 : decode cL_law 834 = .ok (.iadd, 1) := dec_96 (gB dr_13 2 rfl rfl)
theorem dL_law_835 : decode cL_law 835 = .ok (.iaload, 1) := dec_46 (gB dr_13 3 rfl rfl)
theorem dL_law_836 : decode cL_law 836 = .ok (.invokevirtual 217, 3) := e_182 (x := 0) (y := 217) dr_13 4 rfl rfl
theorem dL_law_839 : decode cL_law 839 = .ok (.istore 6, 2) := e_54 (x := 6) dr_13 7 rfl rfl
theorem dL_law_841 : decode cL_law 841 = .ok (.goto 1366, 3) := e_167 (x := 5) (y := 86) dr_13 9 rfl rfl
theorem dL_law_844 : decode cL_law 844 = .ok (.aload_n 1, 1) := dec_43 (gB dr_13 12 rfl rfl)
theorem dL_law_845 : decode cL_law 845 = .ok (.aload_n 0, 1) := dec_42 (gB dr_13 13 rfl rfl)
theorem dL_law_846 : decode cL_law 846 = .ok (.iload 4, 2) := e_21 (x := 4) dr_13 14 rfl rfl
theorem dL_law_848 : decode cL_law 848 = .ok (.iconst 1, 1) := dec_4 (gB dr_13 16 rfl rfl)
theorem dL_law_849 : decode cL_law 849 = .ok (.iadd, 1) := dec_96 (gB dr_13 17 rfl rfl)
theorem dL_law_850 : decode cL_law 850 = .ok (.iaload, 1) := dec_46 (gB dr_13 18 rfl rfl)
theorem dL_law_851 : decode cL_law 851 = .ok (.aload_n 0, 1) := dec_42 (gB dr_13 19 rfl rfl)
theorem dL_law_852 : decode cL_law 852 = .ok (.iload 4, 2) := e_21 (x := 4) dr_13 20 rfl rfl
theorem dL_law_854 : decode cL_law 854 = .ok (.iconst 2, 1) := dec_5 (gB dr_13 22 rfl rfl)
theorem dL_law_855 : decode cL_law 855 = .ok (.iadd, 1) := dec_96 (gB dr_13 23 rfl rfl)
theorem dL_law_856 : decode cL_law 856 = .ok (.iaload, 1) := dec_46 (gB dr_13 24 rfl rfl)
theorem dL_law_857 : decode cL_law 857 = .ok (.aload_n 0, 1) := dec_42 (gB dr_13 25 rfl rfl)
theorem dL_law_858 : decode cL_law 858 = .ok (.iload 4, 2) := e_21 (x := 4) dr_13 26 rfl rfl
theorem dL_law_860 : decode cL_law 860 = .ok (.iconst 3, 1) := dec_6 (gB dr_13 28 rfl rfl)
theorem dL_law_861 : decode cL_law 861 = .ok (.iadd, 1) := dec_96 (gB dr_13 29 rfl rfl)
theorem dL_law_862 : decode cL_law 862 = .ok (.iaload, 1) := dec_46 (gB dr_13 30 rfl rfl)
theorem dL_law_863 : decode cL_law 863 = .ok (.aload_n 3, 1) := dec_45 (gB dr_13 31 rfl rfl)
theorem dL_law_864 : decode cL_law 864 = .ok (.invokestatic 218, 3) := e_184 (x := 0) (y := 218) dr_13 32 rfl rfl
theorem dL_law_867 : decode cL_law 867 = .ok (.istore 5, 2) := e_54 (x := 5) dr_13 35 rfl rfl
theorem dL_law_869 : decode cL_law 869 = .ok (.aload_n 2, 1) := dec_44 (gB dr_13 37 rfl rfl)
theorem dL_law_870 : decode cL_law 870 = .ok (.aload_n 0, 1) := dec_42 (gB dr_13 38 rfl rfl)
theorem dL_law_871 : decode cL_law 871 = .ok (.iload 4, 2) := e_21 (x := 4) dr_13 39 rfl rfl
theorem dL_law_873 : decode cL_law 873 = .ok (.iconst 1, 1) := dec_4 (gB dr_13 41 rfl rfl)
theorem dL_law_874 : decode cL_law 874 = .ok (.iadd, 1) := dec_96 (gB dr_13 42 rfl rfl)
theorem dL_law_875 : decode cL_law 875 = .ok (.iaload, 1) := dec_46 (gB dr_13 43 rfl rfl)
theorem dL_law_876 : decode cL_law 876 = .ok (.aload_n 0, 1) := dec_42 (gB dr_13 44 rfl rfl)
theorem dL_law_877 : decode cL_law 877 = .ok (.iload 4, 2) := e_21 (x := 4) dr_13 45 rfl rfl
theorem dL_law_879 : decode cL_law 879 = .ok (.iconst 2, 1) := dec_5 (gB dr_13 47 rfl rfl)
theorem dL_law_880 : decode cL_law 880 = .ok (.iadd, 1) := dec_96 (gB dr_13 48 rfl rfl)
theorem dL_law_881 : decode cL_law 881 = .ok (.iaload, 1) := dec_46 (gB dr_13 49 rfl rfl)
theorem dL_law_882 : decode cL_law 882 = .ok (.aload_n 0, 1) := dec_42 (gB dr_13 50 rfl rfl)
theorem dL_law_883 : decode cL_law 883 = .ok (.iload 4, 2) := e_21 (x := 4) dr_13 51 rfl rfl
theorem dL_law_885 : decode cL_law 885 = .ok (.iconst 3, 1) := dec_6 (gB dr_13 53 rfl rfl)
theorem dL_law_886 : decode cL_law 886 = .ok (.iadd, 1) := dec_96 (gB dr_13 54 rfl rfl)
theorem dL_law_887 : decode cL_law 887 = .ok (.iaload, 1) := dec_46 (gB dr_13 55 rfl rfl)
theorem dL_law_888 : decode cL_law 888 = .ok (.invokevirtual 220, 3) := e_182 (x := 0) (y := 220) dr_13 56 rfl rfl
theorem dL_law_891 : decode cL_law 891 = .ok (.istore 6, 2) := e_54 (x := 6) dr_13 59 rfl rfl
theorem dL_law_893 : decode cL_law 893 = .ok (.goto 1314, 3) := e_167 (x := 5) (y := 34) dr_13 61 rfl rfl
theorem dL_law_896 : decode cL_law 896 = .ok (.aload_n 1, 1) := dec_43 (gB dr_14 0 rfl rfl)
theorem dL_law_897 : decode cL_law 897 = .ok (.aload_n 0, 1) := dec_42 (gB dr_14 1 rfl rfl)
theorem dL_law_898 : decode cL_law 898 = .ok (.iload 4, 2) := e_21 (x := 4) dr_14 2 rfl rfl
theorem dL_law_900 : decode cL_law 900 = .ok (.iconst 1, 1) := dec_4 (gB dr_14 4 rfl rfl)
theorem dL_law_901 : decode cL_law 901 = .ok (.iadd, 1) := dec_96 (gB dr_14 5 rfl rfl)
theorem dL_law_902 : decode cL_law 902 = .ok (.iaload, 1) := dec_46 (gB dr_14 6 rfl rfl)
theorem dL_law_903 : decode cL_law 903 = .ok (.aload_n 0, 1) := dec_42 (gB dr_14 7 rfl rfl)
theorem dL_law_904 : decode cL_law 904 = .ok (.iload 4, 2) := e_21 (x := 4) dr_14 8 rfl rfl
theorem dL_law_906 : decode cL_law 906 = .ok (.iconst 2, 1) := dec_5 (gB dr_14 10 rfl rfl)
theorem dL_law_907 : decode cL_law 907 = .ok (.iadd, 1) := dec_96 (gB dr_14 11 rfl rfl)
theorem dL_law_908 : decode cL_law 908 = .ok (.iaload, 1) := dec_46 (gB dr_14 12 rfl rfl)
theorem dL_law_909 : decode cL_law 909 = .ok (.aload_n 0, 1) := dec_42 (gB dr_14 13 rfl rfl)
theorem dL_law_910 : decode cL_law 910 = .ok (.iload 4, 2) := e_21 (x := 4) dr_14 14 rfl rfl
theorem dL_law_912 : decode cL_law 912 = .ok (.iconst 3, 1) := dec_6 (gB dr_14 16 rfl rfl)
theorem dL_law_913 : decode cL_law 913 = .ok (.iadd, 1) := dec_96 (gB dr_14 17 rfl rfl)
theorem dL_law_914 : decode cL_law 914 = .ok (.iaload, 1) := dec_46 (gB dr_14 18 rfl rfl)
theorem dL_law_915 : decode cL_law 915 = .ok (.aload_n 3, 1) := dec_45 (gB dr_14 19 rfl rfl)
theorem dL_law_916 : decode cL_law 916 = .ok (.invokestatic 221, 3) := e_184 (x := 0) (y := 221) dr_14 20 rfl rfl
theorem dL_law_919 : decode cL_law 919 = .ok (.istore 5, 2) := e_54 (x := 5) dr_14 23 rfl rfl
theorem dL_law_921 : decode cL_law 921 = .ok (.aload_n 2, 1) := dec_44 (gB dr_14 25 rfl rfl)
theorem dL_law_922 : decode cL_law 922 = .ok (.aload_n 0, 1) := dec_42 (gB dr_14 26 rfl rfl)
theorem dL_law_923 : decode cL_law 923 = .ok (.iload 4, 2) := e_21 (x := 4) dr_14 27 rfl rfl
theorem dL_law_925 : decode cL_law 925 = .ok (.iconst 1, 1) := dec_4 (gB dr_14 29 rfl rfl)
theorem dL_law_926 : decode cL_law 926 = .ok (.iadd, 1) := dec_96 (gB dr_14 30 rfl rfl)
theorem dL_law_927 : decode cL_law 927 = .ok (.iaload, 1) := dec_46 (gB dr_14 31 rfl rfl)
theorem dL_law_928 : decode cL_law 928 = .ok (.aload_n 0, 1) := dec_42 (gB dr_14 32 rfl rfl)
theorem dL_law_929 : decode cL_law 929 = .ok (.iload 4, 2) := e_21 (x := 4) dr_14 33 rfl rfl
theorem dL_law_931 : decode cL_law 931 = .ok (.iconst 2, 1) := dec_5 (gB dr_14 35 rfl rfl)
theorem dL_law_932 : decode cL_law 932 = .ok (.iadd, 1) := dec_96 (gB dr_14 36 rfl rfl)
theorem dL_law_933 : decode cL_law 933 = .ok (.iaload, 1) := dec_46 (gB dr_14 37 rfl rfl)
theorem dL_law_934 : decode cL_law 934 = .ok (.aload_n 0, 1) := dec_42 (gB dr_14 38 rfl rfl)
theorem dL_law_935 : decode cL_law 935 = .ok (.iload 4, 2) := e_21 (x := 4) dr_14 39 rfl rfl
theorem dL_law_937 : decode cL_law 937 = .ok (.iconst 3, 1) := dec_6 (gB dr_14 41 rfl rfl)
theorem dL_law_938 : decode cL_law 938 = .ok (.iadd, 1) := dec_96 (gB dr_14 42 rfl rfl)
theorem dL_law_939 : decode cL_law 939 = .ok (.iaload, 1) := dec_46 (gB dr_14 43 rfl rfl)
theorem dL_law_940 : decode cL_law 940 = .ok (.invokevirtual 223, 3) := e_182 (x := 0) (y := 223) dr_14 44 rfl rfl
theorem dL_law_943 : decode cL_law 943 = .ok (.istore 6, 2) := e_54 (x := 6) dr_14 47 rfl rfl
theorem dL_law_945 : decode cL_law 945 = .ok (.goto 1262, 3) := e_167 (x := 4) (y := 238) dr_14 49 rfl rfl
theorem dL_law_948 : decode cL_law 948 = .ok (.aload_n 1, 1) := dec_43 (gB dr_14 52 rfl rfl)
theorem dL_law_949 : decode cL_law 949 = .ok (.aload_n 0, 1) := dec_42 (gB dr_14 53 rfl rfl)
theorem dL_law_950 : decode cL_law 950 = .ok (.iload 4, 2) := e_21 (x := 4) dr_14 54 rfl rfl
theorem dL_law_952 : decode cL_law 952 = .ok (.iconst 1, 1) := dec_4 (gB dr_14 56 rfl rfl)
theorem dL_law_953 : decode cL_law 953 = .ok (.iadd, 1) := dec_96 (gB dr_14 57 rfl rfl)
theorem dL_law_954 : decode cL_law 954 = .ok (.iaload, 1) := dec_46 (gB dr_14 58 rfl rfl)
theorem dL_law_955 : decode cL_law 955 = .ok (.aload_n 0, 1) := dec_42 (gB dr_14 59 rfl rfl)
theorem dL_law_956 : decode cL_law 956 = .ok (.iload 4, 2) := e_21 (x := 4) dr_14 60 rfl rfl
theorem dL_law_958 : decode cL_law 958 = .ok (.iconst 2, 1) := dec_5 (gB dr_14 62 rfl rfl)
theorem dL_law_959 : decode cL_law 959 = .ok (.iadd, 1) := dec_96 (gB dr_14 63 rfl rfl)
theorem dL_law_960 : decode cL_law 960 = .ok (.iaload, 1) := dec_46 (gB dr_15 0 rfl rfl)
theorem dL_law_961 : decode cL_law 961 = .ok (.aload_n 0, 1) := dec_42 (gB dr_15 1 rfl rfl)
theorem dL_law_962 : decode cL_law 962 = .ok (.iload 4, 2) := e_21 (x := 4) dr_15 2 rfl rfl
theorem dL_law_964 : decode cL_law 964 = .ok (.iconst 3, 1) := dec_6 (gB dr_15 4 rfl rfl)
theorem dL_law_965 : decode cL_law 965 = .ok (.iadd, 1) := dec_96 (gB dr_15 5 rfl rfl)
theorem dL_law_966 : decode cL_law 966 = .ok (.iaload, 1) := dec_46 (gB dr_15 6 rfl rfl)
theorem dL_law_967 : decode cL_law 967 = .ok (.aload_n 3, 1) := dec_45 (gB dr_15 7 rfl rfl)
theorem dL_law_968 : decode cL_law 968 = .ok (.invokestatic 224, 3) := e_184 (x := 0) (y := 224) dr_15 8 rfl rfl
theorem dL_law_971 : decode cL_law 971 = .ok (.istore 5, 2) := e_54 (x := 5) dr_15 11 rfl rfl
theorem dL_law_973 : decode cL_law 973 = .ok (.aload_n 2, 1) := dec_44 (gB dr_15 13 rfl rfl)
theorem dL_law_974 : decode cL_law 974 = .ok (.aload_n 0, 1) := dec_42 (gB dr_15 14 rfl rfl)
theorem dL_law_975 : decode cL_law 975 = .ok (.iload 4, 2) := e_21 (x := 4) dr_15 15 rfl rfl
theorem dL_law_977 : decode cL_law 977 = .ok (.iconst 1, 1) := dec_4 (gB dr_15 17 rfl rfl)
theorem dL_law_978 : decode cL_law 978 = .ok (.iadd, 1) := dec_96 (gB dr_15 18 rfl rfl)
theorem dL_law_979 : decode cL_law 979 = .ok (.iaload, 1) := dec_46 (gB dr_15 19 rfl rfl)
theorem dL_law_980 : decode cL_law 980 = .ok (.aload_n 0, 1) := dec_42 (gB dr_15 20 rfl rfl)
theorem dL_law_981 : decode cL_law 981 = .ok (.iload 4, 2) := e_21 (x := 4) dr_15 21 rfl rfl
theorem dL_law_983 : decode cL_law 983 = .ok (.iconst 2, 1) := dec_5 (gB dr_15 23 rfl rfl)
theorem dL_law_984 : decode cL_law 984 = .ok (.iadd, 1) := dec_96 (gB dr_15 24 rfl rfl)
theorem dL_law_985 : decode cL_law 985 = .ok (.iaload, 1) := dec_46 (gB dr_15 25 rfl rfl)
theorem dL_law_986 : decode cL_law 986 = .ok (.aload_n 0, 1) := dec_42 (gB dr_15 26 rfl rfl)
theorem dL_law_987 : decode cL_law 987 = .ok (.iload 4, 2) := e_21 (x := 4) dr_15 27 rfl rfl
theorem dL_law_989 : decode cL_law 989 = .ok (.iconst 3, 1) := dec_6 (gB dr_15 29 rfl rfl)
theorem dL_law_990 : decode cL_law 990 = .ok (.iadd, 1) := dec_96 (gB dr_15 30 rfl rfl)
theorem dL_law_991 : decode cL_law 991 = .ok (.iaload, 1) := dec_46 (gB dr_15 31 rfl rfl)
theorem dL_law_992 : decode cL_law 992 = .ok (.invokevirtual 226, 3) := e_182 (x := 0) (y := 226) dr_15 32 rfl rfl
theorem dL_law_995 : decode cL_law 995 = .ok (.istore 6, 2) := e_54 (x := 6) dr_15 35 rfl rfl
theorem dL_law_997 : decode cL_law 997 = .ok (.goto 1210, 3) := e_167 (x := 4) (y := 186) dr_15 37 rfl rfl
theorem dL_law_1000 : decode cL_law 1000 = .ok (.aload_n 1, 1) := dec_43 (gB dr_15 40 rfl rfl)
theorem dL_law_1001 : decode cL_law 1001 = .ok (.aload_n 0, 1) := dec_42 (gB dr_15 41 rfl rfl)
theorem dL_law_1002 : decode cL_law 1002 = .ok (.iload 4, 2) := e_21 (x := 4) dr_15 42 rfl rfl
theorem dL_law_1004 : decode cL_law 1004 = .ok (.iconst 1, 1) := dec_4 (gB dr_15 44 rfl rfl)
theorem dL_law_1005 : decode cL_law 1005 = .ok (.iadd, 1) := dec_96 (gB dr_15 45 rfl rfl)
theorem dL_law_1006 : decode cL_law 1006 = .ok (.iaload, 1) := dec_46 (gB dr_15 46 rfl rfl)
theorem dL_law_1007 : decode cL_law 1007 = .ok (.aload_n 0, 1) := dec_42 (gB dr_15 47 rfl rfl)
theorem dL_law_1008 : decode cL_law 1008 = .ok (.iload 4, 2) := e_21 (x := 4) dr_15 48 rfl rfl
theorem dL_law_1010 : decode cL_law 1010 = .ok (.iconst 2, 1) := dec_5 (gB dr_15 50 rfl rfl)
theorem dL_law_1011 : decode cL_law 1011 = .ok (.iadd, 1) := dec_96 (gB dr_15 51 rfl rfl)
theorem dL_law_1012 : decode cL_law 1012 = .ok (.iaload, 1) := dec_46 (gB dr_15 52 rfl rfl)
theorem dL_law_1013 : decode cL_law 1013 = .ok (.aload_n 0, 1) := dec_42 (gB dr_15 53 rfl rfl)
theorem dL_law_1014 : decode cL_law 1014 = .ok (.iload 4, 2) := e_21 (x := 4) dr_15 54 rfl rfl
theorem dL_law_1016 : decode cL_law 1016 = .ok (.iconst 3, 1) := dec_6 (gB dr_15 56 rfl rfl)
theorem dL_law_1017 : decode cL_law 1017 = .ok (.iadd, 1) := dec_96 (gB dr_15 57 rfl rfl)
theorem dL_law_1018 : decode cL_law 1018 = .ok (.iaload, 1) := dec_46 (gB dr_15 58 rfl rfl)
theorem dL_law_1019 : decode cL_law 1019 = .ok (.aload_n 3, 1) := dec_45 (gB dr_15 59 rfl rfl)
theorem dL_law_1020 : decode cL_law 1020 = .ok (.invokestatic 227, 3) := e_184 (x := 0) (y := 227) dr_15 60 rfl rfl
theorem dL_law_1023 : decode cL_law 1023 = .ok (.istore 5, 2) := dec_54 (a := 5) (gB dr_15 63 rfl rfl) (gB dr_16 0 rfl rfl)
theorem dL_law_1025 : decode cL_law 1025 = .ok (.aload_n 2, 1) := dec_44 (gB dr_16 1 rfl rfl)
theorem dL_law_1026 : decode cL_law 1026 = .ok (.aload_n 0, 1) := dec_42 (gB dr_16 2 rfl rfl)
theorem dL_law_1027 : decode cL_law 1027 = .ok (.iload 4, 2) := e_21 (x := 4) dr_16 3 rfl rfl
theorem dL_law_1029 : decode cL_law 1029 = .ok (.iconst 1, 1) := dec_4 (gB dr_16 5 rfl rfl)
theorem dL_law_1030 : decode cL_law 1030 = .ok (.iadd, 1) := dec_96 (gB dr_16 6 rfl rfl)
theorem dL_law_1031 : decode cL_law 1031 = .ok (.iaload, 1) := dec_46 (gB dr_16 7 rfl rfl)
theorem dL_law_1032 : decode cL_law 1032 = .ok (.aload_n 0, 1) := dec_42 (gB dr_16 8 rfl rfl)
theorem dL_law_1033 : decode cL_law 1033 = .ok (.iload 4, 2) := e_21 (x := 4) dr_16 9 rfl rfl
theorem dL_law_1035 : decode cL_law 1035 = .ok (.iconst 2, 1) := dec_5 (gB dr_16 11 rfl rfl)
theorem dL_law_1036 : decode cL_law 1036 = .ok (.iadd, 1) := dec_96 (gB dr_16 12 rfl rfl)
theorem dL_law_1037 : decode cL_law 1037 = .ok (.iaload, 1) := dec_46 (gB dr_16 13 rfl rfl)
theorem dL_law_1038 : decode cL_law 1038 = .ok (.aload_n 0, 1) := dec_42 (gB dr_16 14 rfl rfl)
theorem dL_law_1039 : decode cL_law 1039 = .ok (.iload 4, 2) := e_21 (x := 4) dr_16 15 rfl rfl
theorem dL_law_1041 : decode cL_law 1041 = .ok (.iconst 3, 1) := dec_6 (gB dr_16 17 rfl rfl)
theorem dL_law_1042 : decode cL_law 1042 = .ok (.iadd, 1) := dec_96 (gB dr_16 18 rfl rfl)
theorem dL_law_1043 : decode cL_law 1043 = .ok (.iaload, 1) := dec_46 (gB dr_16 19 rfl rfl)
theorem dL_law_1044 : decode cL_law 1044 = .ok (.invokevirtual 229, 3) := e_182 (x := 0) (y := 229) dr_16 20 rfl rfl
theorem dL_law_1047 : decode cL_law 1047 = .ok (.istore 6, 2) := e_54 (x := 6) dr_16 23 rfl rfl
theorem dL_law_1049 : decode cL_law 1049 = .ok (.goto 1158, 3) := e_167 (x := 4) (y := 134) dr_16 25 rfl rfl
theorem dL_law_1052 : decode cL_law 1052 = .ok (.aload_n 1, 1) := dec_43 (gB dr_16 28 rfl rfl)
theorem dL_law_1053 : decode cL_law 1053 = .ok (.aload_n 0, 1) := dec_42 (gB dr_16 29 rfl rfl)
theorem dL_law_1054 : decode cL_law 1054 = .ok (.iload 4, 2) := e_21 (x := 4) dr_16 30 rfl rfl
theorem dL_law_1056 : decode cL_law 1056 = .ok (.iconst 1, 1) := dec_4 (gB dr_16 32 rfl rfl)
theorem dL_law_1057 : decode cL_law 1057 = .ok (.iadd, 1) := dec_96 (gB dr_16 33 rfl rfl)
theorem dL_law_1058 : decode cL_law 1058 = .ok (.iaload, 1) := dec_46 (gB dr_16 34 rfl rfl)
theorem dL_law_1059 : decode cL_law 1059 = .ok (.aload_n 0, 1) := dec_42 (gB dr_16 35 rfl rfl)
theorem dL_law_1060 : decode cL_law 1060 = .ok (.iload 4, 2) := e_21 (x := 4) dr_16 36 rfl rfl
theorem dL_law_1062 : decode cL_law 1062 = .ok (.iconst 2, 1) := dec_5 (gB dr_16 38 rfl rfl)
theorem dL_law_1063 : decode cL_law 1063 = .ok (.iadd, 1) := dec_96 (gB dr_16 39 rfl rfl)
theorem dL_law_1064 : decode cL_law 1064 = .ok (.iaload, 1) := dec_46 (gB dr_16 40 rfl rfl)
theorem dL_law_1065 : decode cL_law 1065 = .ok (.aload_n 0, 1) := dec_42 (gB dr_16 41 rfl rfl)
theorem dL_law_1066 : decode cL_law 1066 = .ok (.iload 4, 2) := e_21 (x := 4) dr_16 42 rfl rfl
theorem dL_law_1068 : decode cL_law 1068 = .ok (.iconst 3, 1) := dec_6 (gB dr_16 44 rfl rfl)
theorem dL_law_1069 : decode cL_law 1069 = .ok (.iadd, 1) := dec_96 (gB dr_16 45 rfl rfl)
theorem dL_law_1070 : decode cL_law 1070 = .ok (.iaload, 1) := dec_46 (gB dr_16 46 rfl rfl)
theorem dL_law_1071 : decode cL_law 1071 = .ok (.aload_n 0, 1) := dec_42 (gB dr_16 47 rfl rfl)
theorem dL_law_1072 : decode cL_law 1072 = .ok (.iload 4, 2) := e_21 (x := 4) dr_16 48 rfl rfl
theorem dL_law_1074 : decode cL_law 1074 = .ok (.iconst 4, 1) := dec_7 (gB dr_16 50 rfl rfl)
theorem dL_law_1075 : decode cL_law 1075 = .ok (.iadd, 1) := dec_96 (gB dr_16 51 rfl rfl)
theorem dL_law_1076 : decode cL_law 1076 = .ok (.iaload, 1) := dec_46 (gB dr_16 52 rfl rfl)
theorem dL_law_1077 : decode cL_law 1077 = .ok (.aload_n 3, 1) := dec_45 (gB dr_16 53 rfl rfl)
theorem dL_law_1078 : decode cL_law 1078 = .ok (.invokestatic 230, 3) := e_184 (x := 0) (y := 230) dr_16 54 rfl rfl
theorem dL_law_1081 : decode cL_law 1081 = .ok (.istore 5, 2) := e_54 (x := 5) dr_16 57 rfl rfl
theorem dL_law_1083 : decode cL_law 1083 = .ok (.aload_n 2, 1) := dec_44 (gB dr_16 59 rfl rfl)
theorem dL_law_1084 : decode cL_law 1084 = .ok (.aload_n 0, 1) := dec_42 (gB dr_16 60 rfl rfl)
theorem dL_law_1085 : decode cL_law 1085 = .ok (.iload 4, 2) := e_21 (x := 4) dr_16 61 rfl rfl
theorem dL_law_1087 : decode cL_law 1087 = .ok (.iconst 1, 1) := dec_4 (gB dr_16 63 rfl rfl)
theorem dL_law_1088 : decode cL_law 1088 = .ok (.iadd, 1) := dec_96 (gB dr_17 0 rfl rfl)
theorem dL_law_1089 : decode cL_law 1089 = .ok (.iaload, 1) := dec_46 (gB dr_17 1 rfl rfl)
theorem dL_law_1090 : decode cL_law 1090 = .ok (.aload_n 0, 1) := dec_42 (gB dr_17 2 rfl rfl)
theorem dL_law_1091 : decode cL_law 1091 = .ok (.iload 4, 2) := e_21 (x := 4) dr_17 3 rfl rfl
theorem dL_law_1093 : decode cL_law 1093 = .ok (.iconst 2, 1) := dec_5 (gB dr_17 5 rfl rfl)
theorem dL_law_1094 : decode cL_law 1094 = .ok (.iadd, 1) := dec_96 (gB dr_17 6 rfl rfl)
theorem dL_law_1095 : decode cL_law 1095 = .ok (.iaload, 1) := dec_46 (gB dr_17 7 rfl rfl)
theorem dL_law_1096 : decode cL_law 1096 = .ok (.aload_n 0, 1) := dec_42 (gB dr_17 8 rfl rfl)
theorem dL_law_1097 : decode cL_law 1097 = .ok (.iload 4, 2) := e_21 (x := 4) dr_17 9 rfl rfl
theorem dL_law_1099 : decode cL_law 1099 = .ok (.iconst 3, 1) := dec_6 (gB dr_17 11 rfl rfl)
theorem dL_law_1100 : decode cL_law 1100 = .ok (.iadd, 1) := dec_96 (gB dr_17 12 rfl rfl)
theorem dL_law_1101 : decode cL_law 1101 = .ok (.iaload, 1) := dec_46 (gB dr_17 13 rfl rfl)
theorem dL_law_1102 : decode cL_law 1102 = .ok (.aload_n 0, 1) := dec_42 (gB dr_17 14 rfl rfl)
theorem dL_law_1103 : decode cL_law 1103 = .ok (.iload 4, 2) := e_21 (x := 4) dr_17 15 rfl rfl
theorem dL_law_1105 : decode cL_law 1105 = .ok (.iconst 4, 1) := dec_7 (gB dr_17 17 rfl rfl)
theorem dL_law_1106 : decode cL_law 1106 = .ok (.iadd, 1) := dec_96 (gB dr_17 18 rfl rfl)
theorem dL_law_1107 : decode cL_law 1107 = .ok (.iaload, 1) := dec_46 (gB dr_17 19 rfl rfl)
theorem dL_law_1108 : decode cL_law 1108 = .ok (.invokevirtual 232, 3) := e_182 (x := 0) (y := 232) dr_17 20 rfl rfl
theorem dL_law_1111 : decode cL_law 1111 = .ok (.istore 6, 2) := e_54 (x := 6) dr_17 23 rfl rfl
theorem dL_law_1113 : decode cL_law 1113 = .ok (.goto 1094, 3) := e_167 (x := 4) (y := 70) dr_17 25 rfl rfl
theorem dL_law_1116 : decode cL_law 1116 = .ok (.aload_n 1, 1) := dec_43 (gB dr_17 28 rfl rfl)
theorem dL_law_1117 : decode cL_law 1117 = .ok (.aload_n 0, 1) := dec_42 (gB dr_17 29 rfl rfl)
theorem dL_law_1118 : decode cL_law 1118 = .ok (.iload 4, 2) := e_21 (x := 4) dr_17 30 rfl rfl
theorem dL_law_1120 : decode cL_law 1120 = .ok (.iconst 1, 1) := dec_4 (gB dr_17 32 rfl rfl)
theorem dL_law_1121 : decode cL_law 1121 = .ok (.iadd, 1) := dec_96 (gB dr_17 33 rfl rfl)
theorem dL_law_1122 : decode cL_law 1122 = .ok (.iaload, 1) := dec_46 (gB dr_17 34 rfl rfl)
theorem dL_law_1123 : decode cL_law 1123 = .ok (.aload_n 0, 1) := dec_42 (gB dr_17 35 rfl rfl)
theorem dL_law_1124 : decode cL_law 1124 = .ok (.iload 4, 2) := e_21 (x := 4) dr_17 36 rfl rfl
theorem dL_law_1126 : decode cL_law 1126 = .ok (.iconst 2, 1) := dec_5 (gB dr_17 38 rfl rfl)
theorem dL_law_1127 : decode cL_law 1127 = .ok (.iadd, 1) := dec_96 (gB dr_17 39 rfl rfl)
theorem dL_law_1128 : decode cL_law 1128 = .ok (.iaload, 1) := dec_46 (gB dr_17 40 rfl rfl)
theorem dL_law_1129 : decode cL_law 1129 = .ok (.aload_n 3, 1) := dec_45 (gB dr_17 41 rfl rfl)
theorem dL_law_1130 : decode cL_law 1130 = .ok (.invokestatic 233, 3) := e_184 (x := 0) (y := 233) dr_17 42 rfl rfl
theorem dL_law_1133 : decode cL_law 1133 = .ok (.istore 5, 2) := e_54 (x := 5) dr_17 45 rfl rfl
theorem dL_law_1135 : decode cL_law 1135 = .ok (.aload_n 2, 1) := dec_44 (gB dr_17 47 rfl rfl)
theorem dL_law_1136 : decode cL_law 1136 = .ok (.aload_n 0, 1) := dec_42 (gB dr_17 48 rfl rfl)
theorem dL_law_1137 : decode cL_law 1137 = .ok (.iload 4, 2) := e_21 (x := 4) dr_17 49 rfl rfl
theorem dL_law_1139 : decode cL_law 1139 = .ok (.iconst 1, 1) := dec_4 (gB dr_17 51 rfl rfl)
theorem dL_law_1140 : decode cL_law 1140 = .ok (.iadd, 1) := dec_96 (gB dr_17 52 rfl rfl)
theorem dL_law_1141 : decode cL_law 1141 = .ok (.iaload, 1) := dec_46 (gB dr_17 53 rfl rfl)
theorem dL_law_1142 : decode cL_law 1142 = .ok (.aload_n 0, 1) := dec_42 (gB dr_17 54 rfl rfl)
theorem dL_law_1143 : decode cL_law 1143 = .ok (.iload 4, 2) := e_21 (x := 4) dr_17 55 rfl rfl
theorem dL_law_1145 : decode cL_law 1145 = .ok (.iconst 2, 1) := dec_5 (gB dr_17 57 rfl rfl)
theorem dL_law_1146 : decode cL_law 1146 = .ok (.iadd, 1) := dec_96 (gB dr_17 58 rfl rfl)
theorem dL_law_1147 : decode cL_law 1147 = .ok (.iaload, 1) := dec_46 (gB dr_17 59 rfl rfl)
theorem dL_law_1148 : decode cL_law 1148 = .ok (.invokevirtual 235, 3) := e_182 (x := 0) (y := 235) dr_17 60 rfl rfl
theorem dL_law_1151 : decode cL_law 1151 = .ok (.istore 6, 2) := dec_54 (a := 6) (gB dr_17 63 rfl rfl) (gB dr_18 0 rfl rfl)
theorem dL_law_1153 : decode cL_law 1153 = .ok (.goto 1054, 3) := e_167 (x := 4) (y := 30) dr_18 1 rfl rfl
theorem dL_law_1156 : decode cL_law 1156 = .ok (.aload_n 1, 1) := dec_43 (gB dr_18 4 rfl rfl)
theorem dL_law_1157 : decode cL_law 1157 = .ok (.aload_n 0, 1) := dec_42 (gB dr_18 5 rfl rfl)
theorem dL_law_1158 : decode cL_law 1158 = .ok (.iload 4, 2) := e_21 (x := 4) dr_18 6 rfl rfl
theorem dL_law_1160 : decode cL_law 1160 = .ok (.iconst 1, 1) := dec_4 (gB dr_18 8 rfl rfl)
theorem dL_law_1161 : decode cL_law 1161 = .ok (.iadd, 1) := dec_96 (gB dr_18 9 rfl rfl)
theorem dL_law_1162 : decode cL_law 1162 = .ok (.iaload, 1) := dec_46 (gB dr_18 10 rfl rfl)
theorem dL_law_1163 : decode cL_law 1163 = .ok (.aload_n 3, 1) := dec_45 (gB dr_18 11 rfl rfl)
theorem dL_law_1164 : decode cL_law 1164 = .ok (.invokestatic 236, 3) := e_184 (x := 0) (y := 236) dr_18 12 rfl rfl
theorem dL_law_1167 : decode cL_law 1167 = .ok (.istore 5, 2) := e_54 (x := 5) dr_18 15 rfl rfl
theorem dL_law_1169 : decode cL_law 1169 = .ok (.aload_n 2, 1) := dec_44 (gB dr_18 17 rfl rfl)
theorem dL_law_1170 : decode cL_law 1170 = .ok (.aload_n 0, 1) := dec_42 (gB dr_18 18 rfl rfl)
theorem dL_law_1171 : decode cL_law 1171 = .ok (.iload 4, 2) := e_21 (x := 4) dr_18 19 rfl rfl
theorem dL_law_1173 : decode cL_law 1173 = .ok (.iconst 1, 1) := dec_4 (gB dr_18 21 rfl rfl)
theorem dL_law_1174 : decode cL_law 1174 = .ok (.iadd, 1) := dec_96 (gB dr_18 22 rfl rfl)
theorem dL_law_1175 : decode cL_law 1175 = .ok (.iaload, 1) := dec_46 (gB dr_18 23 rfl rfl)
theorem dL_law_1176 : decode cL_law 1176 = .ok (.invokevirtual 238, 3) := e_182 (x := 0) (y := 238) dr_18 24 rfl rfl
theorem dL_law_1179 : decode cL_law 1179 = .ok (.istore 6, 2) := e_54 (x := 6) dr_18 27 rfl rfl
theorem dL_law_1181 : decode cL_law 1181 = .ok (.goto 1026, 3) := e_167 (x := 4) (y := 2) dr_18 29 rfl rfl
theorem dL_law_1184 : decode cL_law 1184 = .ok (.aload_n 1, 1) := dec_43 (gB dr_18 32 rfl rfl)
theorem dL_law_1185 : decode cL_law 1185 = .ok (.aload_n 0, 1) := dec_42 (gB dr_18 33 rfl rfl)
theorem dL_law_1186 : decode cL_law 1186 = .ok (.iload 4, 2) := e_21 (x := 4) dr_18 34 rfl rfl
theorem dL_law_1188 : decode cL_law 1188 = .ok (.iconst 1, 1) := dec_4 (gB dr_18 36 rfl rfl)
theorem dL_law_1189 : decode cL_law 1189 = .ok (.iadd, 1) := dec_96 (gB dr_18 37 rfl rfl)
theorem dL_law_1190 : decode cL_law 1190 = .ok (.iaload, 1) := dec_46 (gB dr_18 38 rfl rfl)
theorem dL_law_1191 : decode cL_law 1191 = .ok (.aload_n 3, 1) := dec_45 (gB dr_18 39 rfl rfl)
theorem dL_law_1192 : decode cL_law 1192 = .ok (.invokestatic 239, 3) := e_184 (x := 0) (y := 239) dr_18 40 rfl rfl
theorem dL_law_1195 : decode cL_law 1195 = .ok (.istore 5, 2) := e_54 (x := 5) dr_18 43 rfl rfl
theorem dL_law_1197 : decode cL_law 1197 = .ok (.aload_n 2, 1) := dec_44 (gB dr_18 45 rfl rfl)
theorem dL_law_1198 : decode cL_law 1198 = .ok (.aload_n 0, 1) := dec_42 (gB dr_18 46 rfl rfl)
theorem dL_law_1199 : decode cL_law 1199 = .ok (.iload 4, 2) := e_21 (x := 4) dr_18 47 rfl rfl
theorem dL_law_1201 : decode cL_law 1201 = .ok (.iconst 1, 1) := dec_4 (gB dr_18 49 rfl rfl)
theorem dL_law_1202 : decode cL_law 1202 = .ok (.iadd, 1) := dec_96 (gB dr_18 50 rfl rfl)
theorem dL_law_1203 : decode cL_law 1203 = .ok (.iaload, 1) := dec_46 (gB dr_18 51 rfl rfl)
theorem dL_law_1204 : decode cL_law 1204 = .ok (.invokevirtual 241, 3) := e_182 (x := 0) (y := 241) dr_18 52 rfl rfl
theorem dL_law_1207 : decode cL_law 1207 = .ok (.istore 6, 2) := e_54 (x := 6) dr_18 55 rfl rfl
theorem dL_law_1209 : decode cL_law 1209 = .ok (.goto 998, 3) := e_167 (x := 3) (y := 230) dr_18 57 rfl rfl
theorem dL_law_1212 : decode cL_law 1212 = .ok (.aload_n 1, 1) := dec_43 (gB dr_18 60 rfl rfl)
theorem dL_law_1213 : decode cL_law 1213 = .ok (.aload_n 0, 1) := dec_42 (gB dr_18 61 rfl rfl)
theorem dL_law_1214 : decode cL_law 1214 = .ok (.iload 4, 2) := e_21 (x := 4) dr_18 62 rfl rfl
theorem dL_law_1216 : decode cL_law 1216 = .ok (.iconst 1, 1) := dec_4 (gB dr_19 0 rfl rfl)
theorem dL_law_1217 : decode cL_law 1217 = .ok (.iadd, 1) := dec_96 (gB dr_19 1 rfl rfl)
theorem dL_law_1218 : decode cL_law 1218 = .ok (.iaload, 1) := dec_46 (gB dr_19 2 rfl rfl)
theorem dL_law_1219 : decode cL_law 1219 = .ok (.aload_n 3, 1) := dec_45 (gB dr_19 3 rfl rfl)
theorem dL_law_1220 : decode cL_law 1220 = .ok (.invokestatic 242, 3) := e_184 (x := 0) (y := 242) dr_19 4 rfl rfl
theorem dL_law_1223 : decode cL_law 1223 = .ok (.istore 5, 2) := e_54 (x := 5) dr_19 7 rfl rfl
theorem dL_law_1225 : decode cL_law 1225 = .ok (.aload_n 2, 1) := dec_44 (gB dr_19 9 rfl rfl)
theorem dL_law_1226 : decode cL_law 1226 = .ok (.aload_n 0, 1) := dec_42 (gB dr_19 10 rfl rfl)
theorem dL_law_1227 : decode cL_law 1227 = .ok (.iload 4, 2) := e_21 (x := 4) dr_19 11 rfl rfl
theorem dL_law_1229 : decode cL_law 1229 = .ok (.iconst 1, 1) := dec_4 (gB dr_19 13 rfl rfl)
theorem dL_law_1230 : decode cL_law 1230 = .ok (.iadd, 1) := dec_96 (gB dr_19 14 rfl rfl)
theorem dL_law_1231 : decode cL_law 1231 = .ok (.iaload, 1) := dec_46 (gB dr_19 15 rfl rfl)
theorem dL_law_1232 : decode cL_law 1232 = .ok (.invokevirtual 244, 3) := e_182 (x := 0) (y := 244) dr_19 16 rfl rfl
theorem dL_law_1235 : decode cL_law 1235 = .ok (.istore 6, 2) := e_54 (x := 6) dr_19 19 rfl rfl
theorem dL_law_1237 : decode cL_law 1237 = .ok (.goto 970, 3) := e_167 (x := 3) (y := 202) dr_19 21 rfl rfl
theorem dL_law_1240 : decode cL_law 1240 = .ok (.aload_n 1, 1) := dec_43 (gB dr_19 24 rfl rfl)
theorem dL_law_1241 : decode cL_law 1241 = .ok (.aload_n 0, 1) := dec_42 (gB dr_19 25 rfl rfl)
theorem dL_law_1242 : decode cL_law 1242 = .ok (.iload 4, 2) := e_21 (x := 4) dr_19 26 rfl rfl
theorem dL_law_1244 : decode cL_law 1244 = .ok (.iconst 1, 1) := dec_4 (gB dr_19 28 rfl rfl)
theorem dL_law_1245 : decode cL_law 1245 = .ok (.iadd, 1) := dec_96 (gB dr_19 29 rfl rfl)
theorem dL_law_1246 : decode cL_law 1246 = .ok (.iaload, 1) := dec_46 (gB dr_19 30 rfl rfl)
theorem dL_law_1247 : decode cL_law 1247 = .ok (.aload_n 0, 1) := dec_42 (gB dr_19 31 rfl rfl)
theorem dL_law_1248 : decode cL_law 1248 = .ok (.iload 4, 2) := e_21 (x := 4) dr_19 32 rfl rfl
theorem dL_law_1250 : decode cL_law 1250 = .ok (.iconst 2, 1) := dec_5 (gB dr_19 34 rfl rfl)
theorem dL_law_1251 : decode cL_law 1251 = .ok (.iadd, 1) := dec_96 (gB dr_19 35 rfl rfl)
theorem dL_law_1252 : decode cL_law 1252 = .ok (.iaload, 1) := dec_46 (gB dr_19 36 rfl rfl)
theorem dL_law_1253 : decode cL_law 1253 = .ok (.aload_n 3, 1) := dec_45 (gB dr_19 37 rfl rfl)
theorem dL_law_1254 : decode cL_law 1254 = .ok (.invokestatic 245, 3) := e_184 (x := 0) (y := 245) dr_19 38 rfl rfl
theorem dL_law_1257 : decode cL_law 1257 = .ok (.istore 5, 2) := e_54 (x := 5) dr_19 41 rfl rfl
theorem dL_law_1259 : decode cL_law 1259 = .ok (.aload_n 2, 1) := dec_44 (gB dr_19 43 rfl rfl)
theorem dL_law_1260 : decode cL_law 1260 = .ok (.aload_n 0, 1) := dec_42 (gB dr_19 44 rfl rfl)
theorem dL_law_1261 : decode cL_law 1261 = .ok (.iload 4, 2) := e_21 (x := 4) dr_19 45 rfl rfl
theorem dL_law_1263 : decode cL_law 1263 = .ok (.iconst 1, 1) := dec_4 (gB dr_19 47 rfl rfl)
theorem dL_law_1264 : decode cL_law 1264 = .ok (.iadd, 1) := dec_96 (gB dr_19 48 rfl rfl)
theorem dL_law_1265 : decode cL_law 1265 = .ok (.iaload, 1) := dec_46 (gB dr_19 49 rfl rfl)
theorem dL_law_1266 : decode cL_law 1266 = .ok (.aload_n 0, 1) := dec_42 (gB dr_19 50 rfl rfl)
theorem dL_law_1267 : decode cL_law 1267 = .ok (.iload 4, 2) := e_21 (x := 4) dr_19 51 rfl rfl
theorem dL_law_1269 : decode cL_law 1269 = .ok (.iconst 2, 1) := dec_5 (gB dr_19 53 rfl rfl)
theorem dL_law_1270 : decode cL_law 1270 = .ok (.iadd, 1) := dec_96 (gB dr_19 54 rfl rfl)
theorem dL_law_1271 : decode cL_law 1271 = .ok (.iaload, 1) := dec_46 (gB dr_19 55 rfl rfl)
theorem dL_law_1272 : decode cL_law 1272 = .ok (.invokevirtual 247, 3) := e_182 (x := 0) (y := 247) dr_19 56 rfl rfl
theorem dL_law_1275 : decode cL_law 1275 = .ok (.istore 6, 2) := e_54 (x := 6) dr_19 59 rfl rfl
theorem dL_law_1277 : decode cL_law 1277 = .ok (.aload_n 2, 1) := dec_44 (gB dr_19 61 rfl rfl)
theorem dL_law_1278 : decode cL_law 1278 = .ok (.invokevirtual 248, 3) := dec_182 (a := 0) (b := 248) (gB dr_19 62 rfl rfl) (gB dr_19 63 rfl rfl) (gB dr_20 0 rfl rfl)
theorem dL_law_1281 : decode cL_law 1281 = .ok (.iload 5, 2) := e_21 (x := 5) dr_20 1 rfl rfl
theorem dL_law_1283 : decode cL_law 1283 = .ok (.if_icmp .eq 5, 3) := e_159 (x := 0) (y := 5) dr_20 3 rfl rfl
theorem dL_law_1286 : decode cL_law 1286 = .ok (.iconst 0, 1) := dec_3 (gB dr_20 6 rfl rfl)
theorem dL_law_1287 : decode cL_law 1287 = .ok (.ireturn, 1) := dec_172 (gB dr_20 7 rfl rfl)
theorem dL_law_1288 : decode cL_law 1288 = .ok (.iload 5, 2) := e_21 (x := 5) dr_20 8 rfl rfl
theorem dL_law_1290 : decode cL_law 1290 = .ok (.ifCond .ne 23, 3) := e_154 (x := 0) (y := 23) dr_20 10 rfl rfl
theorem dL_law_1293 : decode cL_law 1293 = .ok (.aload_n 3, 1) := dec_45 (gB dr_20 13 rfl rfl)
theorem dL_law_1294 : decode cL_law 1294 = .ok (.getfield 13, 3) := e_180 (x := 0) (y := 13) dr_20 14 rfl rfl
theorem dL_law_1297 : decode cL_law 1297 = .ok (.iload 6, 2) := e_21 (x := 6) dr_20 17 rfl rfl
theorem dL_law_1299 : decode cL_law 1299 = .ok (.ifCond .eq 7, 3) := e_153 (x := 0) (y := 7) dr_20 19 rfl rfl
theorem dL_law_1302 : decode cL_law 1302 = .ok (.lconst 1, 1) := dec_10 (gB dr_20 22 rfl rfl)
theorem dL_law_1303 : decode cL_law 1303 = .ok (.goto 4, 3) := e_167 (x := 0) (y := 4) dr_20 23 rfl rfl
theorem dL_law_1306 : decode cL_law 1306 = .ok (.lconst 0, 1) := dec_9 (gB dr_20 26 rfl rfl)
theorem dL_law_1307 : decode cL_law 1307 = .ok (.lcmp, 1) := dec_148 (gB dr_20 27 rfl rfl)
theorem dL_law_1308 : decode cL_law 1308 = .ok (.ifCond .eq 5, 3) := e_153 (x := 0) (y := 5) dr_20 28 rfl rfl
theorem dL_law_1311 : decode cL_law 1311 = .ok (.iconst 0, 1) := dec_3 (gB dr_20 31 rfl rfl)
theorem dL_law_1312 : decode cL_law 1312 = .ok (.ireturn, 1) := dec_172 (gB dr_20 32 rfl rfl)
theorem dL_law_1313 : decode cL_law 1313 = .ok (.goto 894, 3) := e_167 (x := 3) (y := 126) dr_20 33 rfl rfl
theorem dL_law_1316 : decode cL_law 1316 = .ok (.aload_n 1, 1) := dec_43 (gB dr_20 36 rfl rfl)
theorem dL_law_1317 : decode cL_law 1317 = .ok (.aload_n 0, 1) := dec_42 (gB dr_20 37 rfl rfl)
theorem dL_law_1318 : decode cL_law 1318 = .ok (.iload 4, 2) := e_21 (x := 4) dr_20 38 rfl rfl
theorem dL_law_1320 : decode cL_law 1320 = .ok (.iconst 1, 1) := dec_4 (gB dr_20 40 rfl rfl)
theorem dL_law_1321 : decode cL_law 1321 = .ok (.iadd, 1) := dec_96 (gB dr_20 41 rfl rfl)
theorem dL_law_1322 : decode cL_law 1322 = .ok (.iaload, 1) := dec_46 (gB dr_20 42 rfl rfl)
theorem dL_law_1323 : decode cL_law 1323 = .ok (.aload_n 3, 1) := dec_45 (gB dr_20 43 rfl rfl)
theorem dL_law_1324 : decode cL_law 1324 = .ok (.invokestatic 252, 3) := e_184 (x := 0) (y := 252) dr_20 44 rfl rfl
theorem dL_law_1327 : decode cL_law 1327 = .ok (.istore 5, 2) := e_54 (x := 5) dr_20 47 rfl rfl
theorem dL_law_1329 : decode cL_law 1329 = .ok (.aload_n 2, 1) := dec_44 (gB dr_20 49 rfl rfl)
theorem dL_law_1330 : decode cL_law 1330 = .ok (.aload_n 0, 1) := dec_42 (gB dr_20 50 rfl rfl)
theorem dL_law_1331 : decode cL_law 1331 = .ok (.iload 4, 2) := e_21 (x := 4) dr_20 51 rfl rfl
theorem dL_law_1333 : decode cL_law 1333 = .ok (.iconst 1, 1) := dec_4 (gB dr_20 53 rfl rfl)
theorem dL_law_1334 : decode cL_law 1334 = .ok (.iadd, 1) := dec_96 (gB dr_20 54 rfl rfl)
theorem dL_law_1335 : decode cL_law 1335 = .ok (.iaload, 1) := dec_46 (gB dr_20 55 rfl rfl)
theorem dL_law_1336 : decode cL_law 1336 = .ok (.invokevirtual 254, 3) := e_182 (x := 0) (y := 254) dr_20 56 rfl rfl
theorem dL_law_1339 : decode cL_law 1339 = .ok (.astore 6, 2) := e_58 (x := 6) dr_20 59 rfl rfl
theorem dL_law_1341 : decode cL_law 1341 = .ok (.goto 866, 3) := e_167 (x := 3) (y := 98) dr_20 61 rfl rfl
theorem dL_law_1344 : decode cL_law 1344 = .ok (.aload_n 1, 1) := dec_43 (gB dr_21 0 rfl rfl)
theorem dL_law_1345 : decode cL_law 1345 = .ok (.aload_n 0, 1) := dec_42 (gB dr_21 1 rfl rfl)
theorem dL_law_1346 : decode cL_law 1346 = .ok (.iload 4, 2) := e_21 (x := 4) dr_21 2 rfl rfl
theorem dL_law_1348 : decode cL_law 1348 = .ok (.iconst 1, 1) := dec_4 (gB dr_21 4 rfl rfl)
theorem dL_law_1349 : decode cL_law 1349 = .ok (.iadd, 1) := dec_96 (gB dr_21 5 rfl rfl)
theorem dL_law_1350 : decode cL_law 1350 = .ok (.iaload, 1) := dec_46 (gB dr_21 6 rfl rfl)
theorem dL_law_1351 : decode cL_law 1351 = .ok (.aload_n 0, 1) := dec_42 (gB dr_21 7 rfl rfl)
theorem dL_law_1352 : decode cL_law 1352 = .ok (.iload 4, 2) := e_21 (x := 4) dr_21 8 rfl rfl
theorem dL_law_1354 : decode cL_law 1354 = .ok (.iconst 2, 1) := dec_5 (gB dr_21 10 rfl rfl)
theorem dL_law_1355 : decode cL_law 1355 = .ok (.iadd, 1) := dec_96 (gB dr_21 11 rfl rfl)
theorem dL_law_1356 : decode cL_law 1356 = .ok (.iaload, 1) := dec_46 (gB dr_21 12 rfl rfl)
theorem dL_law_1357 : decode cL_law 1357 = .ok (.ifCond .eq 7, 3) := e_153 (x := 0) (y := 7) dr_21 13 rfl rfl
theorem dL_law_1360 : decode cL_law 1360 = .ok (.iconst 1, 1) := dec_4 (gB dr_21 16 rfl rfl)
theorem dL_law_1361 : decode cL_law 1361 = .ok (.goto 4, 3) := e_167 (x := 0) (y := 4) dr_21 17 rfl rfl
theorem dL_law_1364 : decode cL_law 1364 = .ok (.iconst 0, 1) := dec_3 (gB dr_21 20 rfl rfl)
theorem dL_law_1365 : decode cL_law 1365 = .ok (.aload_n 3, 1) := dec_45 (gB dr_21 21 rfl rfl)
theorem dL_law_1366 : decode cL_law 1366 = .ok (.invokestatic 255, 3) := e_184 (x := 0) (y := 255) dr_21 22 rfl rfl
theorem dL_law_1369 : decode cL_law 1369 = .ok (.istore 5, 2) := e_54 (x := 5) dr_21 25 rfl rfl
theorem dL_law_1371 : decode cL_law 1371 = .ok (.aload_n 2, 1) := dec_44 (gB dr_21 27 rfl rfl)
theorem dL_law_1372 : decode cL_law 1372 = .ok (.aload_n 0, 1) := dec_42 (gB dr_21 28 rfl rfl)
theorem dL_law_1373 : decode cL_law 1373 = .ok (.iload 4, 2) := e_21 (x := 4) dr_21 29 rfl rfl
theorem dL_law_1375 : decode cL_law 1375 = .ok (.iconst 1, 1) := dec_4 (gB dr_21 31 rfl rfl)
theorem dL_law_1376 : decode cL_law 1376 = .ok (.iadd, 1) := dec_96 (gB dr_21 32 rfl rfl)
theorem dL_law_1377 : decode cL_law 1377 = .ok (.iaload, 1) := dec_46 (gB dr_21 33 rfl rfl)
theorem dL_law_1378 : decode cL_law 1378 = .ok (.aload_n 0, 1) := dec_42 (gB dr_21 34 rfl rfl)
theorem dL_law_1379 : decode cL_law 1379 = .ok (.iload 4, 2) := e_21 (x := 4) dr_21 35 rfl rfl
theorem dL_law_1381 : decode cL_law 1381 = .ok (.iconst 2, 1) := dec_5 (gB dr_21 37 rfl rfl)
theorem dL_law_1382 : decode cL_law 1382 = .ok (.iadd, 1) := dec_96 (gB dr_21 38 rfl rfl)
theorem dL_law_1383 : decode cL_law 1383 = .ok (.iaload, 1) := dec_46 (gB dr_21 39 rfl rfl)
theorem dL_law_1384 : decode cL_law 1384 = .ok (.ifCond .eq 7, 3) := e_153 (x := 0) (y := 7) dr_21 40 rfl rfl
theorem dL_law_1387 : decode cL_law 1387 = .ok (.iconst 1, 1) := dec_4 (gB dr_21 43 rfl rfl)
theorem dL_law_1388 : decode cL_law 1388 = .ok (.goto 4, 3) := e_167 (x := 0) (y := 4) dr_21 44 rfl rfl
theorem dL_law_1391 : decode cL_law 1391 = .ok (.iconst 0, 1) := dec_3 (gB dr_21 47 rfl rfl)
theorem dL_law_1392 : decode cL_law 1392 = .ok (.invokevirtual 258, 3) := e_182 (x := 1) (y := 2) dr_21 48 rfl rfl
theorem dL_law_1395 : decode cL_law 1395 = .ok (.istore 6, 2) := e_54 (x := 6) dr_21 51 rfl rfl
theorem dL_law_1397 : decode cL_law 1397 = .ok (.goto 810, 3) := e_167 (x := 3) (y := 42) dr_21 53 rfl rfl
theorem dL_law_1400 : decode cL_law 1400 = .ok (.aload_n 1, 1) := dec_43 (gB dr_21 56 rfl rfl)
theorem dL_law_1401 : decode cL_law 1401 = .ok (.aload_n 0, 1) := dec_42 (gB dr_21 57 rfl rfl)
theorem dL_law_1402 : decode cL_law 1402 = .ok (.iload 4, 2) := e_21 (x := 4) dr_21 58 rfl rfl
theorem dL_law_1404 : decode cL_law 1404 = .ok (.iconst 1, 1) := dec_4 (gB dr_21 60 rfl rfl)
theorem dL_law_1405 : decode cL_law 1405 = .ok (.iadd, 1) := dec_96 (gB dr_21 61 rfl rfl)
theorem dL_law_1406 : decode cL_law 1406 = .ok (.iaload, 1) := dec_46 (gB dr_21 62 rfl rfl)
theorem dL_law_1407 : decode cL_law 1407 = .ok (.aload_n 0, 1) := dec_42 (gB dr_21 63 rfl rfl)
theorem dL_law_1408 : decode cL_law 1408 = .ok (.iload 4, 2) := e_21 (x := 4) dr_22 0 rfl rfl
theorem dL_law_1410 : decode cL_law 1410 = .ok (.iconst 2, 1) := dec_5 (gB dr_22 2 rfl rfl)
theorem dL_law_1411 : decode cL_law 1411 = .ok (.iadd, 1) := dec_96 (gB dr_22 3 rfl rfl)
theorem dL_law_1412 : decode cL_law 1412 = .ok (.iaload, 1) := dec_46 (gB dr_22 4 rfl rfl)
theorem dL_law_1413 : decode cL_law 1413 = .ok (.aload_n 0, 1) := dec_42 (gB dr_22 5 rfl rfl)
theorem dL_law_1414 : decode cL_law 1414 = .ok (.iload 4, 2) := e_21 (x := 4) dr_22 6 rfl rfl
theorem dL_law_1416 : decode cL_law 1416 = .ok (.iconst 3, 1) := dec_6 (gB dr_22 8 rfl rfl)
theorem dL_law_1417 : decode cL_law 1417 = .ok (.iadd, 1) := dec_96 (gB dr_22 9 rfl rfl)
theorem dL_law_1418 : decode cL_law 1418 = .ok (.iaload, 1) := dec_46 (gB dr_22 10 rfl rfl)
theorem dL_law_1419 : decode cL_law 1419 = .ok (.aload_n 3, 1) := dec_45 (gB dr_22 11 rfl rfl)
theorem dL_law_1420 : decode cL_law 1420 = .ok (.invokestatic 259, 3) := e_184 (x := 1) (y := 3) dr_22 12 rfl rfl
theorem dL_law_1423 : decode cL_law 1423 = .ok (.istore 5, 2) := e_54 (x := 5) dr_22 15 rfl rfl
theorem dL_law_1425 : decode cL_law 1425 = .ok (.aload_n 2, 1) := dec_44 (gB dr_22 17 rfl rfl)
theorem dL_law_1426 : decode cL_law 1426 = .ok (.aload_n 0, 1) := dec_42 (gB dr_22 18 rfl rfl)
theorem dL_law_1427 : decode cL_law 1427 = .ok (.iload 4, 2) := e_21 (x := 4) dr_22 19 rfl rfl
theorem dL_law_1429 : decode cL_law 1429 = .ok (.iconst 1, 1) := dec_4 (gB dr_22 21 rfl rfl)
theorem dL_law_1430 : decode cL_law 1430 = .ok (.iadd, 1) := dec_96 (gB dr_22 22 rfl rfl)
theorem dL_law_1431 : decode cL_law 1431 = .ok (.iaload, 1) := dec_46 (gB dr_22 23 rfl rfl)
theorem dL_law_1432 : decode cL_law 1432 = .ok (.aload_n 0, 1) := dec_42 (gB dr_22 24 rfl rfl)
theorem dL_law_1433 : decode cL_law 1433 = .ok (.iload 4, 2) := e_21 (x := 4) dr_22 25 rfl rfl
theorem dL_law_1435 : decode cL_law 1435 = .ok (.iconst 2, 1) := dec_5 (gB dr_22 27 rfl rfl)
theorem dL_law_1436 : decode cL_law 1436 = .ok (.iadd, 1) := dec_96 (gB dr_22 28 rfl rfl)
theorem dL_law_1437 : decode cL_law 1437 = .ok (.iaload, 1) := dec_46 (gB dr_22 29 rfl rfl)
theorem dL_law_1438 : decode cL_law 1438 = .ok (.aload_n 0, 1) := dec_42 (gB dr_22 30 rfl rfl)
theorem dL_law_1439 : decode cL_law 1439 = .ok (.iload 4, 2) := e_21 (x := 4) dr_22 31 rfl rfl
theorem dL_law_1441 : decode cL_law 1441 = .ok (.iconst 3, 1) := dec_6 (gB dr_22 33 rfl rfl)
theorem dL_law_1442 : decode cL_law 1442 = .ok (.iadd, 1) := dec_96 (gB dr_22 34 rfl rfl)
theorem dL_law_1443 : decode cL_law 1443 = .ok (.iaload, 1) := dec_46 (gB dr_22 35 rfl rfl)
theorem dL_law_1444 : decode cL_law 1444 = .ok (.invokevirtual 261, 3) := e_182 (x := 1) (y := 5) dr_22 36 rfl rfl
theorem dL_law_1447 : decode cL_law 1447 = .ok (.istore 6, 2) := e_54 (x := 6) dr_22 39 rfl rfl
theorem dL_law_1449 : decode cL_law 1449 = .ok (.goto 758, 3) := e_167 (x := 2) (y := 246) dr_22 41 rfl rfl
theorem dL_law_1452 : decode cL_law 1452 = .ok (.aload_n 1, 1) := dec_43 (gB dr_22 44 rfl rfl)
theorem dL_law_1453 : decode cL_law 1453 = .ok (.aload_n 0, 1) := dec_42 (gB dr_22 45 rfl rfl)
theorem dL_law_1454 : decode cL_law 1454 = .ok (.iload 4, 2) := e_21 (x := 4) dr_22 46 rfl rfl
theorem dL_law_1456 : decode cL_law 1456 = .ok (.iconst 1, 1) := dec_4 (gB dr_22 48 rfl rfl)
theorem dL_law_1457 : decode cL_law 1457 = .ok (.iadd, 1) := dec_96 (gB dr_22 49 rfl rfl)
theorem dL_law_1458 : decode cL_law 1458 = .ok (.iaload, 1) := dec_46 (gB dr_22 50 rfl rfl)
theorem dL_law_1459 : decode cL_law 1459 = .ok (.aload_n 0, 1) := dec_42 (gB dr_22 51 rfl rfl)
theorem dL_law_1460 : decode cL_law 1460 = .ok (.iload 4, 2) := e_21 (x := 4) dr_22 52 rfl rfl
theorem dL_law_1462 : decode cL_law 1462 = .ok (.iconst 2, 1) := dec_5 (gB dr_22 54 rfl rfl)
theorem dL_law_1463 : decode cL_law 1463 = .ok (.iadd, 1) := dec_96 (gB dr_22 55 rfl rfl)
theorem dL_law_1464 : decode cL_law 1464 = .ok (.iaload, 1) := dec_46 (gB dr_22 56 rfl rfl)
theorem dL_law_1465 : decode cL_law 1465 = .ok (.aload_n 0, 1) := dec_42 (gB dr_22 57 rfl rfl)
theorem dL_law_1466 : decode cL_law 1466 = .ok (.iload 4, 2) := e_21 (x := 4) dr_22 58 rfl rfl
theorem dL_law_1468 : decode cL_law 1468 = .ok (.iconst 3, 1) := dec_6 (gB dr_22 60 rfl rfl)
theorem dL_law_1469 : decode cL_law 1469 = .ok (.iadd, 1) := dec_96 (gB dr_22 61 rfl rfl)
theorem dL_law_1470 : decode cL_law 1470 = .ok (.iaload, 1) := dec_46 (gB dr_22 62 rfl rfl)
theorem dL_law_1471 : decode cL_law 1471 = .ok (.aload_n 3, 1) := dec_45 (gB dr_22 63 rfl rfl)
theorem dL_law_1472 : decode cL_law 1472 = .ok (.invokestatic 262, 3) := e_184 (x := 1) (y := 6) dr_23 0 rfl rfl
theorem dL_law_1475 : decode cL_law 1475 = .ok (.istore 5, 2) := e_54 (x := 5) dr_23 3 rfl rfl
theorem dL_law_1477 : decode cL_law 1477 = .ok (.aload_n 2, 1) := dec_44 (gB dr_23 5 rfl rfl)
theorem dL_law_1478 : decode cL_law 1478 = .ok (.aload_n 0, 1) := dec_42 (gB dr_23 6 rfl rfl)
theorem dL_law_1479 : decode cL_law 1479 = .ok (.iload 4, 2) := e_21 (x := 4) dr_23 7 rfl rfl
theorem dL_law_1481 : decode cL_law 1481 = .ok (.iconst 1, 1) := dec_4 (gB dr_23 9 rfl rfl)
theorem dL_law_1482 : decode cL_law 1482 = .ok (.iadd, 1) := dec_96 (gB dr_23 10 rfl rfl)
theorem dL_law_1483 : decode cL_law 1483 = .ok (.iaload, 1) := dec_46 (gB dr_23 11 rfl rfl)
theorem dL_law_1484 : decode cL_law 1484 = .ok (.aload_n 0, 1) := dec_42 (gB dr_23 12 rfl rfl)
theorem dL_law_1485 : decode cL_law 1485 = .ok (.iload 4, 2) := e_21 (x := 4) dr_23 13 rfl rfl
theorem dL_law_1487 : decode cL_law 1487 = .ok (.iconst 2, 1) := dec_5 (gB dr_23 15 rfl rfl)
theorem dL_law_1488 : decode cL_law 1488 = .ok (.iadd, 1) := dec_96 (gB dr_23 16 rfl rfl)
theorem dL_law_1489 : decode cL_law 1489 = .ok (.iaload, 1) := dec_46 (gB dr_23 17 rfl rfl)
theorem dL_law_1490 : decode cL_law 1490 = .ok (.aload_n 0, 1) := dec_42 (gB dr_23 18 rfl rfl)
theorem dL_law_1491 : decode cL_law 1491 = .ok (.iload 4, 2) := e_21 (x := 4) dr_23 19 rfl rfl
theorem dL_law_1493 : decode cL_law 1493 = .ok (.iconst 3, 1) := dec_6 (gB dr_23 21 rfl rfl)
theorem dL_law_1494 : decode cL_law 1494 = .ok (.iadd, 1) := dec_96 (gB dr_23 22 rfl rfl)
theorem dL_law_1495 : decode cL_law 1495 = .ok (.iaload, 1) := dec_46 (gB dr_23 23 rfl rfl)
theorem dL_law_1496 : decode cL_law 1496 = .ok (.invokevirtual 264, 3) := e_182 (x := 1) (y := 8) dr_23 24 rfl rfl
theorem dL_law_1499 : decode cL_law 1499 = .ok (.istore 6, 2) := e_54 (x := 6) dr_23 27 rfl rfl
theorem dL_law_1501 : decode cL_law 1501 = .ok (.goto 706, 3) := e_167 (x := 2) (y := 194) dr_23 29 rfl rfl
theorem dL_law_1504 : decode cL_law 1504 = .ok (.aload_n 1, 1) := dec_43 (gB dr_23 32 rfl rfl)
theorem dL_law_1505 : decode cL_law 1505 = .ok (.aload_n 0, 1) := dec_42 (gB dr_23 33 rfl rfl)
theorem dL_law_1506 : decode cL_law 1506 = .ok (.iload 4, 2) := e_21 (x := 4) dr_23 34 rfl rfl
theorem dL_law_1508 : decode cL_law 1508 = .ok (.iconst 1, 1) := dec_4 (gB dr_23 36 rfl rfl)
theorem dL_law_1509 : decode cL_law 1509 = .ok (.iadd, 1) := dec_96 (gB dr_23 37 rfl rfl)
theorem dL_law_1510 : decode cL_law 1510 = .ok (.iaload, 1) := dec_46 (gB dr_23 38 rfl rfl)
theorem dL_law_1511 : decode cL_law 1511 = .ok (.aload_n 0, 1) := dec_42 (gB dr_23 39 rfl rfl)
theorem dL_law_1512 : decode cL_law 1512 = .ok (.iload 4, 2) := e_21 (x := 4) dr_23 40 rfl rfl
theorem dL_law_1514 : decode cL_law 1514 = .ok (.iconst 2, 1) := dec_5 (gB dr_23 42 rfl rfl)
theorem dL_law_1515 : decode cL_law 1515 = .ok (.iadd, 1) := dec_96 (gB dr_23 43 rfl rfl)
theorem dL_law_1516 : decode cL_law 1516 = .ok (.iaload, 1) := dec_46 (gB dr_23 44 rfl rfl)
theorem dL_law_1517 : decode cL_law 1517 = .ok (.aload_n 3, 1) := dec_45 (gB dr_23 45 rfl rfl)
theorem dL_law_1518 : decode cL_law 1518 = .ok (.invokestatic 265, 3) := e_184 (x := 1) (y := 9) dr_23 46 rfl rfl
theorem dL_law_1521 : decode cL_law 1521 = .ok (.istore 5, 2) := e_54 (x := 5) dr_23 49 rfl rfl
theorem dL_law_1523 : decode cL_law 1523 = .ok (.aload_n 2, 1) := dec_44 (gB dr_23 51 rfl rfl)
theorem dL_law_1524 : decode cL_law 1524 = .ok (.aload_n 0, 1) := dec_42 (gB dr_23 52 rfl rfl)
theorem dL_law_1525 : decode cL_law 1525 = .ok (.iload 4, 2) := e_21 (x := 4) dr_23 53 rfl rfl
theorem dL_law_1527 : decode cL_law 1527 = .ok (.iconst 1, 1) := dec_4 (gB dr_23 55 rfl rfl)
theorem dL_law_1528 : decode cL_law 1528 = .ok (.iadd, 1) := dec_96 (gB dr_23 56 rfl rfl)
theorem dL_law_1529 : decode cL_law 1529 = .ok (.iaload, 1) := dec_46 (gB dr_23 57 rfl rfl)
theorem dL_law_1530 : decode cL_law 1530 = .ok (.aload_n 0, 1) := dec_42 (gB dr_23 58 rfl rfl)
theorem dL_law_1531 : decode cL_law 1531 = .ok (.iload 4, 2) := e_21 (x := 4) dr_23 59 rfl rfl
theorem dL_law_1533 : decode cL_law 1533 = .ok (.iconst 2, 1) := dec_5 (gB dr_23 61 rfl rfl)
theorem dL_law_1534 : decode cL_law 1534 = .ok (.iadd, 1) := dec_96 (gB dr_23 62 rfl rfl)
theorem dL_law_1535 : decode cL_law 1535 = .ok (.iaload, 1) := dec_46 (gB dr_23 63 rfl rfl)
theorem dL_law_1536 : decode cL_law 1536 = .ok (.invokevirtual 267, 3) := e_182 (x := 1) (y := 11) dr_24 0 rfl rfl
theorem dL_law_1539 : decode cL_law 1539 = .ok (.istore 6, 2) := e_54 (x := 6) dr_24 3 rfl rfl
theorem dL_law_1541 : decode cL_law 1541 = .ok (.goto 666, 3) := e_167 (x := 2) (y := 154) dr_24 5 rfl rfl
theorem dL_law_1544 : decode cL_law 1544 = .ok (.aload_n 1, 1) := dec_43 (gB dr_24 8 rfl rfl)
theorem dL_law_1545 : decode cL_law 1545 = .ok (.aload_n 0, 1) := dec_42 (gB dr_24 9 rfl rfl)
theorem dL_law_1546 : decode cL_law 1546 = .ok (.iload 4, 2) := e_21 (x := 4) dr_24 10 rfl rfl
theorem dL_law_1548 : decode cL_law 1548 = .ok (.iconst 1, 1) := dec_4 (gB dr_24 12 rfl rfl)
theorem dL_law_1549 : decode cL_law 1549 = .ok (.iadd, 1) := dec_96 (gB dr_24 13 rfl rfl)
theorem dL_law_1550 : decode cL_law 1550 = .ok (.iaload, 1) := dec_46 (gB dr_24 14 rfl rfl)
theorem dL_law_1551 : decode cL_law 1551 = .ok (.aload_n 3, 1) := dec_45 (gB dr_24 15 rfl rfl)
theorem dL_law_1552 : decode cL_law 1552 = .ok (.invokestatic 268, 3) := e_184 (x := 1) (y := 12) dr_24 16 rfl rfl
theorem dL_law_1555 : decode cL_law 1555 = .ok (.istore 5, 2) := e_54 (x := 5) dr_24 19 rfl rfl
theorem dL_law_1557 : decode cL_law 1557 = .ok (.aload_n 2, 1) := dec_44 (gB dr_24 21 rfl rfl)
theorem dL_law_1558 : decode cL_law 1558 = .ok (.aload_n 0, 1) := dec_42 (gB dr_24 22 rfl rfl)
theorem dL_law_1559 : decode cL_law 1559 = .ok (.iload 4, 2) := e_21 (x := 4) dr_24 23 rfl rfl
theorem dL_law_1561 : decode cL_law 1561 = .ok (.iconst 1, 1) := dec_4 (gB dr_24 25 rfl rfl)
theorem dL_law_1562 : decode cL_law 1562 = .ok (.iadd, 1) := dec_96 (gB dr_24 26 rfl rfl)
theorem dL_law_1563 : decode cL_law 1563 = .ok (.iaload, 1) := dec_46 (gB dr_24 27 rfl rfl)
theorem dL_law_1564 : decode cL_law 1564 = .ok (.invokevirtual 270, 3) := e_182 (x := 1) (y := 14) dr_24 28 rfl rfl
theorem dL_law_1567 : decode cL_law 1567 = .ok (.istore 6, 2) := e_54 (x := 6) dr_24 31 rfl rfl
theorem dL_law_1569 : decode cL_law 1569 = .ok (.goto 638, 3) := e_167 (x := 2) (y := 126) dr_24 33 rfl rfl
theorem dL_law_1572 : decode cL_law 1572 = .ok (.aload_n 1, 1) := dec_43 (gB dr_24 36 rfl rfl)
theorem dL_law_1573 : decode cL_law 1573 = .ok (.aload_n 0, 1) := dec_42 (gB dr_24 37 rfl rfl)
theorem dL_law_1574 : decode cL_law 1574 = .ok (.iload 4, 2) := e_21 (x := 4) dr_24 38 rfl rfl
theorem dL_law_1576 : decode cL_law 1576 = .ok (.iconst 1, 1) := dec_4 (gB dr_24 40 rfl rfl)
theorem dL_law_1577 : decode cL_law 1577 = .ok (.iadd, 1) := dec_96 (gB dr_24 41 rfl rfl)
theorem dL_law_1578 : decode cL_law 1578 = .ok (.iaload, 1) := dec_46 (gB dr_24 42 rfl rfl)
theorem dL_law_1579 : decode cL_law 1579 = .ok (.aload_n 0, 1) := dec_42 (gB dr_24 43 rfl rfl)
theorem dL_law_1580 : decode cL_law 1580 = .ok (.iload 4, 2) := e_21 (x := 4) dr_24 44 rfl rfl
theorem dL_law_1582 : decode cL_law 1582 = .ok (.iconst 2, 1) := dec_5 (gB dr_24 46 rfl rfl)
theorem dL_law_1583 : decode cL_law 1583 = .ok (.iadd, 1) := dec_96 (gB dr_24 47 rfl rfl)
theorem dL_law_1584 : decode cL_law 1584 = .ok (.iaload, 1) := dec_46 (gB dr_24 48 rfl rfl)
theorem dL_law_1585 : decode cL_law 1585 = .ok (.aload_n 0, 1) := dec_42 (gB dr_24 49 rfl rfl)
theorem dL_law_1586 : decode cL_law 1586 = .ok (.iload 4, 2) := e_21 (x := 4) dr_24 50 rfl rfl
theorem dL_law_1588 : decode cL_law 1588 = .ok (.iconst 3, 1) := dec_6 (gB dr_24 52 rfl rfl)
theorem dL_law_1589 : decode cL_law 1589 = .ok (.iadd, 1) := dec_96 (gB dr_24 53 rfl rfl)
theorem dL_law_1590 : decode cL_law 1590 = .ok (.iaload, 1) := dec_46 (gB dr_24 54 rfl rfl)
theorem dL_law_1591 : decode cL_law 1591 = .ok (.ifCond .eq 7, 3) := e_153 (x := 0) (y := 7) dr_24 55 rfl rfl
theorem dL_law_1594 : decode cL_law 1594 = .ok (.iconst 1, 1) := dec_4 (gB dr_24 58 rfl rfl)
theorem dL_law_1595 : decode cL_law 1595 = .ok (.goto 4, 3) := e_167 (x := 0) (y := 4) dr_24 59 rfl rfl
theorem dL_law_1598 : decode cL_law 1598 = .ok (.iconst 0, 1) := dec_3 (gB dr_24 62 rfl rfl)
theorem dL_law_1599 : decode cL_law 1599 = .ok (.aload_n 3, 1) := dec_45 (gB dr_24 63 rfl rfl)
theorem dL_law_1600 : decode cL_law 1600 = .ok (.invokestatic 271, 3) := e_184 (x := 1) (y := 15) dr_25 0 rfl rfl
theorem dL_law_1603 : decode cL_law 1603 = .ok (.istore 5, 2) := e_54 (x := 5) dr_25 3 rfl rfl
theorem dL_law_1605 : decode cL_law 1605 = .ok (.aload_n 2, 1) := dec_44 (gB dr_25 5 rfl rfl)
theorem dL_law_1606 : decode cL_law 1606 = .ok (.aload_n 0, 1) := dec_42 (gB dr_25 6 rfl rfl)
theorem dL_law_1607 : decode cL_law 1607 = .ok (.iload 4, 2) := e_21 (x := 4) dr_25 7 rfl rfl
theorem dL_law_1609 : decode cL_law 1609 = .ok (.iconst 1, 1) := dec_4 (gB dr_25 9 rfl rfl)
theorem dL_law_1610 : decode cL_law 1610 = .ok (.iadd, 1) := dec_96 (gB dr_25 10 rfl rfl)
theorem dL_law_1611 : decode cL_law 1611 = .ok (.iaload, 1) := dec_46 (gB dr_25 11 rfl rfl)
theorem dL_law_1612 : decode cL_law 1612 = .ok (.aload_n 0, 1) := dec_42 (gB dr_25 12 rfl rfl)
theorem dL_law_1613 : decode cL_law 1613 = .ok (.iload 4, 2) := e_21 (x := 4) dr_25 13 rfl rfl
theorem dL_law_1615 : decode cL_law 1615 = .ok (.iconst 2, 1) := dec_5 (gB dr_25 15 rfl rfl)
theorem dL_law_1616 : decode cL_law 1616 = .ok (.iadd, 1) := dec_96 (gB dr_25 16 rfl rfl)
theorem dL_law_1617 : decode cL_law 1617 = .ok (.iaload, 1) := dec_46 (gB dr_25 17 rfl rfl)
theorem dL_law_1618 : decode cL_law 1618 = .ok (.aload_n 0, 1) := dec_42 (gB dr_25 18 rfl rfl)
theorem dL_law_1619 : decode cL_law 1619 = .ok (.iload 4, 2) := e_21 (x := 4) dr_25 19 rfl rfl
theorem dL_law_1621 : decode cL_law 1621 = .ok (.iconst 3, 1) := dec_6 (gB dr_25 21 rfl rfl)
theorem dL_law_1622 : decode cL_law 1622 = .ok (.iadd, 1) := dec_96 (gB dr_25 22 rfl rfl)
theorem dL_law_1623 : decode cL_law 1623 = .ok (.iaload, 1) := dec_46 (gB dr_25 23 rfl rfl)
theorem dL_law_1624 : decode cL_law 1624 = .ok (.ifCond .eq 7, 3) := e_153 (x := 0) (y := 7) dr_25 24 rfl rfl
theorem dL_law_1627 : decode cL_law 1627 = .ok (.iconst 1, 1) := dec_4 (gB dr_25 27 rfl rfl)
theorem dL_law_1628 : decode cL_law 1628 = .ok (.goto 4, 3) := e_167 (x := 0) (y := 4) dr_25 28 rfl rfl
theorem dL_law_1631 : decode cL_law 1631 = .ok (.iconst 0, 1) := dec_3 (gB dr_25 31 rfl rfl)
theorem dL_law_1632 : decode cL_law 1632 = .ok (.invokevirtual 273, 3) := e_182 (x := 1) (y := 17) dr_25 32 rfl rfl
theorem dL_law_1635 : decode cL_law 1635 = .ok (.istore 6, 2) := e_54 (x := 6) dr_25 35 rfl rfl
theorem dL_law_1637 : decode cL_law 1637 = .ok (.goto 570, 3) := e_167 (x := 2) (y := 58) dr_25 37 rfl rfl
theorem dL_law_1640 : decode cL_law 1640 = .ok (.aload_n 1, 1) := dec_43 (gB dr_25 40 rfl rfl)
theorem dL_law_1641 : decode cL_law 1641 = .ok (.aload_n 0, 1) := dec_42 (gB dr_25 41 rfl rfl)
theorem dL_law_1642 : decode cL_law 1642 = .ok (.iload 4, 2) := e_21 (x := 4) dr_25 42 rfl rfl
theorem dL_law_1644 : decode cL_law 1644 = .ok (.iconst 1, 1) := dec_4 (gB dr_25 44 rfl rfl)
theorem dL_law_1645 : decode cL_law 1645 = .ok (.iadd, 1) := dec_96 (gB dr_25 45 rfl rfl)
theorem dL_law_1646 : decode cL_law 1646 = .ok (.iaload, 1) := dec_46 (gB dr_25 46 rfl rfl)
theorem dL_law_1647 : decode cL_law 1647 = .ok (.aload_n 0, 1) := dec_42 (gB dr_25 47 rfl rfl)
theorem dL_law_1648 : decode cL_law 1648 = .ok (.iload 4, 2) := e_21 (x := 4) dr_25 48 rfl rfl
theorem dL_law_1650 : decode cL_law 1650 = .ok (.iconst 2, 1) := dec_5 (gB dr_25 50 rfl rfl)
theorem dL_law_1651 : decode cL_law 1651 = .ok (.iadd, 1) := dec_96 (gB dr_25 51 rfl rfl)
theorem dL_law_1652 : decode cL_law 1652 = .ok (.iaload, 1) := dec_46 (gB dr_25 52 rfl rfl)
theorem dL_law_1653 : decode cL_law 1653 = .ok (.aload_n 0, 1) := dec_42 (gB dr_25 53 rfl rfl)
theorem dL_law_1654 : decode cL_law 1654 = .ok (.iload 4, 2) := e_21 (x := 4) dr_25 54 rfl rfl
theorem dL_law_1656 : decode cL_law 1656 = .ok (.iconst 3, 1) := dec_6 (gB dr_25 56 rfl rfl)
theorem dL_law_1657 : decode cL_law 1657 = .ok (.iadd, 1) := dec_96 (gB dr_25 57 rfl rfl)
theorem dL_law_1658 : decode cL_law 1658 = .ok (.iaload, 1) := dec_46 (gB dr_25 58 rfl rfl)
theorem dL_law_1659 : decode cL_law 1659 = .ok (.ifCond .eq 7, 3) := e_153 (x := 0) (y := 7) dr_25 59 rfl rfl
theorem dL_law_1662 : decode cL_law 1662 = .ok (.iconst 1, 1) := dec_4 (gB dr_25 62 rfl rfl)
theorem dL_law_1663 : decode cL_law 1663 = .ok (.goto 4, 3) := dec_167 (a := 0) (b := 4) (gB dr_25 63 rfl rfl) (gB dr_26 0 rfl rfl) (gB dr_26 1 rfl rfl)
theorem dL_law_1666 : decode cL_law 1666 = .ok (.iconst 0, 1) := dec_3 (gB dr_26 2 rfl rfl)
theorem dL_law_1667 : decode cL_law 1667 = .ok (.aload_n 3, 1) := dec_45 (gB dr_26 3 rfl rfl)
theorem dL_law_1668 : decode cL_law 1668 = .ok (.invokestatic 274, 3) := e_184 (x := 1) (y := 18) dr_26 4 rfl rfl
theorem dL_law_1671 : decode cL_law 1671 = .ok (.istore 5, 2) := e_54 (x := 5) dr_26 7 rfl rfl
theorem dL_law_1673 : decode cL_law 1673 = .ok (.aload_n 2, 1) := dec_44 (gB dr_26 9 rfl rfl)
theorem dL_law_1674 : decode cL_law 1674 = .ok (.aload_n 0, 1) := dec_42 (gB dr_26 10 rfl rfl)
theorem dL_law_1675 : decode cL_law 1675 = .ok (.iload 4, 2) := e_21 (x := 4) dr_26 11 rfl rfl
theorem dL_law_1677 : decode cL_law 1677 = .ok (.iconst 1, 1) := dec_4 (gB dr_26 13 rfl rfl)
theorem dL_law_1678 : decode cL_law 1678 = .ok (.iadd, 1) := dec_96 (gB dr_26 14 rfl rfl)
theorem dL_law_1679 : decode cL_law 1679 = .ok (.iaload, 1) := dec_46 (gB dr_26 15 rfl rfl)
theorem dL_law_1680 : decode cL_law 1680 = .ok (.aload_n 0, 1) := dec_42 (gB dr_26 16 rfl rfl)
theorem dL_law_1681 : decode cL_law 1681 = .ok (.iload 4, 2) := e_21 (x := 4) dr_26 17 rfl rfl
theorem dL_law_1683 : decode cL_law 1683 = .ok (.iconst 2, 1) := dec_5 (gB dr_26 19 rfl rfl)
theorem dL_law_1684 : decode cL_law 1684 = .ok (.iadd, 1) := dec_96 (gB dr_26 20 rfl rfl)
theorem dL_law_1685 : decode cL_law 1685 = .ok (.iaload, 1) := dec_46 (gB dr_26 21 rfl rfl)
theorem dL_law_1686 : decode cL_law 1686 = .ok (.aload_n 0, 1) := dec_42 (gB dr_26 22 rfl rfl)
theorem dL_law_1687 : decode cL_law 1687 = .ok (.iload 4, 2) := e_21 (x := 4) dr_26 23 rfl rfl
theorem dL_law_1689 : decode cL_law 1689 = .ok (.iconst 3, 1) := dec_6 (gB dr_26 25 rfl rfl)
theorem dL_law_1690 : decode cL_law 1690 = .ok (.iadd, 1) := dec_96 (gB dr_26 26 rfl rfl)
theorem dL_law_1691 : decode cL_law 1691 = .ok (.iaload, 1) := dec_46 (gB dr_26 27 rfl rfl)
theorem dL_law_1692 : decode cL_law 1692 = .ok (.ifCond .eq 7, 3) := e_153 (x := 0) (y := 7) dr_26 28 rfl rfl
theorem dL_law_1695 : decode cL_law 1695 = .ok (.iconst 1, 1) := dec_4 (gB dr_26 31 rfl rfl)
theorem dL_law_1696 : decode cL_law 1696 = .ok (.goto 4, 3) := e_167 (x := 0) (y := 4) dr_26 32 rfl rfl
theorem dL_law_1699 : decode cL_law 1699 = .ok (.iconst 0, 1) := dec_3 (gB dr_26 35 rfl rfl)
theorem dL_law_1700 : decode cL_law 1700 = .ok (.invokevirtual 276, 3) := e_182 (x := 1) (y := 20) dr_26 36 rfl rfl
theorem dL_law_1703 : decode cL_law 1703 = .ok (.istore 6, 2) := e_54 (x := 6) dr_26 39 rfl rfl
theorem dL_law_1705 : decode cL_law 1705 = .ok (.goto 502, 3) := e_167 (x := 1) (y := 246) dr_26 41 rfl rfl
theorem dL_law_1708 : decode cL_law 1708 = .ok (.aload_n 1, 1) := dec_43 (gB dr_26 44 rfl rfl)
theorem dL_law_1709 : decode cL_law 1709 = .ok (.aload_n 0, 1) := dec_42 (gB dr_26 45 rfl rfl)
theorem dL_law_1710 : decode cL_law 1710 = .ok (.iload 4, 2) := e_21 (x := 4) dr_26 46 rfl rfl
theorem dL_law_1712 : decode cL_law 1712 = .ok (.iconst 1, 1) := dec_4 (gB dr_26 48 rfl rfl)
theorem dL_law_1713 : decode cL_law 1713 = .ok (.iadd, 1) := dec_96 (gB dr_26 49 rfl rfl)
theorem dL_law_1714 : decode cL_law 1714 = .ok (.iaload, 1) := dec_46 (gB dr_26 50 rfl rfl)
theorem dL_law_1715 : decode cL_law 1715 = .ok (.aload_n 3, 1) := dec_45 (gB dr_26 51 rfl rfl)
theorem dL_law_1716 : decode cL_law 1716 = .ok (.invokestatic 277, 3) := e_184 (x := 1) (y := 21) dr_26 52 rfl rfl
theorem dL_law_1719 : decode cL_law 1719 = .ok (.istore 5, 2) := e_54 (x := 5) dr_26 55 rfl rfl
theorem dL_law_1721 : decode cL_law 1721 = .ok (.aload_n 2, 1) := dec_44 (gB dr_26 57 rfl rfl)
theorem dL_law_1722 : decode cL_law 1722 = .ok (.aload_n 0, 1) := dec_42 (gB dr_26 58 rfl rfl)
theorem dL_law_1723 : decode cL_law 1723 = .ok (.iload 4, 2) := e_21 (x := 4) dr_26 59 rfl rfl
theorem dL_law_1725 : decode cL_law 1725 = .ok (.iconst 1, 1) := dec_4 (gB dr_26 61 rfl rfl)
theorem dL_law_1726 : decode cL_law 1726 = .ok (.iadd, 1) := dec_96 (gB dr_26 62 rfl rfl)
theorem dL_law_1727 : decode cL_law 1727 = .ok (.iaload, 1) := dec_46 (gB dr_26 63 rfl rfl)
theorem dL_law_1728 : decode cL_law 1728 = .ok (.invokevirtual 279, 3) := e_182 (x := 1) (y := 23) dr_27 0 rfl rfl
theorem dL_law_1731 : decode cL_law 1731 = .ok (.istore 6, 2) := e_54 (x := 6) dr_27 3 rfl rfl
theorem dL_law_1733 : decode cL_law 1733 = .ok (.goto 474, 3) := e_167 (x := 1) (y := 218) dr_27 5 rfl rfl
theorem dL_law_1736 : decode cL_law 1736 = .ok (.aload_n 1, 1) := dec_43 (gB dr_27 8 rfl rfl)
theorem dL_law_1737 : decode cL_law 1737 = .ok (.aload_n 0, 1) := dec_42 (gB dr_27 9 rfl rfl)
theorem dL_law_1738 : decode cL_law 1738 = .ok (.iload 4, 2) := e_21 (x := 4) dr_27 10 rfl rfl
theorem dL_law_1740 : decode cL_law 1740 = .ok (.iconst 1, 1) := dec_4 (gB dr_27 12 rfl rfl)
theorem dL_law_1741 : decode cL_law 1741 = .ok (.iadd, 1) := dec_96 (gB dr_27 13 rfl rfl)
theorem dL_law_1742 : decode cL_law 1742 = .ok (.iaload, 1) := dec_46 (gB dr_27 14 rfl rfl)
theorem dL_law_1743 : decode cL_law 1743 = .ok (.aload_n 3, 1) := dec_45 (gB dr_27 15 rfl rfl)
theorem dL_law_1744 : decode cL_law 1744 = .ok (.invokestatic 280, 3) := e_184 (x := 1) (y := 24) dr_27 16 rfl rfl
theorem dL_law_1747 : decode cL_law 1747 = .ok (.istore 5, 2) := e_54 (x := 5) dr_27 19 rfl rfl
theorem dL_law_1749 : decode cL_law 1749 = .ok (.aload_n 2, 1) := dec_44 (gB dr_27 21 rfl rfl)
theorem dL_law_1750 : decode cL_law 1750 = .ok (.aload_n 0, 1) := dec_42 (gB dr_27 22 rfl rfl)
theorem dL_law_1751 : decode cL_law 1751 = .ok (.iload 4, 2) := e_21 (x := 4) dr_27 23 rfl rfl
theorem dL_law_1753 : decode cL_law 1753 = .ok (.iconst 1, 1) := dec_4 (gB dr_27 25 rfl rfl)
theorem dL_law_1754 : decode cL_law 1754 = .ok (.iadd, 1) := dec_96 (gB dr_27 26 rfl rfl)
theorem dL_law_1755 : decode cL_law 1755 = .ok (.iaload, 1) := dec_46 (gB dr_27 27 rfl rfl)
theorem dL_law_1756 : decode cL_law 1756 = .ok (.invokevirtual 282, 3) := e_182 (x := 1) (y := 26) dr_27 28 rfl rfl
theorem dL_law_1759 : decode cL_law 1759 = .ok (.istore 6, 2) := e_54 (x := 6) dr_27 31 rfl rfl
theorem dL_law_1761 : decode cL_law 1761 = .ok (.goto 446, 3) := e_167 (x := 1) (y := 190) dr_27 33 rfl rfl
theorem dL_law_1764 : decode cL_law 1764 = .ok (.aload_n 1, 1) := dec_43 (gB dr_27 36 rfl rfl)
theorem dL_law_1765 : decode cL_law 1765 = .ok (.aload_n 0, 1) := dec_42 (gB dr_27 37 rfl rfl)
theorem dL_law_1766 : decode cL_law 1766 = .ok (.iload 4, 2) := e_21 (x := 4) dr_27 38 rfl rfl
theorem dL_law_1768 : decode cL_law 1768 = .ok (.iconst 1, 1) := dec_4 (gB dr_27 40 rfl rfl)
theorem dL_law_1769 : decode cL_law 1769 = .ok (.iadd, 1) := dec_96 (gB dr_27 41 rfl rfl)
theorem dL_law_1770 : decode cL_law 1770 = .ok (.iaload, 1) := dec_46 (gB dr_27 42 rfl rfl)
theorem dL_law_1771 : decode cL_law 1771 = .ok (.aload_n 3, 1) := dec_45 (gB dr_27 43 rfl rfl)
theorem dL_law_1772 : decode cL_law 1772 = .ok (.invokestatic 283, 3) := e_184 (x := 1) (y := 27) dr_27 44 rfl rfl
theorem dL_law_1775 : decode cL_law 1775 = .ok (.istore 5, 2) := e_54 (x := 5) dr_27 47 rfl rfl
theorem dL_law_1777 : decode cL_law 1777 = .ok (.aload_n 2, 1) := dec_44 (gB dr_27 49 rfl rfl)
theorem dL_law_1778 : decode cL_law 1778 = .ok (.aload_n 0, 1) := dec_42 (gB dr_27 50 rfl rfl)
theorem dL_law_1779 : decode cL_law 1779 = .ok (.iload 4, 2) := e_21 (x := 4) dr_27 51 rfl rfl
theorem dL_law_1781 : decode cL_law 1781 = .ok (.iconst 1, 1) := dec_4 (gB dr_27 53 rfl rfl)
theorem dL_law_1782 : decode cL_law 1782 = .ok (.iadd, 1) := dec_96 (gB dr_27 54 rfl rfl)
theorem dL_law_1783 : decode cL_law 1783 = .ok (.iaload, 1) := dec_46 (gB dr_27 55 rfl rfl)
theorem dL_law_1784 : decode cL_law 1784 = .ok (.invokevirtual 285, 3) := e_182 (x := 1) (y := 29) dr_27 56 rfl rfl
theorem dL_law_1787 : decode cL_law 1787 = .ok (.istore 6, 2) := e_54 (x := 6) dr_27 59 rfl rfl
theorem dL_law_1789 : decode cL_law 1789 = .ok (.goto 418, 3) := e_167 (x := 1) (y := 162) dr_27 61 rfl rfl
theorem dL_law_1792 : decode cL_law 1792 = .ok (.aload_n 1, 1) := dec_43 (gB dr_28 0 rfl rfl)
theorem dL_law_1793 : decode cL_law 1793 = .ok (.aload_n 0, 1) := dec_42 (gB dr_28 1 rfl rfl)
theorem dL_law_1794 : decode cL_law 1794 = .ok (.iload 4, 2) := e_21 (x := 4) dr_28 2 rfl rfl
theorem dL_law_1796 : decode cL_law 1796 = .ok (.iconst 1, 1) := dec_4 (gB dr_28 4 rfl rfl)
theorem dL_law_1797 : decode cL_law 1797 = .ok (.iadd, 1) := dec_96 (gB dr_28 5 rfl rfl)
theorem dL_law_1798 : decode cL_law 1798 = .ok (.iaload, 1) := dec_46 (gB dr_28 6 rfl rfl)
theorem dL_law_1799 : decode cL_law 1799 = .ok (.aload_n 3, 1) := dec_45 (gB dr_28 7 rfl rfl)
theorem dL_law_1800 : decode cL_law 1800 = .ok (.invokestatic 286, 3) := e_184 (x := 1) (y := 30) dr_28 8 rfl rfl
theorem dL_law_1803 : decode cL_law 1803 = .ok (.istore 5, 2) := e_54 (x := 5) dr_28 11 rfl rfl
theorem dL_law_1805 : decode cL_law 1805 = .ok (.aload_n 2, 1) := dec_44 (gB dr_28 13 rfl rfl)
theorem dL_law_1806 : decode cL_law 1806 = .ok (.aload_n 0, 1) := dec_42 (gB dr_28 14 rfl rfl)
theorem dL_law_1807 : decode cL_law 1807 = .ok (.iload 4, 2) := e_21 (x := 4) dr_28 15 rfl rfl
theorem dL_law_1809 : decode cL_law 1809 = .ok (.iconst 1, 1) := dec_4 (gB dr_28 17 rfl rfl)
theorem dL_law_1810 : decode cL_law 1810 = .ok (.iadd, 1) := dec_96 (gB dr_28 18 rfl rfl)
theorem dL_law_1811 : decode cL_law 1811 = .ok (.iaload, 1) := dec_46 (gB dr_28 19 rfl rfl)
theorem dL_law_1812 : decode cL_law 1812 = .ok (.invokevirtual 288, 3) := e_182 (x := 1) (y := 32) dr_28 20 rfl rfl
theorem dL_law_1815 : decode cL_law 1815 = .ok (.istore 6, 2) := e_54 (x := 6) dr_28 23 rfl rfl
theorem dL_law_1817 : decode cL_law 1817 = .ok (.goto 390, 3) := e_167 (x := 1) (y := 134) dr_28 25 rfl rfl
theorem dL_law_1820 : decode cL_law 1820 = .ok (.aload_n 1, 1) := dec_43 (gB dr_28 28 rfl rfl)
theorem dL_law_1821 : decode cL_law 1821 = .ok (.aload_n 0, 1) := dec_42 (gB dr_28 29 rfl rfl)
theorem dL_law_1822 : decode cL_law 1822 = .ok (.iload 4, 2) := e_21 (x := 4) dr_28 30 rfl rfl
theorem dL_law_1824 : decode cL_law 1824 = .ok (.iconst 1, 1) := dec_4 (gB dr_28 32 rfl rfl)
theorem dL_law_1825 : decode cL_law 1825 = .ok (.iadd, 1) := dec_96 (gB dr_28 33 rfl rfl)
theorem dL_law_1826 : decode cL_law 1826 = .ok (.iaload, 1) := dec_46 (gB dr_28 34 rfl rfl)
theorem dL_law_1827 : decode cL_law 1827 = .ok (.aload_n 3, 1) := dec_45 (gB dr_28 35 rfl rfl)
theorem dL_law_1828 : decode cL_law 1828 = .ok (.invokestatic 289, 3) := e_184 (x := 1) (y := 33) dr_28 36 rfl rfl
theorem dL_law_1831 : decode cL_law 1831 = .ok (.istore 5, 2) := e_54 (x := 5) dr_28 39 rfl rfl
theorem dL_law_1833 : decode cL_law 1833 = .ok (.aload_n 2, 1) := dec_44 (gB dr_28 41 rfl rfl)
theorem dL_law_1834 : decode cL_law 1834 = .ok (.aload_n 0, 1) := dec_42 (gB dr_28 42 rfl rfl)
theorem dL_law_1835 : decode cL_law 1835 = .ok (.iload 4, 2) := e_21 (x := 4) dr_28 43 rfl rfl
theorem dL_law_1837 : decode cL_law 1837 = .ok (.iconst 1, 1) := dec_4 (gB dr_28 45 rfl rfl)
theorem dL_law_1838 : decode cL_law 1838 = .ok (.iadd, 1) := dec_96 (gB dr_28 46 rfl rfl)
theorem dL_law_1839 : decode cL_law 1839 = .ok (.iaload, 1) := dec_46 (gB dr_28 47 rfl rfl)
theorem dL_law_1840 : decode cL_law 1840 = .ok (.invokevirtual 291, 3) := e_182 (x := 1) (y := 35) dr_28 48 rfl rfl
theorem dL_law_1843 : decode cL_law 1843 = .ok (.istore 6, 2) := e_54 (x := 6) dr_28 51 rfl rfl
theorem dL_law_1845 : decode cL_law 1845 = .ok (.goto 362, 3) := e_167 (x := 1) (y := 106) dr_28 53 rfl rfl
theorem dL_law_1848 : decode cL_law 1848 = .ok (.aload_n 1, 1) := dec_43 (gB dr_28 56 rfl rfl)
theorem dL_law_1849 : decode cL_law 1849 = .ok (.aload_n 0, 1) := dec_42 (gB dr_28 57 rfl rfl)
theorem dL_law_1850 : decode cL_law 1850 = .ok (.iload 4, 2) := e_21 (x := 4) dr_28 58 rfl rfl
theorem dL_law_1852 : decode cL_law 1852 = .ok (.iconst 1, 1) := dec_4 (gB dr_28 60 rfl rfl)
theorem dL_law_1853 : decode cL_law 1853 = .ok (.iadd, 1) := dec_96 (gB dr_28 61 rfl rfl)
theorem dL_law_1854 : decode cL_law 1854 = .ok (.iaload, 1) := dec_46 (gB dr_28 62 rfl rfl)
theorem dL_law_1855 : decode cL_law 1855 = .ok (.aload_n 0, 1) := dec_42 (gB dr_28 63 rfl rfl)
theorem dL_law_1856 : decode cL_law 1856 = .ok (.iload 4, 2) := e_21 (x := 4) dr_29 0 rfl rfl
theorem dL_law_1858 : decode cL_law 1858 = .ok (.iconst 2, 1) := dec_5 (gB dr_29 2 rfl rfl)
theorem dL_law_1859 : decode cL_law 1859 = .ok (.iadd, 1) := dec_96 (gB dr_29 3 rfl rfl)
theorem dL_law_1860 : decode cL_law 1860 = .ok (.iaload, 1) := dec_46 (gB dr_29 4 rfl rfl)
theorem dL_law_1861 : decode cL_law 1861 = .ok (.aload_n 3, 1) := dec_45 (gB dr_29 5 rfl rfl)
theorem dL_law_1862 : decode cL_law 1862 = .ok (.invokestatic 292, 3) := e_184 (x := 1) (y := 36) dr_29 6 rfl rfl
theorem dL_law_1865 : decode cL_law 1865 = .ok (.istore 5, 2) := e_54 (x := 5) dr_29 9 rfl rfl
theorem dL_law_1867 : decode cL_law 1867 = .ok (.aload_n 2, 1) := dec_44 (gB dr_29 11 rfl rfl)
theorem dL_law_1868 : decode cL_law 1868 = .ok (.aload_n 0, 1) := dec_42 (gB dr_29 12 rfl rfl)
theorem dL_law_1869 : decode cL_law 1869 = .ok (.iload 4, 2) := e_21 (x := 4) dr_29 13 rfl rfl
theorem dL_law_1871 : decode cL_law 1871 = .ok (.iconst 1, 1) := dec_4 (gB dr_29 15 rfl rfl)
theorem dL_law_1872 : decode cL_law 1872 = .ok (.iadd, 1) := dec_96 (gB dr_29 16 rfl rfl)
theorem dL_law_1873 : decode cL_law 1873 = .ok (.iaload, 1) := dec_46 (gB dr_29 17 rfl rfl)
theorem dL_law_1874 : decode cL_law 1874 = .ok (.aload_n 0, 1) := dec_42 (gB dr_29 18 rfl rfl)
theorem dL_law_1875 : decode cL_law 1875 = .ok (.iload 4, 2) := e_21 (x := 4) dr_29 19 rfl rfl
theorem dL_law_1877 : decode cL_law 1877 = .ok (.iconst 2, 1) := dec_5 (gB dr_29 21 rfl rfl)
theorem dL_law_1878 : decode cL_law 1878 = .ok (.iadd, 1) := dec_96 (gB dr_29 22 rfl rfl)
theorem dL_law_1879 : decode cL_law 1879 = .ok (.iaload, 1) := dec_46 (gB dr_29 23 rfl rfl)
theorem dL_law_1880 : decode cL_law 1880 = .ok (.invokevirtual 294, 3) := e_182 (x := 1) (y := 38) dr_29 24 rfl rfl
theorem dL_law_1883 : decode cL_law 1883 = .ok (.istore 6, 2) := e_54 (x := 6) dr_29 27 rfl rfl
theorem dL_law_1885 : decode cL_law 1885 = .ok (.goto 322, 3) := e_167 (x := 1) (y := 66) dr_29 29 rfl rfl
theorem dL_law_1888 : decode cL_law 1888 = .ok (.aload_n 1, 1) := dec_43 (gB dr_29 32 rfl rfl)
theorem dL_law_1889 : decode cL_law 1889 = .ok (.aload_n 0, 1) := dec_42 (gB dr_29 33 rfl rfl)
theorem dL_law_1890 : decode cL_law 1890 = .ok (.iload 4, 2) := e_21 (x := 4) dr_29 34 rfl rfl
theorem dL_law_1892 : decode cL_law 1892 = .ok (.iconst 1, 1) := dec_4 (gB dr_29 36 rfl rfl)
theorem dL_law_1893 : decode cL_law 1893 = .ok (.iadd, 1) := dec_96 (gB dr_29 37 rfl rfl)
theorem dL_law_1894 : decode cL_law 1894 = .ok (.iaload, 1) := dec_46 (gB dr_29 38 rfl rfl)
theorem dL_law_1895 : decode cL_law 1895 = .ok (.aload_n 3, 1) := dec_45 (gB dr_29 39 rfl rfl)
theorem dL_law_1896 : decode cL_law 1896 = .ok (.invokestatic 295, 3) := e_184 (x := 1) (y := 39) dr_29 40 rfl rfl
theorem dL_law_1899 : decode cL_law 1899 = .ok (.istore 5, 2) := e_54 (x := 5) dr_29 43 rfl rfl
theorem dL_law_1901 : decode cL_law 1901 = .ok (.aload_n 2, 1) := dec_44 (gB dr_29 45 rfl rfl)
theorem dL_law_1902 : decode cL_law 1902 = .ok (.aload_n 0, 1) := dec_42 (gB dr_29 46 rfl rfl)
theorem dL_law_1903 : decode cL_law 1903 = .ok (.iload 4, 2) := e_21 (x := 4) dr_29 47 rfl rfl
theorem dL_law_1905 : decode cL_law 1905 = .ok (.iconst 1, 1) := dec_4 (gB dr_29 49 rfl rfl)
theorem dL_law_1906 : decode cL_law 1906 = .ok (.iadd, 1) := dec_96 (gB dr_29 50 rfl rfl)
theorem dL_law_1907 : decode cL_law 1907 = .ok (.iaload, 1) := dec_46 (gB dr_29 51 rfl rfl)
theorem dL_law_1908 : decode cL_law 1908 = .ok (.invokevirtual 297, 3) := e_182 (x := 1) (y := 41) dr_29 52 rfl rfl
theorem dL_law_1911 : decode cL_law 1911 = .ok (.astore 6, 2) := e_58 (x := 6) dr_29 55 rfl rfl
theorem dL_law_1913 : decode cL_law 1913 = .ok (.goto 294, 3) := e_167 (x := 1) (y := 38) dr_29 57 rfl rfl
theorem dL_law_1916 : decode cL_law 1916 = .ok (.aload_n 1, 1) := dec_43 (gB dr_29 60 rfl rfl)
theorem dL_law_1917 : decode cL_law 1917 = .ok (.aload_n 0, 1) := dec_42 (gB dr_29 61 rfl rfl)
theorem dL_law_1918 : decode cL_law 1918 = .ok (.iload 4, 2) := e_21 (x := 4) dr_29 62 rfl rfl
theorem dL_law_1920 : decode cL_law 1920 = .ok (.iconst 1, 1) := dec_4 (gB dr_30 0 rfl rfl)
theorem dL_law_1921 : decode cL_law 1921 = .ok (.iadd, 1) := dec_96 (gB dr_30 1 rfl rfl)
theorem dL_law_1922 : decode cL_law 1922 = .ok (.iaload, 1) := dec_46 (gB dr_30 2 rfl rfl)
theorem dL_law_1923 : decode cL_law 1923 = .ok (.aload_n 0, 1) := dec_42 (gB dr_30 3 rfl rfl)
theorem dL_law_1924 : decode cL_law 1924 = .ok (.iload 4, 2) := e_21 (x := 4) dr_30 4 rfl rfl
theorem dL_law_1926 : decode cL_law 1926 = .ok (.iconst 2, 1) := dec_5 (gB dr_30 6 rfl rfl)
theorem dL_law_1927 : decode cL_law 1927 = .ok (.iadd, 1) := dec_96 (gB dr_30 7 rfl rfl)
theorem dL_law_1928 : decode cL_law 1928 = .ok (.iaload, 1) := dec_46 (gB dr_30 8 rfl rfl)
theorem dL_law_1929 : decode cL_law 1929 = .ok (.ifCond .eq 7, 3) := e_153 (x := 0) (y := 7) dr_30 9 rfl rfl
theorem dL_law_1932 : decode cL_law 1932 = .ok (.iconst 1, 1) := dec_4 (gB dr_30 12 rfl rfl)
theorem dL_law_1933 : decode cL_law 1933 = .ok (.goto 4, 3) := e_167 (x := 0) (y := 4) dr_30 13 rfl rfl
theorem dL_law_1936 : decode cL_law 1936 = .ok (.iconst 0, 1) := dec_3 (gB dr_30 16 rfl rfl)
theorem dL_law_1937 : decode cL_law 1937 = .ok (.aload_n 3, 1) := dec_45 (gB dr_30 17 rfl rfl)
theorem dL_law_1938 : decode cL_law 1938 = .ok (.invokestatic 298, 3) := e_184 (x := 1) (y := 42) dr_30 18 rfl rfl
theorem dL_law_1941 : decode cL_law 1941 = .ok (.istore 5, 2) := e_54 (x := 5) dr_30 21 rfl rfl
theorem dL_law_1943 : decode cL_law 1943 = .ok (.aload_n 2, 1) := dec_44 (gB dr_30 23 rfl rfl)
theorem dL_law_1944 : decode cL_law 1944 = .ok (.aload_n 0, 1) := dec_42 (gB dr_30 24 rfl rfl)
theorem dL_law_1945 : decode cL_law 1945 = .ok (.iload 4, 2) := e_21 (x := 4) dr_30 25 rfl rfl
theorem dL_law_1947 : decode cL_law 1947 = .ok (.iconst 1, 1) := dec_4 (gB dr_30 27 rfl rfl)
theorem dL_law_1948 : decode cL_law 1948 = .ok (.iadd, 1) := dec_96 (gB dr_30 28 rfl rfl)
theorem dL_law_1949 : decode cL_law 1949 = .ok (.iaload, 1) := dec_46 (gB dr_30 29 rfl rfl)
theorem dL_law_1950 : decode cL_law 1950 = .ok (.aload_n 0, 1) := dec_42 (gB dr_30 30 rfl rfl)
theorem dL_law_1951 : decode cL_law 1951 = .ok (.iload 4, 2) := e_21 (x := 4) dr_30 31 rfl rfl
theorem dL_law_1953 : decode cL_law 1953 = .ok (.iconst 2, 1) := dec_5 (gB dr_30 33 rfl rfl)
theorem dL_law_1954 : decode cL_law 1954 = .ok (.iadd, 1) := dec_96 (gB dr_30 34 rfl rfl)
theorem dL_law_1955 : decode cL_law 1955 = .ok (.iaload, 1) := dec_46 (gB dr_30 35 rfl rfl)
theorem dL_law_1956 : decode cL_law 1956 = .ok (.ifCond .eq 7, 3) := e_153 (x := 0) (y := 7) dr_30 36 rfl rfl
theorem dL_law_1959 : decode cL_law 1959 = .ok (.iconst 1, 1) := dec_4 (gB dr_30 39 rfl rfl)
theorem dL_law_1960 : decode cL_law 1960 = .ok (.goto 4, 3) := e_167 (x := 0) (y := 4) dr_30 40 rfl rfl
theorem dL_law_1963 : decode cL_law 1963 = .ok (.iconst 0, 1) := dec_3 (gB dr_30 43 rfl rfl)
theorem dL_law_1964 : decode cL_law 1964 = .ok (.invokevirtual 300, 3) := e_182 (x := 1) (y := 44) dr_30 44 rfl rfl
theorem dL_law_1967 : decode cL_law 1967 = .ok (.astore 6, 2) := e_58 (x := 6) dr_30 47 rfl rfl
theorem dL_law_1969 : decode cL_law 1969 = .ok (.goto 238, 3) := e_167 (x := 0) (y := 238) dr_30 49 rfl rfl
theorem dL_law_1972 : decode cL_law 1972 = .ok (.aload_n 1, 1) := dec_43 (gB dr_30 52 rfl rfl)
theorem dL_law_1973 : decode cL_law 1973 = .ok (.aload_n 0, 1) := dec_42 (gB dr_30 53 rfl rfl)
theorem dL_law_1974 : decode cL_law 1974 = .ok (.iload 4, 2) := e_21 (x := 4) dr_30 54 rfl rfl
theorem dL_law_1976 : decode cL_law 1976 = .ok (.iconst 1, 1) := dec_4 (gB dr_30 56 rfl rfl)
theorem dL_law_1977 : decode cL_law 1977 = .ok (.iadd, 1) := dec_96 (gB dr_30 57 rfl rfl)
theorem dL_law_1978 : decode cL_law 1978 = .ok (.iaload, 1) := dec_46 (gB dr_30 58 rfl rfl)
theorem dL_law_1979 : decode cL_law 1979 = .ok (.aload_n 0, 1) := dec_42 (gB dr_30 59 rfl rfl)
theorem dL_law_1980 : decode cL_law 1980 = .ok (.iload 4, 2) := e_21 (x := 4) dr_30 60 rfl rfl
theorem dL_law_1982 : decode cL_law 1982 = .ok (.iconst 2, 1) := dec_5 (gB dr_30 62 rfl rfl)
theorem dL_law_1983 : decode cL_law 1983 = .ok (.iadd, 1) := dec_96 (gB dr_30 63 rfl rfl)
theorem dL_law_1984 : decode cL_law 1984 = .ok (.iaload, 1) := dec_46 (gB dr_31 0 rfl rfl)
theorem dL_law_1985 : decode cL_law 1985 = .ok (.ifCond .eq 7, 3) := e_153 (x := 0) (y := 7) dr_31 1 rfl rfl
theorem dL_law_1988 : decode cL_law 1988 = .ok (.iconst 1, 1) := dec_4 (gB dr_31 4 rfl rfl)
theorem dL_law_1989 : decode cL_law 1989 = .ok (.goto 4, 3) := e_167 (x := 0) (y := 4) dr_31 5 rfl rfl
theorem dL_law_1992 : decode cL_law 1992 = .ok (.iconst 0, 1) := dec_3 (gB dr_31 8 rfl rfl)
theorem dL_law_1993 : decode cL_law 1993 = .ok (.aload_n 3, 1) := dec_45 (gB dr_31 9 rfl rfl)
theorem dL_law_1994 : decode cL_law 1994 = .ok (.invokestatic 301, 3) := e_184 (x := 1) (y := 45) dr_31 10 rfl rfl
theorem dL_law_1997 : decode cL_law 1997 = .ok (.istore 5, 2) := e_54 (x := 5) dr_31 13 rfl rfl
theorem dL_law_1999 : decode cL_law 1999 = .ok (.aload_n 2, 1) := dec_44 (gB dr_31 15 rfl rfl)
theorem dL_law_2000 : decode cL_law 2000 = .ok (.aload_n 0, 1) := dec_42 (gB dr_31 16 rfl rfl)
theorem dL_law_2001 : decode cL_law 2001 = .ok (.iload 4, 2) := e_21 (x := 4) dr_31 17 rfl rfl
theorem dL_law_2003 : decode cL_law 2003 = .ok (.iconst 1, 1) := dec_4 (gB dr_31 19 rfl rfl)
theorem dL_law_2004 : decode cL_law 2004 = .ok (.iadd, 1) := dec_96 (gB dr_31 20 rfl rfl)
theorem dL_law_2005 : decode cL_law 2005 = .ok (.iaload, 1) := dec_46 (gB dr_31 21 rfl rfl)
theorem dL_law_2006 : decode cL_law 2006 = .ok (.aload_n 0, 1) := dec_42 (gB dr_31 22 rfl rfl)
theorem dL_law_2007 : decode cL_law 2007 = .ok (.iload 4, 2) := e_21 (x := 4) dr_31 23 rfl rfl
theorem dL_law_2009 : decode cL_law 2009 = .ok (.iconst 2, 1) := dec_5 (gB dr_31 25 rfl rfl)
theorem dL_law_2010 : decode cL_law 2010 = .ok (.iadd, 1) := dec_96 (gB dr_31 26 rfl rfl)
theorem dL_law_2011 : decode cL_law 2011 = .ok (.iaload, 1) := dec_46 (gB dr_31 27 rfl rfl)
theorem dL_law_2012 : decode cL_law 2012 = .ok (.ifCond .eq 7, 3) := e_153 (x := 0) (y := 7) dr_31 28 rfl rfl
theorem dL_law_2015 : decode cL_law 2015 = .ok (.iconst 1, 1) := dec_4 (gB dr_31 31 rfl rfl)
theorem dL_law_2016 : decode cL_law 2016 = .ok (.goto 4, 3) := e_167 (x := 0) (y := 4) dr_31 32 rfl rfl
theorem dL_law_2019 : decode cL_law 2019 = .ok (.iconst 0, 1) := dec_3 (gB dr_31 35 rfl rfl)
theorem dL_law_2020 : decode cL_law 2020 = .ok (.invokevirtual 303, 3) := e_182 (x := 1) (y := 47) dr_31 36 rfl rfl
theorem dL_law_2023 : decode cL_law 2023 = .ok (.istore 6, 2) := e_54 (x := 6) dr_31 39 rfl rfl
theorem dL_law_2025 : decode cL_law 2025 = .ok (.goto 182, 3) := e_167 (x := 0) (y := 182) dr_31 41 rfl rfl
theorem dL_law_2028 : decode cL_law 2028 = .ok (.aload_n 1, 1) := dec_43 (gB dr_31 44 rfl rfl)
theorem dL_law_2029 : decode cL_law 2029 = .ok (.aload_n 0, 1) := dec_42 (gB dr_31 45 rfl rfl)
theorem dL_law_2030 : decode cL_law 2030 = .ok (.iload 4, 2) := e_21 (x := 4) dr_31 46 rfl rfl
theorem dL_law_2032 : decode cL_law 2032 = .ok (.iconst 1, 1) := dec_4 (gB dr_31 48 rfl rfl)
theorem dL_law_2033 : decode cL_law 2033 = .ok (.iadd, 1) := dec_96 (gB dr_31 49 rfl rfl)
theorem dL_law_2034 : decode cL_law 2034 = .ok (.iaload, 1) := dec_46 (gB dr_31 50 rfl rfl)
theorem dL_law_2035 : decode cL_law 2035 = .ok (.aload_n 0, 1) := dec_42 (gB dr_31 51 rfl rfl)
theorem dL_law_2036 : decode cL_law 2036 = .ok (.iload 4, 2) := e_21 (x := 4) dr_31 52 rfl rfl
theorem dL_law_2038 : decode cL_law 2038 = .ok (.iconst 2, 1) := dec_5 (gB dr_31 54 rfl rfl)
theorem dL_law_2039 : decode cL_law 2039 = .ok (.iadd, 1) := dec_96 (gB dr_31 55 rfl rfl)
theorem dL_law_2040 : decode cL_law 2040 = .ok (.iaload, 1) := dec_46 (gB dr_31 56 rfl rfl)
theorem dL_law_2041 : decode cL_law 2041 = .ok (.ifCond .eq 7, 3) := e_153 (x := 0) (y := 7) dr_31 57 rfl rfl
theorem dL_law_2044 : decode cL_law 2044 = .ok (.iconst 1, 1) := dec_4 (gB dr_31 60 rfl rfl)
theorem dL_law_2045 : decode cL_law 2045 = .ok (.goto 4, 3) := e_167 (x := 0) (y := 4) dr_31 61 rfl rfl
theorem dL_law_2048 : decode cL_law 2048 = .ok (.iconst 0, 1) := dec_3 (gB dr_32 0 rfl rfl)
theorem dL_law_2049 : decode cL_law 2049 = .ok (.aload_n 3, 1) := dec_45 (gB dr_32 1 rfl rfl)
theorem dL_law_2050 : decode cL_law 2050 = .ok (.invokestatic 304, 3) := e_184 (x := 1) (y := 48) dr_32 2 rfl rfl
theorem dL_law_2053 : decode cL_law 2053 = .ok (.istore 5, 2) := e_54 (x := 5) dr_32 5 rfl rfl
theorem dL_law_2055 : decode cL_law 2055 = .ok (.aload_n 2, 1) := dec_44 (gB dr_32 7 rfl rfl)
theorem dL_law_2056 : decode cL_law 2056 = .ok (.aload_n 0, 1) := dec_42 (gB dr_32 8 rfl rfl)
theorem dL_law_2057 : decode cL_law 2057 = .ok (.iload 4, 2) := e_21 (x := 4) dr_32 9 rfl rfl
theorem dL_law_2059 : decode cL_law 2059 = .ok (.iconst 1, 1) := dec_4 (gB dr_32 11 rfl rfl)
theorem dL_law_2060 : decode cL_law 2060 = .ok (.iadd, 1) := dec_96 (gB dr_32 12 rfl rfl)
theorem dL_law_2061 : decode cL_law 2061 = .ok (.iaload, 1) := dec_46 (gB dr_32 13 rfl rfl)
theorem dL_law_2062 : decode cL_law 2062 = .ok (.aload_n 0, 1) := dec_42 (gB dr_32 14 rfl rfl)
theorem dL_law_2063 : decode cL_law 2063 = .ok (.iload 4, 2) := e_21 (x := 4) dr_32 15 rfl rfl
theorem dL_law_2065 : decode cL_law 2065 = .ok (.iconst 2, 1) := dec_5 (gB dr_32 17 rfl rfl)
theorem dL_law_2066 : decode cL_law 2066 = .ok (.iadd, 1) := dec_96 (gB dr_32 18 rfl rfl)
theorem dL_law_2067 : decode cL_law 2067 = .ok (.iaload, 1) := dec_46 (gB dr_32 19 rfl rfl)
theorem dL_law_2068 : decode cL_law 2068 = .ok (.ifCond .eq 7, 3) := e_153 (x := 0) (y := 7) dr_32 20 rfl rfl
theorem dL_law_2071 : decode cL_law 2071 = .ok (.iconst 1, 1) := dec_4 (gB dr_32 23 rfl rfl)
theorem dL_law_2072 : decode cL_law 2072 = .ok (.goto 4, 3) := e_167 (x := 0) (y := 4) dr_32 24 rfl rfl
theorem dL_law_2075 : decode cL_law 2075 = .ok (.iconst 0, 1) := dec_3 (gB dr_32 27 rfl rfl)
theorem dL_law_2076 : decode cL_law 2076 = .ok (.invokevirtual 306, 3) := e_182 (x := 1) (y := 50) dr_32 28 rfl rfl
theorem dL_law_2079 : decode cL_law 2079 = .ok (.istore 6, 2) := e_54 (x := 6) dr_32 31 rfl rfl
theorem dL_law_2081 : decode cL_law 2081 = .ok (.goto 126, 3) := e_167 (x := 0) (y := 126) dr_32 33 rfl rfl
theorem dL_law_2084 : decode cL_law 2084 = .ok (.aload_n 1, 1) := dec_43 (gB dr_32 36 rfl rfl)
theorem dL_law_2085 : decode cL_law 2085 = .ok (.aload_n 0, 1) := dec_42 (gB dr_32 37 rfl rfl)
theorem dL_law_2086 : decode cL_law 2086 = .ok (.iload 4, 2) := e_21 (x := 4) dr_32 38 rfl rfl
theorem dL_law_2088 : decode cL_law 2088 = .ok (.iconst 1, 1) := dec_4 (gB dr_32 40 rfl rfl)
theorem dL_law_2089 : decode cL_law 2089 = .ok (.iadd, 1) := dec_96 (gB dr_32 41 rfl rfl)
theorem dL_law_2090 : decode cL_law 2090 = .ok (.iaload, 1) := dec_46 (gB dr_32 42 rfl rfl)
theorem dL_law_2091 : decode cL_law 2091 = .ok (.aload_n 3, 1) := dec_45 (gB dr_32 43 rfl rfl)
theorem dL_law_2092 : decode cL_law 2092 = .ok (.invokestatic 307, 3) := e_184 (x := 1) (y := 51) dr_32 44 rfl rfl
theorem dL_law_2095 : decode cL_law 2095 = .ok (.istore 5, 2) := e_54 (x := 5) dr_32 47 rfl rfl
theorem dL_law_2097 : decode cL_law 2097 = .ok (.aload_n 2, 1) := dec_44 (gB dr_32 49 rfl rfl)
theorem dL_law_2098 : decode cL_law 2098 = .ok (.aload_n 0, 1) := dec_42 (gB dr_32 50 rfl rfl)
theorem dL_law_2099 : decode cL_law 2099 = .ok (.iload 4, 2) := e_21 (x := 4) dr_32 51 rfl rfl
theorem dL_law_2101 : decode cL_law 2101 = .ok (.iconst 1, 1) := dec_4 (gB dr_32 53 rfl rfl)
theorem dL_law_2102 : decode cL_law 2102 = .ok (.iadd, 1) := dec_96 (gB dr_32 54 rfl rfl)
theorem dL_law_2103 : decode cL_law 2103 = .ok (.iaload, 1) := dec_46 (gB dr_32 55 rfl rfl)
theorem dL_law_2104 : decode cL_law 2104 = .ok (.invokevirtual 309, 3) := e_182 (x := 1) (y := 53) dr_32 56 rfl rfl
theorem dL_law_2107 : decode cL_law 2107 = .ok (.istore 6, 2) := e_54 (x := 6) dr_32 59 rfl rfl
theorem dL_law_2109 : decode cL_law 2109 = .ok (.goto 98, 3) := e_167 (x := 0) (y := 98) dr_32 61 rfl rfl
theorem dL_law_2112 : decode cL_law 2112 = .ok (.aload_n 1, 1) := dec_43 (gB dr_33 0 rfl rfl)
theorem dL_law_2113 : decode cL_law 2113 = .ok (.aload_n 0, 1) := dec_42 (gB dr_33 1 rfl rfl)
theorem dL_law_2114 : decode cL_law 2114 = .ok (.iload 4, 2) := e_21 (x := 4) dr_33 2 rfl rfl
theorem dL_law_2116 : decode cL_law 2116 = .ok (.iconst 1, 1) := dec_4 (gB dr_33 4 rfl rfl)
theorem dL_law_2117 : decode cL_law 2117 = .ok (.iadd, 1) := dec_96 (gB dr_33 5 rfl rfl)
theorem dL_law_2118 : decode cL_law 2118 = .ok (.iaload, 1) := dec_46 (gB dr_33 6 rfl rfl)
theorem dL_law_2119 : decode cL_law 2119 = .ok (.aload_n 3, 1) := dec_45 (gB dr_33 7 rfl rfl)
theorem dL_law_2120 : decode cL_law 2120 = .ok (.invokestatic 310, 3) := e_184 (x := 1) (y := 54) dr_33 8 rfl rfl
theorem dL_law_2123 : decode cL_law 2123 = .ok (.istore 5, 2) := e_54 (x := 5) dr_33 11 rfl rfl
theorem dL_law_2125 : decode cL_law 2125 = .ok (.aload_n 2, 1) := dec_44 (gB dr_33 13 rfl rfl)
theorem dL_law_2126 : decode cL_law 2126 = .ok (.aload_n 0, 1) := dec_42 (gB dr_33 14 rfl rfl)
theorem dL_law_2127 : decode cL_law 2127 = .ok (.iload 4, 2) := e_21 (x := 4) dr_33 15 rfl rfl
theorem dL_law_2129 : decode cL_law 2129 = .ok (.iconst 1, 1) := dec_4 (gB dr_33 17 rfl rfl)
theorem dL_law_2130 : decode cL_law 2130 = .ok (.iadd, 1) := dec_96 (gB dr_33 18 rfl rfl)
theorem dL_law_2131 : decode cL_law 2131 = .ok (.iaload, 1) := dec_46 (gB dr_33 19 rfl rfl)
theorem dL_law_2132 : decode cL_law 2132 = .ok (.invokevirtual 312, 3) := e_182 (x := 1) (y := 56) dr_33 20 rfl rfl
theorem dL_law_2135 : decode cL_law 2135 = .ok (.istore 6, 2) := e_54 (x := 6) dr_33 23 rfl rfl
theorem dL_law_2137 : decode cL_law 2137 = .ok (.goto 70, 3) := e_167 (x := 0) (y := 70) dr_33 25 rfl rfl
theorem dL_law_2140 : decode cL_law 2140 = .ok (.aload_n 1, 1) := dec_43 (gB dr_33 28 rfl rfl)
theorem dL_law_2141 : decode cL_law 2141 = .ok (.aload_n 0, 1) := dec_42 (gB dr_33 29 rfl rfl)
theorem dL_law_2142 : decode cL_law 2142 = .ok (.iload 4, 2) := e_21 (x := 4) dr_33 30 rfl rfl
theorem dL_law_2144 : decode cL_law 2144 = .ok (.iconst 1, 1) := dec_4 (gB dr_33 32 rfl rfl)
theorem dL_law_2145 : decode cL_law 2145 = .ok (.iadd, 1) := dec_96 (gB dr_33 33 rfl rfl)
theorem dL_law_2146 : decode cL_law 2146 = .ok (.iaload, 1) := dec_46 (gB dr_33 34 rfl rfl)
theorem dL_law_2147 : decode cL_law 2147 = .ok (.aload_n 3, 1) := dec_45 (gB dr_33 35 rfl rfl)
theorem dL_law_2148 : decode cL_law 2148 = .ok (.invokestatic 313, 3) := e_184 (x := 1) (y := 57) dr_33 36 rfl rfl
theorem dL_law_2151 : decode cL_law 2151 = .ok (.istore 5, 2) := e_54 (x := 5) dr_33 39 rfl rfl
theorem dL_law_2153 : decode cL_law 2153 = .ok (.aload_n 2, 1) := dec_44 (gB dr_33 41 rfl rfl)
theorem dL_law_2154 : decode cL_law 2154 = .ok (.aload_n 0, 1) := dec_42 (gB dr_33 42 rfl rfl)
theorem dL_law_2155 : decode cL_law 2155 = .ok (.iload 4, 2) := e_21 (x := 4) dr_33 43 rfl rfl
theorem dL_law_2157 : decode cL_law 2157 = .ok (.iconst 1, 1) := dec_4 (gB dr_33 45 rfl rfl)
theorem dL_law_2158 : decode cL_law 2158 = .ok (.iadd, 1) := dec_96 (gB dr_33 46 rfl rfl)
theorem dL_law_2159 : decode cL_law 2159 = .ok (.iaload, 1) := dec_46 (gB dr_33 47 rfl rfl)
theorem dL_law_2160 : decode cL_law 2160 = .ok (.invokevirtual 315, 3) := e_182 (x := 1) (y := 59) dr_33 48 rfl rfl
theorem dL_law_2163 : decode cL_law 2163 = .ok (.istore 6, 2) := e_54 (x := 6) dr_33 51 rfl rfl
theorem dL_law_2165 : decode cL_law 2165 = .ok (.goto 42, 3) := e_167 (x := 0) (y := 42) dr_33 53 rfl rfl
theorem dL_law_2168 : decode cL_law 2168 = .ok (.aload_n 1, 1) := dec_43 (gB dr_33 56 rfl rfl)
theorem dL_law_2169 : decode cL_law 2169 = .ok (.invokevirtual 316, 3) := e_182 (x := 1) (y := 60) dr_33 57 rfl rfl
theorem dL_law_2172 : decode cL_law 2172 = .ok (.pop, 1) := dec_87 (gB dr_33 60 rfl rfl)
theorem dL_law_2173 : decode cL_law 2173 = .ok (.aload_n 2, 1) := dec_44 (gB dr_33 61 rfl rfl)
theorem dL_law_2174 : decode cL_law 2174 = .ok (.invokevirtual 319, 3) := dec_182 (a := 1) (b := 63) (gB dr_33 62 rfl rfl) (gB dr_33 63 rfl rfl) (gB dr_34 0 rfl rfl)
theorem dL_law_2177 : decode cL_law 2177 = .ok (.pop, 1) := dec_87 (gB dr_34 1 rfl rfl)
theorem dL_law_2178 : decode cL_law 2178 = .ok (.goto 29, 3) := e_167 (x := 0) (y := 29) dr_34 2 rfl rfl
theorem dL_law_2181 : decode cL_law 2181 = .ok (.aload_n 1, 1) := dec_43 (gB dr_34 5 rfl rfl)
theorem dL_law_2182 : decode cL_law 2182 = .ok (.invokevirtual 320, 3) := e_182 (x := 1) (y := 64) dr_34 6 rfl rfl
theorem dL_law_2185 : decode cL_law 2185 = .ok (.pop, 1) := dec_87 (gB dr_34 9 rfl rfl)
theorem dL_law_2186 : decode cL_law 2186 = .ok (.aload_n 2, 1) := dec_44 (gB dr_34 10 rfl rfl)
theorem dL_law_2187 : decode cL_law 2187 = .ok (.invokevirtual 324, 3) := e_182 (x := 1) (y := 68) dr_34 11 rfl rfl
theorem dL_law_2190 : decode cL_law 2190 = .ok (.pop, 1) := dec_87 (gB dr_34 14 rfl rfl)
theorem dL_law_2191 : decode cL_law 2191 = .ok (.goto 16, 3) := e_167 (x := 0) (y := 16) dr_34 15 rfl rfl
theorem dL_law_2194 : decode cL_law 2194 = .ok (.aload_n 1, 1) := dec_43 (gB dr_34 18 rfl rfl)
theorem dL_law_2195 : decode cL_law 2195 = .ok (.invokevirtual 325, 3) := e_182 (x := 1) (y := 69) dr_34 19 rfl rfl
theorem dL_law_2198 : decode cL_law 2198 = .ok (.pop2, 1) := dec_88 (gB dr_34 22 rfl rfl)
theorem dL_law_2199 : decode cL_law 2199 = .ok (.aload_n 2, 1) := dec_44 (gB dr_34 23 rfl rfl)
theorem dL_law_2200 : decode cL_law 2200 = .ok (.invokevirtual 329, 3) := e_182 (x := 1) (y := 73) dr_34 24 rfl rfl
theorem dL_law_2203 : decode cL_law 2203 = .ok (.pop2, 1) := dec_88 (gB dr_34 27 rfl rfl)
theorem dL_law_2204 : decode cL_law 2204 = .ok (.goto 3, 3) := e_167 (x := 0) (y := 3) dr_34 28 rfl rfl
theorem dL_law_2207 : decode cL_law 2207 = .ok (.iinc 4 5, 3) := e_132 (x := 4) (y := 5) dr_34 31 rfl rfl
theorem dL_law_2210 : decode cL_law 2210 = .ok (.goto (-2183), 3) := e_167 (x := 247) (y := 121) dr_34 34 rfl rfl
theorem dL_law_2213 : decode cL_law 2213 = .ok (.iconst 1, 1) := dec_4 (gB dr_34 37 rfl rfl)
theorem dL_law_2214 : decode cL_law 2214 = .ok (.ireturn, 1) := dec_172 (gB dr_34 38 rfl rfl)
